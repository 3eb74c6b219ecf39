abbrev qX4_empty : mMI := (yX4_empty, cX4_empty, 1, none, 0)
theorem dX4_empty_0 : decode cX4_empty 0 = .ok (.aload_n 0, 1) := by decide +kernel
theorem dX4_empty_1 : decode cX4_empty 1 = .ok (.iconst 0, 1) := by decide +kernel
theorem dX4_empty_2 : decode cX4_empty 2 = .ok (.putfield 9, 3) := by decide +kernel
theorem dX4_empty_5 : decode cX4_empty 5 = .ok (.aload_n 0, 1) := by decide +kernel
theorem dX4_empty_6 : decode cX4_empty 6 = .ok (.iconst 0, 1) := by decide +kernel
theorem dX4_empty_7 : decode cX4_empty 7 = .ok (.putfield 15, 3) := by decide +kernel
theorem dX4_empty_10 : decode cX4_empty 10 = .ok (.aload_n 0, 1) := by decide +kernel
theorem dX4_empty_11 : decode cX4_empty 11 = .ok (.iconst 1, 1) := by decide +kernel
theorem dX4_empty_12 : decode cX4_empty 12 = .ok (.putfield 18, 3) := by decide +kernel
theorem dX4_empty_15 : decode cX4_empty 15 = .ok (.aload_n 0, 1) := by decide +kernel
theorem dX4_empty_16 : decode cX4_empty 16 = .ok (.bipush 30, 2) := by decide +kernel
theorem dX4_empty_18 : decode cX4_empty 18 = .ok (.putfield 21, 3) := by decide +kernel
theorem dX4_empty_21 : decode cX4_empty 21 = .ok (.aload_n 0, 1) := by decide +kernel
theorem dX4_empty_22 : decode cX4_empty 22 = .ok (.iconst 0, 1) := by decide +kernel
theorem dX4_empty_23 : decode cX4_empty 23 = .ok (.putfield 24, 3) := by decide +kernel
theorem dX4_empty_26 : decode cX4_empty 26 = .ok (.return_, 1) := by decide +kernel
theorem mkX4_empty : mokV qX4_empty 0 := ⟨⟨⟨⟨by decide, by decide, by decide +kernel⟩, by decide⟩, gd_mem 53 (by decide +kernel) (by decide +kernel), gd_mem 360 (by decide +kernel) (by decide +kernel)⟩, gd_mem 358 (by decide +kernel) (by decide +kernel), gd_mem 359 (by decide +kernel) (by decide +kernel)⟩
abbrev qX4_addStep : mMI := (yX4_addStep, cX4_addStep, 4, none, 0)
theorem dX4_addStep_0 : decode cX4_addStep 0 = .ok (.aload_n 0, 1) := by decide +kernel
theorem dX4_addStep_1 : decode cX4_addStep 1 = .ok (.getfield 9, 3) := by decide +kernel
theorem dX4_addStep_4 : decode cX4_addStep 4 = .ok (.bipush 10, 2) := by decide +kernel
theorem dX4_addStep_6 : decode cX4_addStep 6 = .ok (.if_icmp .ge 43, 3) := by decide +kernel
theorem dX4_addStep_9 : decode cX4_addStep 9 = .ok (.aload_n 0, 1) := by decide +kernel
theorem dX4_addStep_10 : decode cX4_addStep 10 = .ok (.getfield 27, 3) := by decide +kernel
theorem dX4_addStep_13 : decode cX4_addStep 13 = .ok (.aload_n 0, 1) := by decide +kernel
theorem dX4_addStep_14 : decode cX4_addStep 14 = .ok (.getfield 9, 3) := by decide +kernel
theorem dX4_addStep_17 : decode cX4_addStep 17 = .ok (.iload_n 1, 1) := by decide +kernel
theorem dX4_addStep_18 : decode cX4_addStep 18 = .ok (.iastore, 1) := by decide +kernel
theorem dX4_addStep_19 : decode cX4_addStep 19 = .ok (.aload_n 0, 1) := by decide +kernel
theorem dX4_addStep_20 : decode cX4_addStep 20 = .ok (.getfield 31, 3) := by decide +kernel
theorem dX4_addStep_23 : decode cX4_addStep 23 = .ok (.aload_n 0, 1) := by decide +kernel
theorem dX4_addStep_24 : decode cX4_addStep 24 = .ok (.getfield 9, 3) := by decide +kernel
theorem dX4_addStep_27 : decode cX4_addStep 27 = .ok (.iload_n 2, 1) := by decide +kernel
theorem dX4_addStep_28 : decode cX4_addStep 28 = .ok (.iastore, 1) := by decide +kernel
theorem dX4_addStep_29 : decode cX4_addStep 29 = .ok (.aload_n 0, 1) := by decide +kernel
theorem dX4_addStep_30 : decode cX4_addStep 30 = .ok (.getfield 34, 3) := by decide +kernel
theorem dX4_addStep_33 : decode cX4_addStep 33 = .ok (.aload_n 0, 1) := by decide +kernel
theorem dX4_addStep_34 : decode cX4_addStep 34 = .ok (.getfield 9, 3) := by decide +kernel
theorem dX4_addStep_37 : decode cX4_addStep 37 = .ok (.iload_n 3, 1) := by decide +kernel
theorem dX4_addStep_38 : decode cX4_addStep 38 = .ok (.iastore, 1) := by decide +kernel
theorem dX4_addStep_39 : decode cX4_addStep 39 = .ok (.aload_n 0, 1) := by decide +kernel
theorem dX4_addStep_40 : decode cX4_addStep 40 = .ok (.dup, 1) := by decide +kernel
theorem dX4_addStep_41 : decode cX4_addStep 41 = .ok (.getfield 9, 3) := by decide +kernel
theorem dX4_addStep_44 : decode cX4_addStep 44 = .ok (.iconst 1, 1) := by decide +kernel
theorem dX4_addStep_45 : decode cX4_addStep 45 = .ok (.iadd, 1) := by decide +kernel
theorem dX4_addStep_46 : decode cX4_addStep 46 = .ok (.putfield 9, 3) := by decide +kernel
theorem dX4_addStep_49 : decode cX4_addStep 49 = .ok (.return_, 1) := by decide +kernel
theorem mkX4_addStep : mokV qX4_addStep 3 := ⟨⟨⟨⟨by decide, by decide, by decide +kernel⟩, by decide⟩, gd_mem 53 (by decide +kernel) (by decide +kernel), gd_mem 471 (by decide +kernel) (by decide +kernel)⟩, gd_mem 469 (by decide +kernel) (by decide +kernel), gd_mem 470 (by decide +kernel) (by decide +kernel)⟩
abbrev qX4_addLodger : mMI := (yX4_addLodger, cX4_addLodger, 5, none, 0)
theorem dX4_addLodger_0 : decode cX4_addLodger 0 = .ok (.aload_n 0, 1) := by decide +kernel
theorem dX4_addLodger_1 : decode cX4_addLodger 1 = .ok (.getfield 15, 3) := by decide +kernel
theorem dX4_addLodger_4 : decode cX4_addLodger 4 = .ok (.iconst 4, 1) := by decide +kernel
theorem dX4_addLodger_5 : decode cX4_addLodger 5 = .ok (.if_icmp .ge 54, 3) := by decide +kernel
theorem dX4_addLodger_8 : decode cX4_addLodger 8 = .ok (.aload_n 0, 1) := by decide +kernel
theorem dX4_addLodger_9 : decode cX4_addLodger 9 = .ok (.getfield 37, 3) := by decide +kernel
theorem dX4_addLodger_12 : decode cX4_addLodger 12 = .ok (.aload_n 0, 1) := by decide +kernel
theorem dX4_addLodger_13 : decode cX4_addLodger 13 = .ok (.getfield 15, 3) := by decide +kernel
theorem dX4_addLodger_16 : decode cX4_addLodger 16 = .ok (.iload_n 1, 1) := by decide +kernel
theorem dX4_addLodger_17 : decode cX4_addLodger 17 = .ok (.iastore, 1) := by decide +kernel
theorem dX4_addLodger_18 : decode cX4_addLodger 18 = .ok (.aload_n 0, 1) := by decide +kernel
theorem dX4_addLodger_19 : decode cX4_addLodger 19 = .ok (.getfield 40, 3) := by decide +kernel
theorem dX4_addLodger_22 : decode cX4_addLodger 22 = .ok (.aload_n 0, 1) := by decide +kernel
theorem dX4_addLodger_23 : decode cX4_addLodger 23 = .ok (.getfield 15, 3) := by decide +kernel
theorem dX4_addLodger_26 : decode cX4_addLodger 26 = .ok (.iload_n 2, 1) := by decide +kernel
theorem dX4_addLodger_27 : decode cX4_addLodger 27 = .ok (.iastore, 1) := by decide +kernel
theorem dX4_addLodger_28 : decode cX4_addLodger 28 = .ok (.aload_n 0, 1) := by decide +kernel
theorem dX4_addLodger_29 : decode cX4_addLodger 29 = .ok (.getfield 43, 3) := by decide +kernel
theorem dX4_addLodger_32 : decode cX4_addLodger 32 = .ok (.aload_n 0, 1) := by decide +kernel
theorem dX4_addLodger_33 : decode cX4_addLodger 33 = .ok (.getfield 15, 3) := by decide +kernel
theorem dX4_addLodger_36 : decode cX4_addLodger 36 = .ok (.iload_n 3, 1) := by decide +kernel
theorem dX4_addLodger_37 : decode cX4_addLodger 37 = .ok (.iastore, 1) := by decide +kernel
theorem dX4_addLodger_38 : decode cX4_addLodger 38 = .ok (.aload_n 0, 1) := by decide +kernel
theorem dX4_addLodger_39 : decode cX4_addLodger 39 = .ok (.getfield 46, 3) := by decide +kernel
theorem dX4_addLodger_42 : decode cX4_addLodger 42 = .ok (.aload_n 0, 1) := by decide +kernel
theorem dX4_addLodger_43 : decode cX4_addLodger 43 = .ok (.getfield 15, 3) := by decide +kernel
theorem dX4_addLodger_46 : decode cX4_addLodger 46 = .ok (.iload 4, 2) := by decide +kernel
theorem dX4_addLodger_48 : decode cX4_addLodger 48 = .ok (.iastore, 1) := by decide +kernel
theorem dX4_addLodger_49 : decode cX4_addLodger 49 = .ok (.aload_n 0, 1) := by decide +kernel
theorem dX4_addLodger_50 : decode cX4_addLodger 50 = .ok (.dup, 1) := by decide +kernel
theorem dX4_addLodger_51 : decode cX4_addLodger 51 = .ok (.getfield 15, 3) := by decide +kernel
theorem dX4_addLodger_54 : decode cX4_addLodger 54 = .ok (.iconst 1, 1) := by decide +kernel
theorem dX4_addLodger_55 : decode cX4_addLodger 55 = .ok (.iadd, 1) := by decide +kernel
theorem dX4_addLodger_56 : decode cX4_addLodger 56 = .ok (.putfield 15, 3) := by decide +kernel
theorem dX4_addLodger_59 : decode cX4_addLodger 59 = .ok (.return_, 1) := by decide +kernel
theorem mkX4_addLodger : mokV qX4_addLodger 4 := ⟨⟨⟨⟨by decide, by decide, by decide +kernel⟩, by decide⟩, gd_mem 53 (by decide +kernel) (by decide +kernel), gd_mem 467 (by decide +kernel) (by decide +kernel)⟩, gd_mem 465 (by decide +kernel) (by decide +kernel), gd_mem 466 (by decide +kernel) (by decide +kernel)⟩
abbrev qX4_renew : mMI := (yX4_renew, cX4_renew, 2, none, 0)
theorem dX4_renew_0 : decode cX4_renew 0 = .ok (.aload_n 0, 1) := by decide +kernel
theorem dX4_renew_1 : decode cX4_renew 1 = .ok (.getfield 31, 3) := by decide +kernel
theorem dX4_renew_4 : decode cX4_renew 4 = .ok (.iload_n 1, 1) := by decide +kernel
theorem dX4_renew_5 : decode cX4_renew 5 = .ok (.iconst 0, 1) := by decide +kernel
theorem dX4_renew_6 : decode cX4_renew 6 = .ok (.iastore, 1) := by decide +kernel
theorem dX4_renew_7 : decode cX4_renew 7 = .ok (.aload_n 0, 1) := by decide +kernel
theorem dX4_renew_8 : decode cX4_renew 8 = .ok (.getfield 34, 3) := by decide +kernel
theorem dX4_renew_11 : decode cX4_renew 11 = .ok (.iload_n 1, 1) := by decide +kernel
theorem dX4_renew_12 : decode cX4_renew 12 = .ok (.iconst 0, 1) := by decide +kernel
theorem dX4_renew_13 : decode cX4_renew 13 = .ok (.iastore, 1) := by decide +kernel
theorem dX4_renew_14 : decode cX4_renew 14 = .ok (.return_, 1) := by decide +kernel
theorem mkX4_renew : mokV qX4_renew 1 := ⟨⟨⟨⟨by decide, by decide, by decide +kernel⟩, by decide⟩, gd_mem 53 (by decide +kernel) (by decide +kernel), gd_mem 563 (by decide +kernel) (by decide +kernel)⟩, gd_mem 561 (by decide +kernel) (by decide +kernel), gd_mem 562 (by decide +kernel) (by decide +kernel)⟩
abbrev qX4_isBroken : mMI := (yX4_isBroken, cX4_isBroken, 2, (some .boolean), 0)
theorem dX4_isBroken_0 : decode cX4_isBroken 0 = .ok (.aload_n 0, 1) := by decide +kernel
theorem dX4_isBroken_1 : decode cX4_isBroken 1 = .ok (.getfield 34, 3) := by decide +kernel
theorem dX4_isBroken_4 : decode cX4_isBroken 4 = .ok (.iload_n 1, 1) := by decide +kernel
theorem dX4_isBroken_5 : decode cX4_isBroken 5 = .ok (.iaload, 1) := by decide +kernel
theorem dX4_isBroken_6 : decode cX4_isBroken 6 = .ok (.aload_n 0, 1) := by decide +kernel
theorem dX4_isBroken_7 : decode cX4_isBroken 7 = .ok (.getfield 21, 3) := by decide +kernel
theorem dX4_isBroken_10 : decode cX4_isBroken 10 = .ok (.if_icmp .lt 7, 3) := by decide +kernel
theorem dX4_isBroken_13 : decode cX4_isBroken 13 = .ok (.iconst 1, 1) := by decide +kernel
theorem dX4_isBroken_14 : decode cX4_isBroken 14 = .ok (.goto 4, 3) := by decide +kernel
theorem dX4_isBroken_17 : decode cX4_isBroken 17 = .ok (.iconst 0, 1) := by decide +kernel
theorem dX4_isBroken_18 : decode cX4_isBroken 18 = .ok (.ireturn, 1) := by decide +kernel
theorem mkX4_isBroken : mokV qX4_isBroken 1 := ⟨⟨⟨⟨by decide, by decide, by decide +kernel⟩, by decide⟩, gd_mem 53 (by decide +kernel) (by decide +kernel), gd_mem 512 (by decide +kernel) (by decide +kernel)⟩, gd_mem 510 (by decide +kernel) (by decide +kernel), gd_mem 511 (by decide +kernel) (by decide +kernel)⟩
abbrev qX4_allWear : mMI := (yX4_allWear, cX4_allWear, 3, (some .int), 0)
theorem dX4_allWear_0 : decode cX4_allWear 0 = .ok (.iconst 0, 1) := by decide +kernel
theorem dX4_allWear_1 : decode cX4_allWear 1 = .ok (.istore_n 1, 1) := by decide +kernel
theorem dX4_allWear_2 : decode cX4_allWear 2 = .ok (.iconst 0, 1) := by decide +kernel
theorem dX4_allWear_3 : decode cX4_allWear 3 = .ok (.istore_n 2, 1) := by decide +kernel
theorem dX4_allWear_4 : decode cX4_allWear 4 = .ok (.iload_n 2, 1) := by decide +kernel
theorem dX4_allWear_5 : decode cX4_allWear 5 = .ok (.aload_n 0, 1) := by decide +kernel
theorem dX4_allWear_6 : decode cX4_allWear 6 = .ok (.getfield 9, 3) := by decide +kernel
theorem dX4_allWear_9 : decode cX4_allWear 9 = .ok (.if_icmp .ge 18, 3) := by decide +kernel
theorem dX4_allWear_12 : decode cX4_allWear 12 = .ok (.iload_n 1, 1) := by decide +kernel
theorem dX4_allWear_13 : decode cX4_allWear 13 = .ok (.aload_n 0, 1) := by decide +kernel
theorem dX4_allWear_14 : decode cX4_allWear 14 = .ok (.getfield 34, 3) := by decide +kernel
theorem dX4_allWear_17 : decode cX4_allWear 17 = .ok (.iload_n 2, 1) := by decide +kernel
theorem dX4_allWear_18 : decode cX4_allWear 18 = .ok (.iaload, 1) := by decide +kernel
theorem dX4_allWear_19 : decode cX4_allWear 19 = .ok (.iadd, 1) := by decide +kernel
theorem dX4_allWear_20 : decode cX4_allWear 20 = .ok (.istore_n 1, 1) := by decide +kernel
theorem dX4_allWear_21 : decode cX4_allWear 21 = .ok (.iinc 2 1, 3) := by decide +kernel
theorem dX4_allWear_24 : decode cX4_allWear 24 = .ok (.goto (-20), 3) := by decide +kernel
theorem dX4_allWear_27 : decode cX4_allWear 27 = .ok (.iload_n 1, 1) := by decide +kernel
theorem dX4_allWear_28 : decode cX4_allWear 28 = .ok (.ireturn, 1) := by decide +kernel
theorem mkX4_allWear : mokV qX4_allWear 0 := ⟨⟨⟨⟨by decide, by decide, by decide +kernel⟩, by decide⟩, gd_mem 53 (by decide +kernel) (by decide +kernel), gd_mem 877 (by decide +kernel) (by decide +kernel)⟩, gd_mem 875 (by decide +kernel) (by decide +kernel), gd_mem 876 (by decide +kernel) (by decide +kernel)⟩
abbrev qX4_isHeavy : mMI := (yX4_isHeavy, cX4_isHeavy, 2, (some .boolean), 0)
theorem dX4_isHeavy_0 : decode cX4_isHeavy 0 = .ok (.aload_n 0, 1) := by decide +kernel
theorem dX4_isHeavy_1 : decode cX4_isHeavy 1 = .ok (.getfield 43, 3) := by decide +kernel
theorem dX4_isHeavy_4 : decode cX4_isHeavy 4 = .ok (.iload_n 1, 1) := by decide +kernel
theorem dX4_isHeavy_5 : decode cX4_isHeavy 5 = .ok (.iaload, 1) := by decide +kernel
theorem dX4_isHeavy_6 : decode cX4_isHeavy 6 = .ok (.iconst 5, 1) := by decide +kernel
theorem dX4_isHeavy_7 : decode cX4_isHeavy 7 = .ok (.if_icmp .lt 7, 3) := by decide +kernel
theorem dX4_isHeavy_10 : decode cX4_isHeavy 10 = .ok (.iconst 1, 1) := by decide +kernel
theorem dX4_isHeavy_11 : decode cX4_isHeavy 11 = .ok (.goto 4, 3) := by decide +kernel
theorem dX4_isHeavy_14 : decode cX4_isHeavy 14 = .ok (.iconst 0, 1) := by decide +kernel
theorem dX4_isHeavy_15 : decode cX4_isHeavy 15 = .ok (.ireturn, 1) := by decide +kernel
theorem mkX4_isHeavy : mokV qX4_isHeavy 1 := ⟨⟨⟨⟨by decide, by decide, by decide +kernel⟩, by decide⟩, gd_mem 53 (by decide +kernel) (by decide +kernel), gd_mem 528 (by decide +kernel) (by decide +kernel)⟩, gd_mem 526 (by decide +kernel) (by decide +kernel), gd_mem 527 (by decide +kernel) (by decide +kernel)⟩
abbrev qX4_copyFrom : mMI := (yX4_copyFrom, cX4_copyFrom, 2, none, 1)
theorem dX4_copyFrom_0 : decode cX4_copyFrom 0 = .ok (.aload_n 0, 1) := by decide +kernel
theorem dX4_copyFrom_1 : decode cX4_copyFrom 1 = .ok (.aload_n 1, 1) := by decide +kernel
theorem dX4_copyFrom_2 : decode cX4_copyFrom 2 = .ok (.getfield 9, 3) := by decide +kernel
theorem dX4_copyFrom_5 : decode cX4_copyFrom 5 = .ok (.putfield 9, 3) := by decide +kernel
theorem dX4_copyFrom_8 : decode cX4_copyFrom 8 = .ok (.aload_n 0, 1) := by decide +kernel
theorem dX4_copyFrom_9 : decode cX4_copyFrom 9 = .ok (.aload_n 1, 1) := by decide +kernel
theorem dX4_copyFrom_10 : decode cX4_copyFrom 10 = .ok (.getfield 15, 3) := by decide +kernel
theorem dX4_copyFrom_13 : decode cX4_copyFrom 13 = .ok (.putfield 15, 3) := by decide +kernel
theorem dX4_copyFrom_16 : decode cX4_copyFrom 16 = .ok (.aload_n 0, 1) := by decide +kernel
theorem dX4_copyFrom_17 : decode cX4_copyFrom 17 = .ok (.aload_n 1, 1) := by decide +kernel
theorem dX4_copyFrom_18 : decode cX4_copyFrom 18 = .ok (.getfield 18, 3) := by decide +kernel
theorem dX4_copyFrom_21 : decode cX4_copyFrom 21 = .ok (.putfield 18, 3) := by decide +kernel
theorem dX4_copyFrom_24 : decode cX4_copyFrom 24 = .ok (.aload_n 0, 1) := by decide +kernel
theorem dX4_copyFrom_25 : decode cX4_copyFrom 25 = .ok (.aload_n 1, 1) := by decide +kernel
theorem dX4_copyFrom_26 : decode cX4_copyFrom 26 = .ok (.getfield 21, 3) := by decide +kernel
theorem dX4_copyFrom_29 : decode cX4_copyFrom 29 = .ok (.putfield 21, 3) := by decide +kernel
theorem dX4_copyFrom_32 : decode cX4_copyFrom 32 = .ok (.aload_n 0, 1) := by decide +kernel
theorem dX4_copyFrom_33 : decode cX4_copyFrom 33 = .ok (.aload_n 1, 1) := by decide +kernel
theorem dX4_copyFrom_34 : decode cX4_copyFrom 34 = .ok (.getfield 24, 3) := by decide +kernel
theorem dX4_copyFrom_37 : decode cX4_copyFrom 37 = .ok (.putfield 24, 3) := by decide +kernel
theorem dX4_copyFrom_40 : decode cX4_copyFrom 40 = .ok (.aload_n 1, 1) := by decide +kernel
theorem dX4_copyFrom_41 : decode cX4_copyFrom 41 = .ok (.getfield 27, 3) := by decide +kernel
theorem dX4_copyFrom_44 : decode cX4_copyFrom 44 = .ok (.iconst 0, 1) := by decide +kernel
theorem dX4_copyFrom_45 : decode cX4_copyFrom 45 = .ok (.aload_n 0, 1) := by decide +kernel
theorem dX4_copyFrom_46 : decode cX4_copyFrom 46 = .ok (.getfield 27, 3) := by decide +kernel
theorem dX4_copyFrom_49 : decode cX4_copyFrom 49 = .ok (.iconst 0, 1) := by decide +kernel
theorem dX4_copyFrom_50 : decode cX4_copyFrom 50 = .ok (.bipush 10, 2) := by decide +kernel
theorem dX4_copyFrom_52 : decode cX4_copyFrom 52 = .ok (.invokestatic 49, 3) := by decide +kernel
theorem dX4_copyFrom_55 : decode cX4_copyFrom 55 = .ok (.aload_n 1, 1) := by decide +kernel
theorem dX4_copyFrom_56 : decode cX4_copyFrom 56 = .ok (.getfield 31, 3) := by decide +kernel
theorem dX4_copyFrom_59 : decode cX4_copyFrom 59 = .ok (.iconst 0, 1) := by decide +kernel
theorem dX4_copyFrom_60 : decode cX4_copyFrom 60 = .ok (.aload_n 0, 1) := by decide +kernel
theorem dX4_copyFrom_61 : decode cX4_copyFrom 61 = .ok (.getfield 31, 3) := by decide +kernel
theorem dX4_copyFrom_64 : decode cX4_copyFrom 64 = .ok (.iconst 0, 1) := by decide +kernel
theorem dX4_copyFrom_65 : decode cX4_copyFrom 65 = .ok (.bipush 10, 2) := by decide +kernel
theorem dX4_copyFrom_67 : decode cX4_copyFrom 67 = .ok (.invokestatic 49, 3) := by decide +kernel
theorem dX4_copyFrom_70 : decode cX4_copyFrom 70 = .ok (.aload_n 1, 1) := by decide +kernel
theorem dX4_copyFrom_71 : decode cX4_copyFrom 71 = .ok (.getfield 34, 3) := by decide +kernel
theorem dX4_copyFrom_74 : decode cX4_copyFrom 74 = .ok (.iconst 0, 1) := by decide +kernel
theorem dX4_copyFrom_75 : decode cX4_copyFrom 75 = .ok (.aload_n 0, 1) := by decide +kernel
theorem dX4_copyFrom_76 : decode cX4_copyFrom 76 = .ok (.getfield 34, 3) := by decide +kernel
theorem dX4_copyFrom_79 : decode cX4_copyFrom 79 = .ok (.iconst 0, 1) := by decide +kernel
theorem dX4_copyFrom_80 : decode cX4_copyFrom 80 = .ok (.bipush 10, 2) := by decide +kernel
theorem dX4_copyFrom_82 : decode cX4_copyFrom 82 = .ok (.invokestatic 49, 3) := by decide +kernel
theorem dX4_copyFrom_85 : decode cX4_copyFrom 85 = .ok (.aload_n 1, 1) := by decide +kernel
theorem dX4_copyFrom_86 : decode cX4_copyFrom 86 = .ok (.getfield 37, 3) := by decide +kernel
theorem dX4_copyFrom_89 : decode cX4_copyFrom 89 = .ok (.iconst 0, 1) := by decide +kernel
theorem dX4_copyFrom_90 : decode cX4_copyFrom 90 = .ok (.aload_n 0, 1) := by decide +kernel
theorem dX4_copyFrom_91 : decode cX4_copyFrom 91 = .ok (.getfield 37, 3) := by decide +kernel
theorem dX4_copyFrom_94 : decode cX4_copyFrom 94 = .ok (.iconst 0, 1) := by decide +kernel
theorem dX4_copyFrom_95 : decode cX4_copyFrom 95 = .ok (.iconst 4, 1) := by decide +kernel
theorem dX4_copyFrom_96 : decode cX4_copyFrom 96 = .ok (.invokestatic 49, 3) := by decide +kernel
theorem dX4_copyFrom_99 : decode cX4_copyFrom 99 = .ok (.aload_n 1, 1) := by decide +kernel
theorem dX4_copyFrom_100 : decode cX4_copyFrom 100 = .ok (.getfield 40, 3) := by decide +kernel
theorem dX4_copyFrom_103 : decode cX4_copyFrom 103 = .ok (.iconst 0, 1) := by decide +kernel
theorem dX4_copyFrom_104 : decode cX4_copyFrom 104 = .ok (.aload_n 0, 1) := by decide +kernel
theorem dX4_copyFrom_105 : decode cX4_copyFrom 105 = .ok (.getfield 40, 3) := by decide +kernel
theorem dX4_copyFrom_108 : decode cX4_copyFrom 108 = .ok (.iconst 0, 1) := by decide +kernel
theorem dX4_copyFrom_109 : decode cX4_copyFrom 109 = .ok (.iconst 4, 1) := by decide +kernel
theorem dX4_copyFrom_110 : decode cX4_copyFrom 110 = .ok (.invokestatic 49, 3) := by decide +kernel
theorem dX4_copyFrom_113 : decode cX4_copyFrom 113 = .ok (.aload_n 1, 1) := by decide +kernel
theorem dX4_copyFrom_114 : decode cX4_copyFrom 114 = .ok (.getfield 43, 3) := by decide +kernel
theorem dX4_copyFrom_117 : decode cX4_copyFrom 117 = .ok (.iconst 0, 1) := by decide +kernel
theorem dX4_copyFrom_118 : decode cX4_copyFrom 118 = .ok (.aload_n 0, 1) := by decide +kernel
theorem dX4_copyFrom_119 : decode cX4_copyFrom 119 = .ok (.getfield 43, 3) := by decide +kernel
theorem dX4_copyFrom_122 : decode cX4_copyFrom 122 = .ok (.iconst 0, 1) := by decide +kernel
theorem dX4_copyFrom_123 : decode cX4_copyFrom 123 = .ok (.iconst 4, 1) := by decide +kernel
theorem dX4_copyFrom_124 : decode cX4_copyFrom 124 = .ok (.invokestatic 49, 3) := by decide +kernel
theorem dX4_copyFrom_127 : decode cX4_copyFrom 127 = .ok (.aload_n 1, 1) := by decide +kernel
theorem dX4_copyFrom_128 : decode cX4_copyFrom 128 = .ok (.getfield 46, 3) := by decide +kernel
theorem dX4_copyFrom_131 : decode cX4_copyFrom 131 = .ok (.iconst 0, 1) := by decide +kernel
theorem dX4_copyFrom_132 : decode cX4_copyFrom 132 = .ok (.aload_n 0, 1) := by decide +kernel
theorem dX4_copyFrom_133 : decode cX4_copyFrom 133 = .ok (.getfield 46, 3) := by decide +kernel
theorem dX4_copyFrom_136 : decode cX4_copyFrom 136 = .ok (.iconst 0, 1) := by decide +kernel
theorem dX4_copyFrom_137 : decode cX4_copyFrom 137 = .ok (.iconst 4, 1) := by decide +kernel
theorem dX4_copyFrom_138 : decode cX4_copyFrom 138 = .ok (.invokestatic 49, 3) := by decide +kernel
theorem dX4_copyFrom_141 : decode cX4_copyFrom 141 = .ok (.return_, 1) := by decide +kernel
theorem mkX4_copyFrom : mokV qX4_copyFrom 1 := ⟨⟨⟨⟨by decide, by decide, by decide +kernel⟩, by decide⟩, gd_mem 53 (by decide +kernel) (by decide +kernel), gd_mem 478 (by decide +kernel) (by decide +kernel)⟩, gd_mem 476 (by decide +kernel) (by decide +kernel), gd_mem 477 (by decide +kernel) (by decide +kernel)⟩
abbrev qX4_rankOfStep : mMI := (yX4_rankOfStep, cX4_rankOfStep, 3, (some .int), 1)
theorem dX4_rankOfStep_0 : decode cX4_rankOfStep 0 = .ok (.aload_n 0, 1) := by decide +kernel
theorem dX4_rankOfStep_1 : decode cX4_rankOfStep 1 = .ok (.getfield 31, 3) := by decide +kernel
theorem dX4_rankOfStep_4 : decode cX4_rankOfStep 4 = .ok (.iload_n 1, 1) := by decide +kernel
theorem dX4_rankOfStep_5 : decode cX4_rankOfStep 5 = .ok (.iaload, 1) := by decide +kernel
theorem dX4_rankOfStep_6 : decode cX4_rankOfStep 6 = .ok (.bipush 10, 2) := by decide +kernel
theorem dX4_rankOfStep_8 : decode cX4_rankOfStep 8 = .ok (.idiv, 1) := by decide +kernel
theorem dX4_rankOfStep_9 : decode cX4_rankOfStep 9 = .ok (.iconst 3, 1) := by decide +kernel
theorem dX4_rankOfStep_10 : decode cX4_rankOfStep 10 = .ok (.invokestatic 55, 3) := by decide +kernel
theorem dX4_rankOfStep_13 : decode cX4_rankOfStep 13 = .ok (.istore_n 2, 1) := by decide +kernel
theorem dX4_rankOfStep_14 : decode cX4_rankOfStep 14 = .ok (.aload_n 0, 1) := by decide +kernel
theorem dX4_rankOfStep_15 : decode cX4_rankOfStep 15 = .ok (.getfield 27, 3) := by decide +kernel
theorem dX4_rankOfStep_18 : decode cX4_rankOfStep 18 = .ok (.iload_n 1, 1) := by decide +kernel
theorem dX4_rankOfStep_19 : decode cX4_rankOfStep 19 = .ok (.iaload, 1) := by decide +kernel
theorem dX4_rankOfStep_20 : decode cX4_rankOfStep 20 = .ok (.lookupswitch 32 #[(0, 28), (2, 30)], 28) := by decide +kernel
theorem dX4_rankOfStep_48 : decode cX4_rankOfStep 48 = .ok (.iload_n 2, 1) := by decide +kernel
theorem dX4_rankOfStep_49 : decode cX4_rankOfStep 49 = .ok (.ireturn, 1) := by decide +kernel
theorem dX4_rankOfStep_50 : decode cX4_rankOfStep 50 = .ok (.iconst 0, 1) := by decide +kernel
theorem dX4_rankOfStep_51 : decode cX4_rankOfStep 51 = .ok (.ireturn, 1) := by decide +kernel
theorem dX4_rankOfStep_52 : decode cX4_rankOfStep 52 = .ok (.iload_n 2, 1) := by decide +kernel
theorem dX4_rankOfStep_53 : decode cX4_rankOfStep 53 = .ok (.iconst 1, 1) := by decide +kernel
theorem dX4_rankOfStep_54 : decode cX4_rankOfStep 54 = .ok (.iadd, 1) := by decide +kernel
theorem dX4_rankOfStep_55 : decode cX4_rankOfStep 55 = .ok (.iconst 3, 1) := by decide +kernel
theorem dX4_rankOfStep_56 : decode cX4_rankOfStep 56 = .ok (.invokestatic 55, 3) := by decide +kernel
theorem dX4_rankOfStep_59 : decode cX4_rankOfStep 59 = .ok (.ireturn, 1) := by decide +kernel
theorem mkX4_rankOfStep : mokV qX4_rankOfStep 1 := ⟨⟨⟨⟨by decide, by decide, by decide +kernel⟩, by decide⟩, gd_mem 53 (by decide +kernel) (by decide +kernel), gd_mem 505 (by decide +kernel) (by decide +kernel)⟩, gd_mem 503 (by decide +kernel) (by decide +kernel), gd_mem 504 (by decide +kernel) (by decide +kernel)⟩
abbrev qX4_brokenBits : mMI := (yX4_brokenBits, cX4_brokenBits, 3, (some .int), 1)
theorem dX4_brokenBits_0 : decode cX4_brokenBits 0 = .ok (.iconst 0, 1) := by decide +kernel
theorem dX4_brokenBits_1 : decode cX4_brokenBits 1 = .ok (.istore_n 1, 1) := by decide +kernel
theorem dX4_brokenBits_2 : decode cX4_brokenBits 2 = .ok (.iconst 0, 1) := by decide +kernel
theorem dX4_brokenBits_3 : decode cX4_brokenBits 3 = .ok (.istore_n 2, 1) := by decide +kernel
theorem dX4_brokenBits_4 : decode cX4_brokenBits 4 = .ok (.iload_n 2, 1) := by decide +kernel
theorem dX4_brokenBits_5 : decode cX4_brokenBits 5 = .ok (.aload_n 0, 1) := by decide +kernel
theorem dX4_brokenBits_6 : decode cX4_brokenBits 6 = .ok (.getfield 9, 3) := by decide +kernel
theorem dX4_brokenBits_9 : decode cX4_brokenBits 9 = .ok (.if_icmp .ge 23, 3) := by decide +kernel
theorem dX4_brokenBits_12 : decode cX4_brokenBits 12 = .ok (.aload_n 0, 1) := by decide +kernel
theorem dX4_brokenBits_13 : decode cX4_brokenBits 13 = .ok (.iload_n 2, 1) := by decide +kernel
theorem dX4_brokenBits_14 : decode cX4_brokenBits 14 = .ok (.invokevirtual 61, 3) := by decide +kernel
theorem dX4_brokenBits_17 : decode cX4_brokenBits 17 = .ok (.ifCond .eq 9, 3) := by decide +kernel
theorem dX4_brokenBits_20 : decode cX4_brokenBits 20 = .ok (.iload_n 1, 1) := by decide +kernel
theorem dX4_brokenBits_21 : decode cX4_brokenBits 21 = .ok (.iconst 1, 1) := by decide +kernel
theorem dX4_brokenBits_22 : decode cX4_brokenBits 22 = .ok (.iload_n 2, 1) := by decide +kernel
theorem dX4_brokenBits_23 : decode cX4_brokenBits 23 = .ok (.ishl, 1) := by decide +kernel
theorem dX4_brokenBits_24 : decode cX4_brokenBits 24 = .ok (.ior, 1) := by decide +kernel
theorem dX4_brokenBits_25 : decode cX4_brokenBits 25 = .ok (.istore_n 1, 1) := by decide +kernel
theorem dX4_brokenBits_26 : decode cX4_brokenBits 26 = .ok (.iinc 2 1, 3) := by decide +kernel
theorem dX4_brokenBits_29 : decode cX4_brokenBits 29 = .ok (.goto (-25), 3) := by decide +kernel
theorem dX4_brokenBits_32 : decode cX4_brokenBits 32 = .ok (.iload_n 1, 1) := by decide +kernel
theorem dX4_brokenBits_33 : decode cX4_brokenBits 33 = .ok (.ireturn, 1) := by decide +kernel
theorem mkX4_brokenBits : mokV qX4_brokenBits 0 := ⟨⟨⟨⟨by decide, by decide, by decide +kernel⟩, by decide⟩, gd_mem 53 (by decide +kernel) (by decide +kernel), gd_mem 688 (by decide +kernel) (by decide +kernel)⟩, gd_mem 686 (by decide +kernel) (by decide +kernel), gd_mem 687 (by decide +kernel) (by decide +kernel)⟩
abbrev qX4_mostWear : mMI := (yX4_mostWear, cX4_mostWear, 3, (some .int), 1)
theorem dX4_mostWear_0 : decode cX4_mostWear 0 = .ok (.iconst 0, 1) := by decide +kernel
theorem dX4_mostWear_1 : decode cX4_mostWear 1 = .ok (.istore_n 1, 1) := by decide +kernel
theorem dX4_mostWear_2 : decode cX4_mostWear 2 = .ok (.iconst 0, 1) := by decide +kernel
theorem dX4_mostWear_3 : decode cX4_mostWear 3 = .ok (.istore_n 2, 1) := by decide +kernel
theorem dX4_mostWear_4 : decode cX4_mostWear 4 = .ok (.iload_n 2, 1) := by decide +kernel
theorem dX4_mostWear_5 : decode cX4_mostWear 5 = .ok (.aload_n 0, 1) := by decide +kernel
theorem dX4_mostWear_6 : decode cX4_mostWear 6 = .ok (.getfield 9, 3) := by decide +kernel
theorem dX4_mostWear_9 : decode cX4_mostWear 9 = .ok (.if_icmp .ge 20, 3) := by decide +kernel
theorem dX4_mostWear_12 : decode cX4_mostWear 12 = .ok (.iload_n 1, 1) := by decide +kernel
theorem dX4_mostWear_13 : decode cX4_mostWear 13 = .ok (.aload_n 0, 1) := by decide +kernel
theorem dX4_mostWear_14 : decode cX4_mostWear 14 = .ok (.getfield 34, 3) := by decide +kernel
theorem dX4_mostWear_17 : decode cX4_mostWear 17 = .ok (.iload_n 2, 1) := by decide +kernel
theorem dX4_mostWear_18 : decode cX4_mostWear 18 = .ok (.iaload, 1) := by decide +kernel
theorem dX4_mostWear_19 : decode cX4_mostWear 19 = .ok (.invokestatic 65, 3) := by decide +kernel
theorem dX4_mostWear_22 : decode cX4_mostWear 22 = .ok (.istore_n 1, 1) := by decide +kernel
theorem dX4_mostWear_23 : decode cX4_mostWear 23 = .ok (.iinc 2 1, 3) := by decide +kernel
theorem dX4_mostWear_26 : decode cX4_mostWear 26 = .ok (.goto (-22), 3) := by decide +kernel
theorem dX4_mostWear_29 : decode cX4_mostWear 29 = .ok (.iload_n 1, 1) := by decide +kernel
theorem dX4_mostWear_30 : decode cX4_mostWear 30 = .ok (.ireturn, 1) := by decide +kernel
theorem mkX4_mostWear : mokV qX4_mostWear 0 := ⟨⟨⟨⟨by decide, by decide, by decide +kernel⟩, by decide⟩, gd_mem 53 (by decide +kernel) (by decide +kernel), gd_mem 712 (by decide +kernel) (by decide +kernel)⟩, gd_mem 710 (by decide +kernel) (by decide +kernel), gd_mem 711 (by decide +kernel) (by decide +kernel)⟩
abbrev qX4_reachOf : mMI := (yX4_reachOf, cX4_reachOf, 2, (some .int), 1)
theorem dX4_reachOf_0 : decode cX4_reachOf 0 = .ok (.aload_n 0, 1) := by decide +kernel
theorem dX4_reachOf_1 : decode cX4_reachOf 1 = .ok (.iload_n 1, 1) := by decide +kernel
theorem dX4_reachOf_2 : decode cX4_reachOf 2 = .ok (.invokevirtual 68, 3) := by decide +kernel
theorem dX4_reachOf_5 : decode cX4_reachOf 5 = .ok (.ifCond .eq 18, 3) := by decide +kernel
theorem dX4_reachOf_8 : decode cX4_reachOf 8 = .ok (.aload_n 0, 1) := by decide +kernel
theorem dX4_reachOf_9 : decode cX4_reachOf 9 = .ok (.getfield 37, 3) := by decide +kernel
theorem dX4_reachOf_12 : decode cX4_reachOf 12 = .ok (.iload_n 1, 1) := by decide +kernel
theorem dX4_reachOf_13 : decode cX4_reachOf 13 = .ok (.iaload, 1) := by decide +kernel
theorem dX4_reachOf_14 : decode cX4_reachOf 14 = .ok (.iconst 1, 1) := by decide +kernel
theorem dX4_reachOf_15 : decode cX4_reachOf 15 = .ok (.isub, 1) := by decide +kernel
theorem dX4_reachOf_16 : decode cX4_reachOf 16 = .ok (.iconst 1, 1) := by decide +kernel
theorem dX4_reachOf_17 : decode cX4_reachOf 17 = .ok (.invokestatic 65, 3) := by decide +kernel
theorem dX4_reachOf_20 : decode cX4_reachOf 20 = .ok (.goto 9, 3) := by decide +kernel
theorem dX4_reachOf_23 : decode cX4_reachOf 23 = .ok (.aload_n 0, 1) := by decide +kernel
theorem dX4_reachOf_24 : decode cX4_reachOf 24 = .ok (.getfield 37, 3) := by decide +kernel
theorem dX4_reachOf_27 : decode cX4_reachOf 27 = .ok (.iload_n 1, 1) := by decide +kernel
theorem dX4_reachOf_28 : decode cX4_reachOf 28 = .ok (.iaload, 1) := by decide +kernel
theorem dX4_reachOf_29 : decode cX4_reachOf 29 = .ok (.ireturn, 1) := by decide +kernel
theorem mkX4_reachOf : mokV qX4_reachOf 1 := ⟨⟨⟨⟨by decide, by decide, by decide +kernel⟩, by decide⟩, gd_mem 53 (by decide +kernel) (by decide +kernel), gd_mem 524 (by decide +kernel) (by decide +kernel)⟩, gd_mem 522 (by decide +kernel) (by decide +kernel), gd_mem 523 (by decide +kernel) (by decide +kernel)⟩
abbrev qX4_wearBy : mMI := (yX4_wearBy, cX4_wearBy, 5, none, 1)
theorem dX4_wearBy_0 : decode cX4_wearBy 0 = .ok (.aload_n 0, 1) := by decide +kernel
theorem dX4_wearBy_1 : decode cX4_wearBy 1 = .ok (.iload_n 1, 1) := by decide +kernel
theorem dX4_wearBy_2 : decode cX4_wearBy 2 = .ok (.invokevirtual 68, 3) := by decide +kernel
theorem dX4_wearBy_5 : decode cX4_wearBy 5 = .ok (.ifCond .eq 7, 3) := by decide +kernel
theorem dX4_wearBy_8 : decode cX4_wearBy 8 = .ok (.iconst 1, 1) := by decide +kernel
theorem dX4_wearBy_9 : decode cX4_wearBy 9 = .ok (.goto 4, 3) := by decide +kernel
theorem dX4_wearBy_12 : decode cX4_wearBy 12 = .ok (.iconst 0, 1) := by decide +kernel
theorem dX4_wearBy_13 : decode cX4_wearBy 13 = .ok (.istore_n 3, 1) := by decide +kernel
theorem dX4_wearBy_14 : decode cX4_wearBy 14 = .ok (.iconst 0, 1) := by decide +kernel
theorem dX4_wearBy_15 : decode cX4_wearBy 15 = .ok (.istore 4, 2) := by decide +kernel
theorem dX4_wearBy_17 : decode cX4_wearBy 17 = .ok (.iload 4, 2) := by decide +kernel
theorem dX4_wearBy_19 : decode cX4_wearBy 19 = .ok (.aload_n 0, 1) := by decide +kernel
theorem dX4_wearBy_20 : decode cX4_wearBy 20 = .ok (.getfield 9, 3) := by decide +kernel
theorem dX4_wearBy_23 : decode cX4_wearBy 23 = .ok (.if_icmp .ge 60, 3) := by decide +kernel
theorem dX4_wearBy_26 : decode cX4_wearBy 26 = .ok (.iload_n 2, 1) := by decide +kernel
theorem dX4_wearBy_27 : decode cX4_wearBy 27 = .ok (.iload 4, 2) := by decide +kernel
theorem dX4_wearBy_29 : decode cX4_wearBy 29 = .ok (.ishr, 1) := by decide +kernel
theorem dX4_wearBy_30 : decode cX4_wearBy 30 = .ok (.iconst 1, 1) := by decide +kernel
theorem dX4_wearBy_31 : decode cX4_wearBy 31 = .ok (.iand, 1) := by decide +kernel
theorem dX4_wearBy_32 : decode cX4_wearBy 32 = .ok (.ifCond .eq 45, 3) := by decide +kernel
theorem dX4_wearBy_35 : decode cX4_wearBy 35 = .ok (.aload_n 0, 1) := by decide +kernel
theorem dX4_wearBy_36 : decode cX4_wearBy 36 = .ok (.getfield 27, 3) := by decide +kernel
theorem dX4_wearBy_39 : decode cX4_wearBy 39 = .ok (.iload 4, 2) := by decide +kernel
theorem dX4_wearBy_41 : decode cX4_wearBy 41 = .ok (.iaload, 1) := by decide +kernel
theorem dX4_wearBy_42 : decode cX4_wearBy 42 = .ok (.iconst 3, 1) := by decide +kernel
theorem dX4_wearBy_43 : decode cX4_wearBy 43 = .ok (.if_icmp .eq 34, 3) := by decide +kernel
theorem dX4_wearBy_46 : decode cX4_wearBy 46 = .ok (.aload_n 0, 1) := by decide +kernel
theorem dX4_wearBy_47 : decode cX4_wearBy 47 = .ok (.getfield 34, 3) := by decide +kernel
theorem dX4_wearBy_50 : decode cX4_wearBy 50 = .ok (.iload 4, 2) := by decide +kernel
theorem dX4_wearBy_52 : decode cX4_wearBy 52 = .ok (.aload_n 0, 1) := by decide +kernel
theorem dX4_wearBy_53 : decode cX4_wearBy 53 = .ok (.getfield 34, 3) := by decide +kernel
theorem dX4_wearBy_56 : decode cX4_wearBy 56 = .ok (.iload 4, 2) := by decide +kernel
theorem dX4_wearBy_58 : decode cX4_wearBy 58 = .ok (.iaload, 1) := by decide +kernel
theorem dX4_wearBy_59 : decode cX4_wearBy 59 = .ok (.iconst 2, 1) := by decide +kernel
theorem dX4_wearBy_60 : decode cX4_wearBy 60 = .ok (.iadd, 1) := by decide +kernel
theorem dX4_wearBy_61 : decode cX4_wearBy 61 = .ok (.aload_n 0, 1) := by decide +kernel
theorem dX4_wearBy_62 : decode cX4_wearBy 62 = .ok (.getfield 27, 3) := by decide +kernel
theorem dX4_wearBy_65 : decode cX4_wearBy 65 = .ok (.iload 4, 2) := by decide +kernel
theorem dX4_wearBy_67 : decode cX4_wearBy 67 = .ok (.iaload, 1) := by decide +kernel
theorem dX4_wearBy_68 : decode cX4_wearBy 68 = .ok (.isub, 1) := by decide +kernel
theorem dX4_wearBy_69 : decode cX4_wearBy 69 = .ok (.iload_n 3, 1) := by decide +kernel
theorem dX4_wearBy_70 : decode cX4_wearBy 70 = .ok (.iadd, 1) := by decide +kernel
theorem dX4_wearBy_71 : decode cX4_wearBy 71 = .ok (.bipush 99, 2) := by decide +kernel
theorem dX4_wearBy_73 : decode cX4_wearBy 73 = .ok (.invokestatic 55, 3) := by decide +kernel
theorem dX4_wearBy_76 : decode cX4_wearBy 76 = .ok (.iastore, 1) := by decide +kernel
theorem dX4_wearBy_77 : decode cX4_wearBy 77 = .ok (.iinc 4 1, 3) := by decide +kernel
theorem dX4_wearBy_80 : decode cX4_wearBy 80 = .ok (.goto (-63), 3) := by decide +kernel
theorem dX4_wearBy_83 : decode cX4_wearBy 83 = .ok (.return_, 1) := by decide +kernel
theorem mkX4_wearBy : mokV qX4_wearBy 2 := ⟨⟨⟨⟨by decide, by decide, by decide +kernel⟩, by decide⟩, gd_mem 53 (by decide +kernel) (by decide +kernel), gd_mem 680 (by decide +kernel) (by decide +kernel)⟩, gd_mem 678 (by decide +kernel) (by decide +kernel), gd_mem 679 (by decide +kernel) (by decide +kernel)⟩
abbrev qX4_isNear : mMI := (yX4_isNear, cX4_isNear, 3, (some .boolean), 2)
theorem dX4_isNear_0 : decode cX4_isNear 0 = .ok (.aload_n 0, 1) := by decide +kernel
theorem dX4_isNear_1 : decode cX4_isNear 1 = .ok (.getfield 27, 3) := by decide +kernel
theorem dX4_isNear_4 : decode cX4_isNear 4 = .ok (.iload_n 2, 1) := by decide +kernel
theorem dX4_isNear_5 : decode cX4_isNear 5 = .ok (.iaload, 1) := by decide +kernel
theorem dX4_isNear_6 : decode cX4_isNear 6 = .ok (.iconst 3, 1) := by decide +kernel
theorem dX4_isNear_7 : decode cX4_isNear 7 = .ok (.if_icmp .eq 25, 3) := by decide +kernel
theorem dX4_isNear_10 : decode cX4_isNear 10 = .ok (.aload_n 0, 1) := by decide +kernel
theorem dX4_isNear_11 : decode cX4_isNear 11 = .ok (.iload_n 2, 1) := by decide +kernel
theorem dX4_isNear_12 : decode cX4_isNear 12 = .ok (.invokevirtual 75, 3) := by decide +kernel
theorem dX4_isNear_15 : decode cX4_isNear 15 = .ok (.aload_n 0, 1) := by decide +kernel
theorem dX4_isNear_16 : decode cX4_isNear 16 = .ok (.getfield 40, 3) := by decide +kernel
theorem dX4_isNear_19 : decode cX4_isNear 19 = .ok (.iload_n 1, 1) := by decide +kernel
theorem dX4_isNear_20 : decode cX4_isNear 20 = .ok (.iaload, 1) := by decide +kernel
theorem dX4_isNear_21 : decode cX4_isNear 21 = .ok (.isub, 1) := by decide +kernel
theorem dX4_isNear_22 : decode cX4_isNear 22 = .ok (.invokestatic 79, 3) := by decide +kernel
theorem dX4_isNear_25 : decode cX4_isNear 25 = .ok (.aload_n 0, 1) := by decide +kernel
theorem dX4_isNear_26 : decode cX4_isNear 26 = .ok (.getfield 18, 3) := by decide +kernel
theorem dX4_isNear_29 : decode cX4_isNear 29 = .ok (.if_icmp .gt 7, 3) := by decide +kernel
theorem dX4_isNear_32 : decode cX4_isNear 32 = .ok (.iconst 1, 1) := by decide +kernel
theorem dX4_isNear_33 : decode cX4_isNear 33 = .ok (.goto 4, 3) := by decide +kernel
theorem dX4_isNear_36 : decode cX4_isNear 36 = .ok (.iconst 0, 1) := by decide +kernel
theorem dX4_isNear_37 : decode cX4_isNear 37 = .ok (.ireturn, 1) := by decide +kernel
theorem mkX4_isNear : mokV qX4_isNear 2 := ⟨⟨⟨⟨by decide, by decide, by decide +kernel⟩, by decide⟩, gd_mem 53 (by decide +kernel) (by decide +kernel), gd_mem 540 (by decide +kernel) (by decide +kernel)⟩, gd_mem 539 (by decide +kernel) (by decide +kernel), gd_mem 12 (by decide +kernel) (by decide +kernel)⟩
abbrev qX4_getsHomeBy : mMI := (yX4_getsHomeBy, cX4_getsHomeBy, 7, (some .boolean), 2)
theorem dX4_getsHomeBy_0 : decode cX4_getsHomeBy 0 = .ok (.iconst 1, 1) := by decide +kernel
theorem dX4_getsHomeBy_1 : decode cX4_getsHomeBy 1 = .ok (.aload_n 0, 1) := by decide +kernel
theorem dX4_getsHomeBy_2 : decode cX4_getsHomeBy 2 = .ok (.iload_n 1, 1) := by decide +kernel
theorem dX4_getsHomeBy_3 : decode cX4_getsHomeBy 3 = .ok (.invokevirtual 88, 3) := by decide +kernel
theorem dX4_getsHomeBy_6 : decode cX4_getsHomeBy 6 = .ok (.ishl, 1) := by decide +kernel
theorem dX4_getsHomeBy_7 : decode cX4_getsHomeBy 7 = .ok (.iconst 1, 1) := by decide +kernel
theorem dX4_getsHomeBy_8 : decode cX4_getsHomeBy 8 = .ok (.isub, 1) := by decide +kernel
theorem dX4_getsHomeBy_9 : decode cX4_getsHomeBy 9 = .ok (.istore_n 3, 1) := by decide +kernel
theorem dX4_getsHomeBy_10 : decode cX4_getsHomeBy 10 = .ok (.iconst 1, 1) := by decide +kernel
theorem dX4_getsHomeBy_11 : decode cX4_getsHomeBy 11 = .ok (.istore 4, 2) := by decide +kernel
theorem dX4_getsHomeBy_13 : decode cX4_getsHomeBy 13 = .ok (.iconst 0, 1) := by decide +kernel
theorem dX4_getsHomeBy_14 : decode cX4_getsHomeBy 14 = .ok (.istore 5, 2) := by decide +kernel
theorem dX4_getsHomeBy_16 : decode cX4_getsHomeBy 16 = .ok (.iload 5, 2) := by decide +kernel
theorem dX4_getsHomeBy_18 : decode cX4_getsHomeBy 18 = .ok (.aload_n 0, 1) := by decide +kernel
theorem dX4_getsHomeBy_19 : decode cX4_getsHomeBy 19 = .ok (.getfield 46, 3) := by decide +kernel
theorem dX4_getsHomeBy_22 : decode cX4_getsHomeBy 22 = .ok (.iload_n 1, 1) := by decide +kernel
theorem dX4_getsHomeBy_23 : decode cX4_getsHomeBy 23 = .ok (.iaload, 1) := by decide +kernel
theorem dX4_getsHomeBy_24 : decode cX4_getsHomeBy 24 = .ok (.if_icmp .gt 49, 3) := by decide +kernel
theorem dX4_getsHomeBy_27 : decode cX4_getsHomeBy 27 = .ok (.iload_n 2, 1) := by decide +kernel
theorem dX4_getsHomeBy_28 : decode cX4_getsHomeBy 28 = .ok (.iload 5, 2) := by decide +kernel
theorem dX4_getsHomeBy_30 : decode cX4_getsHomeBy 30 = .ok (.ishr, 1) := by decide +kernel
theorem dX4_getsHomeBy_31 : decode cX4_getsHomeBy 31 = .ok (.iconst 1, 1) := by decide +kernel
theorem dX4_getsHomeBy_32 : decode cX4_getsHomeBy 32 = .ok (.iand, 1) := by decide +kernel
theorem dX4_getsHomeBy_33 : decode cX4_getsHomeBy 33 = .ok (.ifCond .eq 14, 3) := by decide +kernel
theorem dX4_getsHomeBy_36 : decode cX4_getsHomeBy 36 = .ok (.iload 4, 2) := by decide +kernel
theorem dX4_getsHomeBy_38 : decode cX4_getsHomeBy 38 = .ok (.iload_n 3, 1) := by decide +kernel
theorem dX4_getsHomeBy_39 : decode cX4_getsHomeBy 39 = .ok (.iand, 1) := by decide +kernel
theorem dX4_getsHomeBy_40 : decode cX4_getsHomeBy 40 = .ok (.ifCond .eq 7, 3) := by decide +kernel
theorem dX4_getsHomeBy_43 : decode cX4_getsHomeBy 43 = .ok (.iconst 1, 1) := by decide +kernel
theorem dX4_getsHomeBy_44 : decode cX4_getsHomeBy 44 = .ok (.goto 4, 3) := by decide +kernel
theorem dX4_getsHomeBy_47 : decode cX4_getsHomeBy 47 = .ok (.iconst 0, 1) := by decide +kernel
theorem dX4_getsHomeBy_48 : decode cX4_getsHomeBy 48 = .ok (.istore 6, 2) := by decide +kernel
theorem dX4_getsHomeBy_50 : decode cX4_getsHomeBy 50 = .ok (.iload 4, 2) := by decide +kernel
theorem dX4_getsHomeBy_52 : decode cX4_getsHomeBy 52 = .ok (.iconst 1, 1) := by decide +kernel
theorem dX4_getsHomeBy_53 : decode cX4_getsHomeBy 53 = .ok (.ishl, 1) := by decide +kernel
theorem dX4_getsHomeBy_54 : decode cX4_getsHomeBy 54 = .ok (.iload 6, 2) := by decide +kernel
theorem dX4_getsHomeBy_56 : decode cX4_getsHomeBy 56 = .ok (.ifCond .eq 7, 3) := by decide +kernel
theorem dX4_getsHomeBy_59 : decode cX4_getsHomeBy 59 = .ok (.iconst 1, 1) := by decide +kernel
theorem dX4_getsHomeBy_60 : decode cX4_getsHomeBy 60 = .ok (.goto 4, 3) := by decide +kernel
theorem dX4_getsHomeBy_63 : decode cX4_getsHomeBy 63 = .ok (.iconst 0, 1) := by decide +kernel
theorem dX4_getsHomeBy_64 : decode cX4_getsHomeBy 64 = .ok (.ior, 1) := by decide +kernel
theorem dX4_getsHomeBy_65 : decode cX4_getsHomeBy 65 = .ok (.istore 4, 2) := by decide +kernel
theorem dX4_getsHomeBy_67 : decode cX4_getsHomeBy 67 = .ok (.iinc 5 1, 3) := by decide +kernel
theorem dX4_getsHomeBy_70 : decode cX4_getsHomeBy 70 = .ok (.goto (-54), 3) := by decide +kernel
theorem dX4_getsHomeBy_73 : decode cX4_getsHomeBy 73 = .ok (.iload 4, 2) := by decide +kernel
theorem dX4_getsHomeBy_75 : decode cX4_getsHomeBy 75 = .ok (.iconst 1, 1) := by decide +kernel
theorem dX4_getsHomeBy_76 : decode cX4_getsHomeBy 76 = .ok (.iand, 1) := by decide +kernel
theorem dX4_getsHomeBy_77 : decode cX4_getsHomeBy 77 = .ok (.ifCond .eq 7, 3) := by decide +kernel
theorem dX4_getsHomeBy_80 : decode cX4_getsHomeBy 80 = .ok (.iconst 1, 1) := by decide +kernel
theorem dX4_getsHomeBy_81 : decode cX4_getsHomeBy 81 = .ok (.goto 4, 3) := by decide +kernel
theorem dX4_getsHomeBy_84 : decode cX4_getsHomeBy 84 = .ok (.iconst 0, 1) := by decide +kernel
theorem dX4_getsHomeBy_85 : decode cX4_getsHomeBy 85 = .ok (.ireturn, 1) := by decide +kernel
theorem mkX4_getsHomeBy : mokV qX4_getsHomeBy 2 := ⟨⟨⟨⟨by decide, by decide, by decide +kernel⟩, by decide⟩, gd_mem 53 (by decide +kernel) (by decide +kernel), gd_mem 639 (by decide +kernel) (by decide +kernel)⟩, gd_mem 637 (by decide +kernel) (by decide +kernel), gd_mem 638 (by decide +kernel) (by decide +kernel)⟩
abbrev qX4_treadBits : mMI := (yX4_treadBits, cX4_treadBits, 4, (some .int), 3)
theorem dX4_treadBits_0 : decode cX4_treadBits 0 = .ok (.iconst 0, 1) := by decide +kernel
theorem dX4_treadBits_1 : decode cX4_treadBits 1 = .ok (.istore_n 2, 1) := by decide +kernel
theorem dX4_treadBits_2 : decode cX4_treadBits 2 = .ok (.iconst 0, 1) := by decide +kernel
theorem dX4_treadBits_3 : decode cX4_treadBits 3 = .ok (.istore_n 3, 1) := by decide +kernel
theorem dX4_treadBits_4 : decode cX4_treadBits 4 = .ok (.iload_n 3, 1) := by decide +kernel
theorem dX4_treadBits_5 : decode cX4_treadBits 5 = .ok (.aload_n 0, 1) := by decide +kernel
theorem dX4_treadBits_6 : decode cX4_treadBits 6 = .ok (.getfield 9, 3) := by decide +kernel
theorem dX4_treadBits_9 : decode cX4_treadBits 9 = .ok (.if_icmp .ge 32, 3) := by decide +kernel
theorem dX4_treadBits_12 : decode cX4_treadBits 12 = .ok (.aload_n 0, 1) := by decide +kernel
theorem dX4_treadBits_13 : decode cX4_treadBits 13 = .ok (.iload_n 3, 1) := by decide +kernel
theorem dX4_treadBits_14 : decode cX4_treadBits 14 = .ok (.invokevirtual 61, 3) := by decide +kernel
theorem dX4_treadBits_17 : decode cX4_treadBits 17 = .ok (.ifCond .ne 18, 3) := by decide +kernel
theorem dX4_treadBits_20 : decode cX4_treadBits 20 = .ok (.aload_n 0, 1) := by decide +kernel
theorem dX4_treadBits_21 : decode cX4_treadBits 21 = .ok (.iload_n 1, 1) := by decide +kernel
theorem dX4_treadBits_22 : decode cX4_treadBits 22 = .ok (.iload_n 3, 1) := by decide +kernel
theorem dX4_treadBits_23 : decode cX4_treadBits 23 = .ok (.invokevirtual 71, 3) := by decide +kernel
theorem dX4_treadBits_26 : decode cX4_treadBits 26 = .ok (.ifCond .eq 9, 3) := by decide +kernel
theorem dX4_treadBits_29 : decode cX4_treadBits 29 = .ok (.iload_n 2, 1) := by decide +kernel
theorem dX4_treadBits_30 : decode cX4_treadBits 30 = .ok (.iconst 1, 1) := by decide +kernel
theorem dX4_treadBits_31 : decode cX4_treadBits 31 = .ok (.iload_n 3, 1) := by decide +kernel
theorem dX4_treadBits_32 : decode cX4_treadBits 32 = .ok (.ishl, 1) := by decide +kernel
theorem dX4_treadBits_33 : decode cX4_treadBits 33 = .ok (.ior, 1) := by decide +kernel
theorem dX4_treadBits_34 : decode cX4_treadBits 34 = .ok (.istore_n 2, 1) := by decide +kernel
theorem dX4_treadBits_35 : decode cX4_treadBits 35 = .ok (.iinc 3 1, 3) := by decide +kernel
theorem dX4_treadBits_38 : decode cX4_treadBits 38 = .ok (.goto (-34), 3) := by decide +kernel
theorem dX4_treadBits_41 : decode cX4_treadBits 41 = .ok (.iload_n 2, 1) := by decide +kernel
theorem dX4_treadBits_42 : decode cX4_treadBits 42 = .ok (.ireturn, 1) := by decide +kernel
theorem mkX4_treadBits : mokV qX4_treadBits 1 := ⟨⟨⟨⟨by decide, by decide, by decide +kernel⟩, by decide⟩, gd_mem 53 (by decide +kernel) (by decide +kernel), gd_mem 535 (by decide +kernel) (by decide +kernel)⟩, gd_mem 533 (by decide +kernel) (by decide +kernel), gd_mem 534 (by decide +kernel) (by decide +kernel)⟩
abbrev qX4_getsHome : mMI := (yX4_getsHome, cX4_getsHome, 2, (some .boolean), 4)
theorem dX4_getsHome_0 : decode cX4_getsHome 0 = .ok (.aload_n 0, 1) := by decide +kernel
theorem dX4_getsHome_1 : decode cX4_getsHome 1 = .ok (.iload_n 1, 1) := by decide +kernel
theorem dX4_getsHome_2 : decode cX4_getsHome 2 = .ok (.aload_n 0, 1) := by decide +kernel
theorem dX4_getsHome_3 : decode cX4_getsHome 3 = .ok (.iload_n 1, 1) := by decide +kernel
theorem dX4_getsHome_4 : decode cX4_getsHome 4 = .ok (.invokevirtual 82, 3) := by decide +kernel
theorem dX4_getsHome_7 : decode cX4_getsHome 7 = .ok (.invokevirtual 85, 3) := by decide +kernel
theorem dX4_getsHome_10 : decode cX4_getsHome 10 = .ok (.ireturn, 1) := by decide +kernel
theorem mkX4_getsHome : mokV qX4_getsHome 1 := ⟨⟨⟨⟨by decide, by decide, by decide +kernel⟩, by decide⟩, gd_mem 53 (by decide +kernel) (by decide +kernel), gd_mem 634 (by decide +kernel) (by decide +kernel)⟩, gd_mem 632 (by decide +kernel) (by decide +kernel), gd_mem 633 (by decide +kernel) (by decide +kernel)⟩
abbrev qX4_homeBits : mMI := (yX4_homeBits, cX4_homeBits, 3, (some .int), 5)
theorem dX4_homeBits_0 : decode cX4_homeBits 0 = .ok (.iconst 0, 1) := by decide +kernel
theorem dX4_homeBits_1 : decode cX4_homeBits 1 = .ok (.istore_n 1, 1) := by decide +kernel
theorem dX4_homeBits_2 : decode cX4_homeBits 2 = .ok (.iconst 0, 1) := by decide +kernel
theorem dX4_homeBits_3 : decode cX4_homeBits 3 = .ok (.istore_n 2, 1) := by decide +kernel
theorem dX4_homeBits_4 : decode cX4_homeBits 4 = .ok (.iload_n 2, 1) := by decide +kernel
theorem dX4_homeBits_5 : decode cX4_homeBits 5 = .ok (.aload_n 0, 1) := by decide +kernel
theorem dX4_homeBits_6 : decode cX4_homeBits 6 = .ok (.getfield 15, 3) := by decide +kernel
theorem dX4_homeBits_9 : decode cX4_homeBits 9 = .ok (.if_icmp .ge 23, 3) := by decide +kernel
theorem dX4_homeBits_12 : decode cX4_homeBits 12 = .ok (.aload_n 0, 1) := by decide +kernel
theorem dX4_homeBits_13 : decode cX4_homeBits 13 = .ok (.iload_n 2, 1) := by decide +kernel
theorem dX4_homeBits_14 : decode cX4_homeBits 14 = .ok (.invokevirtual 91, 3) := by decide +kernel
theorem dX4_homeBits_17 : decode cX4_homeBits 17 = .ok (.ifCond .eq 9, 3) := by decide +kernel
theorem dX4_homeBits_20 : decode cX4_homeBits 20 = .ok (.iload_n 1, 1) := by decide +kernel
theorem dX4_homeBits_21 : decode cX4_homeBits 21 = .ok (.iconst 1, 1) := by decide +kernel
theorem dX4_homeBits_22 : decode cX4_homeBits 22 = .ok (.iload_n 2, 1) := by decide +kernel
theorem dX4_homeBits_23 : decode cX4_homeBits 23 = .ok (.ishl, 1) := by decide +kernel
theorem dX4_homeBits_24 : decode cX4_homeBits 24 = .ok (.ior, 1) := by decide +kernel
theorem dX4_homeBits_25 : decode cX4_homeBits 25 = .ok (.istore_n 1, 1) := by decide +kernel
theorem dX4_homeBits_26 : decode cX4_homeBits 26 = .ok (.iinc 2 1, 3) := by decide +kernel
theorem dX4_homeBits_29 : decode cX4_homeBits 29 = .ok (.goto (-25), 3) := by decide +kernel
theorem dX4_homeBits_32 : decode cX4_homeBits 32 = .ok (.iload_n 1, 1) := by decide +kernel
theorem dX4_homeBits_33 : decode cX4_homeBits 33 = .ok (.ireturn, 1) := by decide +kernel
theorem mkX4_homeBits : mokV qX4_homeBits 0 := ⟨⟨⟨⟨by decide, by decide, by decide +kernel⟩, by decide⟩, gd_mem 53 (by decide +kernel) (by decide +kernel), gd_mem 657 (by decide +kernel) (by decide +kernel)⟩, gd_mem 655 (by decide +kernel) (by decide +kernel), gd_mem 656 (by decide +kernel) (by decide +kernel)⟩
theorem lfX4_9 : Cond.fieldLink RX4 9 "RankStairs$House" "steps" "I" ∈ gdL := gd_mem 123 (by decide +kernel) (by decide +kernel)
theorem gIX4_9 {q : mMI} {X : mCx} {tgt : mR} {pc : Nat} {lv : List (Nat × Value)} {st : List Value} {μ : mMem} {b : Nat} (hq : q.1.cls = RX4) (hb : kd b = (4, 0)) (hd : decode q.2.1 pc = .ok (.getfield 9, 3)) (h : T q X tgt (pc + 3) lv (.int (μ.1 b 0) :: st) μ) : T q X tgt pc lv (.ref b :: st) μ := T_getI (c := 4) rfl (by decide) rfl (by decide) (by rw [hq]; exact lfX4_9) hb hd h
theorem pIX4_9 {q : mMI} {X : mCx} {tgt : mR} {pc : Nat} {lv : List (Nat × Value)} {st : List Value} {μ : mMem} {b : Nat} {x : Int32} (hq : q.1.cls = RX4) (hn : narrow .int (.int x) = .int x) (hfit : fits .int (.int x) = true) (hb : kd b = (4, 0)) (hd : decode q.2.1 pc = .ok (.putfield 9, 3)) (h : T q X tgt (pc + 3) lv st (si μ b 0 x)) : T q X tgt pc lv (.int x :: .ref b :: st) μ := T_put (c := 4) rfl (by decide) rfl (by decide) (by rw [hq]; exact lfX4_9) (by decide) hn hfit hb hd h
theorem lfX4_15 : Cond.fieldLink RX4 15 "RankStairs$House" "lodgers" "I" ∈ gdL := gd_mem 129 (by decide +kernel) (by decide +kernel)
theorem gIX4_15 {q : mMI} {X : mCx} {tgt : mR} {pc : Nat} {lv : List (Nat × Value)} {st : List Value} {μ : mMem} {b : Nat} (hq : q.1.cls = RX4) (hb : kd b = (4, 0)) (hd : decode q.2.1 pc = .ok (.getfield 15, 3)) (h : T q X tgt (pc + 3) lv (.int (μ.1 b 1) :: st) μ) : T q X tgt pc lv (.ref b :: st) μ := T_getI (c := 4) rfl (by decide) rfl (by decide) (by rw [hq]; exact lfX4_15) hb hd h
theorem pIX4_15 {q : mMI} {X : mCx} {tgt : mR} {pc : Nat} {lv : List (Nat × Value)} {st : List Value} {μ : mMem} {b : Nat} {x : Int32} (hq : q.1.cls = RX4) (hn : narrow .int (.int x) = .int x) (hfit : fits .int (.int x) = true) (hb : kd b = (4, 0)) (hd : decode q.2.1 pc = .ok (.putfield 15, 3)) (h : T q X tgt (pc + 3) lv st (si μ b 1 x)) : T q X tgt pc lv (.int x :: .ref b :: st) μ := T_put (c := 4) rfl (by decide) rfl (by decide) (by rw [hq]; exact lfX4_15) (by decide) hn hfit hb hd h
theorem lfX4_18 : Cond.fieldLink RX4 18 "RankStairs$House" "gapLaw" "I" ∈ gdL := gd_mem 135 (by decide +kernel) (by decide +kernel)
theorem gIX4_18 {q : mMI} {X : mCx} {tgt : mR} {pc : Nat} {lv : List (Nat × Value)} {st : List Value} {μ : mMem} {b : Nat} (hq : q.1.cls = RX4) (hb : kd b = (4, 0)) (hd : decode q.2.1 pc = .ok (.getfield 18, 3)) (h : T q X tgt (pc + 3) lv (.int (μ.1 b 2) :: st) μ) : T q X tgt pc lv (.ref b :: st) μ := T_getI (c := 4) rfl (by decide) rfl (by decide) (by rw [hq]; exact lfX4_18) hb hd h
theorem pIX4_18 {q : mMI} {X : mCx} {tgt : mR} {pc : Nat} {lv : List (Nat × Value)} {st : List Value} {μ : mMem} {b : Nat} {x : Int32} (hq : q.1.cls = RX4) (hn : narrow .int (.int x) = .int x) (hfit : fits .int (.int x) = true) (hb : kd b = (4, 0)) (hd : decode q.2.1 pc = .ok (.putfield 18, 3)) (h : T q X tgt (pc + 3) lv st (si μ b 2 x)) : T q X tgt pc lv (.int x :: .ref b :: st) μ := T_put (c := 4) rfl (by decide) rfl (by decide) (by rw [hq]; exact lfX4_18) (by decide) hn hfit hb hd h
theorem lfX4_21 : Cond.fieldLink RX4 21 "RankStairs$House" "holdLaw" "I" ∈ gdL := gd_mem 138 (by decide +kernel) (by decide +kernel)
theorem gIX4_21 {q : mMI} {X : mCx} {tgt : mR} {pc : Nat} {lv : List (Nat × Value)} {st : List Value} {μ : mMem} {b : Nat} (hq : q.1.cls = RX4) (hb : kd b = (4, 0)) (hd : decode q.2.1 pc = .ok (.getfield 21, 3)) (h : T q X tgt (pc + 3) lv (.int (μ.1 b 3) :: st) μ) : T q X tgt pc lv (.ref b :: st) μ := T_getI (c := 4) rfl (by decide) rfl (by decide) (by rw [hq]; exact lfX4_21) hb hd h
theorem pIX4_21 {q : mMI} {X : mCx} {tgt : mR} {pc : Nat} {lv : List (Nat × Value)} {st : List Value} {μ : mMem} {b : Nat} {x : Int32} (hq : q.1.cls = RX4) (hn : narrow .int (.int x) = .int x) (hfit : fits .int (.int x) = true) (hb : kd b = (4, 0)) (hd : decode q.2.1 pc = .ok (.putfield 21, 3)) (h : T q X tgt (pc + 3) lv st (si μ b 3 x)) : T q X tgt pc lv (.int x :: .ref b :: st) μ := T_put (c := 4) rfl (by decide) rfl (by decide) (by rw [hq]; exact lfX4_21) (by decide) hn hfit hb hd h
theorem lfX4_24 : Cond.fieldLink RX4 24 "RankStairs$House" "dayNumber" "I" ∈ gdL := gd_mem 141 (by decide +kernel) (by decide +kernel)
theorem gIX4_24 {q : mMI} {X : mCx} {tgt : mR} {pc : Nat} {lv : List (Nat × Value)} {st : List Value} {μ : mMem} {b : Nat} (hq : q.1.cls = RX4) (hb : kd b = (4, 0)) (hd : decode q.2.1 pc = .ok (.getfield 24, 3)) (h : T q X tgt (pc + 3) lv (.int (μ.1 b 4) :: st) μ) : T q X tgt pc lv (.ref b :: st) μ := T_getI (c := 4) rfl (by decide) rfl (by decide) (by rw [hq]; exact lfX4_24) hb hd h
theorem pIX4_24 {q : mMI} {X : mCx} {tgt : mR} {pc : Nat} {lv : List (Nat × Value)} {st : List Value} {μ : mMem} {b : Nat} {x : Int32} (hq : q.1.cls = RX4) (hn : narrow .int (.int x) = .int x) (hfit : fits .int (.int x) = true) (hb : kd b = (4, 0)) (hd : decode q.2.1 pc = .ok (.putfield 24, 3)) (h : T q X tgt (pc + 3) lv st (si μ b 4 x)) : T q X tgt pc lv (.int x :: .ref b :: st) μ := T_put (c := 4) rfl (by decide) rfl (by decide) (by rw [hq]; exact lfX4_24) (by decide) hn hfit hb hd h
def fX4_empty (r0 : Nat) (m : mMem) : mR := lt (si m r0 0 (0 : Int32)) (fun m1 => lt (si m1 r0 1 (0 : Int32)) (fun m2 => lt (si m2 r0 2 (1 : Int32)) (fun m3 => lt (si m3 r0 3 (30 : Int32)) (fun m4 => lt (si m4 r0 4 (0 : Int32)) (fun m5 => some (none, m5))))))
set_option maxRecDepth 100000 in
theorem bsX4_empty (l : Launch) (r0 : Nat) (m : mMem) (h0 : kd r0 = (4, 0)) : BS l qX4_empty [.ref r0] m (fX4_empty r0 m) := BS_of (by decide) (Nat.le_of_ble_eq_true rfl) (fun X _ => by
    show T qX4_empty X (fX4_empty r0 m) 0 [(0, .ref r0)] [] m
    unfold fX4_empty
    refine T_aload_n 0 rfl rfl dX4_empty_0 ?_
    refine T_iconst (0 : Int32) (by decide) dX4_empty_1 ?_
    refine pIX4_9 rfl rfl rfl h0 dX4_empty_2 ?_
    refine T_lt (fun m1 => ?_)
    refine T_aload_n 0 rfl rfl dX4_empty_5 ?_
    refine T_iconst (0 : Int32) (by decide) dX4_empty_6 ?_
    refine pIX4_15 rfl rfl rfl h0 dX4_empty_7 ?_
    refine T_lt (fun m2 => ?_)
    refine T_aload_n 0 rfl rfl dX4_empty_10 ?_
    refine T_iconst (1 : Int32) (by decide) dX4_empty_11 ?_
    refine pIX4_18 rfl rfl rfl h0 dX4_empty_12 ?_
    refine T_lt (fun m3 => ?_)
    refine T_aload_n 0 rfl rfl dX4_empty_15 ?_
    refine T_bipush (30 : Int32) (by decide) dX4_empty_16 ?_
    refine pIX4_21 rfl rfl rfl h0 dX4_empty_18 ?_
    refine T_lt (fun m4 => ?_)
    refine T_aload_n 0 rfl rfl dX4_empty_21 ?_
    refine T_iconst (0 : Int32) (by decide) dX4_empty_22 ?_
    refine pIX4_24 rfl rfl rfl h0 dX4_empty_23 ?_
    refine T_lt (fun m5 => ?_)
    exact T_vret rfl dX4_empty_26)
theorem lfX4_27 : Cond.fieldLink RX4 27 "RankStairs$House" "kinds" "[I" ∈ gdL := gd_mem 144 (by decide +kernel) (by decide +kernel)
theorem gRX4_27 {q : mMI} {X : mCx} {tgt : mR} {pc : Nat} {lv : List (Nat × Value)} {st : List Value} {μ : mMem} {b : Nat} (hq : q.1.cls = RX4) (hb : kd b = (4, 0)) (z : Nat) (hz : rf b 5 = z) (hd : decode q.2.1 pc = .ok (.getfield 27, 3)) (h : T q X tgt (pc + 3) lv (.ref z :: st) μ) : T q X tgt pc lv (.ref b :: st) μ := T_getR (c := 4) rfl (by decide) rfl (by decide) (by rw [hq]; exact lfX4_27) hb z hz hd h
theorem lfX4_31 : Cond.fieldLink RX4 31 "RankStairs$House" "years" "[I" ∈ gdL := gd_mem 147 (by decide +kernel) (by decide +kernel)
theorem gRX4_31 {q : mMI} {X : mCx} {tgt : mR} {pc : Nat} {lv : List (Nat × Value)} {st : List Value} {μ : mMem} {b : Nat} (hq : q.1.cls = RX4) (hb : kd b = (4, 0)) (z : Nat) (hz : rf b 6 = z) (hd : decode q.2.1 pc = .ok (.getfield 31, 3)) (h : T q X tgt (pc + 3) lv (.ref z :: st) μ) : T q X tgt pc lv (.ref b :: st) μ := T_getR (c := 4) rfl (by decide) rfl (by decide) (by rw [hq]; exact lfX4_31) hb z hz hd h
theorem lfX4_34 : Cond.fieldLink RX4 34 "RankStairs$House" "wears" "[I" ∈ gdL := gd_mem 149 (by decide +kernel) (by decide +kernel)
theorem gRX4_34 {q : mMI} {X : mCx} {tgt : mR} {pc : Nat} {lv : List (Nat × Value)} {st : List Value} {μ : mMem} {b : Nat} (hq : q.1.cls = RX4) (hb : kd b = (4, 0)) (z : Nat) (hz : rf b 7 = z) (hd : decode q.2.1 pc = .ok (.getfield 34, 3)) (h : T q X tgt (pc + 3) lv (.ref z :: st) μ) : T q X tgt pc lv (.ref b :: st) μ := T_getR (c := 4) rfl (by decide) rfl (by decide) (by rw [hq]; exact lfX4_34) hb z hz hd h
def fX4_addStep (r0 : Nat) (x1 : Int32) (x2 : Int32) (x3 : Int32) (m : mMem) : mR := if (10 : Int32) ≤ (m.1 r0 0) then some (none, m) else ga (m.1 r0 0) 10 (lt (si m (r0 + 1) ((m.1 r0 0)).toNatClampNeg x1) (fun m1 => ga (m1.1 r0 0) 10 (lt (si m1 (r0 + 2) ((m1.1 r0 0)).toNatClampNeg x2) (fun m2 => ga (m2.1 r0 0) 10 (lt (si m2 (r0 + 3) ((m2.1 r0 0)).toNatClampNeg x3) (fun m3 => lt (si m3 r0 0 ((m3.1 r0 0) + (1 : Int32))) (fun m4 => some (none, m4))))))))
set_option maxRecDepth 100000 in
theorem bsX4_addStep (l : Launch) (r0 : Nat) (x1 : Int32) (x2 : Int32) (x3 : Int32) (m : mMem) (h0 : kd r0 = (4, 0)) : BS l qX4_addStep [.ref r0, .int x1, .int x2, .int x3] m (fX4_addStep r0 x1 x2 x3 m) := BS_of (by decide) (Nat.le_of_ble_eq_true rfl) (fun X _ => by
    show T qX4_addStep X (fX4_addStep r0 x1 x2 x3 m) 0 [(0, .ref r0), (1, .int x1), (2, .int x2), (3, .int x3)] [] m
    unfold fX4_addStep
    refine T_aload_n 0 rfl rfl dX4_addStep_0 ?_
    refine gIX4_9 rfl h0 dX4_addStep_1 ?_
    refine T_bipush (10 : Int32) (by decide) dX4_addStep_4 ?_
    refine T_icmp_ge 49 dX4_addStep_6 (by decide) (fun _ => ?_) (fun _ => ?_)
    · exact T_vret rfl dX4_addStep_49
    · refine T_aload_n 0 rfl rfl dX4_addStep_9 ?_
      refine gRX4_27 rfl h0 (r0 + 1) (rfH5 h0) dX4_addStep_10 ?_
      refine T_aload_n 0 rfl rfl dX4_addStep_13 ?_
      refine gIX4_9 rfl h0 dX4_addStep_14 ?_
      refine T_iload_n 1 rfl rfl dX4_addStep_17 ?_
      refine T_iast _ rfl (kdH5 h0) dX4_addStep_18 ?_
      refine T_lt (fun m1 => ?_)
      refine T_aload_n 0 rfl rfl dX4_addStep_19 ?_
      refine gRX4_31 rfl h0 (r0 + 2) (rfH6 h0) dX4_addStep_20 ?_
      refine T_aload_n 0 rfl rfl dX4_addStep_23 ?_
      refine gIX4_9 rfl h0 dX4_addStep_24 ?_
      refine T_iload_n 2 rfl rfl dX4_addStep_27 ?_
      refine T_iast _ rfl (kdH6 h0) dX4_addStep_28 ?_
      refine T_lt (fun m2 => ?_)
      refine T_aload_n 0 rfl rfl dX4_addStep_29 ?_
      refine gRX4_34 rfl h0 (r0 + 3) (rfH7 h0) dX4_addStep_30 ?_
      refine T_aload_n 0 rfl rfl dX4_addStep_33 ?_
      refine gIX4_9 rfl h0 dX4_addStep_34 ?_
      refine T_iload_n 3 rfl rfl dX4_addStep_37 ?_
      refine T_iast _ rfl (kdH7 h0) dX4_addStep_38 ?_
      refine T_lt (fun m3 => ?_)
      refine T_aload_n 0 rfl rfl dX4_addStep_39 ?_
      refine T_dup rfl dX4_addStep_40 ?_
      refine gIX4_9 rfl h0 dX4_addStep_41 ?_
      refine T_iconst (1 : Int32) (by decide) dX4_addStep_44 ?_
      refine T_iadd dX4_addStep_45 ?_
      refine pIX4_9 rfl rfl rfl h0 dX4_addStep_46 ?_
      refine T_lt (fun m4 => ?_)
      exact T_vret rfl dX4_addStep_49)
theorem lfX4_37 : Cond.fieldLink RX4 37 "RankStairs$House" "legsOf" "[I" ∈ gdL := gd_mem 153 (by decide +kernel) (by decide +kernel)
theorem gRX4_37 {q : mMI} {X : mCx} {tgt : mR} {pc : Nat} {lv : List (Nat × Value)} {st : List Value} {μ : mMem} {b : Nat} (hq : q.1.cls = RX4) (hb : kd b = (4, 0)) (z : Nat) (hz : rf b 8 = z) (hd : decode q.2.1 pc = .ok (.getfield 37, 3)) (h : T q X tgt (pc + 3) lv (.ref z :: st) μ) : T q X tgt pc lv (.ref b :: st) μ := T_getR (c := 4) rfl (by decide) rfl (by decide) (by rw [hq]; exact lfX4_37) hb z hz hd h
theorem lfX4_40 : Cond.fieldLink RX4 40 "RankStairs$House" "rankOf" "[I" ∈ gdL := gd_mem 155 (by decide +kernel) (by decide +kernel)
theorem gRX4_40 {q : mMI} {X : mCx} {tgt : mR} {pc : Nat} {lv : List (Nat × Value)} {st : List Value} {μ : mMem} {b : Nat} (hq : q.1.cls = RX4) (hb : kd b = (4, 0)) (z : Nat) (hz : rf b 9 = z) (hd : decode q.2.1 pc = .ok (.getfield 40, 3)) (h : T q X tgt (pc + 3) lv (.ref z :: st) μ) : T q X tgt pc lv (.ref b :: st) μ := T_getR (c := 4) rfl (by decide) rfl (by decide) (by rw [hq]; exact lfX4_40) hb z hz hd h
theorem lfX4_43 : Cond.fieldLink RX4 43 "RankStairs$House" "loadOf" "[I" ∈ gdL := gd_mem 157 (by decide +kernel) (by decide +kernel)
theorem gRX4_43 {q : mMI} {X : mCx} {tgt : mR} {pc : Nat} {lv : List (Nat × Value)} {st : List Value} {μ : mMem} {b : Nat} (hq : q.1.cls = RX4) (hb : kd b = (4, 0)) (z : Nat) (hz : rf b 10 = z) (hd : decode q.2.1 pc = .ok (.getfield 43, 3)) (h : T q X tgt (pc + 3) lv (.ref z :: st) μ) : T q X tgt pc lv (.ref b :: st) μ := T_getR (c := 4) rfl (by decide) rfl (by decide) (by rw [hq]; exact lfX4_43) hb z hz hd h
theorem lfX4_46 : Cond.fieldLink RX4 46 "RankStairs$House" "floorOf" "[I" ∈ gdL := gd_mem 159 (by decide +kernel) (by decide +kernel)
theorem gRX4_46 {q : mMI} {X : mCx} {tgt : mR} {pc : Nat} {lv : List (Nat × Value)} {st : List Value} {μ : mMem} {b : Nat} (hq : q.1.cls = RX4) (hb : kd b = (4, 0)) (z : Nat) (hz : rf b 11 = z) (hd : decode q.2.1 pc = .ok (.getfield 46, 3)) (h : T q X tgt (pc + 3) lv (.ref z :: st) μ) : T q X tgt pc lv (.ref b :: st) μ := T_getR (c := 4) rfl (by decide) rfl (by decide) (by rw [hq]; exact lfX4_46) hb z hz hd h
def fX4_addLodger (r0 : Nat) (x1 : Int32) (x2 : Int32) (x3 : Int32) (x4 : Int32) (m : mMem) : mR := if (4 : Int32) ≤ (m.1 r0 1) then some (none, m) else ga (m.1 r0 1) 4 (lt (si m (r0 + 4) ((m.1 r0 1)).toNatClampNeg x1) (fun m1 => ga (m1.1 r0 1) 4 (lt (si m1 (r0 + 5) ((m1.1 r0 1)).toNatClampNeg x2) (fun m2 => ga (m2.1 r0 1) 4 (lt (si m2 (r0 + 6) ((m2.1 r0 1)).toNatClampNeg x3) (fun m3 => ga (m3.1 r0 1) 4 (lt (si m3 (r0 + 7) ((m3.1 r0 1)).toNatClampNeg x4) (fun m4 => lt (si m4 r0 1 ((m4.1 r0 1) + (1 : Int32))) (fun m5 => some (none, m5))))))))))
set_option maxRecDepth 100000 in
theorem bsX4_addLodger (l : Launch) (r0 : Nat) (x1 : Int32) (x2 : Int32) (x3 : Int32) (x4 : Int32) (m : mMem) (h0 : kd r0 = (4, 0)) : BS l qX4_addLodger [.ref r0, .int x1, .int x2, .int x3, .int x4] m (fX4_addLodger r0 x1 x2 x3 x4 m) := BS_of (by decide) (Nat.le_of_ble_eq_true rfl) (fun X _ => by
    show T qX4_addLodger X (fX4_addLodger r0 x1 x2 x3 x4 m) 0 [(0, .ref r0), (1, .int x1), (2, .int x2), (3, .int x3), (4, .int x4)] [] m
    unfold fX4_addLodger
    refine T_aload_n 0 rfl rfl dX4_addLodger_0 ?_
    refine gIX4_15 rfl h0 dX4_addLodger_1 ?_
    refine T_iconst (4 : Int32) (by decide) dX4_addLodger_4 ?_
    refine T_icmp_ge 59 dX4_addLodger_5 (by decide) (fun _ => ?_) (fun _ => ?_)
    · exact T_vret rfl dX4_addLodger_59
    · refine T_aload_n 0 rfl rfl dX4_addLodger_8 ?_
      refine gRX4_37 rfl h0 (r0 + 4) (rfH8 h0) dX4_addLodger_9 ?_
      refine T_aload_n 0 rfl rfl dX4_addLodger_12 ?_
      refine gIX4_15 rfl h0 dX4_addLodger_13 ?_
      refine T_iload_n 1 rfl rfl dX4_addLodger_16 ?_
      refine T_iast _ rfl (kdH8 h0) dX4_addLodger_17 ?_
      refine T_lt (fun m1 => ?_)
      refine T_aload_n 0 rfl rfl dX4_addLodger_18 ?_
      refine gRX4_40 rfl h0 (r0 + 5) (rfH9 h0) dX4_addLodger_19 ?_
      refine T_aload_n 0 rfl rfl dX4_addLodger_22 ?_
      refine gIX4_15 rfl h0 dX4_addLodger_23 ?_
      refine T_iload_n 2 rfl rfl dX4_addLodger_26 ?_
      refine T_iast _ rfl (kdH9 h0) dX4_addLodger_27 ?_
      refine T_lt (fun m2 => ?_)
      refine T_aload_n 0 rfl rfl dX4_addLodger_28 ?_
      refine gRX4_43 rfl h0 (r0 + 6) (rfH10 h0) dX4_addLodger_29 ?_
      refine T_aload_n 0 rfl rfl dX4_addLodger_32 ?_
      refine gIX4_15 rfl h0 dX4_addLodger_33 ?_
      refine T_iload_n 3 rfl rfl dX4_addLodger_36 ?_
      refine T_iast _ rfl (kdH10 h0) dX4_addLodger_37 ?_
      refine T_lt (fun m3 => ?_)
      refine T_aload_n 0 rfl rfl dX4_addLodger_38 ?_
      refine gRX4_46 rfl h0 (r0 + 7) (rfH11 h0) dX4_addLodger_39 ?_
      refine T_aload_n 0 rfl rfl dX4_addLodger_42 ?_
      refine gIX4_15 rfl h0 dX4_addLodger_43 ?_
      refine T_iload 4 rfl dX4_addLodger_46 ?_
      refine T_iast _ rfl (kdH11 h0) dX4_addLodger_48 ?_
      refine T_lt (fun m4 => ?_)
      refine T_aload_n 0 rfl rfl dX4_addLodger_49 ?_
      refine T_dup rfl dX4_addLodger_50 ?_
      refine gIX4_15 rfl h0 dX4_addLodger_51 ?_
      refine T_iconst (1 : Int32) (by decide) dX4_addLodger_54 ?_
      refine T_iadd dX4_addLodger_55 ?_
      refine pIX4_15 rfl rfl rfl h0 dX4_addLodger_56 ?_
      refine T_lt (fun m5 => ?_)
      exact T_vret rfl dX4_addLodger_59)
def fX4_renew (r0 : Nat) (x1 : Int32) (m : mMem) : mR := ga x1 10 (lt (si m (r0 + 2) (x1).toNatClampNeg (0 : Int32)) (fun m1 => ga x1 10 (lt (si m1 (r0 + 3) (x1).toNatClampNeg (0 : Int32)) (fun m2 => some (none, m2)))))
set_option maxRecDepth 100000 in
theorem bsX4_renew (l : Launch) (r0 : Nat) (x1 : Int32) (m : mMem) (h0 : kd r0 = (4, 0)) : BS l qX4_renew [.ref r0, .int x1] m (fX4_renew r0 x1 m) := BS_of (by decide) (Nat.le_of_ble_eq_true rfl) (fun X _ => by
    show T qX4_renew X (fX4_renew r0 x1 m) 0 [(0, .ref r0), (1, .int x1)] [] m
    unfold fX4_renew
    refine T_aload_n 0 rfl rfl dX4_renew_0 ?_
    refine gRX4_31 rfl h0 (r0 + 2) (rfH6 h0) dX4_renew_1 ?_
    refine T_iload_n 1 rfl rfl dX4_renew_4 ?_
    refine T_iconst (0 : Int32) (by decide) dX4_renew_5 ?_
    refine T_iast _ rfl (kdH6 h0) dX4_renew_6 ?_
    refine T_lt (fun m1 => ?_)
    refine T_aload_n 0 rfl rfl dX4_renew_7 ?_
    refine gRX4_34 rfl h0 (r0 + 3) (rfH7 h0) dX4_renew_8 ?_
    refine T_iload_n 1 rfl rfl dX4_renew_11 ?_
    refine T_iconst (0 : Int32) (by decide) dX4_renew_12 ?_
    refine T_iast _ rfl (kdH7 h0) dX4_renew_13 ?_
    refine T_lt (fun m2 => ?_)
    exact T_vret rfl dX4_renew_14)
def fX4_isBroken (r0 : Nat) (x1 : Int32) (m : mMem) : mR := ga x1 10 (if (m.1 (r0 + 3) (x1).toNatClampNeg) < (m.1 r0 3) then some (some (.int (0 : Int32)), m) else some (some (.int (1 : Int32)), m))
set_option maxRecDepth 100000 in
theorem bsX4_isBroken (l : Launch) (r0 : Nat) (x1 : Int32) (m : mMem) (h0 : kd r0 = (4, 0)) : BS l qX4_isBroken [.ref r0, .int x1] m (fX4_isBroken r0 x1 m) := BS_of (by decide) (Nat.le_of_ble_eq_true rfl) (fun X _ => by
    show T qX4_isBroken X (fX4_isBroken r0 x1 m) 0 [(0, .ref r0), (1, .int x1)] [] m
    unfold fX4_isBroken
    refine T_aload_n 0 rfl rfl dX4_isBroken_0 ?_
    refine gRX4_34 rfl h0 (r0 + 3) (rfH7 h0) dX4_isBroken_1 ?_
    refine T_iload_n 1 rfl rfl dX4_isBroken_4 ?_
    refine T_iald (kdH7 h0) dX4_isBroken_5 ?_
    refine T_aload_n 0 rfl rfl dX4_isBroken_6 ?_
    refine gIX4_21 rfl h0 dX4_isBroken_7 ?_
    refine T_icmp_lt 17 dX4_isBroken_10 (by decide) (fun _ => ?_) (fun _ => ?_)
    · refine T_iconst (0 : Int32) (by decide) dX4_isBroken_17 ?_
      exact T_zretc (by decide) rfl dX4_isBroken_18
    · refine T_iconst (1 : Int32) (by decide) dX4_isBroken_13 ?_
      refine T_goto 18 dX4_isBroken_14 (by decide) ?_
      exact T_zretc (by decide) rfl dX4_isBroken_18)
def bX4_allWear_4 (r0 : Nat) (k4 : Int32 × Int32 × mMem → mR) (s : Int32 × Int32 × mMem) : mR := match s with
  | (x1, x2, m) => if (m.1 r0 0) ≤ x2 then some (some (.int x1), m) else ga x2 10 (li (x1 + (m.1 (r0 + 3) (x2).toNatClampNeg)) (fun y1 => li (x2 + (1 : Int32)) (fun y2 => k4 (y1, y2, m))))
set_option maxRecDepth 100000 in
theorem tX4_allWear_4 (X : mCx) (r0 : Nat) (h0 : kd r0 = (4, 0)) : ∀ (n : Nat) (s : Int32 × Int32 × mMem), T qX4_allWear X (lp (bX4_allWear_4 r0) n s) 4 [(0, .ref r0), (1, .int s.1), (2, .int s.2.1)] [] s.2.2 :=
  T_lp (body := bX4_allWear_4 r0) (lv := fun s => [(0, .ref r0), (1, .int s.1), (2, .int s.2.1)]) (st := fun _ => []) (μ := fun s : Int32 × Int32 × mMem => s.2.2) (fun k4 hk4 s => by
    obtain ⟨x1, x2, m⟩ := s
    show T qX4_allWear X (bX4_allWear_4 r0 k4 (x1, x2, m)) 4 [(0, .ref r0), (1, .int x1), (2, .int x2)] [] m
    unfold bX4_allWear_4
    dsimp only
    refine T_iload_n 2 rfl rfl dX4_allWear_4 ?_
    refine T_aload_n 0 rfl rfl dX4_allWear_5 ?_
    refine gIX4_9 rfl h0 dX4_allWear_6 ?_
    refine T_icmp_ge 27 dX4_allWear_9 (by decide) (fun _ => ?_) (fun _ => ?_)
    · refine T_iload_n 1 rfl rfl dX4_allWear_27 ?_
      exact T_iret rfl dX4_allWear_28
    · refine T_iload_n 1 rfl rfl dX4_allWear_12 ?_
      refine T_aload_n 0 rfl rfl dX4_allWear_13 ?_
      refine gRX4_34 rfl h0 (r0 + 3) (rfH7 h0) dX4_allWear_14 ?_
      refine T_iload_n 2 rfl rfl dX4_allWear_17 ?_
      refine T_iald (kdH7 h0) dX4_allWear_18 ?_
      refine T_iadd dX4_allWear_19 ?_
      refine T_istore_n (lv' := [(1, .int (x1 + (m.1 (r0 + 3) (x2).toNatClampNeg))), (0, .ref r0), (2, .int x2)]) rfl (Nat.le_of_ble_eq_true rfl) rfl dX4_allWear_20 ?_
      refine T_li (fun y1 => ?_)
      refine T_iinc (lv' := [(2, .int (x2 + (1 : Int32))), (1, .int y1), (0, .ref r0)]) 2 (1 : Int32) rfl (by decide) (Nat.le_of_ble_eq_true rfl) rfl dX4_allWear_21 ?_
      refine T_li (fun y2 => ?_)
      refine T_goto 4 dX4_allWear_24 (by decide) ?_
      exact T_sub [2, 1, 0] rfl (hk4 (y1, y2, m)))
def fX4_allWear (r0 : Nat) (m : mMem) : mR := lp (bX4_allWear_4 r0) FU ((0 : Int32), (0 : Int32), m)
set_option maxRecDepth 100000 in
theorem bsX4_allWear (l : Launch) (r0 : Nat) (m : mMem) (h0 : kd r0 = (4, 0)) : BS l qX4_allWear [.ref r0] m (fX4_allWear r0 m) := BS_of (by decide) (Nat.le_of_ble_eq_true rfl) (fun X _ => by
    show T qX4_allWear X (fX4_allWear r0 m) 0 [(0, .ref r0)] [] m
    unfold fX4_allWear
    refine T_iconst (0 : Int32) (by decide) dX4_allWear_0 ?_
    refine T_istore_n (lv' := [(1, .int (0 : Int32)), (0, .ref r0)]) rfl (Nat.le_of_ble_eq_true rfl) rfl dX4_allWear_1 ?_
    refine T_iconst (0 : Int32) (by decide) dX4_allWear_2 ?_
    refine T_istore_n (lv' := [(2, .int (0 : Int32)), (1, .int (0 : Int32)), (0, .ref r0)]) rfl (Nat.le_of_ble_eq_true rfl) rfl dX4_allWear_3 ?_
    exact T_sub [2, 1, 0] rfl (tX4_allWear_4 X r0 h0 FU ((0 : Int32), (0 : Int32), m)))
def fX4_isHeavy (r0 : Nat) (x1 : Int32) (m : mMem) : mR := ga x1 4 (if (m.1 (r0 + 6) (x1).toNatClampNeg) < (5 : Int32) then some (some (.int (0 : Int32)), m) else some (some (.int (1 : Int32)), m))
set_option maxRecDepth 100000 in
theorem bsX4_isHeavy (l : Launch) (r0 : Nat) (x1 : Int32) (m : mMem) (h0 : kd r0 = (4, 0)) : BS l qX4_isHeavy [.ref r0, .int x1] m (fX4_isHeavy r0 x1 m) := BS_of (by decide) (Nat.le_of_ble_eq_true rfl) (fun X _ => by
    show T qX4_isHeavy X (fX4_isHeavy r0 x1 m) 0 [(0, .ref r0), (1, .int x1)] [] m
    unfold fX4_isHeavy
    refine T_aload_n 0 rfl rfl dX4_isHeavy_0 ?_
    refine gRX4_43 rfl h0 (r0 + 6) (rfH10 h0) dX4_isHeavy_1 ?_
    refine T_iload_n 1 rfl rfl dX4_isHeavy_4 ?_
    refine T_iald (kdH10 h0) dX4_isHeavy_5 ?_
    refine T_iconst (5 : Int32) (by decide) dX4_isHeavy_6 ?_
    refine T_icmp_lt 14 dX4_isHeavy_7 (by decide) (fun _ => ?_) (fun _ => ?_)
    · refine T_iconst (0 : Int32) (by decide) dX4_isHeavy_14 ?_
      exact T_zretc (by decide) rfl dX4_isHeavy_15
    · refine T_iconst (1 : Int32) (by decide) dX4_isHeavy_10 ?_
      refine T_goto 15 dX4_isHeavy_11 (by decide) ?_
      exact T_zretc (by decide) rfl dX4_isHeavy_15)
theorem lmX4_49 : Cond.methodLink RX4 49 arraycopyName ∈ gdL := gd_mem 479 (by decide +kernel) (by decide +kernel)
def fX4_copyFrom (r0 : Nat) (r1 : Nat) (m : mMem) : mR := lt (si m r0 0 (m.1 r1 0)) (fun m1 => lt (si m1 r0 1 (m1.1 r1 1)) (fun m2 => lt (si m2 r0 2 (m2.1 r1 2)) (fun m3 => lt (si m3 r0 3 (m3.1 r1 3)) (fun m4 => lt (si m4 r0 4 (m4.1 r1 4)) (fun m5 => lt (ci m5 (r1 + 1) (r0 + 1) 0 0 10) (fun m6 => lt (ci m6 (r1 + 2) (r0 + 2) 0 0 10) (fun m7 => lt (ci m7 (r1 + 3) (r0 + 3) 0 0 10) (fun m8 => lt (ci m8 (r1 + 4) (r0 + 4) 0 0 4) (fun m9 => lt (ci m9 (r1 + 5) (r0 + 5) 0 0 4) (fun m10 => lt (ci m10 (r1 + 6) (r0 + 6) 0 0 4) (fun m11 => lt (ci m11 (r1 + 7) (r0 + 7) 0 0 4) (fun m12 => some (none, m12)))))))))))))
set_option maxRecDepth 100000 in
theorem bsX4_copyFrom (l : Launch) (r0 : Nat) (r1 : Nat) (m : mMem) (h0 : kd r0 = (4, 0)) (h1 : kd r1 = (4, 0)) : BS l qX4_copyFrom [.ref r0, .ref r1] m (fX4_copyFrom r0 r1 m) := BS_of (by decide) (Nat.le_of_ble_eq_true rfl) (fun X _ => by
    show T qX4_copyFrom X (fX4_copyFrom r0 r1 m) 0 [(0, .ref r0), (1, .ref r1)] [] m
    unfold fX4_copyFrom
    refine T_aload_n 0 rfl rfl dX4_copyFrom_0 ?_
    refine T_aload_n 1 rfl rfl dX4_copyFrom_1 ?_
    refine gIX4_9 rfl h1 dX4_copyFrom_2 ?_
    refine pIX4_9 rfl rfl rfl h0 dX4_copyFrom_5 ?_
    refine T_lt (fun m1 => ?_)
    refine T_aload_n 0 rfl rfl dX4_copyFrom_8 ?_
    refine T_aload_n 1 rfl rfl dX4_copyFrom_9 ?_
    refine gIX4_15 rfl h1 dX4_copyFrom_10 ?_
    refine pIX4_15 rfl rfl rfl h0 dX4_copyFrom_13 ?_
    refine T_lt (fun m2 => ?_)
    refine T_aload_n 0 rfl rfl dX4_copyFrom_16 ?_
    refine T_aload_n 1 rfl rfl dX4_copyFrom_17 ?_
    refine gIX4_18 rfl h1 dX4_copyFrom_18 ?_
    refine pIX4_18 rfl rfl rfl h0 dX4_copyFrom_21 ?_
    refine T_lt (fun m3 => ?_)
    refine T_aload_n 0 rfl rfl dX4_copyFrom_24 ?_
    refine T_aload_n 1 rfl rfl dX4_copyFrom_25 ?_
    refine gIX4_21 rfl h1 dX4_copyFrom_26 ?_
    refine pIX4_21 rfl rfl rfl h0 dX4_copyFrom_29 ?_
    refine T_lt (fun m4 => ?_)
    refine T_aload_n 0 rfl rfl dX4_copyFrom_32 ?_
    refine T_aload_n 1 rfl rfl dX4_copyFrom_33 ?_
    refine gIX4_24 rfl h1 dX4_copyFrom_34 ?_
    refine pIX4_24 rfl rfl rfl h0 dX4_copyFrom_37 ?_
    refine T_lt (fun m5 => ?_)
    refine T_aload_n 1 rfl rfl dX4_copyFrom_40 ?_
    refine gRX4_27 rfl h1 (r1 + 1) (rfH5 h1) dX4_copyFrom_41 ?_
    refine T_iconst (0 : Int32) (by decide) dX4_copyFrom_44 ?_
    refine T_aload_n 0 rfl rfl dX4_copyFrom_45 ?_
    refine gRX4_27 rfl h0 (r0 + 1) (rfH5 h0) dX4_copyFrom_46 ?_
    refine T_iconst (0 : Int32) (by decide) dX4_copyFrom_49 ?_
    refine T_bipush (10 : Int32) (by decide) dX4_copyFrom_50 ?_
    refine T_cpyI (N := 10) (by decide) (by decide) (by decide) (by decide) lmX4_49 (by decide) (Nat.le_of_ble_eq_true rfl) (kdH5 h1) (kdH5 h0) dX4_copyFrom_52 ?_
    refine T_lt (fun m6 => ?_)
    refine T_aload_n 1 rfl rfl dX4_copyFrom_55 ?_
    refine gRX4_31 rfl h1 (r1 + 2) (rfH6 h1) dX4_copyFrom_56 ?_
    refine T_iconst (0 : Int32) (by decide) dX4_copyFrom_59 ?_
    refine T_aload_n 0 rfl rfl dX4_copyFrom_60 ?_
    refine gRX4_31 rfl h0 (r0 + 2) (rfH6 h0) dX4_copyFrom_61 ?_
    refine T_iconst (0 : Int32) (by decide) dX4_copyFrom_64 ?_
    refine T_bipush (10 : Int32) (by decide) dX4_copyFrom_65 ?_
    refine T_cpyI (N := 10) (by decide) (by decide) (by decide) (by decide) lmX4_49 (by decide) (Nat.le_of_ble_eq_true rfl) (kdH6 h1) (kdH6 h0) dX4_copyFrom_67 ?_
    refine T_lt (fun m7 => ?_)
    refine T_aload_n 1 rfl rfl dX4_copyFrom_70 ?_
    refine gRX4_34 rfl h1 (r1 + 3) (rfH7 h1) dX4_copyFrom_71 ?_
    refine T_iconst (0 : Int32) (by decide) dX4_copyFrom_74 ?_
    refine T_aload_n 0 rfl rfl dX4_copyFrom_75 ?_
    refine gRX4_34 rfl h0 (r0 + 3) (rfH7 h0) dX4_copyFrom_76 ?_
    refine T_iconst (0 : Int32) (by decide) dX4_copyFrom_79 ?_
    refine T_bipush (10 : Int32) (by decide) dX4_copyFrom_80 ?_
    refine T_cpyI (N := 10) (by decide) (by decide) (by decide) (by decide) lmX4_49 (by decide) (Nat.le_of_ble_eq_true rfl) (kdH7 h1) (kdH7 h0) dX4_copyFrom_82 ?_
    refine T_lt (fun m8 => ?_)
    refine T_aload_n 1 rfl rfl dX4_copyFrom_85 ?_
    refine gRX4_37 rfl h1 (r1 + 4) (rfH8 h1) dX4_copyFrom_86 ?_
    refine T_iconst (0 : Int32) (by decide) dX4_copyFrom_89 ?_
    refine T_aload_n 0 rfl rfl dX4_copyFrom_90 ?_
    refine gRX4_37 rfl h0 (r0 + 4) (rfH8 h0) dX4_copyFrom_91 ?_
    refine T_iconst (0 : Int32) (by decide) dX4_copyFrom_94 ?_
    refine T_iconst (4 : Int32) (by decide) dX4_copyFrom_95 ?_
    refine T_cpyI (N := 4) (by decide) (by decide) (by decide) (by decide) lmX4_49 (by decide) (Nat.le_of_ble_eq_true rfl) (kdH8 h1) (kdH8 h0) dX4_copyFrom_96 ?_
    refine T_lt (fun m9 => ?_)
    refine T_aload_n 1 rfl rfl dX4_copyFrom_99 ?_
    refine gRX4_40 rfl h1 (r1 + 5) (rfH9 h1) dX4_copyFrom_100 ?_
    refine T_iconst (0 : Int32) (by decide) dX4_copyFrom_103 ?_
    refine T_aload_n 0 rfl rfl dX4_copyFrom_104 ?_
    refine gRX4_40 rfl h0 (r0 + 5) (rfH9 h0) dX4_copyFrom_105 ?_
    refine T_iconst (0 : Int32) (by decide) dX4_copyFrom_108 ?_
    refine T_iconst (4 : Int32) (by decide) dX4_copyFrom_109 ?_
    refine T_cpyI (N := 4) (by decide) (by decide) (by decide) (by decide) lmX4_49 (by decide) (Nat.le_of_ble_eq_true rfl) (kdH9 h1) (kdH9 h0) dX4_copyFrom_110 ?_
    refine T_lt (fun m10 => ?_)
    refine T_aload_n 1 rfl rfl dX4_copyFrom_113 ?_
    refine gRX4_43 rfl h1 (r1 + 6) (rfH10 h1) dX4_copyFrom_114 ?_
    refine T_iconst (0 : Int32) (by decide) dX4_copyFrom_117 ?_
    refine T_aload_n 0 rfl rfl dX4_copyFrom_118 ?_
    refine gRX4_43 rfl h0 (r0 + 6) (rfH10 h0) dX4_copyFrom_119 ?_
    refine T_iconst (0 : Int32) (by decide) dX4_copyFrom_122 ?_
    refine T_iconst (4 : Int32) (by decide) dX4_copyFrom_123 ?_
    refine T_cpyI (N := 4) (by decide) (by decide) (by decide) (by decide) lmX4_49 (by decide) (Nat.le_of_ble_eq_true rfl) (kdH10 h1) (kdH10 h0) dX4_copyFrom_124 ?_
    refine T_lt (fun m11 => ?_)
    refine T_aload_n 1 rfl rfl dX4_copyFrom_127 ?_
    refine gRX4_46 rfl h1 (r1 + 7) (rfH11 h1) dX4_copyFrom_128 ?_
    refine T_iconst (0 : Int32) (by decide) dX4_copyFrom_131 ?_
    refine T_aload_n 0 rfl rfl dX4_copyFrom_132 ?_
    refine gRX4_46 rfl h0 (r0 + 7) (rfH11 h0) dX4_copyFrom_133 ?_
    refine T_iconst (0 : Int32) (by decide) dX4_copyFrom_136 ?_
    refine T_iconst (4 : Int32) (by decide) dX4_copyFrom_137 ?_
    refine T_cpyI (N := 4) (by decide) (by decide) (by decide) (by decide) lmX4_49 (by decide) (Nat.le_of_ble_eq_true rfl) (kdH11 h1) (kdH11 h0) dX4_copyFrom_138 ?_
    refine T_lt (fun m12 => ?_)
    exact T_vret rfl dX4_copyFrom_141)
theorem lmX4_55 : Cond.methodLink RX4 55 Lib.Math.min.name ∈ gdL := gd_mem 506 (by decide +kernel) (by decide +kernel)
def fX4_rankOfStep (r0 : Nat) (x1 : Int32) (m : mMem) : mR := ga x1 10 (g0i (10 : Int32) (li (imin ((m.1 (r0 + 2) (x1).toNatClampNeg) / (10 : Int32)) (3 : Int32)) (fun y1 => ga x1 10 (if (m.1 (r0 + 1) (x1).toNatClampNeg) = (0 : Int32) then some (some (.int y1), m) else if (m.1 (r0 + 1) (x1).toNatClampNeg) = (2 : Int32) then some (some (.int (0 : Int32)), m) else some (some (.int (imin (y1 + (1 : Int32)) (3 : Int32))), m)))))
set_option maxRecDepth 100000 in
theorem bsX4_rankOfStep (l : Launch) (r0 : Nat) (x1 : Int32) (m : mMem) (h0 : kd r0 = (4, 0)) : BS l qX4_rankOfStep [.ref r0, .int x1] m (fX4_rankOfStep r0 x1 m) := BS_of (by decide) (Nat.le_of_ble_eq_true rfl) (fun X _ => by
    show T qX4_rankOfStep X (fX4_rankOfStep r0 x1 m) 0 [(0, .ref r0), (1, .int x1)] [] m
    unfold fX4_rankOfStep
    refine T_aload_n 0 rfl rfl dX4_rankOfStep_0 ?_
    refine gRX4_31 rfl h0 (r0 + 2) (rfH6 h0) dX4_rankOfStep_1 ?_
    refine T_iload_n 1 rfl rfl dX4_rankOfStep_4 ?_
    refine T_iald (kdH6 h0) dX4_rankOfStep_5 ?_
    refine T_bipush (10 : Int32) (by decide) dX4_rankOfStep_6 ?_
    refine T_idiv (x := (m.1 (r0 + 2) (x1).toNatClampNeg)) (y := (10 : Int32)) dX4_rankOfStep_8 ?_
    refine T_iconst (3 : Int32) (by decide) dX4_rankOfStep_9 ?_
    refine T_mmin lmX4_55 (by decide) (Nat.le_of_ble_eq_true rfl) dX4_rankOfStep_10 ?_
    refine T_istore_n (lv' := [(2, .int (imin ((m.1 (r0 + 2) (x1).toNatClampNeg) / (10 : Int32)) (3 : Int32))), (0, .ref r0), (1, .int x1)]) rfl (Nat.le_of_ble_eq_true rfl) rfl dX4_rankOfStep_13 ?_
    refine T_li (fun y1 => ?_)
    refine T_aload_n 1 rfl rfl dX4_rankOfStep_14 ?_
    refine gRX4_27 rfl h0 (r0 + 1) (rfH5 h0) dX4_rankOfStep_15 ?_
    refine T_iload_n 2 rfl rfl dX4_rankOfStep_18 ?_
    refine T_iald (kdH5 h0) dX4_rankOfStep_19 ?_
    refine T_ite (fun hc => ?_) (fun hn0 => ?_)
    · refine T_lsw (off := 28) 48 dX4_rankOfStep_20 (by decide) (by rw [hc]; decide) (by decide) ?_
      refine T_iload_n 0 rfl rfl dX4_rankOfStep_48 ?_
      exact T_iret rfl dX4_rankOfStep_49
    · refine T_ite (fun hc => ?_) (fun hn1 => ?_)
      · refine T_lsw (off := 30) 50 dX4_rankOfStep_20 (by decide) (by rw [hc]; decide) (by decide) ?_
        refine T_iconst (0 : Int32) (by decide) dX4_rankOfStep_50 ?_
        exact T_iret rfl dX4_rankOfStep_51
      · refine T_lsw (off := 32) 52 dX4_rankOfStep_20 (by decide) (by have e0 := neT (k := 0) hn0 (by decide); have e1 := neT (k := 2) hn1 (by decide); simp [Op.lookupswitch.offset, e0, e0.symm, e1, e1.symm]) (by decide) ?_
        refine T_iload_n 0 rfl rfl dX4_rankOfStep_52 ?_
        refine T_iconst (1 : Int32) (by decide) dX4_rankOfStep_53 ?_
        refine T_iadd dX4_rankOfStep_54 ?_
        refine T_iconst (3 : Int32) (by decide) dX4_rankOfStep_55 ?_
        refine T_mmin lmX4_55 (by decide) (Nat.le_of_ble_eq_true rfl) dX4_rankOfStep_56 ?_
        exact T_iret rfl dX4_rankOfStep_59)
theorem lmX4_61 : Cond.methodLink RX4 61 yX4_isBroken ∈ gdL := gd_mem 536 (by decide +kernel) (by decide +kernel)
def bX4_brokenBits_4 (r0 : Nat) (k4 : Int32 × Int32 × mMem → mR) (s : Int32 × Int32 × mMem) : mR := match s with
  | (x1, x2, m) => if (m.1 r0 0) ≤ x2 then some (some (.int x1), m) else bI (fX4_isBroken r0 x2 m) (fun z2 m1 => if z2 = (0 : Int32) then li (x2 + (1 : Int32)) (fun y4 => k4 (x1, y4, m1)) else li (x1 ||| ((1 : Int32) <<< (x2 &&& 31))) (fun y5 => li (x2 + (1 : Int32)) (fun y6 => k4 (y5, y6, m1))))
set_option maxRecDepth 100000 in
theorem tX4_brokenBits_4 (X : mCx) (r0 : Nat) (h0 : kd r0 = (4, 0)) : ∀ (n : Nat) (s : Int32 × Int32 × mMem), T qX4_brokenBits X (lp (bX4_brokenBits_4 r0) n s) 4 [(0, .ref r0), (1, .int s.1), (2, .int s.2.1)] [] s.2.2 :=
  T_lp (body := bX4_brokenBits_4 r0) (lv := fun s => [(0, .ref r0), (1, .int s.1), (2, .int s.2.1)]) (st := fun _ => []) (μ := fun s : Int32 × Int32 × mMem => s.2.2) (fun k4 hk4 s => by
    obtain ⟨x1, x2, m⟩ := s
    show T qX4_brokenBits X (bX4_brokenBits_4 r0 k4 (x1, x2, m)) 4 [(0, .ref r0), (1, .int x1), (2, .int x2)] [] m
    unfold bX4_brokenBits_4
    dsimp only
    refine T_iload_n 2 rfl rfl dX4_brokenBits_4 ?_
    refine T_aload_n 0 rfl rfl dX4_brokenBits_5 ?_
    refine gIX4_9 rfl h0 dX4_brokenBits_6 ?_
    refine T_icmp_ge 32 dX4_brokenBits_9 (by decide) (fun _ => ?_) (fun _ => ?_)
    · refine T_iload_n 1 rfl rfl dX4_brokenBits_32 ?_
      exact T_iret rfl dX4_brokenBits_33
    · refine T_aload_n 0 rfl rfl dX4_brokenBits_12 ?_
      refine T_iload_n 2 rfl rfl dX4_brokenBits_13 ?_
      refine T_cVI (c := 4) [.int x2] [] mkX4_isBroken lmX4_61 rfl rfl (by decide) (Nat.le_of_ble_eq_true rfl) h0 dX4_brokenBits_14 (bsX4_isBroken _ r0 x2 m h0) (fun z2 m1 => ?_)
      refine T_if_eq 26 dX4_brokenBits_17 (by decide) (fun _ => ?_) (fun _ => ?_)
      · refine T_iinc (lv' := [(2, .int (x2 + (1 : Int32))), (0, .ref r0), (1, .int x1)]) 2 (1 : Int32) rfl (by decide) (Nat.le_of_ble_eq_true rfl) rfl dX4_brokenBits_26 ?_
        refine T_li (fun y4 => ?_)
        refine T_goto 4 dX4_brokenBits_29 (by decide) ?_
        exact T_sub [1, 2, 0] rfl (hk4 (x1, y4, m1))
      · refine T_iload_n 1 rfl rfl dX4_brokenBits_20 ?_
        refine T_iconst (1 : Int32) (by decide) dX4_brokenBits_21 ?_
        refine T_iload_n 2 rfl rfl dX4_brokenBits_22 ?_
        refine T_ishl dX4_brokenBits_23 ?_
        refine T_ior dX4_brokenBits_24 ?_
        refine T_istore_n (lv' := [(1, .int (x1 ||| ((1 : Int32) <<< (x2 &&& 31)))), (0, .ref r0), (2, .int x2)]) rfl (Nat.le_of_ble_eq_true rfl) rfl dX4_brokenBits_25 ?_
        refine T_li (fun y5 => ?_)
        refine T_iinc (lv' := [(2, .int (x2 + (1 : Int32))), (1, .int y5), (0, .ref r0)]) 2 (1 : Int32) rfl (by decide) (Nat.le_of_ble_eq_true rfl) rfl dX4_brokenBits_26 ?_
        refine T_li (fun y6 => ?_)
        refine T_goto 4 dX4_brokenBits_29 (by decide) ?_
        exact T_sub [2, 1, 0] rfl (hk4 (y5, y6, m1)))
def fX4_brokenBits (r0 : Nat) (m : mMem) : mR := lp (bX4_brokenBits_4 r0) FU ((0 : Int32), (0 : Int32), m)
set_option maxRecDepth 100000 in
theorem bsX4_brokenBits (l : Launch) (r0 : Nat) (m : mMem) (h0 : kd r0 = (4, 0)) : BS l qX4_brokenBits [.ref r0] m (fX4_brokenBits r0 m) := BS_of (by decide) (Nat.le_of_ble_eq_true rfl) (fun X _ => by
    show T qX4_brokenBits X (fX4_brokenBits r0 m) 0 [(0, .ref r0)] [] m
    unfold fX4_brokenBits
    refine T_iconst (0 : Int32) (by decide) dX4_brokenBits_0 ?_
    refine T_istore_n (lv' := [(1, .int (0 : Int32)), (0, .ref r0)]) rfl (Nat.le_of_ble_eq_true rfl) rfl dX4_brokenBits_1 ?_
    refine T_iconst (0 : Int32) (by decide) dX4_brokenBits_2 ?_
    refine T_istore_n (lv' := [(2, .int (0 : Int32)), (1, .int (0 : Int32)), (0, .ref r0)]) rfl (Nat.le_of_ble_eq_true rfl) rfl dX4_brokenBits_3 ?_
    exact T_sub [2, 1, 0] rfl (tX4_brokenBits_4 X r0 h0 FU ((0 : Int32), (0 : Int32), m)))
theorem lmX4_65 : Cond.methodLink RX4 65 Lib.Math.max.name ∈ gdL := gd_mem 529 (by decide +kernel) (by decide +kernel)
def bX4_mostWear_4 (r0 : Nat) (k4 : Int32 × Int32 × mMem → mR) (s : Int32 × Int32 × mMem) : mR := match s with
  | (x1, x2, m) => if (m.1 r0 0) ≤ x2 then some (some (.int x1), m) else ga x2 10 (li (imax x1 (m.1 (r0 + 3) (x2).toNatClampNeg)) (fun y1 => li (x2 + (1 : Int32)) (fun y2 => k4 (y1, y2, m))))
set_option maxRecDepth 100000 in
theorem tX4_mostWear_4 (X : mCx) (r0 : Nat) (h0 : kd r0 = (4, 0)) : ∀ (n : Nat) (s : Int32 × Int32 × mMem), T qX4_mostWear X (lp (bX4_mostWear_4 r0) n s) 4 [(0, .ref r0), (1, .int s.1), (2, .int s.2.1)] [] s.2.2 :=
  T_lp (body := bX4_mostWear_4 r0) (lv := fun s => [(0, .ref r0), (1, .int s.1), (2, .int s.2.1)]) (st := fun _ => []) (μ := fun s : Int32 × Int32 × mMem => s.2.2) (fun k4 hk4 s => by
    obtain ⟨x1, x2, m⟩ := s
    show T qX4_mostWear X (bX4_mostWear_4 r0 k4 (x1, x2, m)) 4 [(0, .ref r0), (1, .int x1), (2, .int x2)] [] m
    unfold bX4_mostWear_4
    dsimp only
    refine T_iload_n 2 rfl rfl dX4_mostWear_4 ?_
    refine T_aload_n 0 rfl rfl dX4_mostWear_5 ?_
    refine gIX4_9 rfl h0 dX4_mostWear_6 ?_
    refine T_icmp_ge 29 dX4_mostWear_9 (by decide) (fun _ => ?_) (fun _ => ?_)
    · refine T_iload_n 1 rfl rfl dX4_mostWear_29 ?_
      exact T_iret rfl dX4_mostWear_30
    · refine T_iload_n 1 rfl rfl dX4_mostWear_12 ?_
      refine T_aload_n 0 rfl rfl dX4_mostWear_13 ?_
      refine gRX4_34 rfl h0 (r0 + 3) (rfH7 h0) dX4_mostWear_14 ?_
      refine T_iload_n 2 rfl rfl dX4_mostWear_17 ?_
      refine T_iald (kdH7 h0) dX4_mostWear_18 ?_
      refine T_mmax lmX4_65 (by decide) (Nat.le_of_ble_eq_true rfl) dX4_mostWear_19 ?_
      refine T_istore_n (lv' := [(1, .int (imax x1 (m.1 (r0 + 3) (x2).toNatClampNeg))), (0, .ref r0), (2, .int x2)]) rfl (Nat.le_of_ble_eq_true rfl) rfl dX4_mostWear_22 ?_
      refine T_li (fun y1 => ?_)
      refine T_iinc (lv' := [(2, .int (x2 + (1 : Int32))), (1, .int y1), (0, .ref r0)]) 2 (1 : Int32) rfl (by decide) (Nat.le_of_ble_eq_true rfl) rfl dX4_mostWear_23 ?_
      refine T_li (fun y2 => ?_)
      refine T_goto 4 dX4_mostWear_26 (by decide) ?_
      exact T_sub [2, 1, 0] rfl (hk4 (y1, y2, m)))
def fX4_mostWear (r0 : Nat) (m : mMem) : mR := lp (bX4_mostWear_4 r0) FU ((0 : Int32), (0 : Int32), m)
set_option maxRecDepth 100000 in
theorem bsX4_mostWear (l : Launch) (r0 : Nat) (m : mMem) (h0 : kd r0 = (4, 0)) : BS l qX4_mostWear [.ref r0] m (fX4_mostWear r0 m) := BS_of (by decide) (Nat.le_of_ble_eq_true rfl) (fun X _ => by
    show T qX4_mostWear X (fX4_mostWear r0 m) 0 [(0, .ref r0)] [] m
    unfold fX4_mostWear
    refine T_iconst (0 : Int32) (by decide) dX4_mostWear_0 ?_
    refine T_istore_n (lv' := [(1, .int (0 : Int32)), (0, .ref r0)]) rfl (Nat.le_of_ble_eq_true rfl) rfl dX4_mostWear_1 ?_
    refine T_iconst (0 : Int32) (by decide) dX4_mostWear_2 ?_
    refine T_istore_n (lv' := [(2, .int (0 : Int32)), (1, .int (0 : Int32)), (0, .ref r0)]) rfl (Nat.le_of_ble_eq_true rfl) rfl dX4_mostWear_3 ?_
    exact T_sub [2, 1, 0] rfl (tX4_mostWear_4 X r0 h0 FU ((0 : Int32), (0 : Int32), m)))
theorem lmX4_68 : Cond.methodLink RX4 68 yX4_isHeavy ∈ gdL := gd_mem 525 (by decide +kernel) (by decide +kernel)
def fX4_reachOf (r0 : Nat) (x1 : Int32) (m : mMem) : mR := bI (fX4_isHeavy r0 x1 m) (fun z2 m1 => if z2 = (0 : Int32) then ga x1 4 (some (some (.int (m1.1 (r0 + 4) (x1).toNatClampNeg)), m1)) else ga x1 4 (some (some (.int (imax ((m1.1 (r0 + 4) (x1).toNatClampNeg) - (1 : Int32)) (1 : Int32))), m1)))
set_option maxRecDepth 100000 in
theorem bsX4_reachOf (l : Launch) (r0 : Nat) (x1 : Int32) (m : mMem) (h0 : kd r0 = (4, 0)) : BS l qX4_reachOf [.ref r0, .int x1] m (fX4_reachOf r0 x1 m) := BS_of (by decide) (Nat.le_of_ble_eq_true rfl) (fun X _ => by
    show T qX4_reachOf X (fX4_reachOf r0 x1 m) 0 [(0, .ref r0), (1, .int x1)] [] m
    unfold fX4_reachOf
    refine T_aload_n 0 rfl rfl dX4_reachOf_0 ?_
    refine T_iload_n 1 rfl rfl dX4_reachOf_1 ?_
    refine T_cVI (c := 4) [.int x1] [] mkX4_isHeavy lmX4_68 rfl rfl (by decide) (Nat.le_of_ble_eq_true rfl) h0 dX4_reachOf_2 (bsX4_isHeavy _ r0 x1 m h0) (fun z2 m1 => ?_)
    refine T_if_eq 23 dX4_reachOf_5 (by decide) (fun _ => ?_) (fun _ => ?_)
    · refine T_aload_n 0 rfl rfl dX4_reachOf_23 ?_
      refine gRX4_37 rfl h0 (r0 + 4) (rfH8 h0) dX4_reachOf_24 ?_
      refine T_iload_n 1 rfl rfl dX4_reachOf_27 ?_
      refine T_iald (kdH8 h0) dX4_reachOf_28 ?_
      exact T_iret rfl dX4_reachOf_29
    · refine T_aload_n 0 rfl rfl dX4_reachOf_8 ?_
      refine gRX4_37 rfl h0 (r0 + 4) (rfH8 h0) dX4_reachOf_9 ?_
      refine T_iload_n 1 rfl rfl dX4_reachOf_12 ?_
      refine T_iald (kdH8 h0) dX4_reachOf_13 ?_
      refine T_iconst (1 : Int32) (by decide) dX4_reachOf_14 ?_
      refine T_isub dX4_reachOf_15 ?_
      refine T_iconst (1 : Int32) (by decide) dX4_reachOf_16 ?_
      refine T_mmax lmX4_65 (by decide) (Nat.le_of_ble_eq_true rfl) dX4_reachOf_17 ?_
      refine T_goto 29 dX4_reachOf_20 (by decide) ?_
      exact T_iret rfl dX4_reachOf_29)
def bX4_wearBy_17 (r0 : Nat) (x2 : Int32) (x3 : Int32) (k17 : Int32 × mMem → mR) (s : Int32 × mMem) : mR := match s with
  | (x4, m) => if (m.1 r0 0) ≤ x4 then some (none, m) else if ((x2 >>> (x4 &&& 31)) &&& (1 : Int32)) = (0 : Int32) then li (x4 + (1 : Int32)) (fun y4 => k17 (y4, m)) else ga x4 10 (if (m.1 (r0 + 1) (x4).toNatClampNeg) = (3 : Int32) then li (x4 + (1 : Int32)) (fun y5 => k17 (y5, m)) else ga x4 10 (ga x4 10 (ga x4 10 (lt (si m (r0 + 3) (x4).toNatClampNeg (imin ((((m.1 (r0 + 3) (x4).toNatClampNeg) + (2 : Int32)) - (m.1 (r0 + 1) (x4).toNatClampNeg)) + x3) (99 : Int32))) (fun m6 => li (x4 + (1 : Int32)) (fun y7 => k17 (y7, m6)))))))
set_option maxRecDepth 100000 in
theorem tX4_wearBy_17 (X : mCx) (r0 : Nat) (x2 : Int32) (x3 : Int32) (h0 : kd r0 = (4, 0)) : ∀ (n : Nat) (s : Int32 × mMem), T qX4_wearBy X (lp (bX4_wearBy_17 r0 x2 x3) n s) 17 [(0, .ref r0), (2, .int x2), (3, .int x3), (4, .int s.1)] [] s.2 :=
  T_lp (body := bX4_wearBy_17 r0 x2 x3) (lv := fun s => [(0, .ref r0), (2, .int x2), (3, .int x3), (4, .int s.1)]) (st := fun _ => []) (μ := fun s : Int32 × mMem => s.2) (fun k17 hk17 s => by
    obtain ⟨x4, m⟩ := s
    show T qX4_wearBy X (bX4_wearBy_17 r0 x2 x3 k17 (x4, m)) 17 [(0, .ref r0), (2, .int x2), (3, .int x3), (4, .int x4)] [] m
    unfold bX4_wearBy_17
    dsimp only
    refine T_iload 3 rfl dX4_wearBy_17 ?_
    refine T_aload_n 0 rfl rfl dX4_wearBy_19 ?_
    refine gIX4_9 rfl h0 dX4_wearBy_20 ?_
    refine T_icmp_ge 83 dX4_wearBy_23 (by decide) (fun _ => ?_) (fun _ => ?_)
    · exact T_vret rfl dX4_wearBy_83
    · refine T_iload_n 1 rfl rfl dX4_wearBy_26 ?_
      refine T_iload 3 rfl dX4_wearBy_27 ?_
      refine T_ishr dX4_wearBy_29 ?_
      refine T_iconst (1 : Int32) (by decide) dX4_wearBy_30 ?_
      refine T_iand dX4_wearBy_31 ?_
      refine T_if_eq 77 dX4_wearBy_32 (by decide) (fun _ => ?_) (fun _ => ?_)
      · refine T_iinc (lv' := [(4, .int (x4 + (1 : Int32))), (0, .ref r0), (2, .int x2), (3, .int x3)]) 3 (1 : Int32) rfl (by decide) (Nat.le_of_ble_eq_true rfl) rfl dX4_wearBy_77 ?_
        refine T_li (fun y4 => ?_)
        refine T_goto 17 dX4_wearBy_80 (by decide) ?_
        exact T_sub [1, 2, 3, 0] rfl (hk17 (y4, m))
      · refine T_aload_n 0 rfl rfl dX4_wearBy_35 ?_
        refine gRX4_27 rfl h0 (r0 + 1) (rfH5 h0) dX4_wearBy_36 ?_
        refine T_iload 3 rfl dX4_wearBy_39 ?_
        refine T_iald (kdH5 h0) dX4_wearBy_41 ?_
        refine T_iconst (3 : Int32) (by decide) dX4_wearBy_42 ?_
        refine T_icmp_eq 77 dX4_wearBy_43 (by decide) (fun _ => ?_) (fun _ => ?_)
        · refine T_iinc (lv' := [(4, .int (x4 + (1 : Int32))), (0, .ref r0), (2, .int x2), (3, .int x3)]) 3 (1 : Int32) rfl (by decide) (Nat.le_of_ble_eq_true rfl) rfl dX4_wearBy_77 ?_
          refine T_li (fun y5 => ?_)
          refine T_goto 17 dX4_wearBy_80 (by decide) ?_
          exact T_sub [1, 2, 3, 0] rfl (hk17 (y5, m))
        · refine T_aload_n 0 rfl rfl dX4_wearBy_46 ?_
          refine gRX4_34 rfl h0 (r0 + 3) (rfH7 h0) dX4_wearBy_47 ?_
          refine T_iload 3 rfl dX4_wearBy_50 ?_
          refine T_aload_n 0 rfl rfl dX4_wearBy_52 ?_
          refine gRX4_34 rfl h0 (r0 + 3) (rfH7 h0) dX4_wearBy_53 ?_
          refine T_iload 3 rfl dX4_wearBy_56 ?_
          refine T_iald (kdH7 h0) dX4_wearBy_58 ?_
          refine T_iconst (2 : Int32) (by decide) dX4_wearBy_59 ?_
          refine T_iadd dX4_wearBy_60 ?_
          refine T_aload_n 0 rfl rfl dX4_wearBy_61 ?_
          refine gRX4_27 rfl h0 (r0 + 1) (rfH5 h0) dX4_wearBy_62 ?_
          refine T_iload 3 rfl dX4_wearBy_65 ?_
          refine T_iald (kdH5 h0) dX4_wearBy_67 ?_
          refine T_isub dX4_wearBy_68 ?_
          refine T_iload_n 2 rfl rfl dX4_wearBy_69 ?_
          refine T_iadd dX4_wearBy_70 ?_
          refine T_bipush (99 : Int32) (by decide) dX4_wearBy_71 ?_
          refine T_mmin lmX4_55 (by decide) (Nat.le_of_ble_eq_true rfl) dX4_wearBy_73 ?_
          refine T_iast _ rfl (kdH7 h0) dX4_wearBy_76 ?_
          refine T_lt (fun m6 => ?_)
          refine T_iinc (lv' := [(4, .int (x4 + (1 : Int32))), (0, .ref r0), (2, .int x2), (3, .int x3)]) 3 (1 : Int32) rfl (by decide) (Nat.le_of_ble_eq_true rfl) rfl dX4_wearBy_77 ?_
          refine T_li (fun y7 => ?_)
          refine T_goto 17 dX4_wearBy_80 (by decide) ?_
          exact T_sub [1, 2, 3, 0] rfl (hk17 (y7, m6)))
def jX4_wearBy_13 (r0 : Nat) (x2 : Int32) (xs0 : Int32) (m : mMem) : mR := lp (bX4_wearBy_17 r0 x2 xs0) FU ((0 : Int32), m)
set_option maxRecDepth 100000 in
theorem uX4_wearBy_13 (X : mCx) (r0 : Nat) (x2 : Int32) (xs0 : Int32) (m : mMem) (h0 : kd r0 = (4, 0)) : T qX4_wearBy X (jX4_wearBy_13 r0 x2 xs0 m) 13 [(0, .ref r0), (2, .int x2)] [.int xs0] m := by
  unfold jX4_wearBy_13
  refine T_istore_n (lv' := [(3, .int xs0), (0, .ref r0), (2, .int x2)]) rfl (Nat.le_of_ble_eq_true rfl) rfl dX4_wearBy_13 ?_
  refine T_iconst (0 : Int32) (by decide) dX4_wearBy_14 ?_
  refine T_istore (lv' := [(4, .int (0 : Int32)), (3, .int xs0), (0, .ref r0), (2, .int x2)]) (Nat.le_of_ble_eq_true rfl) rfl dX4_wearBy_15 ?_
  exact T_sub [2, 3, 1, 0] rfl (tX4_wearBy_17 X r0 x2 xs0 h0 FU ((0 : Int32), m))
def fX4_wearBy (r0 : Nat) (x1 : Int32) (x2 : Int32) (m : mMem) : mR := bI (fX4_isHeavy r0 x1 m) (fun z2 m1 => if z2 = (0 : Int32) then jX4_wearBy_13 r0 x2 (0 : Int32) m1 else jX4_wearBy_13 r0 x2 (1 : Int32) m1)
set_option maxRecDepth 100000 in
theorem bsX4_wearBy (l : Launch) (r0 : Nat) (x1 : Int32) (x2 : Int32) (m : mMem) (h0 : kd r0 = (4, 0)) : BS l qX4_wearBy [.ref r0, .int x1, .int x2] m (fX4_wearBy r0 x1 x2 m) := BS_of (by decide) (Nat.le_of_ble_eq_true rfl) (fun X _ => by
    show T qX4_wearBy X (fX4_wearBy r0 x1 x2 m) 0 [(0, .ref r0), (1, .int x1), (2, .int x2)] [] m
    unfold fX4_wearBy
    refine T_aload_n 0 rfl rfl dX4_wearBy_0 ?_
    refine T_iload_n 1 rfl rfl dX4_wearBy_1 ?_
    refine T_cVI (c := 4) [.int x1] [] mkX4_isHeavy lmX4_68 rfl rfl (by decide) (Nat.le_of_ble_eq_true rfl) h0 dX4_wearBy_2 (bsX4_isHeavy _ r0 x1 m h0) (fun z2 m1 => ?_)
    refine T_if_eq 12 dX4_wearBy_5 (by decide) (fun _ => ?_) (fun _ => ?_)
    · refine T_iconst (0 : Int32) (by decide) dX4_wearBy_12 ?_
      exact T_sub [0, 2] rfl (uX4_wearBy_13 X r0 x2 (0 : Int32) m1 h0)
    · refine T_iconst (1 : Int32) (by decide) dX4_wearBy_8 ?_
      refine T_goto 13 dX4_wearBy_9 (by decide) ?_
      exact T_sub [0, 2] rfl (uX4_wearBy_13 X r0 x2 (1 : Int32) m1 h0))
theorem lmX4_75 : Cond.methodLink RX4 75 yX4_rankOfStep ∈ gdL := gd_mem 541 (by decide +kernel) (by decide +kernel)
theorem lmX4_79 : Cond.methodLink RX4 79 Lib.Math.abs.name ∈ gdL := gd_mem 542 (by decide +kernel) (by decide +kernel)
def fX4_isNear (r0 : Nat) (x1 : Int32) (x2 : Int32) (m : mMem) : mR := ga x2 10 (if (m.1 (r0 + 1) (x2).toNatClampNeg) = (3 : Int32) then some (some (.int (1 : Int32)), m) else bI (fX4_rankOfStep r0 x2 m) (fun z2 m1 => ga x1 4 (if (m1.1 r0 2) < (iabs (z2 - (m1.1 (r0 + 5) (x1).toNatClampNeg))) then some (some (.int (0 : Int32)), m1) else some (some (.int (1 : Int32)), m1))))
set_option maxRecDepth 100000 in
theorem bsX4_isNear (l : Launch) (r0 : Nat) (x1 : Int32) (x2 : Int32) (m : mMem) (h0 : kd r0 = (4, 0)) : BS l qX4_isNear [.ref r0, .int x1, .int x2] m (fX4_isNear r0 x1 x2 m) := BS_of (by decide) (Nat.le_of_ble_eq_true rfl) (fun X _ => by
    show T qX4_isNear X (fX4_isNear r0 x1 x2 m) 0 [(0, .ref r0), (1, .int x1), (2, .int x2)] [] m
    unfold fX4_isNear
    refine T_aload_n 0 rfl rfl dX4_isNear_0 ?_
    refine gRX4_27 rfl h0 (r0 + 1) (rfH5 h0) dX4_isNear_1 ?_
    refine T_iload_n 2 rfl rfl dX4_isNear_4 ?_
    refine T_iald (kdH5 h0) dX4_isNear_5 ?_
    refine T_iconst (3 : Int32) (by decide) dX4_isNear_6 ?_
    refine T_icmp_eq 32 dX4_isNear_7 (by decide) (fun _ => ?_) (fun _ => ?_)
    · refine T_iconst (1 : Int32) (by decide) dX4_isNear_32 ?_
      refine T_goto 37 dX4_isNear_33 (by decide) ?_
      exact T_zretc (by decide) rfl dX4_isNear_37
    · refine T_aload_n 0 rfl rfl dX4_isNear_10 ?_
      refine T_iload_n 2 rfl rfl dX4_isNear_11 ?_
      refine T_cVI (c := 4) [.int x2] [] mkX4_rankOfStep lmX4_75 rfl rfl (by decide) (Nat.le_of_ble_eq_true rfl) h0 dX4_isNear_12 (bsX4_rankOfStep _ r0 x2 m h0) (fun z2 m1 => ?_)
      refine T_aload_n 0 rfl rfl dX4_isNear_15 ?_
      refine gRX4_40 rfl h0 (r0 + 5) (rfH9 h0) dX4_isNear_16 ?_
      refine T_iload_n 1 rfl rfl dX4_isNear_19 ?_
      refine T_iald (kdH9 h0) dX4_isNear_20 ?_
      refine T_isub dX4_isNear_21 ?_
      refine T_mabs lmX4_79 (by decide) (Nat.le_of_ble_eq_true rfl) dX4_isNear_22 ?_
      refine T_aload_n 0 rfl rfl dX4_isNear_25 ?_
      refine gIX4_18 rfl h0 dX4_isNear_26 ?_
      refine T_icmp_gt 36 dX4_isNear_29 (by decide) (fun _ => ?_) (fun _ => ?_)
      · refine T_iconst (0 : Int32) (by decide) dX4_isNear_36 ?_
        exact T_zretc (by decide) rfl dX4_isNear_37
      · refine T_iconst (1 : Int32) (by decide) dX4_isNear_32 ?_
        refine T_goto 37 dX4_isNear_33 (by decide) ?_
        exact T_zretc (by decide) rfl dX4_isNear_37)
theorem lmX4_88 : Cond.methodLink RX4 88 yX4_reachOf ∈ gdL := gd_mem 640 (by decide +kernel) (by decide +kernel)
def jX4_getsHomeBy_48 (k16 : Int32 × Int32 × mMem → mR) (r0 : Nat) (x1 : Int32) (x2 : Int32) (x3 : Int32) (x4 : Int32) (x5 : Int32) (xs0 : Int32) (m : mMem) : mR := if xs0 = (0 : Int32) then li ((x4 <<< ((1 : Int32) &&& 31)) ||| (0 : Int32)) (fun y5 => li (x5 + (1 : Int32)) (fun y6 => k16 (y5, y6, m))) else li ((x4 <<< ((1 : Int32) &&& 31)) ||| (1 : Int32)) (fun y7 => li (x5 + (1 : Int32)) (fun y8 => k16 (y7, y8, m)))
set_option maxRecDepth 100000 in
theorem uX4_getsHomeBy_48 (X : mCx) (k16 : Int32 × Int32 × mMem → mR) (r0 : Nat) (x1 : Int32) (x2 : Int32) (x3 : Int32) (x4 : Int32) (x5 : Int32) (xs0 : Int32) (m : mMem) (h0 : kd r0 = (4, 0)) (hk16 : ∀ s : Int32 × Int32 × mMem, T qX4_getsHomeBy X (k16 s) 16 [(0, .ref r0), (1, .int x1), (2, .int x2), (3, .int x3), (4, .int s.1), (5, .int s.2.1)] [] s.2.2) : T qX4_getsHomeBy X (jX4_getsHomeBy_48 k16 r0 x1 x2 x3 x4 x5 xs0 m) 48 [(0, .ref r0), (1, .int x1), (2, .int x2), (3, .int x3), (4, .int x4), (5, .int x5)] [.int xs0] m := by
  unfold jX4_getsHomeBy_48
  refine T_istore (lv' := [(6, .int xs0), (0, .ref r0), (1, .int x1), (2, .int x2), (3, .int x3), (4, .int x4), (5, .int x5)]) (Nat.le_of_ble_eq_true rfl) rfl dX4_getsHomeBy_48 ?_
  refine T_iload 5 rfl dX4_getsHomeBy_50 ?_
  refine T_iconst (1 : Int32) (by decide) dX4_getsHomeBy_52 ?_
  refine T_ishl dX4_getsHomeBy_53 ?_
  refine T_iload 0 rfl dX4_getsHomeBy_54 ?_
  refine T_if_eq 63 dX4_getsHomeBy_56 (by decide) (fun _ => ?_) (fun _ => ?_)
  · refine T_iconst (0 : Int32) (by decide) dX4_getsHomeBy_63 ?_
    refine T_ior dX4_getsHomeBy_64 ?_
    refine T_istore (lv' := [(4, .int ((x4 <<< ((1 : Int32) &&& 31)) ||| (0 : Int32))), (6, .int xs0), (0, .ref r0), (1, .int x1), (2, .int x2), (3, .int x3), (5, .int x5)]) (Nat.le_of_ble_eq_true rfl) rfl dX4_getsHomeBy_65 ?_
    refine T_li (fun y5 => ?_)
    refine T_iinc (lv' := [(5, .int (x5 + (1 : Int32))), (4, .int y5), (6, .int xs0), (0, .ref r0), (1, .int x1), (2, .int x2), (3, .int x3)]) 6 (1 : Int32) rfl (by decide) (Nat.le_of_ble_eq_true rfl) rfl dX4_getsHomeBy_67 ?_
    refine T_li (fun y6 => ?_)
    refine T_goto 16 dX4_getsHomeBy_70 (by decide) ?_
    exact T_sub [3, 4, 5, 6, 1, 0] rfl (hk16 (y5, y6, m))
  · refine T_iconst (1 : Int32) (by decide) dX4_getsHomeBy_59 ?_
    refine T_goto 64 dX4_getsHomeBy_60 (by decide) ?_
    refine T_ior dX4_getsHomeBy_64 ?_
    refine T_istore (lv' := [(4, .int ((x4 <<< ((1 : Int32) &&& 31)) ||| (1 : Int32))), (6, .int xs0), (0, .ref r0), (1, .int x1), (2, .int x2), (3, .int x3), (5, .int x5)]) (Nat.le_of_ble_eq_true rfl) rfl dX4_getsHomeBy_65 ?_
    refine T_li (fun y7 => ?_)
    refine T_iinc (lv' := [(5, .int (x5 + (1 : Int32))), (4, .int y7), (6, .int xs0), (0, .ref r0), (1, .int x1), (2, .int x2), (3, .int x3)]) 6 (1 : Int32) rfl (by decide) (Nat.le_of_ble_eq_true rfl) rfl dX4_getsHomeBy_67 ?_
    refine T_li (fun y8 => ?_)
    refine T_goto 16 dX4_getsHomeBy_70 (by decide) ?_
    exact T_sub [3, 4, 5, 6, 1, 0] rfl (hk16 (y7, y8, m))
def jX4_getsHomeBy_47 (k16 : Int32 × Int32 × mMem → mR) (r0 : Nat) (x1 : Int32) (x2 : Int32) (x3 : Int32) (x4 : Int32) (x5 : Int32) (m : mMem) : mR := jX4_getsHomeBy_48 k16 r0 x1 x2 x3 x4 x5 (0 : Int32) m
set_option maxRecDepth 100000 in
theorem uX4_getsHomeBy_47 (X : mCx) (k16 : Int32 × Int32 × mMem → mR) (r0 : Nat) (x1 : Int32) (x2 : Int32) (x3 : Int32) (x4 : Int32) (x5 : Int32) (m : mMem) (h0 : kd r0 = (4, 0)) (hk16 : ∀ s : Int32 × Int32 × mMem, T qX4_getsHomeBy X (k16 s) 16 [(0, .ref r0), (1, .int x1), (2, .int x2), (3, .int x3), (4, .int s.1), (5, .int s.2.1)] [] s.2.2) : T qX4_getsHomeBy X (jX4_getsHomeBy_47 k16 r0 x1 x2 x3 x4 x5 m) 47 [(0, .ref r0), (1, .int x1), (2, .int x2), (3, .int x3), (4, .int x4), (5, .int x5)] [] m := by
  unfold jX4_getsHomeBy_47
  refine T_iconst (0 : Int32) (by decide) dX4_getsHomeBy_47 ?_
  exact T_sub [0, 1, 2, 3, 4, 5] rfl (uX4_getsHomeBy_48 X k16 r0 x1 x2 x3 x4 x5 (0 : Int32) m h0 hk16)
def bX4_getsHomeBy_16 (r0 : Nat) (x1 : Int32) (x2 : Int32) (x3 : Int32) (k16 : Int32 × Int32 × mMem → mR) (s : Int32 × Int32 × mMem) : mR := match s with
  | (x4, x5, m) => ga x1 4 (if (m.1 (r0 + 7) (x1).toNatClampNeg) < x5 then if (x4 &&& (1 : Int32)) = (0 : Int32) then some (some (.int (0 : Int32)), m) else some (some (.int (1 : Int32)), m) else if ((x2 >>> (x5 &&& 31)) &&& (1 : Int32)) = (0 : Int32) then jX4_getsHomeBy_47 k16 r0 x1 x2 x3 x4 x5 m else if (x4 &&& x3) = (0 : Int32) then jX4_getsHomeBy_47 k16 r0 x1 x2 x3 x4 x5 m else jX4_getsHomeBy_48 k16 r0 x1 x2 x3 x4 x5 (1 : Int32) m)
set_option maxRecDepth 100000 in
theorem tX4_getsHomeBy_16 (X : mCx) (r0 : Nat) (x1 : Int32) (x2 : Int32) (x3 : Int32) (h0 : kd r0 = (4, 0)) : ∀ (n : Nat) (s : Int32 × Int32 × mMem), T qX4_getsHomeBy X (lp (bX4_getsHomeBy_16 r0 x1 x2 x3) n s) 16 [(0, .ref r0), (1, .int x1), (2, .int x2), (3, .int x3), (4, .int s.1), (5, .int s.2.1)] [] s.2.2 :=
  T_lp (body := bX4_getsHomeBy_16 r0 x1 x2 x3) (lv := fun s => [(0, .ref r0), (1, .int x1), (2, .int x2), (3, .int x3), (4, .int s.1), (5, .int s.2.1)]) (st := fun _ => []) (μ := fun s : Int32 × Int32 × mMem => s.2.2) (fun k16 hk16 s => by
    obtain ⟨x4, x5, m⟩ := s
    show T qX4_getsHomeBy X (bX4_getsHomeBy_16 r0 x1 x2 x3 k16 (x4, x5, m)) 16 [(0, .ref r0), (1, .int x1), (2, .int x2), (3, .int x3), (4, .int x4), (5, .int x5)] [] m
    unfold bX4_getsHomeBy_16
    dsimp only
    refine T_iload 5 rfl dX4_getsHomeBy_16 ?_
    refine T_aload_n 0 rfl rfl dX4_getsHomeBy_18 ?_
    refine gRX4_46 rfl h0 (r0 + 7) (rfH11 h0) dX4_getsHomeBy_19 ?_
    refine T_iload_n 1 rfl rfl dX4_getsHomeBy_22 ?_
    refine T_iald (kdH11 h0) dX4_getsHomeBy_23 ?_
    refine T_icmp_gt 73 dX4_getsHomeBy_24 (by decide) (fun _ => ?_) (fun _ => ?_)
    · refine T_iload 4 rfl dX4_getsHomeBy_73 ?_
      refine T_iconst (1 : Int32) (by decide) dX4_getsHomeBy_75 ?_
      refine T_iand dX4_getsHomeBy_76 ?_
      refine T_if_eq 84 dX4_getsHomeBy_77 (by decide) (fun _ => ?_) (fun _ => ?_)
      · refine T_iconst (0 : Int32) (by decide) dX4_getsHomeBy_84 ?_
        exact T_zretc (by decide) rfl dX4_getsHomeBy_85
      · refine T_iconst (1 : Int32) (by decide) dX4_getsHomeBy_80 ?_
        refine T_goto 85 dX4_getsHomeBy_81 (by decide) ?_
        exact T_zretc (by decide) rfl dX4_getsHomeBy_85
    · refine T_iload_n 2 rfl rfl dX4_getsHomeBy_27 ?_
      refine T_iload 5 rfl dX4_getsHomeBy_28 ?_
      refine T_ishr dX4_getsHomeBy_30 ?_
      refine T_iconst (1 : Int32) (by decide) dX4_getsHomeBy_31 ?_
      refine T_iand dX4_getsHomeBy_32 ?_
      refine T_if_eq 47 dX4_getsHomeBy_33 (by decide) (fun _ => ?_) (fun _ => ?_)
      · exact T_sub [0, 1, 2, 3, 4, 5] rfl (uX4_getsHomeBy_47 X k16 r0 x1 x2 x3 x4 x5 m h0 hk16)
      · refine T_iload 4 rfl dX4_getsHomeBy_36 ?_
        refine T_iload_n 3 rfl rfl dX4_getsHomeBy_38 ?_
        refine T_iand dX4_getsHomeBy_39 ?_
        refine T_if_eq 47 dX4_getsHomeBy_40 (by decide) (fun _ => ?_) (fun _ => ?_)
        · exact T_sub [0, 1, 2, 3, 4, 5] rfl (uX4_getsHomeBy_47 X k16 r0 x1 x2 x3 x4 x5 m h0 hk16)
        · refine T_iconst (1 : Int32) (by decide) dX4_getsHomeBy_43 ?_
          refine T_goto 48 dX4_getsHomeBy_44 (by decide) ?_
          exact T_sub [0, 1, 2, 3, 4, 5] rfl (uX4_getsHomeBy_48 X k16 r0 x1 x2 x3 x4 x5 (1 : Int32) m h0 hk16))
def fX4_getsHomeBy (r0 : Nat) (x1 : Int32) (x2 : Int32) (m : mMem) : mR := bI (fX4_reachOf r0 x1 m) (fun z2 m1 => li (((1 : Int32) <<< (z2 &&& 31)) - (1 : Int32)) (fun y4 => lp (bX4_getsHomeBy_16 r0 x1 x2 y4) FU ((1 : Int32), (0 : Int32), m1)))
set_option maxRecDepth 100000 in
theorem bsX4_getsHomeBy (l : Launch) (r0 : Nat) (x1 : Int32) (x2 : Int32) (m : mMem) (h0 : kd r0 = (4, 0)) : BS l qX4_getsHomeBy [.ref r0, .int x1, .int x2] m (fX4_getsHomeBy r0 x1 x2 m) := BS_of (by decide) (Nat.le_of_ble_eq_true rfl) (fun X _ => by
    show T qX4_getsHomeBy X (fX4_getsHomeBy r0 x1 x2 m) 0 [(0, .ref r0), (1, .int x1), (2, .int x2)] [] m
    unfold fX4_getsHomeBy
    refine T_iconst (1 : Int32) (by decide) dX4_getsHomeBy_0 ?_
    refine T_aload_n 0 rfl rfl dX4_getsHomeBy_1 ?_
    refine T_iload_n 1 rfl rfl dX4_getsHomeBy_2 ?_
    refine T_cVI (c := 4) [.int x1] [.int (1 : Int32)] mkX4_reachOf lmX4_88 rfl rfl (by decide) (Nat.le_of_ble_eq_true rfl) h0 dX4_getsHomeBy_3 (bsX4_reachOf _ r0 x1 m h0) (fun z2 m1 => ?_)
    refine T_ishl dX4_getsHomeBy_6 ?_
    refine T_iconst (1 : Int32) (by decide) dX4_getsHomeBy_7 ?_
    refine T_isub dX4_getsHomeBy_8 ?_
    refine T_istore_n (lv' := [(3, .int (((1 : Int32) <<< (z2 &&& 31)) - (1 : Int32))), (0, .ref r0), (1, .int x1), (2, .int x2)]) rfl (Nat.le_of_ble_eq_true rfl) rfl dX4_getsHomeBy_9 ?_
    refine T_li (fun y4 => ?_)
    refine T_iconst (1 : Int32) (by decide) dX4_getsHomeBy_10 ?_
    refine T_istore (lv' := [(4, .int (1 : Int32)), (3, .int y4), (0, .ref r0), (1, .int x1), (2, .int x2)]) (Nat.le_of_ble_eq_true rfl) rfl dX4_getsHomeBy_11 ?_
    refine T_iconst (0 : Int32) (by decide) dX4_getsHomeBy_13 ?_
    refine T_istore (lv' := [(5, .int (0 : Int32)), (4, .int (1 : Int32)), (3, .int y4), (0, .ref r0), (1, .int x1), (2, .int x2)]) (Nat.le_of_ble_eq_true rfl) rfl dX4_getsHomeBy_14 ?_
    exact T_sub [3, 4, 5, 2, 1, 0] rfl (tX4_getsHomeBy_16 X r0 x1 x2 y4 h0 FU ((1 : Int32), (0 : Int32), m1)))
theorem lmX4_71 : Cond.methodLink RX4 71 yX4_isNear ∈ gdL := gd_mem 537 (by decide +kernel) (by decide +kernel)
def bX4_treadBits_4 (r0 : Nat) (x1 : Int32) (k4 : Int32 × Int32 × mMem → mR) (s : Int32 × Int32 × mMem) : mR := match s with
  | (x2, x3, m) => if (m.1 r0 0) ≤ x3 then some (some (.int x2), m) else bI (fX4_isBroken r0 x3 m) (fun z2 m1 => if z2 = (0 : Int32) then bI (fX4_isNear r0 x1 x3 m1) (fun z5 m4 => if z5 = (0 : Int32) then li (x3 + (1 : Int32)) (fun y7 => k4 (x2, y7, m4)) else li (x2 ||| ((1 : Int32) <<< (x3 &&& 31))) (fun y8 => li (x3 + (1 : Int32)) (fun y9 => k4 (y8, y9, m4)))) else li (x3 + (1 : Int32)) (fun y10 => k4 (x2, y10, m1)))
set_option maxRecDepth 100000 in
theorem tX4_treadBits_4 (X : mCx) (r0 : Nat) (x1 : Int32) (h0 : kd r0 = (4, 0)) : ∀ (n : Nat) (s : Int32 × Int32 × mMem), T qX4_treadBits X (lp (bX4_treadBits_4 r0 x1) n s) 4 [(0, .ref r0), (1, .int x1), (2, .int s.1), (3, .int s.2.1)] [] s.2.2 :=
  T_lp (body := bX4_treadBits_4 r0 x1) (lv := fun s => [(0, .ref r0), (1, .int x1), (2, .int s.1), (3, .int s.2.1)]) (st := fun _ => []) (μ := fun s : Int32 × Int32 × mMem => s.2.2) (fun k4 hk4 s => by
    obtain ⟨x2, x3, m⟩ := s
    show T qX4_treadBits X (bX4_treadBits_4 r0 x1 k4 (x2, x3, m)) 4 [(0, .ref r0), (1, .int x1), (2, .int x2), (3, .int x3)] [] m
    unfold bX4_treadBits_4
    dsimp only
    refine T_iload_n 3 rfl rfl dX4_treadBits_4 ?_
    refine T_aload_n 0 rfl rfl dX4_treadBits_5 ?_
    refine gIX4_9 rfl h0 dX4_treadBits_6 ?_
    refine T_icmp_ge 41 dX4_treadBits_9 (by decide) (fun _ => ?_) (fun _ => ?_)
    · refine T_iload_n 2 rfl rfl dX4_treadBits_41 ?_
      exact T_iret rfl dX4_treadBits_42
    · refine T_aload_n 0 rfl rfl dX4_treadBits_12 ?_
      refine T_iload_n 3 rfl rfl dX4_treadBits_13 ?_
      refine T_cVI (c := 4) [.int x3] [] mkX4_isBroken lmX4_61 rfl rfl (by decide) (Nat.le_of_ble_eq_true rfl) h0 dX4_treadBits_14 (bsX4_isBroken _ r0 x3 m h0) (fun z2 m1 => ?_)
      refine T_if_ne 35 dX4_treadBits_17 (by decide) (fun _ => ?_) (fun _ => ?_)
      · refine T_aload_n 0 rfl rfl dX4_treadBits_20 ?_
        refine T_iload_n 1 rfl rfl dX4_treadBits_21 ?_
        refine T_iload_n 3 rfl rfl dX4_treadBits_22 ?_
        refine T_cVI (c := 4) [.int x1, .int x3] [] mkX4_isNear lmX4_71 rfl rfl (by decide) (Nat.le_of_ble_eq_true rfl) h0 dX4_treadBits_23 (bsX4_isNear _ r0 x1 x3 m1 h0) (fun z5 m4 => ?_)
        refine T_if_eq 35 dX4_treadBits_26 (by decide) (fun _ => ?_) (fun _ => ?_)
        · refine T_iinc (lv' := [(3, .int (x3 + (1 : Int32))), (0, .ref r0), (1, .int x1), (2, .int x2)]) 3 (1 : Int32) rfl (by decide) (Nat.le_of_ble_eq_true rfl) rfl dX4_treadBits_35 ?_
          refine T_li (fun y7 => ?_)
          refine T_goto 4 dX4_treadBits_38 (by decide) ?_
          exact T_sub [1, 2, 3, 0] rfl (hk4 (x2, y7, m4))
        · refine T_iload_n 2 rfl rfl dX4_treadBits_29 ?_
          refine T_iconst (1 : Int32) (by decide) dX4_treadBits_30 ?_
          refine T_iload_n 3 rfl rfl dX4_treadBits_31 ?_
          refine T_ishl dX4_treadBits_32 ?_
          refine T_ior dX4_treadBits_33 ?_
          refine T_istore_n (lv' := [(2, .int (x2 ||| ((1 : Int32) <<< (x3 &&& 31)))), (0, .ref r0), (1, .int x1), (3, .int x3)]) rfl (Nat.le_of_ble_eq_true rfl) rfl dX4_treadBits_34 ?_
          refine T_li (fun y8 => ?_)
          refine T_iinc (lv' := [(3, .int (x3 + (1 : Int32))), (2, .int y8), (0, .ref r0), (1, .int x1)]) 3 (1 : Int32) rfl (by decide) (Nat.le_of_ble_eq_true rfl) rfl dX4_treadBits_35 ?_
          refine T_li (fun y9 => ?_)
          refine T_goto 4 dX4_treadBits_38 (by decide) ?_
          exact T_sub [2, 3, 1, 0] rfl (hk4 (y8, y9, m4))
      · refine T_iinc (lv' := [(3, .int (x3 + (1 : Int32))), (0, .ref r0), (1, .int x1), (2, .int x2)]) 3 (1 : Int32) rfl (by decide) (Nat.le_of_ble_eq_true rfl) rfl dX4_treadBits_35 ?_
        refine T_li (fun y10 => ?_)
        refine T_goto 4 dX4_treadBits_38 (by decide) ?_
        exact T_sub [1, 2, 3, 0] rfl (hk4 (x2, y10, m1)))
def fX4_treadBits (r0 : Nat) (x1 : Int32) (m : mMem) : mR := lp (bX4_treadBits_4 r0 x1) FU ((0 : Int32), (0 : Int32), m)
set_option maxRecDepth 100000 in
theorem bsX4_treadBits (l : Launch) (r0 : Nat) (x1 : Int32) (m : mMem) (h0 : kd r0 = (4, 0)) : BS l qX4_treadBits [.ref r0, .int x1] m (fX4_treadBits r0 x1 m) := BS_of (by decide) (Nat.le_of_ble_eq_true rfl) (fun X _ => by
    show T qX4_treadBits X (fX4_treadBits r0 x1 m) 0 [(0, .ref r0), (1, .int x1)] [] m
    unfold fX4_treadBits
    refine T_iconst (0 : Int32) (by decide) dX4_treadBits_0 ?_
    refine T_istore_n (lv' := [(2, .int (0 : Int32)), (0, .ref r0), (1, .int x1)]) rfl (Nat.le_of_ble_eq_true rfl) rfl dX4_treadBits_1 ?_
    refine T_iconst (0 : Int32) (by decide) dX4_treadBits_2 ?_
    refine T_istore_n (lv' := [(3, .int (0 : Int32)), (2, .int (0 : Int32)), (0, .ref r0), (1, .int x1)]) rfl (Nat.le_of_ble_eq_true rfl) rfl dX4_treadBits_3 ?_
    exact T_sub [2, 3, 1, 0] rfl (tX4_treadBits_4 X r0 x1 h0 FU ((0 : Int32), (0 : Int32), m)))
theorem lmX4_82 : Cond.methodLink RX4 82 yX4_treadBits ∈ gdL := gd_mem 635 (by decide +kernel) (by decide +kernel)
theorem lmX4_85 : Cond.methodLink RX4 85 yX4_getsHomeBy ∈ gdL := gd_mem 636 (by decide +kernel) (by decide +kernel)
def fX4_getsHome (r0 : Nat) (x1 : Int32) (m : mMem) : mR := bI (fX4_treadBits r0 x1 m) (fun z2 m1 => bI (fX4_getsHomeBy r0 x1 z2 m1) (fun z5 m4 => gb z5 (some (some (.int z5), m4))))
set_option maxRecDepth 100000 in
theorem bsX4_getsHome (l : Launch) (r0 : Nat) (x1 : Int32) (m : mMem) (h0 : kd r0 = (4, 0)) : BS l qX4_getsHome [.ref r0, .int x1] m (fX4_getsHome r0 x1 m) := BS_of (by decide) (Nat.le_of_ble_eq_true rfl) (fun X _ => by
    show T qX4_getsHome X (fX4_getsHome r0 x1 m) 0 [(0, .ref r0), (1, .int x1)] [] m
    unfold fX4_getsHome
    refine T_aload_n 0 rfl rfl dX4_getsHome_0 ?_
    refine T_iload_n 1 rfl rfl dX4_getsHome_1 ?_
    refine T_aload_n 0 rfl rfl dX4_getsHome_2 ?_
    refine T_iload_n 1 rfl rfl dX4_getsHome_3 ?_
    refine T_cVI (c := 4) [.int x1] [.int x1, .ref r0] mkX4_treadBits lmX4_82 rfl rfl (by decide) (Nat.le_of_ble_eq_true rfl) h0 dX4_getsHome_4 (bsX4_treadBits _ r0 x1 m h0) (fun z2 m1 => ?_)
    refine T_cVI (c := 4) [.int x1, .int z2] [] mkX4_getsHomeBy lmX4_85 rfl rfl (by decide) (Nat.le_of_ble_eq_true rfl) h0 dX4_getsHome_7 (bsX4_getsHomeBy _ r0 x1 z2 m1 h0) (fun z5 m4 => ?_)
    exact T_zret rfl dX4_getsHome_10)
theorem lmX4_91 : Cond.methodLink RX4 91 yX4_getsHome ∈ gdL := gd_mem 658 (by decide +kernel) (by decide +kernel)
def bX4_homeBits_4 (r0 : Nat) (k4 : Int32 × Int32 × mMem → mR) (s : Int32 × Int32 × mMem) : mR := match s with
  | (x1, x2, m) => if (m.1 r0 1) ≤ x2 then some (some (.int x1), m) else bI (fX4_getsHome r0 x2 m) (fun z2 m1 => if z2 = (0 : Int32) then li (x2 + (1 : Int32)) (fun y4 => k4 (x1, y4, m1)) else li (x1 ||| ((1 : Int32) <<< (x2 &&& 31))) (fun y5 => li (x2 + (1 : Int32)) (fun y6 => k4 (y5, y6, m1))))
set_option maxRecDepth 100000 in
theorem tX4_homeBits_4 (X : mCx) (r0 : Nat) (h0 : kd r0 = (4, 0)) : ∀ (n : Nat) (s : Int32 × Int32 × mMem), T qX4_homeBits X (lp (bX4_homeBits_4 r0) n s) 4 [(0, .ref r0), (1, .int s.1), (2, .int s.2.1)] [] s.2.2 :=
  T_lp (body := bX4_homeBits_4 r0) (lv := fun s => [(0, .ref r0), (1, .int s.1), (2, .int s.2.1)]) (st := fun _ => []) (μ := fun s : Int32 × Int32 × mMem => s.2.2) (fun k4 hk4 s => by
    obtain ⟨x1, x2, m⟩ := s
    show T qX4_homeBits X (bX4_homeBits_4 r0 k4 (x1, x2, m)) 4 [(0, .ref r0), (1, .int x1), (2, .int x2)] [] m
    unfold bX4_homeBits_4
    dsimp only
    refine T_iload_n 2 rfl rfl dX4_homeBits_4 ?_
    refine T_aload_n 0 rfl rfl dX4_homeBits_5 ?_
    refine gIX4_15 rfl h0 dX4_homeBits_6 ?_
    refine T_icmp_ge 32 dX4_homeBits_9 (by decide) (fun _ => ?_) (fun _ => ?_)
    · refine T_iload_n 1 rfl rfl dX4_homeBits_32 ?_
      exact T_iret rfl dX4_homeBits_33
    · refine T_aload_n 0 rfl rfl dX4_homeBits_12 ?_
      refine T_iload_n 2 rfl rfl dX4_homeBits_13 ?_
      refine T_cVI (c := 4) [.int x2] [] mkX4_getsHome lmX4_91 rfl rfl (by decide) (Nat.le_of_ble_eq_true rfl) h0 dX4_homeBits_14 (bsX4_getsHome _ r0 x2 m h0) (fun z2 m1 => ?_)
      refine T_if_eq 26 dX4_homeBits_17 (by decide) (fun _ => ?_) (fun _ => ?_)
      · refine T_iinc (lv' := [(2, .int (x2 + (1 : Int32))), (0, .ref r0), (1, .int x1)]) 2 (1 : Int32) rfl (by decide) (Nat.le_of_ble_eq_true rfl) rfl dX4_homeBits_26 ?_
        refine T_li (fun y4 => ?_)
        refine T_goto 4 dX4_homeBits_29 (by decide) ?_
        exact T_sub [1, 2, 0] rfl (hk4 (x1, y4, m1))
      · refine T_iload_n 1 rfl rfl dX4_homeBits_20 ?_
        refine T_iconst (1 : Int32) (by decide) dX4_homeBits_21 ?_
        refine T_iload_n 2 rfl rfl dX4_homeBits_22 ?_
        refine T_ishl dX4_homeBits_23 ?_
        refine T_ior dX4_homeBits_24 ?_
        refine T_istore_n (lv' := [(1, .int (x1 ||| ((1 : Int32) <<< (x2 &&& 31)))), (0, .ref r0), (2, .int x2)]) rfl (Nat.le_of_ble_eq_true rfl) rfl dX4_homeBits_25 ?_
        refine T_li (fun y5 => ?_)
        refine T_iinc (lv' := [(2, .int (x2 + (1 : Int32))), (1, .int y5), (0, .ref r0)]) 2 (1 : Int32) rfl (by decide) (Nat.le_of_ble_eq_true rfl) rfl dX4_homeBits_26 ?_
        refine T_li (fun y6 => ?_)
        refine T_goto 4 dX4_homeBits_29 (by decide) ?_
        exact T_sub [2, 1, 0] rfl (hk4 (y5, y6, m1)))
def fX4_homeBits (r0 : Nat) (m : mMem) : mR := lp (bX4_homeBits_4 r0) FU ((0 : Int32), (0 : Int32), m)
set_option maxRecDepth 100000 in
theorem bsX4_homeBits (l : Launch) (r0 : Nat) (m : mMem) (h0 : kd r0 = (4, 0)) : BS l qX4_homeBits [.ref r0] m (fX4_homeBits r0 m) := BS_of (by decide) (Nat.le_of_ble_eq_true rfl) (fun X _ => by
    show T qX4_homeBits X (fX4_homeBits r0 m) 0 [(0, .ref r0)] [] m
    unfold fX4_homeBits
    refine T_iconst (0 : Int32) (by decide) dX4_homeBits_0 ?_
    refine T_istore_n (lv' := [(1, .int (0 : Int32)), (0, .ref r0)]) rfl (Nat.le_of_ble_eq_true rfl) rfl dX4_homeBits_1 ?_
    refine T_iconst (0 : Int32) (by decide) dX4_homeBits_2 ?_
    refine T_istore_n (lv' := [(2, .int (0 : Int32)), (1, .int (0 : Int32)), (0, .ref r0)]) rfl (Nat.le_of_ble_eq_true rfl) rfl dX4_homeBits_3 ?_
    exact T_sub [2, 1, 0] rfl (tX4_homeBits_4 X r0 h0 FU ((0 : Int32), (0 : Int32), m)))
