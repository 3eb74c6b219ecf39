abbrev qX6_put : mMI := (yX6_put, cX6_put, 2, (some .int), 0)
theorem dX6_put_0 : decode cX6_put 0 = .ok (.aload_n 0, 1) := by decide +kernel
theorem dX6_put_1 : decode cX6_put 1 = .ok (.getfield 9, 3) := by decide +kernel
theorem dX6_put_4 : decode cX6_put 4 = .ok (.sipush 160, 3) := by decide +kernel
theorem dX6_put_7 : decode cX6_put 7 = .ok (.if_icmp .lt 6, 3) := by decide +kernel
theorem dX6_put_10 : decode cX6_put 10 = .ok (.bipush (-3), 2) := by decide +kernel
theorem dX6_put_12 : decode cX6_put 12 = .ok (.ireturn, 1) := by decide +kernel
theorem dX6_put_13 : decode cX6_put 13 = .ok (.aload_n 0, 1) := by decide +kernel
theorem dX6_put_14 : decode cX6_put 14 = .ok (.getfield 21, 3) := by decide +kernel
theorem dX6_put_17 : decode cX6_put 17 = .ok (.aload_n 0, 1) := by decide +kernel
theorem dX6_put_18 : decode cX6_put 18 = .ok (.getfield 9, 3) := by decide +kernel
theorem dX6_put_21 : decode cX6_put 21 = .ok (.iload_n 1, 1) := by decide +kernel
theorem dX6_put_22 : decode cX6_put 22 = .ok (.i2b, 1) := by decide +kernel
theorem dX6_put_23 : decode cX6_put 23 = .ok (.bastore, 1) := by decide +kernel
theorem dX6_put_24 : decode cX6_put 24 = .ok (.aload_n 0, 1) := by decide +kernel
theorem dX6_put_25 : decode cX6_put 25 = .ok (.dup, 1) := by decide +kernel
theorem dX6_put_26 : decode cX6_put 26 = .ok (.getfield 9, 3) := by decide +kernel
theorem dX6_put_29 : decode cX6_put 29 = .ok (.iconst 1, 1) := by decide +kernel
theorem dX6_put_30 : decode cX6_put 30 = .ok (.iadd, 1) := by decide +kernel
theorem dX6_put_31 : decode cX6_put 31 = .ok (.putfield 9, 3) := by decide +kernel
theorem dX6_put_34 : decode cX6_put 34 = .ok (.aload_n 0, 1) := by decide +kernel
theorem dX6_put_35 : decode cX6_put 35 = .ok (.getfield 9, 3) := by decide +kernel
theorem dX6_put_38 : decode cX6_put 38 = .ok (.ireturn, 1) := by decide +kernel
theorem mkX6_put : mokV qX6_put 1 := ⟨⟨⟨⟨by decide, by decide, by decide +kernel⟩, by decide⟩, gd_mem 52 (by decide +kernel) (by decide +kernel), gd_mem 344 (by decide +kernel) (by decide +kernel)⟩, gd_mem 342 (by decide +kernel) (by decide +kernel), gd_mem 343 (by decide +kernel) (by decide +kernel)⟩
abbrev qX6_hasLostFloor : mMI := (yX6_hasLostFloor, cX6_hasLostFloor, 2, (some .boolean), 0)
theorem dX6_hasLostFloor_0 : decode cX6_hasLostFloor 0 = .ok (.iconst 0, 1) := by decide +kernel
theorem dX6_hasLostFloor_1 : decode cX6_hasLostFloor 1 = .ok (.istore_n 1, 1) := by decide +kernel
theorem dX6_hasLostFloor_2 : decode cX6_hasLostFloor 2 = .ok (.iload_n 1, 1) := by decide +kernel
theorem dX6_hasLostFloor_3 : decode cX6_hasLostFloor 3 = .ok (.aload_n 0, 1) := by decide +kernel
theorem dX6_hasLostFloor_4 : decode cX6_hasLostFloor 4 = .ok (.getfield 68, 3) := by decide +kernel
theorem dX6_hasLostFloor_7 : decode cX6_hasLostFloor 7 = .ok (.if_icmp .ge 24, 3) := by decide +kernel
theorem dX6_hasLostFloor_10 : decode cX6_hasLostFloor 10 = .ok (.aload_n 0, 1) := by decide +kernel
theorem dX6_hasLostFloor_11 : decode cX6_hasLostFloor 11 = .ok (.getfield 71, 3) := by decide +kernel
theorem dX6_hasLostFloor_14 : decode cX6_hasLostFloor 14 = .ok (.iload_n 1, 1) := by decide +kernel
theorem dX6_hasLostFloor_15 : decode cX6_hasLostFloor 15 = .ok (.iaload, 1) := by decide +kernel
theorem dX6_hasLostFloor_16 : decode cX6_hasLostFloor 16 = .ok (.aload_n 0, 1) := by decide +kernel
theorem dX6_hasLostFloor_17 : decode cX6_hasLostFloor 17 = .ok (.getfield 74, 3) := by decide +kernel
theorem dX6_hasLostFloor_20 : decode cX6_hasLostFloor 20 = .ok (.if_icmp .lt 5, 3) := by decide +kernel
theorem dX6_hasLostFloor_23 : decode cX6_hasLostFloor 23 = .ok (.iconst 1, 1) := by decide +kernel
theorem dX6_hasLostFloor_24 : decode cX6_hasLostFloor 24 = .ok (.ireturn, 1) := by decide +kernel
theorem dX6_hasLostFloor_25 : decode cX6_hasLostFloor 25 = .ok (.iinc 1 1, 3) := by decide +kernel
theorem dX6_hasLostFloor_28 : decode cX6_hasLostFloor 28 = .ok (.goto (-26), 3) := by decide +kernel
theorem dX6_hasLostFloor_31 : decode cX6_hasLostFloor 31 = .ok (.iconst 0, 1) := by decide +kernel
theorem dX6_hasLostFloor_32 : decode cX6_hasLostFloor 32 = .ok (.ireturn, 1) := by decide +kernel
theorem mkX6_hasLostFloor : mokS qX6_hasLostFloor 1 := ⟨⟨⟨⟨by decide, by decide, by decide +kernel⟩, by decide⟩, gd_mem 52 (by decide +kernel) (by decide +kernel), gd_mem 474 (by decide +kernel) (by decide +kernel)⟩, gd_mem 473 (by decide +kernel) (by decide +kernel)⟩
abbrev qX6_kindOfByte : mMI := (yX6_kindOfByte, cX6_kindOfByte, 1, (some .int), 0)
theorem dX6_kindOfByte_0 : decode cX6_kindOfByte 0 = .ok (.iload_n 0, 1) := by decide +kernel
theorem dX6_kindOfByte_1 : decode cX6_kindOfByte 1 = .ok (.bipush 97, 2) := by decide +kernel
theorem dX6_kindOfByte_3 : decode cX6_kindOfByte 3 = .ok (.if_icmp .lt 11, 3) := by decide +kernel
theorem dX6_kindOfByte_6 : decode cX6_kindOfByte 6 = .ok (.iload_n 0, 1) := by decide +kernel
theorem dX6_kindOfByte_7 : decode cX6_kindOfByte 7 = .ok (.bipush 122, 2) := by decide +kernel
theorem dX6_kindOfByte_9 : decode cX6_kindOfByte 9 = .ok (.if_icmp .gt 5, 3) := by decide +kernel
theorem dX6_kindOfByte_12 : decode cX6_kindOfByte 12 = .ok (.iconst 1, 1) := by decide +kernel
theorem dX6_kindOfByte_13 : decode cX6_kindOfByte 13 = .ok (.ireturn, 1) := by decide +kernel
theorem dX6_kindOfByte_14 : decode cX6_kindOfByte 14 = .ok (.iload_n 0, 1) := by decide +kernel
theorem dX6_kindOfByte_15 : decode cX6_kindOfByte 15 = .ok (.bipush 48, 2) := by decide +kernel
theorem dX6_kindOfByte_17 : decode cX6_kindOfByte 17 = .ok (.if_icmp .lt 11, 3) := by decide +kernel
theorem dX6_kindOfByte_20 : decode cX6_kindOfByte 20 = .ok (.iload_n 0, 1) := by decide +kernel
theorem dX6_kindOfByte_21 : decode cX6_kindOfByte 21 = .ok (.bipush 57, 2) := by decide +kernel
theorem dX6_kindOfByte_23 : decode cX6_kindOfByte 23 = .ok (.if_icmp .gt 5, 3) := by decide +kernel
theorem dX6_kindOfByte_26 : decode cX6_kindOfByte 26 = .ok (.iconst 2, 1) := by decide +kernel
theorem dX6_kindOfByte_27 : decode cX6_kindOfByte 27 = .ok (.ireturn, 1) := by decide +kernel
theorem dX6_kindOfByte_28 : decode cX6_kindOfByte 28 = .ok (.iload_n 0, 1) := by decide +kernel
theorem dX6_kindOfByte_29 : decode cX6_kindOfByte 29 = .ok (.bipush 59, 2) := by decide +kernel
theorem dX6_kindOfByte_31 : decode cX6_kindOfByte 31 = .ok (.if_icmp .ne 7, 3) := by decide +kernel
theorem dX6_kindOfByte_34 : decode cX6_kindOfByte 34 = .ok (.iconst 3, 1) := by decide +kernel
theorem dX6_kindOfByte_35 : decode cX6_kindOfByte 35 = .ok (.goto 4, 3) := by decide +kernel
theorem dX6_kindOfByte_38 : decode cX6_kindOfByte 38 = .ok (.iconst 0, 1) := by decide +kernel
theorem dX6_kindOfByte_39 : decode cX6_kindOfByte 39 = .ok (.ireturn, 1) := by decide +kernel
theorem mkX6_kindOfByte : mokS qX6_kindOfByte 1 := ⟨⟨⟨⟨by decide, by decide, by decide +kernel⟩, by decide⟩, gd_mem 52 (by decide +kernel) (by decide +kernel), gd_mem 367 (by decide +kernel) (by decide +kernel)⟩, gd_mem 366 (by decide +kernel) (by decide +kernel)⟩
abbrev qX6_nameOfLine : mMI := (yX6_nameOfLine, cX6_nameOfLine, 1, (some (.object "java/lang/String")), 0)
theorem dX6_nameOfLine_0 : decode cX6_nameOfLine 0 = .ok (.iload_n 0, 1) := by decide +kernel
theorem dX6_nameOfLine_1 : decode cX6_nameOfLine 1 = .ok (.tableswitch 57 0 5 #[39, 42, 45, 48, 51, 54], 39) := by decide +kernel
theorem dX6_nameOfLine_40 : decode cX6_nameOfLine 40 = .ok (.ldc 134, 2) := by decide +kernel
theorem dX6_nameOfLine_42 : decode cX6_nameOfLine 42 = .ok (.areturn, 1) := by decide +kernel
theorem dX6_nameOfLine_43 : decode cX6_nameOfLine 43 = .ok (.ldc 136, 2) := by decide +kernel
theorem dX6_nameOfLine_45 : decode cX6_nameOfLine 45 = .ok (.areturn, 1) := by decide +kernel
theorem dX6_nameOfLine_46 : decode cX6_nameOfLine 46 = .ok (.ldc 138, 2) := by decide +kernel
theorem dX6_nameOfLine_48 : decode cX6_nameOfLine 48 = .ok (.areturn, 1) := by decide +kernel
theorem dX6_nameOfLine_49 : decode cX6_nameOfLine 49 = .ok (.ldc 140, 2) := by decide +kernel
theorem dX6_nameOfLine_51 : decode cX6_nameOfLine 51 = .ok (.areturn, 1) := by decide +kernel
theorem dX6_nameOfLine_52 : decode cX6_nameOfLine 52 = .ok (.ldc 142, 2) := by decide +kernel
theorem dX6_nameOfLine_54 : decode cX6_nameOfLine 54 = .ok (.areturn, 1) := by decide +kernel
theorem dX6_nameOfLine_55 : decode cX6_nameOfLine 55 = .ok (.ldc 144, 2) := by decide +kernel
theorem dX6_nameOfLine_57 : decode cX6_nameOfLine 57 = .ok (.areturn, 1) := by decide +kernel
theorem dX6_nameOfLine_58 : decode cX6_nameOfLine 58 = .ok (.ldc 146, 2) := by decide +kernel
theorem dX6_nameOfLine_60 : decode cX6_nameOfLine 60 = .ok (.areturn, 1) := by decide +kernel
theorem mkX6_nameOfLine : mokS qX6_nameOfLine 1 := ⟨⟨⟨⟨by decide, by decide, by decide +kernel⟩, by decide⟩, gd_mem 52 (by decide +kernel) (by decide +kernel), gd_mem 382 (by decide +kernel) (by decide +kernel)⟩, gd_mem 381 (by decide +kernel) (by decide +kernel)⟩
abbrev qX6_refuse : mMI := (yX6_refuse, cX6_refuse, 3, none, 0)
theorem dX6_refuse_0 : decode cX6_refuse 0 = .ok (.aload_n 0, 1) := by decide +kernel
theorem dX6_refuse_1 : decode cX6_refuse 1 = .ok (.iload_n 1, 1) := by decide +kernel
theorem dX6_refuse_2 : decode cX6_refuse 2 = .ok (.putfield 15, 3) := by decide +kernel
theorem dX6_refuse_5 : decode cX6_refuse 5 = .ok (.aload_n 0, 1) := by decide +kernel
theorem dX6_refuse_6 : decode cX6_refuse 6 = .ok (.iload_n 2, 1) := by decide +kernel
theorem dX6_refuse_7 : decode cX6_refuse 7 = .ok (.putfield 18, 3) := by decide +kernel
theorem dX6_refuse_10 : decode cX6_refuse 10 = .ok (.return_, 1) := by decide +kernel
theorem mkX6_refuse : mokV qX6_refuse 2 := ⟨⟨⟨⟨by decide, by decide, by decide +kernel⟩, by decide⟩, gd_mem 52 (by decide +kernel) (by decide +kernel), gd_mem 371 (by decide +kernel) (by decide +kernel)⟩, gd_mem 370 (by decide +kernel) (by decide +kernel), gd_mem 1 (by decide +kernel) (by decide +kernel)⟩
abbrev qX6_refuseOneTooMany : mMI := (yX6_refuseOneTooMany, cX6_refuseOneTooMany, 3, none, 1)
theorem dX6_refuseOneTooMany_0 : decode cX6_refuseOneTooMany 0 = .ok (.iload_n 2, 1) := by decide +kernel
theorem dX6_refuseOneTooMany_1 : decode cX6_refuseOneTooMany 1 = .ok (.iconst 5, 1) := by decide +kernel
theorem dX6_refuseOneTooMany_2 : decode cX6_refuseOneTooMany 2 = .ok (.if_icmp .ne 10, 3) := by decide +kernel
theorem dX6_refuseOneTooMany_5 : decode cX6_refuseOneTooMany 5 = .ok (.aload_n 0, 1) := by decide +kernel
theorem dX6_refuseOneTooMany_6 : decode cX6_refuseOneTooMany 6 = .ok (.getfield 38, 3) := by decide +kernel
theorem dX6_refuseOneTooMany_9 : decode cX6_refuseOneTooMany 9 = .ok (.ifCond .ne 16, 3) := by decide +kernel
theorem dX6_refuseOneTooMany_12 : decode cX6_refuseOneTooMany 12 = .ok (.iload_n 2, 1) := by decide +kernel
theorem dX6_refuseOneTooMany_13 : decode cX6_refuseOneTooMany 13 = .ok (.bipush 6, 2) := by decide +kernel
theorem dX6_refuseOneTooMany_15 : decode cX6_refuseOneTooMany 15 = .ok (.if_icmp .ne 22, 3) := by decide +kernel
theorem dX6_refuseOneTooMany_18 : decode cX6_refuseOneTooMany 18 = .ok (.aload_n 0, 1) := by decide +kernel
theorem dX6_refuseOneTooMany_19 : decode cX6_refuseOneTooMany 19 = .ok (.getfield 42, 3) := by decide +kernel
theorem dX6_refuseOneTooMany_22 : decode cX6_refuseOneTooMany 22 = .ok (.ifCond .eq 15, 3) := by decide +kernel
theorem dX6_refuseOneTooMany_25 : decode cX6_refuseOneTooMany 25 = .ok (.aload_n 0, 1) := by decide +kernel
theorem dX6_refuseOneTooMany_26 : decode cX6_refuseOneTooMany 26 = .ok (.iconst 4, 1) := by decide +kernel
theorem dX6_refuseOneTooMany_27 : decode cX6_refuseOneTooMany 27 = .ok (.aload_n 0, 1) := by decide +kernel
theorem dX6_refuseOneTooMany_28 : decode cX6_refuseOneTooMany 28 = .ok (.getfield 35, 3) := by decide +kernel
theorem dX6_refuseOneTooMany_31 : decode cX6_refuseOneTooMany 31 = .ok (.invokevirtual 64, 3) := by decide +kernel
theorem dX6_refuseOneTooMany_34 : decode cX6_refuseOneTooMany 34 = .ok (.goto 39, 3) := by decide +kernel
theorem dX6_refuseOneTooMany_37 : decode cX6_refuseOneTooMany 37 = .ok (.iload_n 2, 1) := by decide +kernel
theorem dX6_refuseOneTooMany_38 : decode cX6_refuseOneTooMany 38 = .ok (.iconst 4, 1) := by decide +kernel
theorem dX6_refuseOneTooMany_39 : decode cX6_refuseOneTooMany 39 = .ok (.if_icmp .ge 12, 3) := by decide +kernel
theorem dX6_refuseOneTooMany_42 : decode cX6_refuseOneTooMany 42 = .ok (.aload_n 1, 1) := by decide +kernel
theorem dX6_refuseOneTooMany_43 : decode cX6_refuseOneTooMany 43 = .ok (.getfield 74, 3) := by decide +kernel
theorem dX6_refuseOneTooMany_46 : decode cX6_refuseOneTooMany 46 = .ok (.bipush 10, 2) := by decide +kernel
theorem dX6_refuseOneTooMany_48 : decode cX6_refuseOneTooMany 48 = .ok (.if_icmp .ge 16, 3) := by decide +kernel
theorem dX6_refuseOneTooMany_51 : decode cX6_refuseOneTooMany 51 = .ok (.iload_n 2, 1) := by decide +kernel
theorem dX6_refuseOneTooMany_52 : decode cX6_refuseOneTooMany 52 = .ok (.iconst 4, 1) := by decide +kernel
theorem dX6_refuseOneTooMany_53 : decode cX6_refuseOneTooMany 53 = .ok (.if_icmp .ne 20, 3) := by decide +kernel
theorem dX6_refuseOneTooMany_56 : decode cX6_refuseOneTooMany 56 = .ok (.aload_n 1, 1) := by decide +kernel
theorem dX6_refuseOneTooMany_57 : decode cX6_refuseOneTooMany 57 = .ok (.getfield 68, 3) := by decide +kernel
theorem dX6_refuseOneTooMany_60 : decode cX6_refuseOneTooMany 60 = .ok (.iconst 4, 1) := by decide +kernel
theorem dX6_refuseOneTooMany_61 : decode cX6_refuseOneTooMany 61 = .ok (.if_icmp .lt 12, 3) := by decide +kernel
theorem dX6_refuseOneTooMany_64 : decode cX6_refuseOneTooMany 64 = .ok (.aload_n 0, 1) := by decide +kernel
theorem dX6_refuseOneTooMany_65 : decode cX6_refuseOneTooMany 65 = .ok (.iconst 5, 1) := by decide +kernel
theorem dX6_refuseOneTooMany_66 : decode cX6_refuseOneTooMany 66 = .ok (.aload_n 0, 1) := by decide +kernel
theorem dX6_refuseOneTooMany_67 : decode cX6_refuseOneTooMany 67 = .ok (.getfield 35, 3) := by decide +kernel
theorem dX6_refuseOneTooMany_70 : decode cX6_refuseOneTooMany 70 = .ok (.invokevirtual 64, 3) := by decide +kernel
theorem dX6_refuseOneTooMany_73 : decode cX6_refuseOneTooMany 73 = .ok (.return_, 1) := by decide +kernel
theorem mkX6_refuseOneTooMany : mokV qX6_refuseOneTooMany 2 := ⟨⟨⟨⟨by decide, by decide, by decide +kernel⟩, by decide⟩, gd_mem 52 (by decide +kernel) (by decide +kernel), gd_mem 445 (by decide +kernel) (by decide +kernel)⟩, gd_mem 444 (by decide +kernel) (by decide +kernel), gd_mem 5 (by decide +kernel) (by decide +kernel)⟩
abbrev qX6_takeNumber : mMI := (yX6_takeNumber, cX6_takeNumber, 5, none, 1)
theorem dX6_takeNumber_0 : decode cX6_takeNumber 0 = .ok (.aload_n 0, 1) := by decide +kernel
theorem dX6_takeNumber_1 : decode cX6_takeNumber 1 = .ok (.getfield 15, 3) := by decide +kernel
theorem dX6_takeNumber_4 : decode cX6_takeNumber 4 = .ok (.ifCond .eq 4, 3) := by decide +kernel
theorem dX6_takeNumber_7 : decode cX6_takeNumber 7 = .ok (.return_, 1) := by decide +kernel
theorem dX6_takeNumber_8 : decode cX6_takeNumber 8 = .ok (.aload_n 0, 1) := by decide +kernel
theorem dX6_takeNumber_9 : decode cX6_takeNumber 9 = .ok (.getfield 32, 3) := by decide +kernel
theorem dX6_takeNumber_12 : decode cX6_takeNumber 12 = .ok (.iconst 2, 1) := by decide +kernel
theorem dX6_takeNumber_13 : decode cX6_takeNumber 13 = .ok (.if_icmp .eq 13, 3) := by decide +kernel
theorem dX6_takeNumber_16 : decode cX6_takeNumber 16 = .ok (.aload_n 0, 1) := by decide +kernel
theorem dX6_takeNumber_17 : decode cX6_takeNumber 17 = .ok (.iconst 2, 1) := by decide +kernel
theorem dX6_takeNumber_18 : decode cX6_takeNumber 18 = .ok (.aload_n 0, 1) := by decide +kernel
theorem dX6_takeNumber_19 : decode cX6_takeNumber 19 = .ok (.getfield 35, 3) := by decide +kernel
theorem dX6_takeNumber_22 : decode cX6_takeNumber 22 = .ok (.invokevirtual 64, 3) := by decide +kernel
theorem dX6_takeNumber_25 : decode cX6_takeNumber 25 = .ok (.return_, 1) := by decide +kernel
theorem dX6_takeNumber_26 : decode cX6_takeNumber 26 = .ok (.iconst 0, 1) := by decide +kernel
theorem dX6_takeNumber_27 : decode cX6_takeNumber 27 = .ok (.istore_n 3, 1) := by decide +kernel
theorem dX6_takeNumber_28 : decode cX6_takeNumber 28 = .ok (.aload_n 0, 1) := by decide +kernel
theorem dX6_takeNumber_29 : decode cX6_takeNumber 29 = .ok (.getfield 35, 3) := by decide +kernel
theorem dX6_takeNumber_32 : decode cX6_takeNumber 32 = .ok (.istore 4, 2) := by decide +kernel
theorem dX6_takeNumber_34 : decode cX6_takeNumber 34 = .ok (.iload 4, 2) := by decide +kernel
theorem dX6_takeNumber_36 : decode cX6_takeNumber 36 = .ok (.aload_n 0, 1) := by decide +kernel
theorem dX6_takeNumber_37 : decode cX6_takeNumber 37 = .ok (.getfield 29, 3) := by decide +kernel
theorem dX6_takeNumber_40 : decode cX6_takeNumber 40 = .ok (.if_icmp .ge 25, 3) := by decide +kernel
theorem dX6_takeNumber_43 : decode cX6_takeNumber 43 = .ok (.iload_n 3, 1) := by decide +kernel
theorem dX6_takeNumber_44 : decode cX6_takeNumber 44 = .ok (.bipush 10, 2) := by decide +kernel
theorem dX6_takeNumber_46 : decode cX6_takeNumber 46 = .ok (.imul, 1) := by decide +kernel
theorem dX6_takeNumber_47 : decode cX6_takeNumber 47 = .ok (.aload_n 0, 1) := by decide +kernel
theorem dX6_takeNumber_48 : decode cX6_takeNumber 48 = .ok (.getfield 21, 3) := by decide +kernel
theorem dX6_takeNumber_51 : decode cX6_takeNumber 51 = .ok (.iload 4, 2) := by decide +kernel
theorem dX6_takeNumber_53 : decode cX6_takeNumber 53 = .ok (.baload, 1) := by decide +kernel
theorem dX6_takeNumber_54 : decode cX6_takeNumber 54 = .ok (.iadd, 1) := by decide +kernel
theorem dX6_takeNumber_55 : decode cX6_takeNumber 55 = .ok (.bipush 48, 2) := by decide +kernel
theorem dX6_takeNumber_57 : decode cX6_takeNumber 57 = .ok (.isub, 1) := by decide +kernel
theorem dX6_takeNumber_58 : decode cX6_takeNumber 58 = .ok (.istore_n 3, 1) := by decide +kernel
theorem dX6_takeNumber_59 : decode cX6_takeNumber 59 = .ok (.iinc 4 1, 3) := by decide +kernel
theorem dX6_takeNumber_62 : decode cX6_takeNumber 62 = .ok (.goto (-28), 3) := by decide +kernel
theorem dX6_takeNumber_65 : decode cX6_takeNumber 65 = .ok (.iload_n 1, 1) := by decide +kernel
theorem dX6_takeNumber_66 : decode cX6_takeNumber 66 = .ok (.iconst 4, 1) := by decide +kernel
theorem dX6_takeNumber_67 : decode cX6_takeNumber 67 = .ok (.imul, 1) := by decide +kernel
theorem dX6_takeNumber_68 : decode cX6_takeNumber 68 = .ok (.iload_n 2, 1) := by decide +kernel
theorem dX6_takeNumber_69 : decode cX6_takeNumber 69 = .ok (.iadd, 1) := by decide +kernel
theorem dX6_takeNumber_70 : decode cX6_takeNumber 70 = .ok (.istore 4, 2) := by decide +kernel
theorem dX6_takeNumber_72 : decode cX6_takeNumber 72 = .ok (.iload_n 3, 1) := by decide +kernel
theorem dX6_takeNumber_73 : decode cX6_takeNumber 73 = .ok (.getstatic 94, 3) := by decide +kernel
theorem dX6_takeNumber_76 : decode cX6_takeNumber 76 = .ok (.iload 4, 2) := by decide +kernel
theorem dX6_takeNumber_78 : decode cX6_takeNumber 78 = .ok (.iaload, 1) := by decide +kernel
theorem dX6_takeNumber_79 : decode cX6_takeNumber 79 = .ok (.if_icmp .lt 13, 3) := by decide +kernel
theorem dX6_takeNumber_82 : decode cX6_takeNumber 82 = .ok (.iload_n 3, 1) := by decide +kernel
theorem dX6_takeNumber_83 : decode cX6_takeNumber 83 = .ok (.getstatic 97, 3) := by decide +kernel
theorem dX6_takeNumber_86 : decode cX6_takeNumber 86 = .ok (.iload 4, 2) := by decide +kernel
theorem dX6_takeNumber_88 : decode cX6_takeNumber 88 = .ok (.iaload, 1) := by decide +kernel
theorem dX6_takeNumber_89 : decode cX6_takeNumber 89 = .ok (.if_icmp .le 12, 3) := by decide +kernel
theorem dX6_takeNumber_92 : decode cX6_takeNumber 92 = .ok (.aload_n 0, 1) := by decide +kernel
theorem dX6_takeNumber_93 : decode cX6_takeNumber 93 = .ok (.iconst 3, 1) := by decide +kernel
theorem dX6_takeNumber_94 : decode cX6_takeNumber 94 = .ok (.aload_n 0, 1) := by decide +kernel
theorem dX6_takeNumber_95 : decode cX6_takeNumber 95 = .ok (.getfield 35, 3) := by decide +kernel
theorem dX6_takeNumber_98 : decode cX6_takeNumber 98 = .ok (.invokevirtual 64, 3) := by decide +kernel
theorem dX6_takeNumber_101 : decode cX6_takeNumber 101 = .ok (.aload_n 0, 1) := by decide +kernel
theorem dX6_takeNumber_102 : decode cX6_takeNumber 102 = .ok (.getfield 25, 3) := by decide +kernel
theorem dX6_takeNumber_105 : decode cX6_takeNumber 105 = .ok (.iload_n 2, 1) := by decide +kernel
theorem dX6_takeNumber_106 : decode cX6_takeNumber 106 = .ok (.iload_n 3, 1) := by decide +kernel
theorem dX6_takeNumber_107 : decode cX6_takeNumber 107 = .ok (.iastore, 1) := by decide +kernel
theorem dX6_takeNumber_108 : decode cX6_takeNumber 108 = .ok (.return_, 1) := by decide +kernel
theorem mkX6_takeNumber : mokV qX6_takeNumber 2 := ⟨⟨⟨⟨by decide, by decide, by decide +kernel⟩, by decide⟩, gd_mem 52 (by decide +kernel) (by decide +kernel), gd_mem 451 (by decide +kernel) (by decide +kernel)⟩, gd_mem 450 (by decide +kernel) (by decide +kernel), gd_mem 6 (by decide +kernel) (by decide +kernel)⟩
abbrev qX6_tellLine : mMI := (yX6_tellLine, cX6_tellLine, 3, none, 1)
theorem dX6_tellLine_0 : decode cX6_tellLine 0 = .ok (.iload_n 2, 1) := by decide +kernel
theorem dX6_tellLine_1 : decode cX6_tellLine 1 = .ok (.tableswitch 94 4 6 #[27, 58, 76], 27) := by decide +kernel
theorem dX6_tellLine_28 : decode cX6_tellLine 28 = .ok (.aload_n 1, 1) := by decide +kernel
theorem dX6_tellLine_29 : decode cX6_tellLine 29 = .ok (.aload_n 0, 1) := by decide +kernel
theorem dX6_tellLine_30 : decode cX6_tellLine 30 = .ok (.getfield 25, 3) := by decide +kernel
theorem dX6_tellLine_33 : decode cX6_tellLine 33 = .ok (.iconst 0, 1) := by decide +kernel
theorem dX6_tellLine_34 : decode cX6_tellLine 34 = .ok (.iaload, 1) := by decide +kernel
theorem dX6_tellLine_35 : decode cX6_tellLine 35 = .ok (.aload_n 0, 1) := by decide +kernel
theorem dX6_tellLine_36 : decode cX6_tellLine 36 = .ok (.getfield 25, 3) := by decide +kernel
theorem dX6_tellLine_39 : decode cX6_tellLine 39 = .ok (.iconst 1, 1) := by decide +kernel
theorem dX6_tellLine_40 : decode cX6_tellLine 40 = .ok (.iaload, 1) := by decide +kernel
theorem dX6_tellLine_41 : decode cX6_tellLine 41 = .ok (.aload_n 0, 1) := by decide +kernel
theorem dX6_tellLine_42 : decode cX6_tellLine 42 = .ok (.getfield 25, 3) := by decide +kernel
theorem dX6_tellLine_45 : decode cX6_tellLine 45 = .ok (.iconst 2, 1) := by decide +kernel
theorem dX6_tellLine_46 : decode cX6_tellLine 46 = .ok (.iaload, 1) := by decide +kernel
theorem dX6_tellLine_47 : decode cX6_tellLine 47 = .ok (.aload_n 0, 1) := by decide +kernel
theorem dX6_tellLine_48 : decode cX6_tellLine 48 = .ok (.getfield 25, 3) := by decide +kernel
theorem dX6_tellLine_51 : decode cX6_tellLine 51 = .ok (.iconst 3, 1) := by decide +kernel
theorem dX6_tellLine_52 : decode cX6_tellLine 52 = .ok (.iaload, 1) := by decide +kernel
theorem dX6_tellLine_53 : decode cX6_tellLine 53 = .ok (.invokevirtual 100, 3) := by decide +kernel
theorem dX6_tellLine_56 : decode cX6_tellLine 56 = .ok (.goto 56, 3) := by decide +kernel
theorem dX6_tellLine_59 : decode cX6_tellLine 59 = .ok (.aload_n 1, 1) := by decide +kernel
theorem dX6_tellLine_60 : decode cX6_tellLine 60 = .ok (.aload_n 0, 1) := by decide +kernel
theorem dX6_tellLine_61 : decode cX6_tellLine 61 = .ok (.getfield 25, 3) := by decide +kernel
theorem dX6_tellLine_64 : decode cX6_tellLine 64 = .ok (.iconst 0, 1) := by decide +kernel
theorem dX6_tellLine_65 : decode cX6_tellLine 65 = .ok (.iaload, 1) := by decide +kernel
theorem dX6_tellLine_66 : decode cX6_tellLine 66 = .ok (.putfield 104, 3) := by decide +kernel
theorem dX6_tellLine_69 : decode cX6_tellLine 69 = .ok (.aload_n 0, 1) := by decide +kernel
theorem dX6_tellLine_70 : decode cX6_tellLine 70 = .ok (.iconst 1, 1) := by decide +kernel
theorem dX6_tellLine_71 : decode cX6_tellLine 71 = .ok (.putfield 38, 3) := by decide +kernel
theorem dX6_tellLine_74 : decode cX6_tellLine 74 = .ok (.goto 38, 3) := by decide +kernel
theorem dX6_tellLine_77 : decode cX6_tellLine 77 = .ok (.aload_n 1, 1) := by decide +kernel
theorem dX6_tellLine_78 : decode cX6_tellLine 78 = .ok (.aload_n 0, 1) := by decide +kernel
theorem dX6_tellLine_79 : decode cX6_tellLine 79 = .ok (.getfield 25, 3) := by decide +kernel
theorem dX6_tellLine_82 : decode cX6_tellLine 82 = .ok (.iconst 0, 1) := by decide +kernel
theorem dX6_tellLine_83 : decode cX6_tellLine 83 = .ok (.iaload, 1) := by decide +kernel
theorem dX6_tellLine_84 : decode cX6_tellLine 84 = .ok (.putfield 107, 3) := by decide +kernel
theorem dX6_tellLine_87 : decode cX6_tellLine 87 = .ok (.aload_n 0, 1) := by decide +kernel
theorem dX6_tellLine_88 : decode cX6_tellLine 88 = .ok (.iconst 1, 1) := by decide +kernel
theorem dX6_tellLine_89 : decode cX6_tellLine 89 = .ok (.putfield 42, 3) := by decide +kernel
theorem dX6_tellLine_92 : decode cX6_tellLine 92 = .ok (.goto 20, 3) := by decide +kernel
theorem dX6_tellLine_95 : decode cX6_tellLine 95 = .ok (.aload_n 1, 1) := by decide +kernel
theorem dX6_tellLine_96 : decode cX6_tellLine 96 = .ok (.iload_n 2, 1) := by decide +kernel
theorem dX6_tellLine_97 : decode cX6_tellLine 97 = .ok (.aload_n 0, 1) := by decide +kernel
theorem dX6_tellLine_98 : decode cX6_tellLine 98 = .ok (.getfield 25, 3) := by decide +kernel
theorem dX6_tellLine_101 : decode cX6_tellLine 101 = .ok (.iconst 0, 1) := by decide +kernel
theorem dX6_tellLine_102 : decode cX6_tellLine 102 = .ok (.iaload, 1) := by decide +kernel
theorem dX6_tellLine_103 : decode cX6_tellLine 103 = .ok (.aload_n 0, 1) := by decide +kernel
theorem dX6_tellLine_104 : decode cX6_tellLine 104 = .ok (.getfield 25, 3) := by decide +kernel
theorem dX6_tellLine_107 : decode cX6_tellLine 107 = .ok (.iconst 1, 1) := by decide +kernel
theorem dX6_tellLine_108 : decode cX6_tellLine 108 = .ok (.iaload, 1) := by decide +kernel
theorem dX6_tellLine_109 : decode cX6_tellLine 109 = .ok (.invokevirtual 110, 3) := by decide +kernel
theorem dX6_tellLine_112 : decode cX6_tellLine 112 = .ok (.return_, 1) := by decide +kernel
theorem mkX6_tellLine : mokV qX6_tellLine 2 := ⟨⟨⟨⟨by decide, by decide, by decide +kernel⟩, by decide⟩, gd_mem 52 (by decide +kernel) (by decide +kernel), gd_mem 463 (by decide +kernel) (by decide +kernel)⟩, gd_mem 462 (by decide +kernel) (by decide +kernel), gd_mem 8 (by decide +kernel) (by decide +kernel)⟩
abbrev qX6_takeToken : mMI := (yX6_takeToken, cX6_takeToken, 1, none, 1)
theorem dX6_takeToken_0 : decode cX6_takeToken 0 = .ok (.aload_n 0, 1) := by decide +kernel
theorem dX6_takeToken_1 : decode cX6_takeToken 1 = .ok (.getfield 29, 3) := by decide +kernel
theorem dX6_takeToken_4 : decode cX6_takeToken 4 = .ok (.aload_n 0, 1) := by decide +kernel
theorem dX6_takeToken_5 : decode cX6_takeToken 5 = .ok (.getfield 9, 3) := by decide +kernel
theorem dX6_takeToken_8 : decode cX6_takeToken 8 = .ok (.if_icmp .ge 30, 3) := by decide +kernel
theorem dX6_takeToken_11 : decode cX6_takeToken 11 = .ok (.aload_n 0, 1) := by decide +kernel
theorem dX6_takeToken_12 : decode cX6_takeToken 12 = .ok (.getfield 21, 3) := by decide +kernel
theorem dX6_takeToken_15 : decode cX6_takeToken 15 = .ok (.aload_n 0, 1) := by decide +kernel
theorem dX6_takeToken_16 : decode cX6_takeToken 16 = .ok (.getfield 29, 3) := by decide +kernel
theorem dX6_takeToken_19 : decode cX6_takeToken 19 = .ok (.baload, 1) := by decide +kernel
theorem dX6_takeToken_20 : decode cX6_takeToken 20 = .ok (.bipush 32, 2) := by decide +kernel
theorem dX6_takeToken_22 : decode cX6_takeToken 22 = .ok (.if_icmp .ne 16, 3) := by decide +kernel
theorem dX6_takeToken_25 : decode cX6_takeToken 25 = .ok (.aload_n 0, 1) := by decide +kernel
theorem dX6_takeToken_26 : decode cX6_takeToken 26 = .ok (.dup, 1) := by decide +kernel
theorem dX6_takeToken_27 : decode cX6_takeToken 27 = .ok (.getfield 29, 3) := by decide +kernel
theorem dX6_takeToken_30 : decode cX6_takeToken 30 = .ok (.iconst 1, 1) := by decide +kernel
theorem dX6_takeToken_31 : decode cX6_takeToken 31 = .ok (.iadd, 1) := by decide +kernel
theorem dX6_takeToken_32 : decode cX6_takeToken 32 = .ok (.putfield 29, 3) := by decide +kernel
theorem dX6_takeToken_35 : decode cX6_takeToken 35 = .ok (.goto (-35), 3) := by decide +kernel
theorem dX6_takeToken_38 : decode cX6_takeToken 38 = .ok (.aload_n 0, 1) := by decide +kernel
theorem dX6_takeToken_39 : decode cX6_takeToken 39 = .ok (.aload_n 0, 1) := by decide +kernel
theorem dX6_takeToken_40 : decode cX6_takeToken 40 = .ok (.getfield 29, 3) := by decide +kernel
theorem dX6_takeToken_43 : decode cX6_takeToken 43 = .ok (.putfield 35, 3) := by decide +kernel
theorem dX6_takeToken_46 : decode cX6_takeToken 46 = .ok (.aload_n 0, 1) := by decide +kernel
theorem dX6_takeToken_47 : decode cX6_takeToken 47 = .ok (.aload_n 0, 1) := by decide +kernel
theorem dX6_takeToken_48 : decode cX6_takeToken 48 = .ok (.getfield 29, 3) := by decide +kernel
theorem dX6_takeToken_51 : decode cX6_takeToken 51 = .ok (.aload_n 0, 1) := by decide +kernel
theorem dX6_takeToken_52 : decode cX6_takeToken 52 = .ok (.getfield 9, 3) := by decide +kernel
theorem dX6_takeToken_55 : decode cX6_takeToken 55 = .ok (.if_icmp .ge 18, 3) := by decide +kernel
theorem dX6_takeToken_58 : decode cX6_takeToken 58 = .ok (.aload_n 0, 1) := by decide +kernel
theorem dX6_takeToken_59 : decode cX6_takeToken 59 = .ok (.getfield 21, 3) := by decide +kernel
theorem dX6_takeToken_62 : decode cX6_takeToken 62 = .ok (.aload_n 0, 1) := by decide +kernel
theorem dX6_takeToken_63 : decode cX6_takeToken 63 = .ok (.getfield 29, 3) := by decide +kernel
theorem dX6_takeToken_66 : decode cX6_takeToken 66 = .ok (.baload, 1) := by decide +kernel
theorem dX6_takeToken_67 : decode cX6_takeToken 67 = .ok (.invokestatic 114, 3) := by decide +kernel
theorem dX6_takeToken_70 : decode cX6_takeToken 70 = .ok (.goto 4, 3) := by decide +kernel
theorem dX6_takeToken_73 : decode cX6_takeToken 73 = .ok (.iconst 4, 1) := by decide +kernel
theorem dX6_takeToken_74 : decode cX6_takeToken 74 = .ok (.putfield 32, 3) := by decide +kernel
theorem dX6_takeToken_77 : decode cX6_takeToken 77 = .ok (.aload_n 0, 1) := by decide +kernel
theorem dX6_takeToken_78 : decode cX6_takeToken 78 = .ok (.getfield 32, 3) := by decide +kernel
theorem dX6_takeToken_81 : decode cX6_takeToken 81 = .ok (.ifCond .ne 15, 3) := by decide +kernel
theorem dX6_takeToken_84 : decode cX6_takeToken 84 = .ok (.aload_n 0, 1) := by decide +kernel
theorem dX6_takeToken_85 : decode cX6_takeToken 85 = .ok (.iconst 1, 1) := by decide +kernel
theorem dX6_takeToken_86 : decode cX6_takeToken 86 = .ok (.aload_n 0, 1) := by decide +kernel
theorem dX6_takeToken_87 : decode cX6_takeToken 87 = .ok (.getfield 35, 3) := by decide +kernel
theorem dX6_takeToken_90 : decode cX6_takeToken 90 = .ok (.invokevirtual 64, 3) := by decide +kernel
theorem dX6_takeToken_93 : decode cX6_takeToken 93 = .ok (.goto 105, 3) := by decide +kernel
theorem dX6_takeToken_96 : decode cX6_takeToken 96 = .ok (.aload_n 0, 1) := by decide +kernel
theorem dX6_takeToken_97 : decode cX6_takeToken 97 = .ok (.getfield 32, 3) := by decide +kernel
theorem dX6_takeToken_100 : decode cX6_takeToken 100 = .ok (.iconst 3, 1) := by decide +kernel
theorem dX6_takeToken_101 : decode cX6_takeToken 101 = .ok (.if_icmp .ne 16, 3) := by decide +kernel
theorem dX6_takeToken_104 : decode cX6_takeToken 104 = .ok (.aload_n 0, 1) := by decide +kernel
theorem dX6_takeToken_105 : decode cX6_takeToken 105 = .ok (.dup, 1) := by decide +kernel
theorem dX6_takeToken_106 : decode cX6_takeToken 106 = .ok (.getfield 29, 3) := by decide +kernel
theorem dX6_takeToken_109 : decode cX6_takeToken 109 = .ok (.iconst 1, 1) := by decide +kernel
theorem dX6_takeToken_110 : decode cX6_takeToken 110 = .ok (.iadd, 1) := by decide +kernel
theorem dX6_takeToken_111 : decode cX6_takeToken 111 = .ok (.putfield 29, 3) := by decide +kernel
theorem dX6_takeToken_114 : decode cX6_takeToken 114 = .ok (.goto 84, 3) := by decide +kernel
theorem dX6_takeToken_117 : decode cX6_takeToken 117 = .ok (.aload_n 0, 1) := by decide +kernel
theorem dX6_takeToken_118 : decode cX6_takeToken 118 = .ok (.getfield 32, 3) := by decide +kernel
theorem dX6_takeToken_121 : decode cX6_takeToken 121 = .ok (.iconst 4, 1) := by decide +kernel
theorem dX6_takeToken_122 : decode cX6_takeToken 122 = .ok (.if_icmp .eq 76, 3) := by decide +kernel
theorem dX6_takeToken_125 : decode cX6_takeToken 125 = .ok (.aload_n 0, 1) := by decide +kernel
theorem dX6_takeToken_126 : decode cX6_takeToken 126 = .ok (.getfield 29, 3) := by decide +kernel
theorem dX6_takeToken_129 : decode cX6_takeToken 129 = .ok (.aload_n 0, 1) := by decide +kernel
theorem dX6_takeToken_130 : decode cX6_takeToken 130 = .ok (.getfield 9, 3) := by decide +kernel
theorem dX6_takeToken_133 : decode cX6_takeToken 133 = .ok (.if_icmp .ge 35, 3) := by decide +kernel
theorem dX6_takeToken_136 : decode cX6_takeToken 136 = .ok (.aload_n 0, 1) := by decide +kernel
theorem dX6_takeToken_137 : decode cX6_takeToken 137 = .ok (.getfield 21, 3) := by decide +kernel
theorem dX6_takeToken_140 : decode cX6_takeToken 140 = .ok (.aload_n 0, 1) := by decide +kernel
theorem dX6_takeToken_141 : decode cX6_takeToken 141 = .ok (.getfield 29, 3) := by decide +kernel
theorem dX6_takeToken_144 : decode cX6_takeToken 144 = .ok (.baload, 1) := by decide +kernel
theorem dX6_takeToken_145 : decode cX6_takeToken 145 = .ok (.invokestatic 114, 3) := by decide +kernel
theorem dX6_takeToken_148 : decode cX6_takeToken 148 = .ok (.aload_n 0, 1) := by decide +kernel
theorem dX6_takeToken_149 : decode cX6_takeToken 149 = .ok (.getfield 32, 3) := by decide +kernel
theorem dX6_takeToken_152 : decode cX6_takeToken 152 = .ok (.if_icmp .ne 16, 3) := by decide +kernel
theorem dX6_takeToken_155 : decode cX6_takeToken 155 = .ok (.aload_n 0, 1) := by decide +kernel
theorem dX6_takeToken_156 : decode cX6_takeToken 156 = .ok (.dup, 1) := by decide +kernel
theorem dX6_takeToken_157 : decode cX6_takeToken 157 = .ok (.getfield 29, 3) := by decide +kernel
theorem dX6_takeToken_160 : decode cX6_takeToken 160 = .ok (.iconst 1, 1) := by decide +kernel
theorem dX6_takeToken_161 : decode cX6_takeToken 161 = .ok (.iadd, 1) := by decide +kernel
theorem dX6_takeToken_162 : decode cX6_takeToken 162 = .ok (.putfield 29, 3) := by decide +kernel
theorem dX6_takeToken_165 : decode cX6_takeToken 165 = .ok (.goto (-40), 3) := by decide +kernel
theorem dX6_takeToken_168 : decode cX6_takeToken 168 = .ok (.aload_n 0, 1) := by decide +kernel
theorem dX6_takeToken_169 : decode cX6_takeToken 169 = .ok (.getfield 32, 3) := by decide +kernel
theorem dX6_takeToken_172 : decode cX6_takeToken 172 = .ok (.iconst 2, 1) := by decide +kernel
theorem dX6_takeToken_173 : decode cX6_takeToken 173 = .ok (.if_icmp .ne 25, 3) := by decide +kernel
theorem dX6_takeToken_176 : decode cX6_takeToken 176 = .ok (.aload_n 0, 1) := by decide +kernel
theorem dX6_takeToken_177 : decode cX6_takeToken 177 = .ok (.getfield 29, 3) := by decide +kernel
theorem dX6_takeToken_180 : decode cX6_takeToken 180 = .ok (.aload_n 0, 1) := by decide +kernel
theorem dX6_takeToken_181 : decode cX6_takeToken 181 = .ok (.getfield 35, 3) := by decide +kernel
theorem dX6_takeToken_184 : decode cX6_takeToken 184 = .ok (.isub, 1) := by decide +kernel
theorem dX6_takeToken_185 : decode cX6_takeToken 185 = .ok (.iconst 2, 1) := by decide +kernel
theorem dX6_takeToken_186 : decode cX6_takeToken 186 = .ok (.if_icmp .le 12, 3) := by decide +kernel
theorem dX6_takeToken_189 : decode cX6_takeToken 189 = .ok (.aload_n 0, 1) := by decide +kernel
theorem dX6_takeToken_190 : decode cX6_takeToken 190 = .ok (.iconst 1, 1) := by decide +kernel
theorem dX6_takeToken_191 : decode cX6_takeToken 191 = .ok (.aload_n 0, 1) := by decide +kernel
theorem dX6_takeToken_192 : decode cX6_takeToken 192 = .ok (.getfield 35, 3) := by decide +kernel
theorem dX6_takeToken_195 : decode cX6_takeToken 195 = .ok (.invokevirtual 64, 3) := by decide +kernel
theorem dX6_takeToken_198 : decode cX6_takeToken 198 = .ok (.return_, 1) := by decide +kernel
theorem mkX6_takeToken : mokV qX6_takeToken 0 := ⟨⟨⟨⟨by decide, by decide, by decide +kernel⟩, by decide⟩, gd_mem 52 (by decide +kernel) (by decide +kernel), gd_mem 364 (by decide +kernel) (by decide +kernel)⟩, gd_mem 363 (by decide +kernel) (by decide +kernel), gd_mem 0 (by decide +kernel) (by decide +kernel)⟩
abbrev qX6_takeTokenIfSound : mMI := (yX6_takeTokenIfSound, cX6_takeTokenIfSound, 1, none, 2)
theorem dX6_takeTokenIfSound_0 : decode cX6_takeTokenIfSound 0 = .ok (.aload_n 0, 1) := by decide +kernel
theorem dX6_takeTokenIfSound_1 : decode cX6_takeTokenIfSound 1 = .ok (.getfield 15, 3) := by decide +kernel
theorem dX6_takeTokenIfSound_4 : decode cX6_takeTokenIfSound 4 = .ok (.ifCond .ne 7, 3) := by decide +kernel
theorem dX6_takeTokenIfSound_7 : decode cX6_takeTokenIfSound 7 = .ok (.aload_n 0, 1) := by decide +kernel
theorem dX6_takeTokenIfSound_8 : decode cX6_takeTokenIfSound 8 = .ok (.invokevirtual 50, 3) := by decide +kernel
theorem dX6_takeTokenIfSound_11 : decode cX6_takeTokenIfSound 11 = .ok (.return_, 1) := by decide +kernel
theorem mkX6_takeTokenIfSound : mokV qX6_takeTokenIfSound 0 := ⟨⟨⟨⟨by decide, by decide, by decide +kernel⟩, by decide⟩, gd_mem 52 (by decide +kernel) (by decide +kernel), gd_mem 459 (by decide +kernel) (by decide +kernel)⟩, gd_mem 458 (by decide +kernel) (by decide +kernel), gd_mem 7 (by decide +kernel) (by decide +kernel)⟩
abbrev qX6_isTokenNamed : mMI := (yX6_isTokenNamed, cX6_isTokenNamed, 3, (some .boolean), 5)
theorem dX6_isTokenNamed_0 : decode cX6_isTokenNamed 0 = .ok (.aload_n 0, 1) := by decide +kernel
theorem dX6_isTokenNamed_1 : decode cX6_isTokenNamed 1 = .ok (.getfield 29, 3) := by decide +kernel
theorem dX6_isTokenNamed_4 : decode cX6_isTokenNamed 4 = .ok (.aload_n 0, 1) := by decide +kernel
theorem dX6_isTokenNamed_5 : decode cX6_isTokenNamed 5 = .ok (.getfield 35, 3) := by decide +kernel
theorem dX6_isTokenNamed_8 : decode cX6_isTokenNamed 8 = .ok (.isub, 1) := by decide +kernel
theorem dX6_isTokenNamed_9 : decode cX6_isTokenNamed 9 = .ok (.aload_n 1, 1) := by decide +kernel
theorem dX6_isTokenNamed_10 : decode cX6_isTokenNamed 10 = .ok (.invokevirtual 126, 3) := by decide +kernel
theorem dX6_isTokenNamed_13 : decode cX6_isTokenNamed 13 = .ok (.if_icmp .eq 5, 3) := by decide +kernel
theorem dX6_isTokenNamed_16 : decode cX6_isTokenNamed 16 = .ok (.iconst 0, 1) := by decide +kernel
theorem dX6_isTokenNamed_17 : decode cX6_isTokenNamed 17 = .ok (.ireturn, 1) := by decide +kernel
theorem dX6_isTokenNamed_18 : decode cX6_isTokenNamed 18 = .ok (.iconst 0, 1) := by decide +kernel
theorem dX6_isTokenNamed_19 : decode cX6_isTokenNamed 19 = .ok (.istore_n 2, 1) := by decide +kernel
theorem dX6_isTokenNamed_20 : decode cX6_isTokenNamed 20 = .ok (.iload_n 2, 1) := by decide +kernel
theorem dX6_isTokenNamed_21 : decode cX6_isTokenNamed 21 = .ok (.aload_n 1, 1) := by decide +kernel
theorem dX6_isTokenNamed_22 : decode cX6_isTokenNamed 22 = .ok (.invokevirtual 126, 3) := by decide +kernel
theorem dX6_isTokenNamed_25 : decode cX6_isTokenNamed 25 = .ok (.if_icmp .ge 30, 3) := by decide +kernel
theorem dX6_isTokenNamed_28 : decode cX6_isTokenNamed 28 = .ok (.aload_n 0, 1) := by decide +kernel
theorem dX6_isTokenNamed_29 : decode cX6_isTokenNamed 29 = .ok (.getfield 21, 3) := by decide +kernel
theorem dX6_isTokenNamed_32 : decode cX6_isTokenNamed 32 = .ok (.aload_n 0, 1) := by decide +kernel
theorem dX6_isTokenNamed_33 : decode cX6_isTokenNamed 33 = .ok (.getfield 35, 3) := by decide +kernel
theorem dX6_isTokenNamed_36 : decode cX6_isTokenNamed 36 = .ok (.iload_n 2, 1) := by decide +kernel
theorem dX6_isTokenNamed_37 : decode cX6_isTokenNamed 37 = .ok (.iadd, 1) := by decide +kernel
theorem dX6_isTokenNamed_38 : decode cX6_isTokenNamed 38 = .ok (.baload, 1) := by decide +kernel
theorem dX6_isTokenNamed_39 : decode cX6_isTokenNamed 39 = .ok (.aload_n 1, 1) := by decide +kernel
theorem dX6_isTokenNamed_40 : decode cX6_isTokenNamed 40 = .ok (.iload_n 2, 1) := by decide +kernel
theorem dX6_isTokenNamed_41 : decode cX6_isTokenNamed 41 = .ok (.invokevirtual 130, 3) := by decide +kernel
theorem dX6_isTokenNamed_44 : decode cX6_isTokenNamed 44 = .ok (.if_icmp .eq 5, 3) := by decide +kernel
theorem dX6_isTokenNamed_47 : decode cX6_isTokenNamed 47 = .ok (.iconst 0, 1) := by decide +kernel
theorem dX6_isTokenNamed_48 : decode cX6_isTokenNamed 48 = .ok (.ireturn, 1) := by decide +kernel
theorem dX6_isTokenNamed_49 : decode cX6_isTokenNamed 49 = .ok (.iinc 2 1, 3) := by decide +kernel
theorem dX6_isTokenNamed_52 : decode cX6_isTokenNamed 52 = .ok (.goto (-32), 3) := by decide +kernel
theorem dX6_isTokenNamed_55 : decode cX6_isTokenNamed 55 = .ok (.iconst 1, 1) := by decide +kernel
theorem dX6_isTokenNamed_56 : decode cX6_isTokenNamed 56 = .ok (.ireturn, 1) := by decide +kernel
theorem mkX6_isTokenNamed : mokV qX6_isTokenNamed 1 := ⟨⟨⟨⟨by decide, by decide, by decide +kernel⟩, by decide⟩, gd_mem 52 (by decide +kernel) (by decide +kernel), gd_mem 393 (by decide +kernel) (by decide +kernel)⟩, gd_mem 392 (by decide +kernel) (by decide +kernel), gd_mem 4 (by decide +kernel) (by decide +kernel)⟩
abbrev qX6_lineOfName : mMI := (yX6_lineOfName, cX6_lineOfName, 2, (some .int), 6)
theorem dX6_lineOfName_0 : decode cX6_lineOfName 0 = .ok (.iconst 0, 1) := by decide +kernel
theorem dX6_lineOfName_1 : decode cX6_lineOfName 1 = .ok (.istore_n 1, 1) := by decide +kernel
theorem dX6_lineOfName_2 : decode cX6_lineOfName 2 = .ok (.iload_n 1, 1) := by decide +kernel
theorem dX6_lineOfName_3 : decode cX6_lineOfName 3 = .ok (.bipush 7, 2) := by decide +kernel
theorem dX6_lineOfName_5 : decode cX6_lineOfName 5 = .ok (.if_icmp .ge 22, 3) := by decide +kernel
theorem dX6_lineOfName_8 : decode cX6_lineOfName 8 = .ok (.aload_n 0, 1) := by decide +kernel
theorem dX6_lineOfName_9 : decode cX6_lineOfName 9 = .ok (.iload_n 1, 1) := by decide +kernel
theorem dX6_lineOfName_10 : decode cX6_lineOfName 10 = .ok (.invokestatic 118, 3) := by decide +kernel
theorem dX6_lineOfName_13 : decode cX6_lineOfName 13 = .ok (.invokevirtual 122, 3) := by decide +kernel
theorem dX6_lineOfName_16 : decode cX6_lineOfName 16 = .ok (.ifCond .eq 5, 3) := by decide +kernel
theorem dX6_lineOfName_19 : decode cX6_lineOfName 19 = .ok (.iload_n 1, 1) := by decide +kernel
theorem dX6_lineOfName_20 : decode cX6_lineOfName 20 = .ok (.ireturn, 1) := by decide +kernel
theorem dX6_lineOfName_21 : decode cX6_lineOfName 21 = .ok (.iinc 1 1, 3) := by decide +kernel
theorem dX6_lineOfName_24 : decode cX6_lineOfName 24 = .ok (.goto (-22), 3) := by decide +kernel
theorem dX6_lineOfName_27 : decode cX6_lineOfName 27 = .ok (.bipush 7, 2) := by decide +kernel
theorem dX6_lineOfName_29 : decode cX6_lineOfName 29 = .ok (.ireturn, 1) := by decide +kernel
theorem mkX6_lineOfName : mokV qX6_lineOfName 0 := ⟨⟨⟨⟨by decide, by decide, by decide +kernel⟩, by decide⟩, gd_mem 52 (by decide +kernel) (by decide +kernel), gd_mem 379 (by decide +kernel) (by decide +kernel)⟩, gd_mem 378 (by decide +kernel) (by decide +kernel), gd_mem 3 (by decide +kernel) (by decide +kernel)⟩
abbrev qX6_takeLine : mMI := (yX6_takeLine, cX6_takeLine, 4, none, 7)
theorem dX6_takeLine_0 : decode cX6_takeLine 0 = .ok (.aload_n 0, 1) := by decide +kernel
theorem dX6_takeLine_1 : decode cX6_takeLine 1 = .ok (.getfield 32, 3) := by decide +kernel
theorem dX6_takeLine_4 : decode cX6_takeLine 4 = .ok (.iconst 1, 1) := by decide +kernel
theorem dX6_takeLine_5 : decode cX6_takeLine 5 = .ok (.if_icmp .ne 10, 3) := by decide +kernel
theorem dX6_takeLine_8 : decode cX6_takeLine 8 = .ok (.aload_n 0, 1) := by decide +kernel
theorem dX6_takeLine_9 : decode cX6_takeLine 9 = .ok (.invokevirtual 77, 3) := by decide +kernel
theorem dX6_takeLine_12 : decode cX6_takeLine 12 = .ok (.goto 5, 3) := by decide +kernel
theorem dX6_takeLine_15 : decode cX6_takeLine 15 = .ok (.bipush 7, 2) := by decide +kernel
theorem dX6_takeLine_17 : decode cX6_takeLine 17 = .ok (.istore_n 2, 1) := by decide +kernel
theorem dX6_takeLine_18 : decode cX6_takeLine 18 = .ok (.iload_n 2, 1) := by decide +kernel
theorem dX6_takeLine_19 : decode cX6_takeLine 19 = .ok (.bipush 7, 2) := by decide +kernel
theorem dX6_takeLine_21 : decode cX6_takeLine 21 = .ok (.if_icmp .lt 13, 3) := by decide +kernel
theorem dX6_takeLine_24 : decode cX6_takeLine 24 = .ok (.aload_n 0, 1) := by decide +kernel
theorem dX6_takeLine_25 : decode cX6_takeLine 25 = .ok (.iconst 2, 1) := by decide +kernel
theorem dX6_takeLine_26 : decode cX6_takeLine 26 = .ok (.aload_n 0, 1) := by decide +kernel
theorem dX6_takeLine_27 : decode cX6_takeLine 27 = .ok (.getfield 35, 3) := by decide +kernel
theorem dX6_takeLine_30 : decode cX6_takeLine 30 = .ok (.invokevirtual 64, 3) := by decide +kernel
theorem dX6_takeLine_33 : decode cX6_takeLine 33 = .ok (.return_, 1) := by decide +kernel
theorem dX6_takeLine_34 : decode cX6_takeLine 34 = .ok (.aload_n 0, 1) := by decide +kernel
theorem dX6_takeLine_35 : decode cX6_takeLine 35 = .ok (.aload_n 1, 1) := by decide +kernel
theorem dX6_takeLine_36 : decode cX6_takeLine 36 = .ok (.iload_n 2, 1) := by decide +kernel
theorem dX6_takeLine_37 : decode cX6_takeLine 37 = .ok (.invokevirtual 81, 3) := by decide +kernel
theorem dX6_takeLine_40 : decode cX6_takeLine 40 = .ok (.iconst 0, 1) := by decide +kernel
theorem dX6_takeLine_41 : decode cX6_takeLine 41 = .ok (.istore_n 3, 1) := by decide +kernel
theorem dX6_takeLine_42 : decode cX6_takeLine 42 = .ok (.iload_n 3, 1) := by decide +kernel
theorem dX6_takeLine_43 : decode cX6_takeLine 43 = .ok (.getstatic 85, 3) := by decide +kernel
theorem dX6_takeLine_46 : decode cX6_takeLine 46 = .ok (.iload_n 2, 1) := by decide +kernel
theorem dX6_takeLine_47 : decode cX6_takeLine 47 = .ok (.iaload, 1) := by decide +kernel
theorem dX6_takeLine_48 : decode cX6_takeLine 48 = .ok (.if_icmp .ge 26, 3) := by decide +kernel
theorem dX6_takeLine_51 : decode cX6_takeLine 51 = .ok (.aload_n 0, 1) := by decide +kernel
theorem dX6_takeLine_52 : decode cX6_takeLine 52 = .ok (.getfield 15, 3) := by decide +kernel
theorem dX6_takeLine_55 : decode cX6_takeLine 55 = .ok (.ifCond .ne 19, 3) := by decide +kernel
theorem dX6_takeLine_58 : decode cX6_takeLine 58 = .ok (.aload_n 0, 1) := by decide +kernel
theorem dX6_takeLine_59 : decode cX6_takeLine 59 = .ok (.invokevirtual 50, 3) := by decide +kernel
theorem dX6_takeLine_62 : decode cX6_takeLine 62 = .ok (.aload_n 0, 1) := by decide +kernel
theorem dX6_takeLine_63 : decode cX6_takeLine 63 = .ok (.iload_n 2, 1) := by decide +kernel
theorem dX6_takeLine_64 : decode cX6_takeLine 64 = .ok (.iload_n 3, 1) := by decide +kernel
theorem dX6_takeLine_65 : decode cX6_takeLine 65 = .ok (.invokevirtual 88, 3) := by decide +kernel
theorem dX6_takeLine_68 : decode cX6_takeLine 68 = .ok (.iinc 3 1, 3) := by decide +kernel
theorem dX6_takeLine_71 : decode cX6_takeLine 71 = .ok (.goto (-29), 3) := by decide +kernel
theorem dX6_takeLine_74 : decode cX6_takeLine 74 = .ok (.aload_n 0, 1) := by decide +kernel
theorem dX6_takeLine_75 : decode cX6_takeLine 75 = .ok (.invokevirtual 57, 3) := by decide +kernel
theorem dX6_takeLine_78 : decode cX6_takeLine 78 = .ok (.aload_n 0, 1) := by decide +kernel
theorem dX6_takeLine_79 : decode cX6_takeLine 79 = .ok (.getfield 15, 3) := by decide +kernel
theorem dX6_takeLine_82 : decode cX6_takeLine 82 = .ok (.ifCond .ne 20, 3) := by decide +kernel
theorem dX6_takeLine_85 : decode cX6_takeLine 85 = .ok (.aload_n 0, 1) := by decide +kernel
theorem dX6_takeLine_86 : decode cX6_takeLine 86 = .ok (.getfield 32, 3) := by decide +kernel
theorem dX6_takeLine_89 : decode cX6_takeLine 89 = .ok (.iconst 3, 1) := by decide +kernel
theorem dX6_takeLine_90 : decode cX6_takeLine 90 = .ok (.if_icmp .eq 12, 3) := by decide +kernel
theorem dX6_takeLine_93 : decode cX6_takeLine 93 = .ok (.aload_n 0, 1) := by decide +kernel
theorem dX6_takeLine_94 : decode cX6_takeLine 94 = .ok (.iconst 2, 1) := by decide +kernel
theorem dX6_takeLine_95 : decode cX6_takeLine 95 = .ok (.aload_n 0, 1) := by decide +kernel
theorem dX6_takeLine_96 : decode cX6_takeLine 96 = .ok (.getfield 35, 3) := by decide +kernel
theorem dX6_takeLine_99 : decode cX6_takeLine 99 = .ok (.invokevirtual 64, 3) := by decide +kernel
theorem dX6_takeLine_102 : decode cX6_takeLine 102 = .ok (.aload_n 0, 1) := by decide +kernel
theorem dX6_takeLine_103 : decode cX6_takeLine 103 = .ok (.getfield 15, 3) := by decide +kernel
theorem dX6_takeLine_106 : decode cX6_takeLine 106 = .ok (.ifCond .ne 9, 3) := by decide +kernel
theorem dX6_takeLine_109 : decode cX6_takeLine 109 = .ok (.aload_n 0, 1) := by decide +kernel
theorem dX6_takeLine_110 : decode cX6_takeLine 110 = .ok (.aload_n 1, 1) := by decide +kernel
theorem dX6_takeLine_111 : decode cX6_takeLine 111 = .ok (.iload_n 2, 1) := by decide +kernel
theorem dX6_takeLine_112 : decode cX6_takeLine 112 = .ok (.invokevirtual 91, 3) := by decide +kernel
theorem dX6_takeLine_115 : decode cX6_takeLine 115 = .ok (.return_, 1) := by decide +kernel
theorem mkX6_takeLine : mokV qX6_takeLine 1 := ⟨⟨⟨⟨by decide, by decide, by decide +kernel⟩, by decide⟩, gd_mem 52 (by decide +kernel) (by decide +kernel), gd_mem 375 (by decide +kernel) (by decide +kernel)⟩, gd_mem 374 (by decide +kernel) (by decide +kernel), gd_mem 2 (by decide +kernel) (by decide +kernel)⟩
abbrev qX6_tell : mMI := (yX6_tell, cX6_tell, 3, (some .int), 8)
theorem dX6_tell_0 : decode cX6_tell 0 = .ok (.aload_n 1, 1) := by decide +kernel
theorem dX6_tell_1 : decode cX6_tell 1 = .ok (.invokevirtual 45, 3) := by decide +kernel
theorem dX6_tell_4 : decode cX6_tell 4 = .ok (.aload_n 0, 1) := by decide +kernel
theorem dX6_tell_5 : decode cX6_tell 5 = .ok (.iconst 0, 1) := by decide +kernel
theorem dX6_tell_6 : decode cX6_tell 6 = .ok (.putfield 15, 3) := by decide +kernel
theorem dX6_tell_9 : decode cX6_tell 9 = .ok (.aload_n 0, 1) := by decide +kernel
theorem dX6_tell_10 : decode cX6_tell 10 = .ok (.iconst 0, 1) := by decide +kernel
theorem dX6_tell_11 : decode cX6_tell 11 = .ok (.putfield 18, 3) := by decide +kernel
theorem dX6_tell_14 : decode cX6_tell 14 = .ok (.aload_n 0, 1) := by decide +kernel
theorem dX6_tell_15 : decode cX6_tell 15 = .ok (.iconst 0, 1) := by decide +kernel
theorem dX6_tell_16 : decode cX6_tell 16 = .ok (.putfield 29, 3) := by decide +kernel
theorem dX6_tell_19 : decode cX6_tell 19 = .ok (.aload_n 0, 1) := by decide +kernel
theorem dX6_tell_20 : decode cX6_tell 20 = .ok (.iconst 0, 1) := by decide +kernel
theorem dX6_tell_21 : decode cX6_tell 21 = .ok (.putfield 38, 3) := by decide +kernel
theorem dX6_tell_24 : decode cX6_tell 24 = .ok (.aload_n 0, 1) := by decide +kernel
theorem dX6_tell_25 : decode cX6_tell 25 = .ok (.iconst 0, 1) := by decide +kernel
theorem dX6_tell_26 : decode cX6_tell 26 = .ok (.putfield 42, 3) := by decide +kernel
theorem dX6_tell_29 : decode cX6_tell 29 = .ok (.iconst 0, 1) := by decide +kernel
theorem dX6_tell_30 : decode cX6_tell 30 = .ok (.istore_n 2, 1) := by decide +kernel
theorem dX6_tell_31 : decode cX6_tell 31 = .ok (.aload_n 0, 1) := by decide +kernel
theorem dX6_tell_32 : decode cX6_tell 32 = .ok (.invokevirtual 50, 3) := by decide +kernel
theorem dX6_tell_35 : decode cX6_tell 35 = .ok (.aload_n 0, 1) := by decide +kernel
theorem dX6_tell_36 : decode cX6_tell 36 = .ok (.getfield 15, 3) := by decide +kernel
theorem dX6_tell_39 : decode cX6_tell 39 = .ok (.ifCond .ne 33, 3) := by decide +kernel
theorem dX6_tell_42 : decode cX6_tell 42 = .ok (.aload_n 0, 1) := by decide +kernel
theorem dX6_tell_43 : decode cX6_tell 43 = .ok (.getfield 32, 3) := by decide +kernel
theorem dX6_tell_46 : decode cX6_tell 46 = .ok (.iconst 4, 1) := by decide +kernel
theorem dX6_tell_47 : decode cX6_tell 47 = .ok (.if_icmp .eq 25, 3) := by decide +kernel
theorem dX6_tell_50 : decode cX6_tell 50 = .ok (.iload_n 2, 1) := by decide +kernel
theorem dX6_tell_51 : decode cX6_tell 51 = .ok (.sipush 160, 3) := by decide +kernel
theorem dX6_tell_54 : decode cX6_tell 54 = .ok (.if_icmp .ge 18, 3) := by decide +kernel
theorem dX6_tell_57 : decode cX6_tell 57 = .ok (.aload_n 0, 1) := by decide +kernel
theorem dX6_tell_58 : decode cX6_tell 58 = .ok (.aload_n 1, 1) := by decide +kernel
theorem dX6_tell_59 : decode cX6_tell 59 = .ok (.invokevirtual 53, 3) := by decide +kernel
theorem dX6_tell_62 : decode cX6_tell 62 = .ok (.aload_n 0, 1) := by decide +kernel
theorem dX6_tell_63 : decode cX6_tell 63 = .ok (.invokevirtual 57, 3) := by decide +kernel
theorem dX6_tell_66 : decode cX6_tell 66 = .ok (.iinc 2 1, 3) := by decide +kernel
theorem dX6_tell_69 : decode cX6_tell 69 = .ok (.goto (-34), 3) := by decide +kernel
theorem dX6_tell_72 : decode cX6_tell 72 = .ok (.aload_n 0, 1) := by decide +kernel
theorem dX6_tell_73 : decode cX6_tell 73 = .ok (.getfield 15, 3) := by decide +kernel
theorem dX6_tell_76 : decode cX6_tell 76 = .ok (.ifCond .ne 20, 3) := by decide +kernel
theorem dX6_tell_79 : decode cX6_tell 79 = .ok (.aload_n 1, 1) := by decide +kernel
theorem dX6_tell_80 : decode cX6_tell 80 = .ok (.invokestatic 60, 3) := by decide +kernel
theorem dX6_tell_83 : decode cX6_tell 83 = .ok (.ifCond .eq 13, 3) := by decide +kernel
theorem dX6_tell_86 : decode cX6_tell 86 = .ok (.aload_n 0, 1) := by decide +kernel
theorem dX6_tell_87 : decode cX6_tell 87 = .ok (.bipush 6, 2) := by decide +kernel
theorem dX6_tell_89 : decode cX6_tell 89 = .ok (.aload_n 0, 1) := by decide +kernel
theorem dX6_tell_90 : decode cX6_tell 90 = .ok (.getfield 9, 3) := by decide +kernel
theorem dX6_tell_93 : decode cX6_tell 93 = .ok (.invokevirtual 64, 3) := by decide +kernel
theorem dX6_tell_96 : decode cX6_tell 96 = .ok (.aload_n 0, 1) := by decide +kernel
theorem dX6_tell_97 : decode cX6_tell 97 = .ok (.iconst 0, 1) := by decide +kernel
theorem dX6_tell_98 : decode cX6_tell 98 = .ok (.putfield 9, 3) := by decide +kernel
theorem dX6_tell_101 : decode cX6_tell 101 = .ok (.aload_n 0, 1) := by decide +kernel
theorem dX6_tell_102 : decode cX6_tell 102 = .ok (.getfield 15, 3) := by decide +kernel
theorem dX6_tell_105 : decode cX6_tell 105 = .ok (.ifCond .ne 7, 3) := by decide +kernel
theorem dX6_tell_108 : decode cX6_tell 108 = .ok (.iload_n 2, 1) := by decide +kernel
theorem dX6_tell_109 : decode cX6_tell 109 = .ok (.goto 10, 3) := by decide +kernel
theorem dX6_tell_112 : decode cX6_tell 112 = .ok (.bipush (-10), 2) := by decide +kernel
theorem dX6_tell_114 : decode cX6_tell 114 = .ok (.aload_n 0, 1) := by decide +kernel
theorem dX6_tell_115 : decode cX6_tell 115 = .ok (.getfield 18, 3) := by decide +kernel
theorem dX6_tell_118 : decode cX6_tell 118 = .ok (.isub, 1) := by decide +kernel
theorem dX6_tell_119 : decode cX6_tell 119 = .ok (.ireturn, 1) := by decide +kernel
theorem mkX6_tell : mokV qX6_tell 1 := ⟨⟨⟨⟨by decide, by decide, by decide +kernel⟩, by decide⟩, gd_mem 52 (by decide +kernel) (by decide +kernel), gd_mem 356 (by decide +kernel) (by decide +kernel)⟩, gd_mem 354 (by decide +kernel) (by decide +kernel), gd_mem 355 (by decide +kernel) (by decide +kernel)⟩
theorem lfX6_9 : Cond.fieldLink RX6 9 "RankStairs$Tape" "length" "I" ∈ gdL := gd_mem 82 (by decide +kernel) (by decide +kernel)
theorem gIX6_9 {q : mMI} {X : mCx} {tgt : mR} {pc : Nat} {lv : List (Nat × Value)} {st : List Value} {μ : mMem} {b : Nat} (hq : q.1.cls = RX6) (hb : kd b = (6, 0)) (hd : decode q.2.1 pc = .ok (.getfield 9, 3)) (h : T q X tgt (pc + 3) lv (.int (μ.1 b 0) :: st) μ) : T q X tgt pc lv (.ref b :: st) μ := T_getI (c := 6) rfl (by decide) rfl (by decide) (by rw [hq]; exact lfX6_9) hb hd h
theorem pIX6_9 {q : mMI} {X : mCx} {tgt : mR} {pc : Nat} {lv : List (Nat × Value)} {st : List Value} {μ : mMem} {b : Nat} {x : Int32} (hq : q.1.cls = RX6) (hn : narrow .int (.int x) = .int x) (hfit : fits .int (.int x) = true) (hb : kd b = (6, 0)) (hd : decode q.2.1 pc = .ok (.putfield 9, 3)) (h : T q X tgt (pc + 3) lv st (si μ b 0 x)) : T q X tgt pc lv (.int x :: .ref b :: st) μ := T_put (c := 6) rfl (by decide) rfl (by decide) (by rw [hq]; exact lfX6_9) (by decide) hn hfit hb hd h
theorem lfX6_21 : Cond.fieldLink RX6 21 "RankStairs$Tape" "bytes" "[B" ∈ gdL := gd_mem 87 (by decide +kernel) (by decide +kernel)
theorem gRX6_21 {q : mMI} {X : mCx} {tgt : mR} {pc : Nat} {lv : List (Nat × Value)} {st : List Value} {μ : mMem} {b : Nat} (hq : q.1.cls = RX6) (hb : kd b = (6, 0)) (z : Nat) (hz : rf b 3 = z) (hd : decode q.2.1 pc = .ok (.getfield 21, 3)) (h : T q X tgt (pc + 3) lv (.ref z :: st) μ) : T q X tgt pc lv (.ref b :: st) μ := T_getR (c := 6) rfl (by decide) rfl (by decide) (by rw [hq]; exact lfX6_21) hb z hz hd h
def fX6_put (x1 : Int32) (m : mMem) : mR := if (m.1 49 0) < (160 : Int32) then ga (m.1 49 0) 160 (lt (si m 50 ((m.1 49 0)).toNatClampNeg (vp_nar .byte (x1).toInt8.toInt32)) (fun m1 => lt (si m1 49 0 ((m1.1 49 0) + (1 : Int32))) (fun m2 => some (some (.int (m2.1 49 0)), m2)))) else some (some (.int (-3 : Int32)), m)
set_option maxRecDepth 100000 in
theorem bsX6_put (l : Launch) (x1 : Int32) (m : mMem)  : BS l qX6_put [.ref 49, .int x1] m (fX6_put x1 m) := BS_of (by decide) (Nat.le_of_ble_eq_true rfl) (fun X _ => by
    show T qX6_put X (fX6_put x1 m) 0 [(0, .ref 49), (1, .int x1)] [] m
    unfold fX6_put
    refine T_aload_n 0 rfl rfl dX6_put_0 ?_
    refine gIX6_9 rfl kd_49 dX6_put_1 ?_
    refine T_sipush (160 : Int32) (by decide) dX6_put_4 ?_
    refine T_icmp_lt 13 dX6_put_7 (by decide) (fun _ => ?_) (fun _ => ?_)
    · refine T_aload_n 0 rfl rfl dX6_put_13 ?_
      refine gRX6_21 rfl kd_49 50 rfl dX6_put_14 ?_
      refine T_aload_n 0 rfl rfl dX6_put_17 ?_
      refine gIX6_9 rfl kd_49 dX6_put_18 ?_
      refine T_iload_n 1 rfl rfl dX6_put_21 ?_
      refine T_i2b dX6_put_22 ?_
      refine T_bast _ rfl kd_50 dX6_put_23 ?_
      refine T_lt (fun m1 => ?_)
      refine T_aload_n 0 rfl rfl dX6_put_24 ?_
      refine T_dup rfl dX6_put_25 ?_
      refine gIX6_9 rfl kd_49 dX6_put_26 ?_
      refine T_iconst (1 : Int32) (by decide) dX6_put_29 ?_
      refine T_iadd dX6_put_30 ?_
      refine pIX6_9 rfl rfl rfl kd_49 dX6_put_31 ?_
      refine T_lt (fun m2 => ?_)
      refine T_aload_n 0 rfl rfl dX6_put_34 ?_
      refine gIX6_9 rfl kd_49 dX6_put_35 ?_
      exact T_iret rfl dX6_put_38
    · refine T_bipush (-3 : Int32) (by decide) dX6_put_10 ?_
      exact T_iret rfl dX6_put_12)
theorem lfX6_68 : Cond.fieldLink RX6 68 "RankStairs$House" "lodgers" "I" ∈ gdL := gd_mem 131 (by decide +kernel) (by decide +kernel)
theorem gIX6_68 {q : mMI} {X : mCx} {tgt : mR} {pc : Nat} {lv : List (Nat × Value)} {st : List Value} {μ : mMem} {b : Nat} (hq : q.1.cls = RX6) (hb : kd b = (4, 0)) (hd : decode q.2.1 pc = .ok (.getfield 68, 3)) (h : T q X tgt (pc + 3) lv (.int (μ.1 b 1) :: st) μ) : T q X tgt pc lv (.ref b :: st) μ := T_getI (c := 4) rfl (by decide) rfl (by decide) (by rw [hq]; exact lfX6_68) hb hd h
theorem pIX6_68 {q : mMI} {X : mCx} {tgt : mR} {pc : Nat} {lv : List (Nat × Value)} {st : List Value} {μ : mMem} {b : Nat} {x : Int32} (hq : q.1.cls = RX6) (hn : narrow .int (.int x) = .int x) (hfit : fits .int (.int x) = true) (hb : kd b = (4, 0)) (hd : decode q.2.1 pc = .ok (.putfield 68, 3)) (h : T q X tgt (pc + 3) lv st (si μ b 1 x)) : T q X tgt pc lv (.int x :: .ref b :: st) μ := T_put (c := 4) rfl (by decide) rfl (by decide) (by rw [hq]; exact lfX6_68) (by decide) hn hfit hb hd h
theorem lfX6_71 : Cond.fieldLink RX6 71 "RankStairs$House" "floorOf" "[I" ∈ gdL := gd_mem 163 (by decide +kernel) (by decide +kernel)
theorem gRX6_71 {q : mMI} {X : mCx} {tgt : mR} {pc : Nat} {lv : List (Nat × Value)} {st : List Value} {μ : mMem} {b : Nat} (hq : q.1.cls = RX6) (hb : kd b = (4, 0)) (z : Nat) (hz : rf b 11 = z) (hd : decode q.2.1 pc = .ok (.getfield 71, 3)) (h : T q X tgt (pc + 3) lv (.ref z :: st) μ) : T q X tgt pc lv (.ref b :: st) μ := T_getR (c := 4) rfl (by decide) rfl (by decide) (by rw [hq]; exact lfX6_71) hb z hz hd h
theorem lfX6_74 : Cond.fieldLink RX6 74 "RankStairs$House" "steps" "I" ∈ gdL := gd_mem 125 (by decide +kernel) (by decide +kernel)
theorem gIX6_74 {q : mMI} {X : mCx} {tgt : mR} {pc : Nat} {lv : List (Nat × Value)} {st : List Value} {μ : mMem} {b : Nat} (hq : q.1.cls = RX6) (hb : kd b = (4, 0)) (hd : decode q.2.1 pc = .ok (.getfield 74, 3)) (h : T q X tgt (pc + 3) lv (.int (μ.1 b 0) :: st) μ) : T q X tgt pc lv (.ref b :: st) μ := T_getI (c := 4) rfl (by decide) rfl (by decide) (by rw [hq]; exact lfX6_74) hb hd h
theorem pIX6_74 {q : mMI} {X : mCx} {tgt : mR} {pc : Nat} {lv : List (Nat × Value)} {st : List Value} {μ : mMem} {b : Nat} {x : Int32} (hq : q.1.cls = RX6) (hn : narrow .int (.int x) = .int x) (hfit : fits .int (.int x) = true) (hb : kd b = (4, 0)) (hd : decode q.2.1 pc = .ok (.putfield 74, 3)) (h : T q X tgt (pc + 3) lv st (si μ b 0 x)) : T q X tgt pc lv (.int x :: .ref b :: st) μ := T_put (c := 4) rfl (by decide) rfl (by decide) (by rw [hq]; exact lfX6_74) (by decide) hn hfit hb hd h
def bX6_hasLostFloor_2 (r0 : Nat) (k2 : Int32 × mMem → mR) (s : Int32 × mMem) : mR := match s with
  | (x1, m) => if (m.1 r0 1) ≤ x1 then some (some (.int (0 : Int32)), m) else ga x1 4 (if (m.1 (r0 + 7) (x1).toNatClampNeg) < (m.1 r0 0) then li (x1 + (1 : Int32)) (fun y1 => k2 (y1, m)) else some (some (.int (1 : Int32)), m))
set_option maxRecDepth 100000 in
theorem tX6_hasLostFloor_2 (X : mCx) (r0 : Nat) (h0 : kd r0 = (4, 0)) : ∀ (n : Nat) (s : Int32 × mMem), T qX6_hasLostFloor X (lp (bX6_hasLostFloor_2 r0) n s) 2 [(0, .ref r0), (1, .int s.1)] [] s.2 :=
  T_lp (body := bX6_hasLostFloor_2 r0) (lv := fun s => [(0, .ref r0), (1, .int s.1)]) (st := fun _ => []) (μ := fun s : Int32 × mMem => s.2) (fun k2 hk2 s => by
    obtain ⟨x1, m⟩ := s
    show T qX6_hasLostFloor X (bX6_hasLostFloor_2 r0 k2 (x1, m)) 2 [(0, .ref r0), (1, .int x1)] [] m
    unfold bX6_hasLostFloor_2
    dsimp only
    refine T_iload_n 1 rfl rfl dX6_hasLostFloor_2 ?_
    refine T_aload_n 0 rfl rfl dX6_hasLostFloor_3 ?_
    refine gIX6_68 rfl h0 dX6_hasLostFloor_4 ?_
    refine T_icmp_ge 31 dX6_hasLostFloor_7 (by decide) (fun _ => ?_) (fun _ => ?_)
    · refine T_iconst (0 : Int32) (by decide) dX6_hasLostFloor_31 ?_
      exact T_zretc (by decide) rfl dX6_hasLostFloor_32
    · refine T_aload_n 0 rfl rfl dX6_hasLostFloor_10 ?_
      refine gRX6_71 rfl h0 (r0 + 7) (rfH11 h0) dX6_hasLostFloor_11 ?_
      refine T_iload_n 1 rfl rfl dX6_hasLostFloor_14 ?_
      refine T_iald (kdH11 h0) dX6_hasLostFloor_15 ?_
      refine T_aload_n 0 rfl rfl dX6_hasLostFloor_16 ?_
      refine gIX6_74 rfl h0 dX6_hasLostFloor_17 ?_
      refine T_icmp_lt 25 dX6_hasLostFloor_20 (by decide) (fun _ => ?_) (fun _ => ?_)
      · refine T_iinc (lv' := [(1, .int (x1 + (1 : Int32))), (0, .ref r0)]) 1 (1 : Int32) rfl (by decide) (Nat.le_of_ble_eq_true rfl) rfl dX6_hasLostFloor_25 ?_
        refine T_li (fun y1 => ?_)
        refine T_goto 2 dX6_hasLostFloor_28 (by decide) ?_
        exact T_sub [1, 0] rfl (hk2 (y1, m))
      · refine T_iconst (1 : Int32) (by decide) dX6_hasLostFloor_23 ?_
        exact T_zretc (by decide) rfl dX6_hasLostFloor_24)
def fX6_hasLostFloor (r0 : Nat) (m : mMem) : mR := lp (bX6_hasLostFloor_2 r0) FU ((0 : Int32), m)
set_option maxRecDepth 100000 in
theorem bsX6_hasLostFloor (l : Launch) (r0 : Nat) (m : mMem) (h0 : kd r0 = (4, 0)) : BS l qX6_hasLostFloor [.ref r0] m (fX6_hasLostFloor r0 m) := BS_of (by decide) (Nat.le_of_ble_eq_true rfl) (fun X _ => by
    show T qX6_hasLostFloor X (fX6_hasLostFloor r0 m) 0 [(0, .ref r0)] [] m
    unfold fX6_hasLostFloor
    refine T_iconst (0 : Int32) (by decide) dX6_hasLostFloor_0 ?_
    refine T_istore_n (lv' := [(1, .int (0 : Int32)), (0, .ref r0)]) rfl (Nat.le_of_ble_eq_true rfl) rfl dX6_hasLostFloor_1 ?_
    exact T_sub [1, 0] rfl (tX6_hasLostFloor_2 X r0 h0 FU ((0 : Int32), m)))
def jX6_kindOfByte_28 (x0 : Int32) (m : mMem) : mR := if x0 = (59 : Int32) then some (some (.int (3 : Int32)), m) else some (some (.int (0 : Int32)), m)
set_option maxRecDepth 100000 in
theorem uX6_kindOfByte_28 (X : mCx) (x0 : Int32) (m : mMem)  : T qX6_kindOfByte X (jX6_kindOfByte_28 x0 m) 28 [(0, .int x0)] [] m := by
  unfold jX6_kindOfByte_28
  refine T_iload_n 0 rfl rfl dX6_kindOfByte_28 ?_
  refine T_bipush (59 : Int32) (by decide) dX6_kindOfByte_29 ?_
  refine T_icmp_ne 38 dX6_kindOfByte_31 (by decide) (fun _ => ?_) (fun _ => ?_)
  · refine T_iconst (3 : Int32) (by decide) dX6_kindOfByte_34 ?_
    refine T_goto 39 dX6_kindOfByte_35 (by decide) ?_
    exact T_iret rfl dX6_kindOfByte_39
  · refine T_iconst (0 : Int32) (by decide) dX6_kindOfByte_38 ?_
    exact T_iret rfl dX6_kindOfByte_39
def jX6_kindOfByte_14 (x0 : Int32) (m : mMem) : mR := if x0 < (48 : Int32) then jX6_kindOfByte_28 x0 m else if (57 : Int32) < x0 then jX6_kindOfByte_28 x0 m else some (some (.int (2 : Int32)), m)
set_option maxRecDepth 100000 in
theorem uX6_kindOfByte_14 (X : mCx) (x0 : Int32) (m : mMem)  : T qX6_kindOfByte X (jX6_kindOfByte_14 x0 m) 14 [(0, .int x0)] [] m := by
  unfold jX6_kindOfByte_14
  refine T_iload_n 0 rfl rfl dX6_kindOfByte_14 ?_
  refine T_bipush (48 : Int32) (by decide) dX6_kindOfByte_15 ?_
  refine T_icmp_lt 28 dX6_kindOfByte_17 (by decide) (fun _ => ?_) (fun _ => ?_)
  · exact T_sub [0] rfl (uX6_kindOfByte_28 X x0 m )
  · refine T_iload_n 0 rfl rfl dX6_kindOfByte_20 ?_
    refine T_bipush (57 : Int32) (by decide) dX6_kindOfByte_21 ?_
    refine T_icmp_gt 28 dX6_kindOfByte_23 (by decide) (fun _ => ?_) (fun _ => ?_)
    · exact T_sub [0] rfl (uX6_kindOfByte_28 X x0 m )
    · refine T_iconst (2 : Int32) (by decide) dX6_kindOfByte_26 ?_
      exact T_iret rfl dX6_kindOfByte_27
def fX6_kindOfByte (x0 : Int32) (m : mMem) : mR := if x0 < (97 : Int32) then jX6_kindOfByte_14 x0 m else if (122 : Int32) < x0 then jX6_kindOfByte_14 x0 m else some (some (.int (1 : Int32)), m)
set_option maxRecDepth 100000 in
theorem bsX6_kindOfByte (l : Launch) (x0 : Int32) (m : mMem)  : BS l qX6_kindOfByte [.int x0] m (fX6_kindOfByte x0 m) := BS_of (by decide) (Nat.le_of_ble_eq_true rfl) (fun X _ => by
    show T qX6_kindOfByte X (fX6_kindOfByte x0 m) 0 [(0, .int x0)] [] m
    unfold fX6_kindOfByte
    refine T_iload_n 0 rfl rfl dX6_kindOfByte_0 ?_
    refine T_bipush (97 : Int32) (by decide) dX6_kindOfByte_1 ?_
    refine T_icmp_lt 14 dX6_kindOfByte_3 (by decide) (fun _ => ?_) (fun _ => ?_)
    · exact T_sub [0] rfl (uX6_kindOfByte_14 X x0 m )
    · refine T_iload_n 0 rfl rfl dX6_kindOfByte_6 ?_
      refine T_bipush (122 : Int32) (by decide) dX6_kindOfByte_7 ?_
      refine T_icmp_gt 14 dX6_kindOfByte_9 (by decide) (fun _ => ?_) (fun _ => ?_)
      · exact T_sub [0] rfl (uX6_kindOfByte_14 X x0 m )
      · refine T_iconst (1 : Int32) (by decide) dX6_kindOfByte_12 ?_
        exact T_iret rfl dX6_kindOfByte_13)
def fX6_nameOfLine (x0 : Int32) (m : mMem) : mR := if x0 = (0 : Int32) then some (some (.ref (100 + 0)), m) else if x0 = (1 : Int32) then some (some (.ref (100 + 1)), m) else if x0 = (2 : Int32) then some (some (.ref (100 + 2)), m) else if x0 = (3 : Int32) then some (some (.ref (100 + 3)), m) else if x0 = (4 : Int32) then some (some (.ref (100 + 4)), m) else if x0 = (5 : Int32) then some (some (.ref (100 + 5)), m) else some (some (.ref (100 + 6)), m)
set_option maxRecDepth 100000 in
theorem bsX6_nameOfLine (l : Launch) (x0 : Int32) (m : mMem)  : BS l qX6_nameOfLine [.int x0] m (fX6_nameOfLine x0 m) := BS_of (by decide) (Nat.le_of_ble_eq_true rfl) (fun X _ => by
    show T qX6_nameOfLine X (fX6_nameOfLine x0 m) 0 [(0, .int x0)] [] m
    unfold fX6_nameOfLine
    refine T_iload_n 0 rfl rfl dX6_nameOfLine_0 ?_
    refine T_ite (fun hc => ?_) (fun hn0 => ?_)
    · refine T_tsIn (0 : Int32) 40 hc dX6_nameOfLine_1 (by decide) (by decide) rfl (by decide) ?_
      refine T_ldcS 0 (by decide) rfl rfl dX6_nameOfLine_40 ?_
      exact T_aret rfl dX6_nameOfLine_42
    · refine T_ite (fun hc => ?_) (fun hn1 => ?_)
      · refine T_tsIn (1 : Int32) 43 hc dX6_nameOfLine_1 (by decide) (by decide) rfl (by decide) ?_
        refine T_ldcS 1 (by decide) rfl rfl dX6_nameOfLine_43 ?_
        exact T_aret rfl dX6_nameOfLine_45
      · refine T_ite (fun hc => ?_) (fun hn2 => ?_)
        · refine T_tsIn (2 : Int32) 46 hc dX6_nameOfLine_1 (by decide) (by decide) rfl (by decide) ?_
          refine T_ldcS 2 (by decide) rfl rfl dX6_nameOfLine_46 ?_
          exact T_aret rfl dX6_nameOfLine_48
        · refine T_ite (fun hc => ?_) (fun hn3 => ?_)
          · refine T_tsIn (3 : Int32) 49 hc dX6_nameOfLine_1 (by decide) (by decide) rfl (by decide) ?_
            refine T_ldcS 3 (by decide) rfl rfl dX6_nameOfLine_49 ?_
            exact T_aret rfl dX6_nameOfLine_51
          · refine T_ite (fun hc => ?_) (fun hn4 => ?_)
            · refine T_tsIn (4 : Int32) 52 hc dX6_nameOfLine_1 (by decide) (by decide) rfl (by decide) ?_
              refine T_ldcS 4 (by decide) rfl rfl dX6_nameOfLine_52 ?_
              exact T_aret rfl dX6_nameOfLine_54
            · refine T_ite (fun hc => ?_) (fun hn5 => ?_)
              · refine T_tsIn (5 : Int32) 55 hc dX6_nameOfLine_1 (by decide) (by decide) rfl (by decide) ?_
                refine T_ldcS 5 (by decide) rfl rfl dX6_nameOfLine_55 ?_
                exact T_aret rfl dX6_nameOfLine_57
              · refine T_tsOut 58 (by have e0 := neT (k := 0) hn0 (by decide); have e1 := neT (k := 1) hn1 (by decide); have e2 := neT (k := 2) hn2 (by decide); have e3 := neT (k := 3) hn3 (by decide); have e4 := neT (k := 4) hn4 (by decide); have e5 := neT (k := 5) hn5 (by decide); omega) dX6_nameOfLine_1 (by decide) ?_
                refine T_ldcS 6 (by decide) rfl rfl dX6_nameOfLine_58 ?_
                exact T_aret rfl dX6_nameOfLine_60)
theorem lfX6_15 : Cond.fieldLink RX6 15 "RankStairs$Tape" "found" "I" ∈ gdL := gd_mem 84 (by decide +kernel) (by decide +kernel)
theorem gIX6_15 {q : mMI} {X : mCx} {tgt : mR} {pc : Nat} {lv : List (Nat × Value)} {st : List Value} {μ : mMem} {b : Nat} (hq : q.1.cls = RX6) (hb : kd b = (6, 0)) (hd : decode q.2.1 pc = .ok (.getfield 15, 3)) (h : T q X tgt (pc + 3) lv (.int (μ.1 b 1) :: st) μ) : T q X tgt pc lv (.ref b :: st) μ := T_getI (c := 6) rfl (by decide) rfl (by decide) (by rw [hq]; exact lfX6_15) hb hd h
theorem pIX6_15 {q : mMI} {X : mCx} {tgt : mR} {pc : Nat} {lv : List (Nat × Value)} {st : List Value} {μ : mMem} {b : Nat} {x : Int32} (hq : q.1.cls = RX6) (hn : narrow .int (.int x) = .int x) (hfit : fits .int (.int x) = true) (hb : kd b = (6, 0)) (hd : decode q.2.1 pc = .ok (.putfield 15, 3)) (h : T q X tgt (pc + 3) lv st (si μ b 1 x)) : T q X tgt pc lv (.int x :: .ref b :: st) μ := T_put (c := 6) rfl (by decide) rfl (by decide) (by rw [hq]; exact lfX6_15) (by decide) hn hfit hb hd h
theorem lfX6_18 : Cond.fieldLink RX6 18 "RankStairs$Tape" "foundAt" "I" ∈ gdL := gd_mem 86 (by decide +kernel) (by decide +kernel)
theorem gIX6_18 {q : mMI} {X : mCx} {tgt : mR} {pc : Nat} {lv : List (Nat × Value)} {st : List Value} {μ : mMem} {b : Nat} (hq : q.1.cls = RX6) (hb : kd b = (6, 0)) (hd : decode q.2.1 pc = .ok (.getfield 18, 3)) (h : T q X tgt (pc + 3) lv (.int (μ.1 b 2) :: st) μ) : T q X tgt pc lv (.ref b :: st) μ := T_getI (c := 6) rfl (by decide) rfl (by decide) (by rw [hq]; exact lfX6_18) hb hd h
theorem pIX6_18 {q : mMI} {X : mCx} {tgt : mR} {pc : Nat} {lv : List (Nat × Value)} {st : List Value} {μ : mMem} {b : Nat} {x : Int32} (hq : q.1.cls = RX6) (hn : narrow .int (.int x) = .int x) (hfit : fits .int (.int x) = true) (hb : kd b = (6, 0)) (hd : decode q.2.1 pc = .ok (.putfield 18, 3)) (h : T q X tgt (pc + 3) lv st (si μ b 2 x)) : T q X tgt pc lv (.int x :: .ref b :: st) μ := T_put (c := 6) rfl (by decide) rfl (by decide) (by rw [hq]; exact lfX6_18) (by decide) hn hfit hb hd h
def fX6_refuse (x1 : Int32) (x2 : Int32) (m : mMem) : mR := lt (si m 49 1 x1) (fun m1 => lt (si m1 49 2 x2) (fun m2 => some (none, m2)))
set_option maxRecDepth 100000 in
theorem bsX6_refuse (l : Launch) (x1 : Int32) (x2 : Int32) (m : mMem)  : BS l qX6_refuse [.ref 49, .int x1, .int x2] m (fX6_refuse x1 x2 m) := BS_of (by decide) (Nat.le_of_ble_eq_true rfl) (fun X _ => by
    show T qX6_refuse X (fX6_refuse x1 x2 m) 0 [(0, .ref 49), (1, .int x1), (2, .int x2)] [] m
    unfold fX6_refuse
    refine T_aload_n 0 rfl rfl dX6_refuse_0 ?_
    refine T_iload_n 1 rfl rfl dX6_refuse_1 ?_
    refine pIX6_15 rfl rfl rfl kd_49 dX6_refuse_2 ?_
    refine T_lt (fun m1 => ?_)
    refine T_aload_n 0 rfl rfl dX6_refuse_5 ?_
    refine T_iload_n 2 rfl rfl dX6_refuse_6 ?_
    refine pIX6_18 rfl rfl rfl kd_49 dX6_refuse_7 ?_
    refine T_lt (fun m2 => ?_)
    exact T_vret rfl dX6_refuse_10)
theorem lmX6_64 : Cond.methodLink RX6 64 yX6_refuse ∈ gdL := gd_mem 368 (by decide +kernel) (by decide +kernel)
theorem lfX6_35 : Cond.fieldLink RX6 35 "RankStairs$Tape" "tokenAt" "I" ∈ gdL := gd_mem 91 (by decide +kernel) (by decide +kernel)
theorem gIX6_35 {q : mMI} {X : mCx} {tgt : mR} {pc : Nat} {lv : List (Nat × Value)} {st : List Value} {μ : mMem} {b : Nat} (hq : q.1.cls = RX6) (hb : kd b = (6, 0)) (hd : decode q.2.1 pc = .ok (.getfield 35, 3)) (h : T q X tgt (pc + 3) lv (.int (μ.1 b 7) :: st) μ) : T q X tgt pc lv (.ref b :: st) μ := T_getI (c := 6) rfl (by decide) rfl (by decide) (by rw [hq]; exact lfX6_35) hb hd h
theorem pIX6_35 {q : mMI} {X : mCx} {tgt : mR} {pc : Nat} {lv : List (Nat × Value)} {st : List Value} {μ : mMem} {b : Nat} {x : Int32} (hq : q.1.cls = RX6) (hn : narrow .int (.int x) = .int x) (hfit : fits .int (.int x) = true) (hb : kd b = (6, 0)) (hd : decode q.2.1 pc = .ok (.putfield 35, 3)) (h : T q X tgt (pc + 3) lv st (si μ b 7 x)) : T q X tgt pc lv (.int x :: .ref b :: st) μ := T_put (c := 6) rfl (by decide) rfl (by decide) (by rw [hq]; exact lfX6_35) (by decide) hn hfit hb hd h
theorem lfX6_38 : Cond.fieldLink RX6 38 "RankStairs$Tape" "gapTold" "Z" ∈ gdL := gd_mem 92 (by decide +kernel) (by decide +kernel)
theorem gIX6_38 {q : mMI} {X : mCx} {tgt : mR} {pc : Nat} {lv : List (Nat × Value)} {st : List Value} {μ : mMem} {b : Nat} (hq : q.1.cls = RX6) (hb : kd b = (6, 0)) (hd : decode q.2.1 pc = .ok (.getfield 38, 3)) (h : T q X tgt (pc + 3) lv (.int (μ.1 b 8) :: st) μ) : T q X tgt pc lv (.ref b :: st) μ := T_getI (c := 6) rfl (by decide) rfl (by decide) (by rw [hq]; exact lfX6_38) hb hd h
theorem pIX6_38 {q : mMI} {X : mCx} {tgt : mR} {pc : Nat} {lv : List (Nat × Value)} {st : List Value} {μ : mMem} {b : Nat} {x : Int32} (hq : q.1.cls = RX6) (hn : narrow .boolean (.int x) = .int x) (hfit : fits .boolean (.int x) = true) (hb : kd b = (6, 0)) (hd : decode q.2.1 pc = .ok (.putfield 38, 3)) (h : T q X tgt (pc + 3) lv st (si μ b 8 x)) : T q X tgt pc lv (.int x :: .ref b :: st) μ := T_put (c := 6) rfl (by decide) rfl (by decide) (by rw [hq]; exact lfX6_38) (by decide) hn hfit hb hd h
theorem lfX6_42 : Cond.fieldLink RX6 42 "RankStairs$Tape" "holdTold" "Z" ∈ gdL := gd_mem 93 (by decide +kernel) (by decide +kernel)
theorem gIX6_42 {q : mMI} {X : mCx} {tgt : mR} {pc : Nat} {lv : List (Nat × Value)} {st : List Value} {μ : mMem} {b : Nat} (hq : q.1.cls = RX6) (hb : kd b = (6, 0)) (hd : decode q.2.1 pc = .ok (.getfield 42, 3)) (h : T q X tgt (pc + 3) lv (.int (μ.1 b 9) :: st) μ) : T q X tgt pc lv (.ref b :: st) μ := T_getI (c := 6) rfl (by decide) rfl (by decide) (by rw [hq]; exact lfX6_42) hb hd h
theorem pIX6_42 {q : mMI} {X : mCx} {tgt : mR} {pc : Nat} {lv : List (Nat × Value)} {st : List Value} {μ : mMem} {b : Nat} {x : Int32} (hq : q.1.cls = RX6) (hn : narrow .boolean (.int x) = .int x) (hfit : fits .boolean (.int x) = true) (hb : kd b = (6, 0)) (hd : decode q.2.1 pc = .ok (.putfield 42, 3)) (h : T q X tgt (pc + 3) lv st (si μ b 9 x)) : T q X tgt pc lv (.int x :: .ref b :: st) μ := T_put (c := 6) rfl (by decide) rfl (by decide) (by rw [hq]; exact lfX6_42) (by decide) hn hfit hb hd h
def jX6_refuseOneTooMany_64 (m : mMem) : mR := bV (fX6_refuse (5 : Int32) (m.1 49 7) m) (fun m1 => some (none, m1))
set_option maxRecDepth 100000 in
theorem uX6_refuseOneTooMany_64 (X : mCx) (m : mMem)  : T qX6_refuseOneTooMany X (jX6_refuseOneTooMany_64 m) 64 [(0, .ref 49)] [] m := by
  unfold jX6_refuseOneTooMany_64
  refine T_aload_n 0 rfl rfl dX6_refuseOneTooMany_64 ?_
  refine T_iconst (5 : Int32) (by decide) dX6_refuseOneTooMany_65 ?_
  refine T_aload_n 0 rfl rfl dX6_refuseOneTooMany_66 ?_
  refine gIX6_35 rfl kd_49 dX6_refuseOneTooMany_67 ?_
  refine T_cVV (c := 6) [.int (5 : Int32), .int (m.1 49 7)] [] mkX6_refuse lmX6_64 rfl rfl (by decide) (Nat.le_of_ble_eq_true rfl) kd_49 dX6_refuseOneTooMany_70 (bsX6_refuse _ (5 : Int32) (m.1 49 7) m) (fun m1 => ?_)
  exact T_vret rfl dX6_refuseOneTooMany_73
def jX6_refuseOneTooMany_51 (r1 : Nat) (x2 : Int32) (m : mMem) : mR := if x2 = (4 : Int32) then if (m.1 r1 1) < (4 : Int32) then some (none, m) else jX6_refuseOneTooMany_64 m else some (none, m)
set_option maxRecDepth 100000 in
theorem uX6_refuseOneTooMany_51 (X : mCx) (r1 : Nat) (x2 : Int32) (m : mMem) (h1 : kd r1 = (4, 0)) : T qX6_refuseOneTooMany X (jX6_refuseOneTooMany_51 r1 x2 m) 51 [(0, .ref 49), (1, .ref r1), (2, .int x2)] [] m := by
  unfold jX6_refuseOneTooMany_51
  refine T_iload_n 2 rfl rfl dX6_refuseOneTooMany_51 ?_
  refine T_iconst (4 : Int32) (by decide) dX6_refuseOneTooMany_52 ?_
  refine T_icmp_ne 73 dX6_refuseOneTooMany_53 (by decide) (fun _ => ?_) (fun _ => ?_)
  · refine T_aload_n 1 rfl rfl dX6_refuseOneTooMany_56 ?_
    refine gIX6_68 rfl h1 dX6_refuseOneTooMany_57 ?_
    refine T_iconst (4 : Int32) (by decide) dX6_refuseOneTooMany_60 ?_
    refine T_icmp_lt 73 dX6_refuseOneTooMany_61 (by decide) (fun _ => ?_) (fun _ => ?_)
    · exact T_vret rfl dX6_refuseOneTooMany_73
    · exact T_sub [0] rfl (uX6_refuseOneTooMany_64 X m )
  · exact T_vret rfl dX6_refuseOneTooMany_73
def jX6_refuseOneTooMany_37 (r1 : Nat) (x2 : Int32) (m : mMem) : mR := if (4 : Int32) ≤ x2 then jX6_refuseOneTooMany_51 r1 x2 m else if (10 : Int32) ≤ (m.1 r1 0) then jX6_refuseOneTooMany_64 m else jX6_refuseOneTooMany_51 r1 x2 m
set_option maxRecDepth 100000 in
theorem uX6_refuseOneTooMany_37 (X : mCx) (r1 : Nat) (x2 : Int32) (m : mMem) (h1 : kd r1 = (4, 0)) : T qX6_refuseOneTooMany X (jX6_refuseOneTooMany_37 r1 x2 m) 37 [(0, .ref 49), (1, .ref r1), (2, .int x2)] [] m := by
  unfold jX6_refuseOneTooMany_37
  refine T_iload_n 2 rfl rfl dX6_refuseOneTooMany_37 ?_
  refine T_iconst (4 : Int32) (by decide) dX6_refuseOneTooMany_38 ?_
  refine T_icmp_ge 51 dX6_refuseOneTooMany_39 (by decide) (fun _ => ?_) (fun _ => ?_)
  · exact T_sub [0, 1, 2] rfl (uX6_refuseOneTooMany_51 X r1 x2 m h1)
  · refine T_aload_n 1 rfl rfl dX6_refuseOneTooMany_42 ?_
    refine gIX6_74 rfl h1 dX6_refuseOneTooMany_43 ?_
    refine T_bipush (10 : Int32) (by decide) dX6_refuseOneTooMany_46 ?_
    refine T_icmp_ge 64 dX6_refuseOneTooMany_48 (by decide) (fun _ => ?_) (fun _ => ?_)
    · exact T_sub [0] rfl (uX6_refuseOneTooMany_64 X m )
    · exact T_sub [0, 1, 2] rfl (uX6_refuseOneTooMany_51 X r1 x2 m h1)
def jX6_refuseOneTooMany_25 (m : mMem) : mR := bV (fX6_refuse (4 : Int32) (m.1 49 7) m) (fun m2 => some (none, m2))
set_option maxRecDepth 100000 in
theorem uX6_refuseOneTooMany_25 (X : mCx) (m : mMem)  : T qX6_refuseOneTooMany X (jX6_refuseOneTooMany_25 m) 25 [(0, .ref 49)] [] m := by
  unfold jX6_refuseOneTooMany_25
  refine T_aload_n 0 rfl rfl dX6_refuseOneTooMany_25 ?_
  refine T_iconst (4 : Int32) (by decide) dX6_refuseOneTooMany_26 ?_
  refine T_aload_n 0 rfl rfl dX6_refuseOneTooMany_27 ?_
  refine gIX6_35 rfl kd_49 dX6_refuseOneTooMany_28 ?_
  refine T_cVV (c := 6) [.int (4 : Int32), .int (m.1 49 7)] [] mkX6_refuse lmX6_64 rfl rfl (by decide) (Nat.le_of_ble_eq_true rfl) kd_49 dX6_refuseOneTooMany_31 (bsX6_refuse _ (4 : Int32) (m.1 49 7) m) (fun m2 => ?_)
  refine T_goto 73 dX6_refuseOneTooMany_34 (by decide) ?_
  exact T_vret rfl dX6_refuseOneTooMany_73
def jX6_refuseOneTooMany_12 (r1 : Nat) (x2 : Int32) (m : mMem) : mR := if x2 = (6 : Int32) then if (m.1 49 9) = (0 : Int32) then jX6_refuseOneTooMany_37 r1 x2 m else jX6_refuseOneTooMany_25 m else jX6_refuseOneTooMany_37 r1 x2 m
set_option maxRecDepth 100000 in
theorem uX6_refuseOneTooMany_12 (X : mCx) (r1 : Nat) (x2 : Int32) (m : mMem) (h1 : kd r1 = (4, 0)) : T qX6_refuseOneTooMany X (jX6_refuseOneTooMany_12 r1 x2 m) 12 [(0, .ref 49), (1, .ref r1), (2, .int x2)] [] m := by
  unfold jX6_refuseOneTooMany_12
  refine T_iload_n 2 rfl rfl dX6_refuseOneTooMany_12 ?_
  refine T_bipush (6 : Int32) (by decide) dX6_refuseOneTooMany_13 ?_
  refine T_icmp_ne 37 dX6_refuseOneTooMany_15 (by decide) (fun _ => ?_) (fun _ => ?_)
  · refine T_aload_n 0 rfl rfl dX6_refuseOneTooMany_18 ?_
    refine gIX6_42 rfl kd_49 dX6_refuseOneTooMany_19 ?_
    refine T_if_eq 37 dX6_refuseOneTooMany_22 (by decide) (fun _ => ?_) (fun _ => ?_)
    · exact T_sub [0, 1, 2] rfl (uX6_refuseOneTooMany_37 X r1 x2 m h1)
    · exact T_sub [0] rfl (uX6_refuseOneTooMany_25 X m )
  · exact T_sub [0, 1, 2] rfl (uX6_refuseOneTooMany_37 X r1 x2 m h1)
def fX6_refuseOneTooMany (r1 : Nat) (x2 : Int32) (m : mMem) : mR := if x2 = (5 : Int32) then if (m.1 49 8) = (0 : Int32) then jX6_refuseOneTooMany_12 r1 x2 m else jX6_refuseOneTooMany_25 m else jX6_refuseOneTooMany_12 r1 x2 m
set_option maxRecDepth 100000 in
theorem bsX6_refuseOneTooMany (l : Launch) (r1 : Nat) (x2 : Int32) (m : mMem) (h1 : kd r1 = (4, 0)) : BS l qX6_refuseOneTooMany [.ref 49, .ref r1, .int x2] m (fX6_refuseOneTooMany r1 x2 m) := BS_of (by decide) (Nat.le_of_ble_eq_true rfl) (fun X _ => by
    show T qX6_refuseOneTooMany X (fX6_refuseOneTooMany r1 x2 m) 0 [(0, .ref 49), (1, .ref r1), (2, .int x2)] [] m
    unfold fX6_refuseOneTooMany
    refine T_iload_n 2 rfl rfl dX6_refuseOneTooMany_0 ?_
    refine T_iconst (5 : Int32) (by decide) dX6_refuseOneTooMany_1 ?_
    refine T_icmp_ne 12 dX6_refuseOneTooMany_2 (by decide) (fun _ => ?_) (fun _ => ?_)
    · refine T_aload_n 0 rfl rfl dX6_refuseOneTooMany_5 ?_
      refine gIX6_38 rfl kd_49 dX6_refuseOneTooMany_6 ?_
      refine T_if_ne 25 dX6_refuseOneTooMany_9 (by decide) (fun _ => ?_) (fun _ => ?_)
      · exact T_sub [0, 1, 2] rfl (uX6_refuseOneTooMany_12 X r1 x2 m h1)
      · exact T_sub [0] rfl (uX6_refuseOneTooMany_25 X m )
    · exact T_sub [0, 1, 2] rfl (uX6_refuseOneTooMany_12 X r1 x2 m h1))
theorem lfX6_25 : Cond.fieldLink RX6 25 "RankStairs$Tape" "numbers" "[I" ∈ gdL := gd_mem 88 (by decide +kernel) (by decide +kernel)
theorem gRX6_25 {q : mMI} {X : mCx} {tgt : mR} {pc : Nat} {lv : List (Nat × Value)} {st : List Value} {μ : mMem} {b : Nat} (hq : q.1.cls = RX6) (hb : kd b = (6, 0)) (z : Nat) (hz : rf b 4 = z) (hd : decode q.2.1 pc = .ok (.getfield 25, 3)) (h : T q X tgt (pc + 3) lv (.ref z :: st) μ) : T q X tgt pc lv (.ref b :: st) μ := T_getR (c := 6) rfl (by decide) rfl (by decide) (by rw [hq]; exact lfX6_25) hb z hz hd h
theorem lfX6_29 : Cond.fieldLink RX6 29 "RankStairs$Tape" "place" "I" ∈ gdL := gd_mem 89 (by decide +kernel) (by decide +kernel)
theorem gIX6_29 {q : mMI} {X : mCx} {tgt : mR} {pc : Nat} {lv : List (Nat × Value)} {st : List Value} {μ : mMem} {b : Nat} (hq : q.1.cls = RX6) (hb : kd b = (6, 0)) (hd : decode q.2.1 pc = .ok (.getfield 29, 3)) (h : T q X tgt (pc + 3) lv (.int (μ.1 b 5) :: st) μ) : T q X tgt pc lv (.ref b :: st) μ := T_getI (c := 6) rfl (by decide) rfl (by decide) (by rw [hq]; exact lfX6_29) hb hd h
theorem pIX6_29 {q : mMI} {X : mCx} {tgt : mR} {pc : Nat} {lv : List (Nat × Value)} {st : List Value} {μ : mMem} {b : Nat} {x : Int32} (hq : q.1.cls = RX6) (hn : narrow .int (.int x) = .int x) (hfit : fits .int (.int x) = true) (hb : kd b = (6, 0)) (hd : decode q.2.1 pc = .ok (.putfield 29, 3)) (h : T q X tgt (pc + 3) lv st (si μ b 5 x)) : T q X tgt pc lv (.int x :: .ref b :: st) μ := T_put (c := 6) rfl (by decide) rfl (by decide) (by rw [hq]; exact lfX6_29) (by decide) hn hfit hb hd h
theorem lfX6_32 : Cond.fieldLink RX6 32 "RankStairs$Tape" "token" "I" ∈ gdL := gd_mem 90 (by decide +kernel) (by decide +kernel)
theorem gIX6_32 {q : mMI} {X : mCx} {tgt : mR} {pc : Nat} {lv : List (Nat × Value)} {st : List Value} {μ : mMem} {b : Nat} (hq : q.1.cls = RX6) (hb : kd b = (6, 0)) (hd : decode q.2.1 pc = .ok (.getfield 32, 3)) (h : T q X tgt (pc + 3) lv (.int (μ.1 b 6) :: st) μ) : T q X tgt pc lv (.ref b :: st) μ := T_getI (c := 6) rfl (by decide) rfl (by decide) (by rw [hq]; exact lfX6_32) hb hd h
theorem pIX6_32 {q : mMI} {X : mCx} {tgt : mR} {pc : Nat} {lv : List (Nat × Value)} {st : List Value} {μ : mMem} {b : Nat} {x : Int32} (hq : q.1.cls = RX6) (hn : narrow .int (.int x) = .int x) (hfit : fits .int (.int x) = true) (hb : kd b = (6, 0)) (hd : decode q.2.1 pc = .ok (.putfield 32, 3)) (h : T q X tgt (pc + 3) lv st (si μ b 6 x)) : T q X tgt pc lv (.int x :: .ref b :: st) μ := T_put (c := 6) rfl (by decide) rfl (by decide) (by rw [hq]; exact lfX6_32) (by decide) hn hfit hb hd h
theorem lfX6_94 : Cond.fieldLink RX6 94 "RankStairs$Tape" "LEAST" "[I" ∈ gdL := gd_mem 452 (by decide +kernel) (by decide +kernel)
theorem lfX6_97 : Cond.fieldLink RX6 97 "RankStairs$Tape" "MOST" "[I" ∈ gdL := gd_mem 454 (by decide +kernel) (by decide +kernel)
def jX6_takeNumber_92 (x2 : Int32) (x3 : Int32) (m : mMem) : mR := bV (fX6_refuse (3 : Int32) (m.1 49 7) m) (fun m3 => ga x2 4 (lt (si m3 51 (x2).toNatClampNeg x3) (fun m4 => some (none, m4))))
set_option maxRecDepth 100000 in
theorem uX6_takeNumber_92 (X : mCx) (x2 : Int32) (x3 : Int32) (m : mMem)  : T qX6_takeNumber X (jX6_takeNumber_92 x2 x3 m) 92 [(0, .ref 49), (2, .int x2), (3, .int x3)] [] m := by
  unfold jX6_takeNumber_92
  refine T_aload_n 0 rfl rfl dX6_takeNumber_92 ?_
  refine T_iconst (3 : Int32) (by decide) dX6_takeNumber_93 ?_
  refine T_aload_n 0 rfl rfl dX6_takeNumber_94 ?_
  refine gIX6_35 rfl kd_49 dX6_takeNumber_95 ?_
  refine T_cVV (c := 6) [.int (3 : Int32), .int (m.1 49 7)] [] mkX6_refuse lmX6_64 rfl rfl (by decide) (Nat.le_of_ble_eq_true rfl) kd_49 dX6_takeNumber_98 (bsX6_refuse _ (3 : Int32) (m.1 49 7) m) (fun m3 => ?_)
  refine T_aload_n 0 rfl rfl dX6_takeNumber_101 ?_
  refine gRX6_25 rfl kd_49 51 rfl dX6_takeNumber_102 ?_
  refine T_iload_n 1 rfl rfl dX6_takeNumber_105 ?_
  refine T_iload_n 2 rfl rfl dX6_takeNumber_106 ?_
  refine T_iast _ rfl kd_51 dX6_takeNumber_107 ?_
  refine T_lt (fun m4 => ?_)
  exact T_vret rfl dX6_takeNumber_108
def bX6_takeNumber_34 (x1 : Int32) (x2 : Int32) (k34 : Int32 × Int32 × mMem → mR) (s : Int32 × Int32 × mMem) : mR := match s with
  | (x3, x4, m) => if (m.1 49 5) ≤ x4 then li ((x1 * (4 : Int32)) + x2) (fun y2 => ga y2 28 (if x3 < (tb115.getD (y2).toNatClampNeg 0) then jX6_takeNumber_92 x2 x3 m else ga y2 28 (if x3 ≤ (tb116.getD (y2).toNatClampNeg 0) then ga x2 4 (lt (si m 51 (x2).toNatClampNeg x3) (fun m5 => some (none, m5))) else jX6_takeNumber_92 x2 x3 m))) else ga x4 160 (li (((x3 * (10 : Int32)) + (m.1 50 (x4).toNatClampNeg)) - (48 : Int32)) (fun y6 => li (x4 + (1 : Int32)) (fun y7 => k34 (y6, y7, m))))
set_option maxRecDepth 100000 in
theorem tX6_takeNumber_34 (X : mCx) (x1 : Int32) (x2 : Int32)  : ∀ (n : Nat) (s : Int32 × Int32 × mMem), T qX6_takeNumber X (lp (bX6_takeNumber_34 x1 x2) n s) 34 [(0, .ref 49), (1, .int x1), (2, .int x2), (3, .int s.1), (4, .int s.2.1)] [] s.2.2 :=
  T_lp (body := bX6_takeNumber_34 x1 x2) (lv := fun s => [(0, .ref 49), (1, .int x1), (2, .int x2), (3, .int s.1), (4, .int s.2.1)]) (st := fun _ => []) (μ := fun s : Int32 × Int32 × mMem => s.2.2) (fun k34 hk34 s => by
    obtain ⟨x3, x4, m⟩ := s
    show T qX6_takeNumber X (bX6_takeNumber_34 x1 x2 k34 (x3, x4, m)) 34 [(0, .ref 49), (1, .int x1), (2, .int x2), (3, .int x3), (4, .int x4)] [] m
    unfold bX6_takeNumber_34
    dsimp only
    refine T_iload 4 rfl dX6_takeNumber_34 ?_
    refine T_aload_n 0 rfl rfl dX6_takeNumber_36 ?_
    refine gIX6_29 rfl kd_49 dX6_takeNumber_37 ?_
    refine T_icmp_ge 65 dX6_takeNumber_40 (by decide) (fun _ => ?_) (fun _ => ?_)
    · refine T_iload_n 1 rfl rfl dX6_takeNumber_65 ?_
      refine T_iconst (4 : Int32) (by decide) dX6_takeNumber_66 ?_
      refine T_imul dX6_takeNumber_67 ?_
      refine T_iload_n 2 rfl rfl dX6_takeNumber_68 ?_
      refine T_iadd dX6_takeNumber_69 ?_
      refine T_istore (lv' := [(4, .int ((x1 * (4 : Int32)) + x2)), (0, .ref 49), (1, .int x1), (2, .int x2), (3, .int x3)]) (Nat.le_of_ble_eq_true rfl) rfl dX6_takeNumber_70 ?_
      refine T_li (fun y2 => ?_)
      refine T_iload_n 4 rfl rfl dX6_takeNumber_72 ?_
      refine T_gs (x := .ref 115) zs115 lfX6_94 dX6_takeNumber_73 ?_
      refine T_iload 0 rfl dX6_takeNumber_76 ?_
      refine T_tald zt115 dX6_takeNumber_78 ?_
      refine T_icmp_lt 92 dX6_takeNumber_79 (by decide) (fun _ => ?_) (fun _ => ?_)
      · exact T_sub [1, 3, 4] rfl (uX6_takeNumber_92 X x2 x3 m )
      · refine T_iload_n 4 rfl rfl dX6_takeNumber_82 ?_
        refine T_gs (x := .ref 116) zs116 lfX6_97 dX6_takeNumber_83 ?_
        refine T_iload 0 rfl dX6_takeNumber_86 ?_
        refine T_tald zt116 dX6_takeNumber_88 ?_
        refine T_icmp_le 101 dX6_takeNumber_89 (by decide) (fun _ => ?_) (fun _ => ?_)
        · refine T_aload_n 1 rfl rfl dX6_takeNumber_101 ?_
          refine gRX6_25 rfl kd_49 51 rfl dX6_takeNumber_102 ?_
          refine T_iload_n 3 rfl rfl dX6_takeNumber_105 ?_
          refine T_iload_n 4 rfl rfl dX6_takeNumber_106 ?_
          refine T_iast _ rfl kd_51 dX6_takeNumber_107 ?_
          refine T_lt (fun m5 => ?_)
          exact T_vret rfl dX6_takeNumber_108
        · exact T_sub [1, 3, 4] rfl (uX6_takeNumber_92 X x2 x3 m )
    · refine T_iload_n 3 rfl rfl dX6_takeNumber_43 ?_
      refine T_bipush (10 : Int32) (by decide) dX6_takeNumber_44 ?_
      refine T_imul dX6_takeNumber_46 ?_
      refine T_aload_n 0 rfl rfl dX6_takeNumber_47 ?_
      refine gRX6_21 rfl kd_49 50 rfl dX6_takeNumber_48 ?_
      refine T_iload 4 rfl dX6_takeNumber_51 ?_
      refine T_bald kd_50 dX6_takeNumber_53 ?_
      refine T_iadd dX6_takeNumber_54 ?_
      refine T_bipush (48 : Int32) (by decide) dX6_takeNumber_55 ?_
      refine T_isub dX6_takeNumber_57 ?_
      refine T_istore_n (lv' := [(3, .int (((x3 * (10 : Int32)) + (m.1 50 (x4).toNatClampNeg)) - (48 : Int32))), (0, .ref 49), (1, .int x1), (2, .int x2), (4, .int x4)]) rfl (Nat.le_of_ble_eq_true rfl) rfl dX6_takeNumber_58 ?_
      refine T_li (fun y6 => ?_)
      refine T_iinc (lv' := [(4, .int (x4 + (1 : Int32))), (3, .int y6), (0, .ref 49), (1, .int x1), (2, .int x2)]) 4 (1 : Int32) rfl (by decide) (Nat.le_of_ble_eq_true rfl) rfl dX6_takeNumber_59 ?_
      refine T_li (fun y7 => ?_)
      refine T_goto 34 dX6_takeNumber_62 (by decide) ?_
      exact T_sub [2, 3, 4, 1, 0] rfl (hk34 (y6, y7, m)))
def fX6_takeNumber (x1 : Int32) (x2 : Int32) (m : mMem) : mR := if (m.1 49 1) = (0 : Int32) then if (m.1 49 6) = (2 : Int32) then li (m.1 49 7) (fun y1 => lp (bX6_takeNumber_34 x1 x2) FU ((0 : Int32), y1, m)) else bV (fX6_refuse (2 : Int32) (m.1 49 7) m) (fun m8 => some (none, m8)) else some (none, m)
set_option maxRecDepth 100000 in
theorem bsX6_takeNumber (l : Launch) (x1 : Int32) (x2 : Int32) (m : mMem)  : BS l qX6_takeNumber [.ref 49, .int x1, .int x2] m (fX6_takeNumber x1 x2 m) := BS_of (by decide) (Nat.le_of_ble_eq_true rfl) (fun X _ => by
    show T qX6_takeNumber X (fX6_takeNumber x1 x2 m) 0 [(0, .ref 49), (1, .int x1), (2, .int x2)] [] m
    unfold fX6_takeNumber
    refine T_aload_n 0 rfl rfl dX6_takeNumber_0 ?_
    refine gIX6_15 rfl kd_49 dX6_takeNumber_1 ?_
    refine T_if_eq 8 dX6_takeNumber_4 (by decide) (fun _ => ?_) (fun _ => ?_)
    · refine T_aload_n 0 rfl rfl dX6_takeNumber_8 ?_
      refine gIX6_32 rfl kd_49 dX6_takeNumber_9 ?_
      refine T_iconst (2 : Int32) (by decide) dX6_takeNumber_12 ?_
      refine T_icmp_eq 26 dX6_takeNumber_13 (by decide) (fun _ => ?_) (fun _ => ?_)
      · refine T_iconst (0 : Int32) (by decide) dX6_takeNumber_26 ?_
        refine T_istore_n (lv' := [(3, .int (0 : Int32)), (0, .ref 49), (1, .int x1), (2, .int x2)]) rfl (Nat.le_of_ble_eq_true rfl) rfl dX6_takeNumber_27 ?_
        refine T_aload_n 1 rfl rfl dX6_takeNumber_28 ?_
        refine gIX6_35 rfl kd_49 dX6_takeNumber_29 ?_
        refine T_istore (lv' := [(4, .int (m.1 49 7)), (3, .int (0 : Int32)), (0, .ref 49), (1, .int x1), (2, .int x2)]) (Nat.le_of_ble_eq_true rfl) rfl dX6_takeNumber_32 ?_
        refine T_li (fun y1 => ?_)
        exact T_sub [2, 3, 4, 1, 0] rfl (tX6_takeNumber_34 X x1 x2  FU ((0 : Int32), y1, m))
      · refine T_aload_n 0 rfl rfl dX6_takeNumber_16 ?_
        refine T_iconst (2 : Int32) (by decide) dX6_takeNumber_17 ?_
        refine T_aload_n 0 rfl rfl dX6_takeNumber_18 ?_
        refine gIX6_35 rfl kd_49 dX6_takeNumber_19 ?_
        refine T_cVV (c := 6) [.int (2 : Int32), .int (m.1 49 7)] [] mkX6_refuse lmX6_64 rfl rfl (by decide) (Nat.le_of_ble_eq_true rfl) kd_49 dX6_takeNumber_22 (bsX6_refuse _ (2 : Int32) (m.1 49 7) m) (fun m8 => ?_)
        exact T_vret rfl dX6_takeNumber_25
    · exact T_vret rfl dX6_takeNumber_7)
theorem lmX6_100 : Cond.methodLink RX6 100 yX4_addLodger ∈ gdL := gd_mem 464 (by decide +kernel) (by decide +kernel)
theorem lmX6_110 : Cond.methodLink RX6 110 yX4_addStep ∈ gdL := gd_mem 468 (by decide +kernel) (by decide +kernel)
theorem lfX6_104 : Cond.fieldLink RX6 104 "RankStairs$House" "gapLaw" "I" ∈ gdL := gd_mem 137 (by decide +kernel) (by decide +kernel)
theorem gIX6_104 {q : mMI} {X : mCx} {tgt : mR} {pc : Nat} {lv : List (Nat × Value)} {st : List Value} {μ : mMem} {b : Nat} (hq : q.1.cls = RX6) (hb : kd b = (4, 0)) (hd : decode q.2.1 pc = .ok (.getfield 104, 3)) (h : T q X tgt (pc + 3) lv (.int (μ.1 b 2) :: st) μ) : T q X tgt pc lv (.ref b :: st) μ := T_getI (c := 4) rfl (by decide) rfl (by decide) (by rw [hq]; exact lfX6_104) hb hd h
theorem pIX6_104 {q : mMI} {X : mCx} {tgt : mR} {pc : Nat} {lv : List (Nat × Value)} {st : List Value} {μ : mMem} {b : Nat} {x : Int32} (hq : q.1.cls = RX6) (hn : narrow .int (.int x) = .int x) (hfit : fits .int (.int x) = true) (hb : kd b = (4, 0)) (hd : decode q.2.1 pc = .ok (.putfield 104, 3)) (h : T q X tgt (pc + 3) lv st (si μ b 2 x)) : T q X tgt pc lv (.int x :: .ref b :: st) μ := T_put (c := 4) rfl (by decide) rfl (by decide) (by rw [hq]; exact lfX6_104) (by decide) hn hfit hb hd h
theorem lfX6_107 : Cond.fieldLink RX6 107 "RankStairs$House" "holdLaw" "I" ∈ gdL := gd_mem 140 (by decide +kernel) (by decide +kernel)
theorem gIX6_107 {q : mMI} {X : mCx} {tgt : mR} {pc : Nat} {lv : List (Nat × Value)} {st : List Value} {μ : mMem} {b : Nat} (hq : q.1.cls = RX6) (hb : kd b = (4, 0)) (hd : decode q.2.1 pc = .ok (.getfield 107, 3)) (h : T q X tgt (pc + 3) lv (.int (μ.1 b 3) :: st) μ) : T q X tgt pc lv (.ref b :: st) μ := T_getI (c := 4) rfl (by decide) rfl (by decide) (by rw [hq]; exact lfX6_107) hb hd h
theorem pIX6_107 {q : mMI} {X : mCx} {tgt : mR} {pc : Nat} {lv : List (Nat × Value)} {st : List Value} {μ : mMem} {b : Nat} {x : Int32} (hq : q.1.cls = RX6) (hn : narrow .int (.int x) = .int x) (hfit : fits .int (.int x) = true) (hb : kd b = (4, 0)) (hd : decode q.2.1 pc = .ok (.putfield 107, 3)) (h : T q X tgt (pc + 3) lv st (si μ b 3 x)) : T q X tgt pc lv (.int x :: .ref b :: st) μ := T_put (c := 4) rfl (by decide) rfl (by decide) (by rw [hq]; exact lfX6_107) (by decide) hn hfit hb hd h
def fX6_tellLine (r1 : Nat) (x2 : Int32) (m : mMem) : mR := if x2 = (4 : Int32) then ga (0 : Int32) 4 (ga (1 : Int32) 4 (ga (2 : Int32) 4 (ga (3 : Int32) 4 (bV (fX4_addLodger r1 (m.1 51 ((0 : Int32)).toNatClampNeg) (m.1 51 ((1 : Int32)).toNatClampNeg) (m.1 51 ((2 : Int32)).toNatClampNeg) (m.1 51 ((3 : Int32)).toNatClampNeg) m) (fun m1 => some (none, m1)))))) else if x2 = (5 : Int32) then ga (0 : Int32) 4 (lt (si m r1 2 (m.1 51 ((0 : Int32)).toNatClampNeg)) (fun m2 => lt (si m2 49 8 (1 : Int32)) (fun m3 => some (none, m3)))) else if x2 = (6 : Int32) then ga (0 : Int32) 4 (lt (si m r1 3 (m.1 51 ((0 : Int32)).toNatClampNeg)) (fun m4 => lt (si m4 49 9 (1 : Int32)) (fun m5 => some (none, m5)))) else ga (0 : Int32) 4 (ga (1 : Int32) 4 (bV (fX4_addStep r1 x2 (m.1 51 ((0 : Int32)).toNatClampNeg) (m.1 51 ((1 : Int32)).toNatClampNeg) m) (fun m6 => some (none, m6))))
set_option maxRecDepth 100000 in
theorem bsX6_tellLine (l : Launch) (r1 : Nat) (x2 : Int32) (m : mMem) (h1 : kd r1 = (4, 0)) : BS l qX6_tellLine [.ref 49, .ref r1, .int x2] m (fX6_tellLine r1 x2 m) := BS_of (by decide) (Nat.le_of_ble_eq_true rfl) (fun X _ => by
    show T qX6_tellLine X (fX6_tellLine r1 x2 m) 0 [(0, .ref 49), (1, .ref r1), (2, .int x2)] [] m
    unfold fX6_tellLine
    refine T_iload_n 2 rfl rfl dX6_tellLine_0 ?_
    refine T_ite (fun hc => ?_) (fun hn0 => ?_)
    · refine T_tsIn (4 : Int32) 28 hc dX6_tellLine_1 (by decide) (by decide) rfl (by decide) ?_
      refine T_aload_n 1 rfl rfl dX6_tellLine_28 ?_
      refine T_aload_n 0 rfl rfl dX6_tellLine_29 ?_
      refine gRX6_25 rfl kd_49 51 rfl dX6_tellLine_30 ?_
      refine T_iconst (0 : Int32) (by decide) dX6_tellLine_33 ?_
      refine T_iald kd_51 dX6_tellLine_34 ?_
      refine T_aload_n 0 rfl rfl dX6_tellLine_35 ?_
      refine gRX6_25 rfl kd_49 51 rfl dX6_tellLine_36 ?_
      refine T_iconst (1 : Int32) (by decide) dX6_tellLine_39 ?_
      refine T_iald kd_51 dX6_tellLine_40 ?_
      refine T_aload_n 0 rfl rfl dX6_tellLine_41 ?_
      refine gRX6_25 rfl kd_49 51 rfl dX6_tellLine_42 ?_
      refine T_iconst (2 : Int32) (by decide) dX6_tellLine_45 ?_
      refine T_iald kd_51 dX6_tellLine_46 ?_
      refine T_aload_n 0 rfl rfl dX6_tellLine_47 ?_
      refine gRX6_25 rfl kd_49 51 rfl dX6_tellLine_48 ?_
      refine T_iconst (3 : Int32) (by decide) dX6_tellLine_51 ?_
      refine T_iald kd_51 dX6_tellLine_52 ?_
      refine T_cVV (c := 4) [.int (m.1 51 ((0 : Int32)).toNatClampNeg), .int (m.1 51 ((1 : Int32)).toNatClampNeg), .int (m.1 51 ((2 : Int32)).toNatClampNeg), .int (m.1 51 ((3 : Int32)).toNatClampNeg)] [] mkX4_addLodger lmX6_100 rfl rfl (by decide) (Nat.le_of_ble_eq_true rfl) h1 dX6_tellLine_53 (bsX4_addLodger _ r1 (m.1 51 ((0 : Int32)).toNatClampNeg) (m.1 51 ((1 : Int32)).toNatClampNeg) (m.1 51 ((2 : Int32)).toNatClampNeg) (m.1 51 ((3 : Int32)).toNatClampNeg) m h1) (fun m1 => ?_)
      refine T_goto 112 dX6_tellLine_56 (by decide) ?_
      exact T_vret rfl dX6_tellLine_112
    · refine T_ite (fun hc => ?_) (fun hn1 => ?_)
      · refine T_tsIn (5 : Int32) 59 hc dX6_tellLine_1 (by decide) (by decide) rfl (by decide) ?_
        refine T_aload_n 1 rfl rfl dX6_tellLine_59 ?_
        refine T_aload_n 0 rfl rfl dX6_tellLine_60 ?_
        refine gRX6_25 rfl kd_49 51 rfl dX6_tellLine_61 ?_
        refine T_iconst (0 : Int32) (by decide) dX6_tellLine_64 ?_
        refine T_iald kd_51 dX6_tellLine_65 ?_
        refine pIX6_104 rfl rfl rfl h1 dX6_tellLine_66 ?_
        refine T_lt (fun m2 => ?_)
        refine T_aload_n 0 rfl rfl dX6_tellLine_69 ?_
        refine T_iconst (1 : Int32) (by decide) dX6_tellLine_70 ?_
        refine pIX6_38 rfl rfl rfl kd_49 dX6_tellLine_71 ?_
        refine T_lt (fun m3 => ?_)
        refine T_goto 112 dX6_tellLine_74 (by decide) ?_
        exact T_vret rfl dX6_tellLine_112
      · refine T_ite (fun hc => ?_) (fun hn2 => ?_)
        · refine T_tsIn (6 : Int32) 77 hc dX6_tellLine_1 (by decide) (by decide) rfl (by decide) ?_
          refine T_aload_n 1 rfl rfl dX6_tellLine_77 ?_
          refine T_aload_n 0 rfl rfl dX6_tellLine_78 ?_
          refine gRX6_25 rfl kd_49 51 rfl dX6_tellLine_79 ?_
          refine T_iconst (0 : Int32) (by decide) dX6_tellLine_82 ?_
          refine T_iald kd_51 dX6_tellLine_83 ?_
          refine pIX6_107 rfl rfl rfl h1 dX6_tellLine_84 ?_
          refine T_lt (fun m4 => ?_)
          refine T_aload_n 0 rfl rfl dX6_tellLine_87 ?_
          refine T_iconst (1 : Int32) (by decide) dX6_tellLine_88 ?_
          refine pIX6_42 rfl rfl rfl kd_49 dX6_tellLine_89 ?_
          refine T_lt (fun m5 => ?_)
          refine T_goto 112 dX6_tellLine_92 (by decide) ?_
          exact T_vret rfl dX6_tellLine_112
        · refine T_tsOut 95 (by have e0 := neT (k := 4) hn0 (by decide); have e1 := neT (k := 5) hn1 (by decide); have e2 := neT (k := 6) hn2 (by decide); omega) dX6_tellLine_1 (by decide) ?_
          refine T_aload_n 1 rfl rfl dX6_tellLine_95 ?_
          refine T_iload_n 2 rfl rfl dX6_tellLine_96 ?_
          refine T_aload_n 0 rfl rfl dX6_tellLine_97 ?_
          refine gRX6_25 rfl kd_49 51 rfl dX6_tellLine_98 ?_
          refine T_iconst (0 : Int32) (by decide) dX6_tellLine_101 ?_
          refine T_iald kd_51 dX6_tellLine_102 ?_
          refine T_aload_n 0 rfl rfl dX6_tellLine_103 ?_
          refine gRX6_25 rfl kd_49 51 rfl dX6_tellLine_104 ?_
          refine T_iconst (1 : Int32) (by decide) dX6_tellLine_107 ?_
          refine T_iald kd_51 dX6_tellLine_108 ?_
          refine T_cVV (c := 4) [.int x2, .int (m.1 51 ((0 : Int32)).toNatClampNeg), .int (m.1 51 ((1 : Int32)).toNatClampNeg)] [] mkX4_addStep lmX6_110 rfl rfl (by decide) (Nat.le_of_ble_eq_true rfl) h1 dX6_tellLine_109 (bsX4_addStep _ r1 x2 (m.1 51 ((0 : Int32)).toNatClampNeg) (m.1 51 ((1 : Int32)).toNatClampNeg) m h1) (fun m6 => ?_)
          exact T_vret rfl dX6_tellLine_112)
theorem lmX6_114 : Cond.methodLink RX6 114 yX6_kindOfByte ∈ gdL := gd_mem 365 (by decide +kernel) (by decide +kernel)
def jX6_takeToken_168 (m : mMem) : mR := if (m.1 49 6) = (2 : Int32) then if ((m.1 49 5) - (m.1 49 7)) ≤ (2 : Int32) then some (none, m) else bV (fX6_refuse (1 : Int32) (m.1 49 7) m) (fun m5 => some (none, m5)) else some (none, m)
set_option maxRecDepth 100000 in
theorem uX6_takeToken_168 (X : mCx) (m : mMem)  : T qX6_takeToken X (jX6_takeToken_168 m) 168 [(0, .ref 49)] [] m := by
  unfold jX6_takeToken_168
  refine T_aload_n 0 rfl rfl dX6_takeToken_168 ?_
  refine gIX6_32 rfl kd_49 dX6_takeToken_169 ?_
  refine T_iconst (2 : Int32) (by decide) dX6_takeToken_172 ?_
  refine T_icmp_ne 198 dX6_takeToken_173 (by decide) (fun _ => ?_) (fun _ => ?_)
  · refine T_aload_n 0 rfl rfl dX6_takeToken_176 ?_
    refine gIX6_29 rfl kd_49 dX6_takeToken_177 ?_
    refine T_aload_n 0 rfl rfl dX6_takeToken_180 ?_
    refine gIX6_35 rfl kd_49 dX6_takeToken_181 ?_
    refine T_isub dX6_takeToken_184 ?_
    refine T_iconst (2 : Int32) (by decide) dX6_takeToken_185 ?_
    refine T_icmp_le 198 dX6_takeToken_186 (by decide) (fun _ => ?_) (fun _ => ?_)
    · exact T_vret rfl dX6_takeToken_198
    · refine T_aload_n 0 rfl rfl dX6_takeToken_189 ?_
      refine T_iconst (1 : Int32) (by decide) dX6_takeToken_190 ?_
      refine T_aload_n 0 rfl rfl dX6_takeToken_191 ?_
      refine gIX6_35 rfl kd_49 dX6_takeToken_192 ?_
      refine T_cVV (c := 6) [.int (1 : Int32), .int (m.1 49 7)] [] mkX6_refuse lmX6_64 rfl rfl (by decide) (Nat.le_of_ble_eq_true rfl) kd_49 dX6_takeToken_195 (bsX6_refuse _ (1 : Int32) (m.1 49 7) m) (fun m5 => ?_)
      exact T_vret rfl dX6_takeToken_198
  · exact T_vret rfl dX6_takeToken_198
def bX6_takeToken_125  (k125 : mMem → mR) (s : mMem) : mR := match s with
  | m => if (m.1 49 0) ≤ (m.1 49 5) then jX6_takeToken_168 m else ga (m.1 49 5) 160 (bI (fX6_kindOfByte (m.1 50 ((m.1 49 5)).toNatClampNeg) m) (fun z7 m6 => if z7 = (m6.1 49 6) then lt (si m6 49 5 ((m6.1 49 5) + (1 : Int32))) (fun m9 => k125 m9) else jX6_takeToken_168 m6))
set_option maxRecDepth 100000 in
theorem tX6_takeToken_125 (X : mCx)   : ∀ (n : Nat) (s : mMem), T qX6_takeToken X (lp (bX6_takeToken_125 ) n s) 125 [(0, .ref 49)] [] s :=
  T_lp (body := bX6_takeToken_125 ) (lv := fun s => [(0, .ref 49)]) (st := fun _ => []) (μ := fun s : mMem => s) (fun k125 hk125 s => by
    obtain ⟨m, hms⟩ : ∃ z, z = s := ⟨s, rfl⟩
    subst hms
    show T qX6_takeToken X (bX6_takeToken_125  k125 m) 125 [(0, .ref 49)] [] m
    unfold bX6_takeToken_125
    dsimp only
    refine T_aload_n 0 rfl rfl dX6_takeToken_125 ?_
    refine gIX6_29 rfl kd_49 dX6_takeToken_126 ?_
    refine T_aload_n 0 rfl rfl dX6_takeToken_129 ?_
    refine gIX6_9 rfl kd_49 dX6_takeToken_130 ?_
    refine T_icmp_ge 168 dX6_takeToken_133 (by decide) (fun _ => ?_) (fun _ => ?_)
    · exact T_sub [0] rfl (uX6_takeToken_168 X m )
    · refine T_aload_n 0 rfl rfl dX6_takeToken_136 ?_
      refine gRX6_21 rfl kd_49 50 rfl dX6_takeToken_137 ?_
      refine T_aload_n 0 rfl rfl dX6_takeToken_140 ?_
      refine gIX6_29 rfl kd_49 dX6_takeToken_141 ?_
      refine T_bald kd_50 dX6_takeToken_144 ?_
      refine T_cSI [.int (m.1 50 ((m.1 49 5)).toNatClampNeg)] [] mkX6_kindOfByte lmX6_114 rfl (by decide) (Nat.le_of_ble_eq_true rfl) dX6_takeToken_145 (bsX6_kindOfByte _ (m.1 50 ((m.1 49 5)).toNatClampNeg) m) (fun z7 m6 => ?_)
      refine T_aload_n 0 rfl rfl dX6_takeToken_148 ?_
      refine gIX6_32 rfl kd_49 dX6_takeToken_149 ?_
      refine T_icmp_ne 168 dX6_takeToken_152 (by decide) (fun _ => ?_) (fun _ => ?_)
      · refine T_aload_n 0 rfl rfl dX6_takeToken_155 ?_
        refine T_dup rfl dX6_takeToken_156 ?_
        refine gIX6_29 rfl kd_49 dX6_takeToken_157 ?_
        refine T_iconst (1 : Int32) (by decide) dX6_takeToken_160 ?_
        refine T_iadd dX6_takeToken_161 ?_
        refine pIX6_29 rfl rfl rfl kd_49 dX6_takeToken_162 ?_
        refine T_lt (fun m9 => ?_)
        refine T_goto 125 dX6_takeToken_165 (by decide) ?_
        exact T_sub [0] rfl (hk125 m9)
      · exact T_sub [0] rfl (uX6_takeToken_168 X m6 ))
def jX6_takeToken_74 (xs0 : Int32) (m : mMem) : mR := lt (si m 49 6 xs0) (fun m2 => if (m2.1 49 6) = (0 : Int32) then bV (fX6_refuse (1 : Int32) (m2.1 49 7) m2) (fun m3 => some (none, m3)) else if (m2.1 49 6) = (3 : Int32) then lt (si m2 49 5 ((m2.1 49 5) + (1 : Int32))) (fun m4 => some (none, m4)) else if (m2.1 49 6) = (4 : Int32) then some (none, m2) else lp (bX6_takeToken_125 ) FU m2)
set_option maxRecDepth 100000 in
theorem uX6_takeToken_74 (X : mCx) (xs0 : Int32) (m : mMem)  : T qX6_takeToken X (jX6_takeToken_74 xs0 m) 74 [(0, .ref 49)] [.int xs0, .ref 49] m := by
  unfold jX6_takeToken_74
  refine pIX6_32 rfl rfl rfl kd_49 dX6_takeToken_74 ?_
  refine T_lt (fun m2 => ?_)
  refine T_aload_n 0 rfl rfl dX6_takeToken_77 ?_
  refine gIX6_32 rfl kd_49 dX6_takeToken_78 ?_
  refine T_if_ne 96 dX6_takeToken_81 (by decide) (fun _ => ?_) (fun _ => ?_)
  · refine T_aload_n 0 rfl rfl dX6_takeToken_84 ?_
    refine T_iconst (1 : Int32) (by decide) dX6_takeToken_85 ?_
    refine T_aload_n 0 rfl rfl dX6_takeToken_86 ?_
    refine gIX6_35 rfl kd_49 dX6_takeToken_87 ?_
    refine T_cVV (c := 6) [.int (1 : Int32), .int (m2.1 49 7)] [] mkX6_refuse lmX6_64 rfl rfl (by decide) (Nat.le_of_ble_eq_true rfl) kd_49 dX6_takeToken_90 (bsX6_refuse _ (1 : Int32) (m2.1 49 7) m2) (fun m3 => ?_)
    refine T_goto 198 dX6_takeToken_93 (by decide) ?_
    exact T_vret rfl dX6_takeToken_198
  · refine T_aload_n 0 rfl rfl dX6_takeToken_96 ?_
    refine gIX6_32 rfl kd_49 dX6_takeToken_97 ?_
    refine T_iconst (3 : Int32) (by decide) dX6_takeToken_100 ?_
    refine T_icmp_ne 117 dX6_takeToken_101 (by decide) (fun _ => ?_) (fun _ => ?_)
    · refine T_aload_n 0 rfl rfl dX6_takeToken_104 ?_
      refine T_dup rfl dX6_takeToken_105 ?_
      refine gIX6_29 rfl kd_49 dX6_takeToken_106 ?_
      refine T_iconst (1 : Int32) (by decide) dX6_takeToken_109 ?_
      refine T_iadd dX6_takeToken_110 ?_
      refine pIX6_29 rfl rfl rfl kd_49 dX6_takeToken_111 ?_
      refine T_lt (fun m4 => ?_)
      refine T_goto 198 dX6_takeToken_114 (by decide) ?_
      exact T_vret rfl dX6_takeToken_198
    · refine T_aload_n 0 rfl rfl dX6_takeToken_117 ?_
      refine gIX6_32 rfl kd_49 dX6_takeToken_118 ?_
      refine T_iconst (4 : Int32) (by decide) dX6_takeToken_121 ?_
      refine T_icmp_eq 198 dX6_takeToken_122 (by decide) (fun _ => ?_) (fun _ => ?_)
      · exact T_vret rfl dX6_takeToken_198
      · exact T_sub [0] rfl (tX6_takeToken_125 X   FU m2)
def jX6_takeToken_38 (m : mMem) : mR := lt (si m 49 7 (m.1 49 5)) (fun m1 => if (m1.1 49 0) ≤ (m1.1 49 5) then jX6_takeToken_74 (4 : Int32) m1 else ga (m1.1 49 5) 160 (bI (fX6_kindOfByte (m1.1 50 ((m1.1 49 5)).toNatClampNeg) m1) (fun z11 m10 => jX6_takeToken_74 z11 m10)))
set_option maxRecDepth 100000 in
theorem uX6_takeToken_38 (X : mCx) (m : mMem)  : T qX6_takeToken X (jX6_takeToken_38 m) 38 [(0, .ref 49)] [] m := by
  unfold jX6_takeToken_38
  refine T_aload_n 0 rfl rfl dX6_takeToken_38 ?_
  refine T_aload_n 0 rfl rfl dX6_takeToken_39 ?_
  refine gIX6_29 rfl kd_49 dX6_takeToken_40 ?_
  refine pIX6_35 rfl rfl rfl kd_49 dX6_takeToken_43 ?_
  refine T_lt (fun m1 => ?_)
  refine T_aload_n 0 rfl rfl dX6_takeToken_46 ?_
  refine T_aload_n 0 rfl rfl dX6_takeToken_47 ?_
  refine gIX6_29 rfl kd_49 dX6_takeToken_48 ?_
  refine T_aload_n 0 rfl rfl dX6_takeToken_51 ?_
  refine gIX6_9 rfl kd_49 dX6_takeToken_52 ?_
  refine T_icmp_ge 73 dX6_takeToken_55 (by decide) (fun _ => ?_) (fun _ => ?_)
  · refine T_iconst (4 : Int32) (by decide) dX6_takeToken_73 ?_
    exact T_sub [0] rfl (uX6_takeToken_74 X (4 : Int32) m1 )
  · refine T_aload_n 0 rfl rfl dX6_takeToken_58 ?_
    refine gRX6_21 rfl kd_49 50 rfl dX6_takeToken_59 ?_
    refine T_aload_n 0 rfl rfl dX6_takeToken_62 ?_
    refine gIX6_29 rfl kd_49 dX6_takeToken_63 ?_
    refine T_bald kd_50 dX6_takeToken_66 ?_
    refine T_cSI [.int (m1.1 50 ((m1.1 49 5)).toNatClampNeg)] [.ref 49] mkX6_kindOfByte lmX6_114 rfl (by decide) (Nat.le_of_ble_eq_true rfl) dX6_takeToken_67 (bsX6_kindOfByte _ (m1.1 50 ((m1.1 49 5)).toNatClampNeg) m1) (fun z11 m10 => ?_)
    refine T_goto 74 dX6_takeToken_70 (by decide) ?_
    exact T_sub [0] rfl (uX6_takeToken_74 X z11 m10 )
def bX6_takeToken_0  (k0 : mMem → mR) (s : mMem) : mR := match s with
  | m => if (m.1 49 0) ≤ (m.1 49 5) then jX6_takeToken_38 m else ga (m.1 49 5) 160 (if (m.1 50 ((m.1 49 5)).toNatClampNeg) = (32 : Int32) then lt (si m 49 5 ((m.1 49 5) + (1 : Int32))) (fun m13 => k0 m13) else jX6_takeToken_38 m)
set_option maxRecDepth 100000 in
theorem tX6_takeToken_0 (X : mCx)   : ∀ (n : Nat) (s : mMem), T qX6_takeToken X (lp (bX6_takeToken_0 ) n s) 0 [(0, .ref 49)] [] s :=
  T_lp (body := bX6_takeToken_0 ) (lv := fun s => [(0, .ref 49)]) (st := fun _ => []) (μ := fun s : mMem => s) (fun k0 hk0 s => by
    obtain ⟨m, hms⟩ : ∃ z, z = s := ⟨s, rfl⟩
    subst hms
    show T qX6_takeToken X (bX6_takeToken_0  k0 m) 0 [(0, .ref 49)] [] m
    unfold bX6_takeToken_0
    dsimp only
    refine T_aload_n 0 rfl rfl dX6_takeToken_0 ?_
    refine gIX6_29 rfl kd_49 dX6_takeToken_1 ?_
    refine T_aload_n 0 rfl rfl dX6_takeToken_4 ?_
    refine gIX6_9 rfl kd_49 dX6_takeToken_5 ?_
    refine T_icmp_ge 38 dX6_takeToken_8 (by decide) (fun _ => ?_) (fun _ => ?_)
    · exact T_sub [0] rfl (uX6_takeToken_38 X m )
    · refine T_aload_n 0 rfl rfl dX6_takeToken_11 ?_
      refine gRX6_21 rfl kd_49 50 rfl dX6_takeToken_12 ?_
      refine T_aload_n 0 rfl rfl dX6_takeToken_15 ?_
      refine gIX6_29 rfl kd_49 dX6_takeToken_16 ?_
      refine T_bald kd_50 dX6_takeToken_19 ?_
      refine T_bipush (32 : Int32) (by decide) dX6_takeToken_20 ?_
      refine T_icmp_ne 38 dX6_takeToken_22 (by decide) (fun _ => ?_) (fun _ => ?_)
      · refine T_aload_n 0 rfl rfl dX6_takeToken_25 ?_
        refine T_dup rfl dX6_takeToken_26 ?_
        refine gIX6_29 rfl kd_49 dX6_takeToken_27 ?_
        refine T_iconst (1 : Int32) (by decide) dX6_takeToken_30 ?_
        refine T_iadd dX6_takeToken_31 ?_
        refine pIX6_29 rfl rfl rfl kd_49 dX6_takeToken_32 ?_
        refine T_lt (fun m13 => ?_)
        refine T_goto 0 dX6_takeToken_35 (by decide) ?_
        exact T_sub [0] rfl (hk0 m13)
      · exact T_sub [0] rfl (uX6_takeToken_38 X m ))
def fX6_takeToken  (m : mMem) : mR := lp (bX6_takeToken_0 ) FU m
set_option maxRecDepth 100000 in
theorem bsX6_takeToken (l : Launch)  (m : mMem)  : BS l qX6_takeToken [.ref 49] m (fX6_takeToken  m) := BS_of (by decide) (Nat.le_of_ble_eq_true rfl) (fun X _ => by
    show T qX6_takeToken X (fX6_takeToken  m) 0 [(0, .ref 49)] [] m
    unfold fX6_takeToken
    exact T_sub [0] rfl (tX6_takeToken_0 X   FU m))
theorem lmX6_50 : Cond.methodLink RX6 50 yX6_takeToken ∈ gdL := gd_mem 361 (by decide +kernel) (by decide +kernel)
def fX6_takeTokenIfSound  (m : mMem) : mR := if (m.1 49 1) = (0 : Int32) then bV (fX6_takeToken m) (fun m1 => some (none, m1)) else some (none, m)
set_option maxRecDepth 100000 in
theorem bsX6_takeTokenIfSound (l : Launch)  (m : mMem)  : BS l qX6_takeTokenIfSound [.ref 49] m (fX6_takeTokenIfSound  m) := BS_of (by decide) (Nat.le_of_ble_eq_true rfl) (fun X _ => by
    show T qX6_takeTokenIfSound X (fX6_takeTokenIfSound  m) 0 [(0, .ref 49)] [] m
    unfold fX6_takeTokenIfSound
    refine T_aload_n 0 rfl rfl dX6_takeTokenIfSound_0 ?_
    refine gIX6_15 rfl kd_49 dX6_takeTokenIfSound_1 ?_
    refine T_if_ne 11 dX6_takeTokenIfSound_4 (by decide) (fun _ => ?_) (fun _ => ?_)
    · refine T_aload_n 0 rfl rfl dX6_takeTokenIfSound_7 ?_
      refine T_cVV (c := 6) [] [] mkX6_takeToken lmX6_50 rfl rfl (by decide) (Nat.le_of_ble_eq_true rfl) kd_49 dX6_takeTokenIfSound_8 (bsX6_takeToken _  m) (fun m1 => ?_)
      exact T_vret rfl dX6_takeTokenIfSound_11
    · exact T_vret rfl dX6_takeTokenIfSound_11)
theorem lmX6_126 : Cond.methodLink RX6 126 yJ0_length_8abf5 ∈ gdL := gd_mem 394 (by decide +kernel) (by decide +kernel)
theorem lmX6_130 : Cond.methodLink RX6 130 yJ0_charAt_5068e ∈ gdL := gd_mem 404 (by decide +kernel) (by decide +kernel)
def bX6_isTokenNamed_20 (r1 : Nat) (k20 : Int32 × mMem → mR) (s : Int32 × mMem) : mR := match s with
  | (x2, m) => bI (fJ0_length_8abf5 r1 m) (fun z5 m4 => if z5 ≤ x2 then some (some (.int (1 : Int32)), m4) else ga ((m4.1 49 7) + x2) 160 (bI (fJ0_charAt_5068e r1 x2 m4) (fun z8 m7 => if (m4.1 50 (((m4.1 49 7) + x2)).toNatClampNeg) = z8 then li (x2 + (1 : Int32)) (fun y10 => k20 (y10, m7)) else some (some (.int (0 : Int32)), m7))))
set_option maxRecDepth 100000 in
theorem tX6_isTokenNamed_20 (X : mCx) (r1 : Nat) (h1 : 100 ≤ r1 ∧ r1 < 107) : ∀ (n : Nat) (s : Int32 × mMem), T qX6_isTokenNamed X (lp (bX6_isTokenNamed_20 r1) n s) 20 [(0, .ref 49), (1, .ref r1), (2, .int s.1)] [] s.2 :=
  T_lp (body := bX6_isTokenNamed_20 r1) (lv := fun s => [(0, .ref 49), (1, .ref r1), (2, .int s.1)]) (st := fun _ => []) (μ := fun s : Int32 × mMem => s.2) (fun k20 hk20 s => by
    obtain ⟨x2, m⟩ := s
    show T qX6_isTokenNamed X (bX6_isTokenNamed_20 r1 k20 (x2, m)) 20 [(0, .ref 49), (1, .ref r1), (2, .int x2)] [] m
    unfold bX6_isTokenNamed_20
    dsimp only
    refine T_iload_n 2 rfl rfl dX6_isTokenNamed_20 ?_
    refine T_aload_n 1 rfl rfl dX6_isTokenNamed_21 ?_
    refine T_cVIS [] [.int x2] mkJ0_length_8abf5 lmX6_126 rfl rfl (by decide) (Nat.le_of_ble_eq_true rfl) h1 dX6_isTokenNamed_22 (bsJ0_length_8abf5 _ r1 m h1) (fun z5 m4 => ?_)
    refine T_icmp_ge 55 dX6_isTokenNamed_25 (by decide) (fun _ => ?_) (fun _ => ?_)
    · refine T_iconst (1 : Int32) (by decide) dX6_isTokenNamed_55 ?_
      exact T_zretc (by decide) rfl dX6_isTokenNamed_56
    · refine T_aload_n 0 rfl rfl dX6_isTokenNamed_28 ?_
      refine gRX6_21 rfl kd_49 50 rfl dX6_isTokenNamed_29 ?_
      refine T_aload_n 0 rfl rfl dX6_isTokenNamed_32 ?_
      refine gIX6_35 rfl kd_49 dX6_isTokenNamed_33 ?_
      refine T_iload_n 2 rfl rfl dX6_isTokenNamed_36 ?_
      refine T_iadd dX6_isTokenNamed_37 ?_
      refine T_bald kd_50 dX6_isTokenNamed_38 ?_
      refine T_aload_n 1 rfl rfl dX6_isTokenNamed_39 ?_
      refine T_iload_n 2 rfl rfl dX6_isTokenNamed_40 ?_
      refine T_cVIS [.int x2] [.int (m4.1 50 (((m4.1 49 7) + x2)).toNatClampNeg)] mkJ0_charAt_5068e lmX6_130 rfl rfl (by decide) (Nat.le_of_ble_eq_true rfl) h1 dX6_isTokenNamed_41 (bsJ0_charAt_5068e _ r1 x2 m4 h1) (fun z8 m7 => ?_)
      refine T_icmp_eq 49 dX6_isTokenNamed_44 (by decide) (fun _ => ?_) (fun _ => ?_)
      · refine T_iinc (lv' := [(2, .int (x2 + (1 : Int32))), (0, .ref 49), (1, .ref r1)]) 2 (1 : Int32) rfl (by decide) (Nat.le_of_ble_eq_true rfl) rfl dX6_isTokenNamed_49 ?_
        refine T_li (fun y10 => ?_)
        refine T_goto 20 dX6_isTokenNamed_52 (by decide) ?_
        exact T_sub [1, 2, 0] rfl (hk20 (y10, m7))
      · refine T_iconst (0 : Int32) (by decide) dX6_isTokenNamed_47 ?_
        exact T_zretc (by decide) rfl dX6_isTokenNamed_48)
def fX6_isTokenNamed (r1 : Nat) (m : mMem) : mR := bI (fJ0_length_8abf5 r1 m) (fun z2 m1 => if ((m.1 49 5) - (m.1 49 7)) = z2 then lp (bX6_isTokenNamed_20 r1) FU ((0 : Int32), m1) else some (some (.int (0 : Int32)), m1))
set_option maxRecDepth 100000 in
theorem bsX6_isTokenNamed (l : Launch) (r1 : Nat) (m : mMem) (h1 : 100 ≤ r1 ∧ r1 < 107) : BS l qX6_isTokenNamed [.ref 49, .ref r1] m (fX6_isTokenNamed r1 m) := BS_of (by decide) (Nat.le_of_ble_eq_true rfl) (fun X _ => by
    show T qX6_isTokenNamed X (fX6_isTokenNamed r1 m) 0 [(0, .ref 49), (1, .ref r1)] [] m
    unfold fX6_isTokenNamed
    refine T_aload_n 0 rfl rfl dX6_isTokenNamed_0 ?_
    refine gIX6_29 rfl kd_49 dX6_isTokenNamed_1 ?_
    refine T_aload_n 0 rfl rfl dX6_isTokenNamed_4 ?_
    refine gIX6_35 rfl kd_49 dX6_isTokenNamed_5 ?_
    refine T_isub dX6_isTokenNamed_8 ?_
    refine T_aload_n 1 rfl rfl dX6_isTokenNamed_9 ?_
    refine T_cVIS [] [.int ((m.1 49 5) - (m.1 49 7))] mkJ0_length_8abf5 lmX6_126 rfl rfl (by decide) (Nat.le_of_ble_eq_true rfl) h1 dX6_isTokenNamed_10 (bsJ0_length_8abf5 _ r1 m h1) (fun z2 m1 => ?_)
    refine T_icmp_eq 18 dX6_isTokenNamed_13 (by decide) (fun _ => ?_) (fun _ => ?_)
    · refine T_iconst (0 : Int32) (by decide) dX6_isTokenNamed_18 ?_
      refine T_istore_n (lv' := [(2, .int (0 : Int32)), (0, .ref 49), (1, .ref r1)]) rfl (Nat.le_of_ble_eq_true rfl) rfl dX6_isTokenNamed_19 ?_
      exact T_sub [1, 2, 0] rfl (tX6_isTokenNamed_20 X r1 h1 FU ((0 : Int32), m1))
    · refine T_iconst (0 : Int32) (by decide) dX6_isTokenNamed_16 ?_
      exact T_zretc (by decide) rfl dX6_isTokenNamed_17)
theorem lmX6_118 : Cond.methodLink RX6 118 yX6_nameOfLine ∈ gdL := gd_mem 380 (by decide +kernel) (by decide +kernel)
theorem lmX6_122 : Cond.methodLink RX6 122 yX6_isTokenNamed ∈ gdL := gd_mem 390 (by decide +kernel) (by decide +kernel)
def bX6_lineOfName_2  (k2 : Int32 × mMem → mR) (s : Int32 × mMem) : mR := match s with
  | (x1, m) => if (7 : Int32) ≤ x1 then some (some (.int (7 : Int32)), m) else bA (fX6_nameOfLine x1 m) (fun z2 m1 => gd (100 ≤ z2 ∧ z2 < 107) (bI (fX6_isTokenNamed z2 m1) (fun z5 m4 => if z5 = (0 : Int32) then li (x1 + (1 : Int32)) (fun y7 => k2 (y7, m4)) else some (some (.int x1), m4))) inferInstance)
set_option maxRecDepth 100000 in
theorem tX6_lineOfName_2 (X : mCx)   : ∀ (n : Nat) (s : Int32 × mMem), T qX6_lineOfName X (lp (bX6_lineOfName_2 ) n s) 2 [(0, .ref 49), (1, .int s.1)] [] s.2 :=
  T_lp (body := bX6_lineOfName_2 ) (lv := fun s => [(0, .ref 49), (1, .int s.1)]) (st := fun _ => []) (μ := fun s : Int32 × mMem => s.2) (fun k2 hk2 s => by
    obtain ⟨x1, m⟩ := s
    show T qX6_lineOfName X (bX6_lineOfName_2  k2 (x1, m)) 2 [(0, .ref 49), (1, .int x1)] [] m
    unfold bX6_lineOfName_2
    dsimp only
    refine T_iload_n 1 rfl rfl dX6_lineOfName_2 ?_
    refine T_bipush (7 : Int32) (by decide) dX6_lineOfName_3 ?_
    refine T_icmp_ge 27 dX6_lineOfName_5 (by decide) (fun _ => ?_) (fun _ => ?_)
    · refine T_bipush (7 : Int32) (by decide) dX6_lineOfName_27 ?_
      exact T_iret rfl dX6_lineOfName_29
    · refine T_aload_n 0 rfl rfl dX6_lineOfName_8 ?_
      refine T_iload_n 1 rfl rfl dX6_lineOfName_9 ?_
      refine T_cSA [.int x1] [.ref 49] mkX6_nameOfLine lmX6_118 rfl (by decide) (Nat.le_of_ble_eq_true rfl) dX6_lineOfName_10 (bsX6_nameOfLine _ x1 m) (fun z2 m1 => ?_)
      refine T_gg (fun hz3 => ?_)
      refine T_cVI (c := 6) [.ref z2] [] mkX6_isTokenNamed lmX6_122 rfl rfl (by decide) (Nat.le_of_ble_eq_true rfl) kd_49 dX6_lineOfName_13 (bsX6_isTokenNamed _ z2 m1 hz3) (fun z5 m4 => ?_)
      refine T_if_eq 21 dX6_lineOfName_16 (by decide) (fun _ => ?_) (fun _ => ?_)
      · refine T_iinc (lv' := [(1, .int (x1 + (1 : Int32))), (0, .ref 49)]) 1 (1 : Int32) rfl (by decide) (Nat.le_of_ble_eq_true rfl) rfl dX6_lineOfName_21 ?_
        refine T_li (fun y7 => ?_)
        refine T_goto 2 dX6_lineOfName_24 (by decide) ?_
        exact T_sub [1, 0] rfl (hk2 (y7, m4))
      · refine T_iload_n 1 rfl rfl dX6_lineOfName_19 ?_
        exact T_iret rfl dX6_lineOfName_20)
def fX6_lineOfName  (m : mMem) : mR := lp (bX6_lineOfName_2 ) FU ((0 : Int32), m)
set_option maxRecDepth 100000 in
theorem bsX6_lineOfName (l : Launch)  (m : mMem)  : BS l qX6_lineOfName [.ref 49] m (fX6_lineOfName  m) := BS_of (by decide) (Nat.le_of_ble_eq_true rfl) (fun X _ => by
    show T qX6_lineOfName X (fX6_lineOfName  m) 0 [(0, .ref 49)] [] m
    unfold fX6_lineOfName
    refine T_iconst (0 : Int32) (by decide) dX6_lineOfName_0 ?_
    refine T_istore_n (lv' := [(1, .int (0 : Int32)), (0, .ref 49)]) rfl (Nat.le_of_ble_eq_true rfl) rfl dX6_lineOfName_1 ?_
    exact T_sub [1, 0] rfl (tX6_lineOfName_2 X   FU ((0 : Int32), m)))
theorem lmX6_57 : Cond.methodLink RX6 57 yX6_takeTokenIfSound ∈ gdL := gd_mem 456 (by decide +kernel) (by decide +kernel)
theorem lmX6_77 : Cond.methodLink RX6 77 yX6_lineOfName ∈ gdL := gd_mem 376 (by decide +kernel) (by decide +kernel)
theorem lmX6_81 : Cond.methodLink RX6 81 yX6_refuseOneTooMany ∈ gdL := gd_mem 442 (by decide +kernel) (by decide +kernel)
theorem lmX6_88 : Cond.methodLink RX6 88 yX6_takeNumber ∈ gdL := gd_mem 448 (by decide +kernel) (by decide +kernel)
theorem lmX6_91 : Cond.methodLink RX6 91 yX6_tellLine ∈ gdL := gd_mem 460 (by decide +kernel) (by decide +kernel)
theorem lfX6_85 : Cond.fieldLink RX6 85 "RankStairs$Tape" "NUMBERS" "[I" ∈ gdL := gd_mem 446 (by decide +kernel) (by decide +kernel)
def jX6_takeLine_102 (r1 : Nat) (x2 : Int32) (m : mMem) : mR := if (m.1 49 1) = (0 : Int32) then bV (fX6_tellLine r1 x2 m) (fun m6 => some (none, m6)) else some (none, m)
set_option maxRecDepth 100000 in
theorem uX6_takeLine_102 (X : mCx) (r1 : Nat) (x2 : Int32) (m : mMem) (h1 : kd r1 = (4, 0)) : T qX6_takeLine X (jX6_takeLine_102 r1 x2 m) 102 [(0, .ref 49), (1, .ref r1), (2, .int x2)] [] m := by
  unfold jX6_takeLine_102
  refine T_aload_n 0 rfl rfl dX6_takeLine_102 ?_
  refine gIX6_15 rfl kd_49 dX6_takeLine_103 ?_
  refine T_if_ne 115 dX6_takeLine_106 (by decide) (fun _ => ?_) (fun _ => ?_)
  · refine T_aload_n 0 rfl rfl dX6_takeLine_109 ?_
    refine T_aload_n 1 rfl rfl dX6_takeLine_110 ?_
    refine T_iload_n 2 rfl rfl dX6_takeLine_111 ?_
    refine T_cVV (c := 6) [.ref r1, .int x2] [] mkX6_tellLine lmX6_91 rfl rfl (by decide) (Nat.le_of_ble_eq_true rfl) kd_49 dX6_takeLine_112 (bsX6_tellLine _ r1 x2 m h1) (fun m6 => ?_)
    exact T_vret rfl dX6_takeLine_115
  · exact T_vret rfl dX6_takeLine_115
def jX6_takeLine_74 (r1 : Nat) (x2 : Int32) (m : mMem) : mR := bV (fX6_takeTokenIfSound m) (fun m5 => if (m5.1 49 1) = (0 : Int32) then if (m5.1 49 6) = (3 : Int32) then jX6_takeLine_102 r1 x2 m5 else bV (fX6_refuse (2 : Int32) (m5.1 49 7) m5) (fun m7 => jX6_takeLine_102 r1 x2 m7) else jX6_takeLine_102 r1 x2 m5)
set_option maxRecDepth 100000 in
theorem uX6_takeLine_74 (X : mCx) (r1 : Nat) (x2 : Int32) (m : mMem) (h1 : kd r1 = (4, 0)) : T qX6_takeLine X (jX6_takeLine_74 r1 x2 m) 74 [(0, .ref 49), (1, .ref r1), (2, .int x2)] [] m := by
  unfold jX6_takeLine_74
  refine T_aload_n 0 rfl rfl dX6_takeLine_74 ?_
  refine T_cVV (c := 6) [] [] mkX6_takeTokenIfSound lmX6_57 rfl rfl (by decide) (Nat.le_of_ble_eq_true rfl) kd_49 dX6_takeLine_75 (bsX6_takeTokenIfSound _  m) (fun m5 => ?_)
  refine T_aload_n 0 rfl rfl dX6_takeLine_78 ?_
  refine gIX6_15 rfl kd_49 dX6_takeLine_79 ?_
  refine T_if_ne 102 dX6_takeLine_82 (by decide) (fun _ => ?_) (fun _ => ?_)
  · refine T_aload_n 0 rfl rfl dX6_takeLine_85 ?_
    refine gIX6_32 rfl kd_49 dX6_takeLine_86 ?_
    refine T_iconst (3 : Int32) (by decide) dX6_takeLine_89 ?_
    refine T_icmp_eq 102 dX6_takeLine_90 (by decide) (fun _ => ?_) (fun _ => ?_)
    · exact T_sub [0, 1, 2] rfl (uX6_takeLine_102 X r1 x2 m5 h1)
    · refine T_aload_n 0 rfl rfl dX6_takeLine_93 ?_
      refine T_iconst (2 : Int32) (by decide) dX6_takeLine_94 ?_
      refine T_aload_n 0 rfl rfl dX6_takeLine_95 ?_
      refine gIX6_35 rfl kd_49 dX6_takeLine_96 ?_
      refine T_cVV (c := 6) [.int (2 : Int32), .int (m5.1 49 7)] [] mkX6_refuse lmX6_64 rfl rfl (by decide) (Nat.le_of_ble_eq_true rfl) kd_49 dX6_takeLine_99 (bsX6_refuse _ (2 : Int32) (m5.1 49 7) m5) (fun m7 => ?_)
      exact T_sub [0, 1, 2] rfl (uX6_takeLine_102 X r1 x2 m7 h1)
  · exact T_sub [0, 1, 2] rfl (uX6_takeLine_102 X r1 x2 m5 h1)
def bX6_takeLine_42 (r1 : Nat) (x2 : Int32) (k42 : Int32 × mMem → mR) (s : Int32 × mMem) : mR := match s with
  | (x3, m) => ga x2 7 (if (tb114.getD (x2).toNatClampNeg 0) ≤ x3 then jX6_takeLine_74 r1 x2 m else if (m.1 49 1) = (0 : Int32) then bV (fX6_takeToken m) (fun m8 => bV (fX6_takeNumber x2 x3 m8) (fun m9 => li (x3 + (1 : Int32)) (fun y10 => k42 (y10, m9)))) else jX6_takeLine_74 r1 x2 m)
set_option maxRecDepth 100000 in
theorem tX6_takeLine_42 (X : mCx) (r1 : Nat) (x2 : Int32) (h1 : kd r1 = (4, 0)) : ∀ (n : Nat) (s : Int32 × mMem), T qX6_takeLine X (lp (bX6_takeLine_42 r1 x2) n s) 42 [(0, .ref 49), (1, .ref r1), (2, .int x2), (3, .int s.1)] [] s.2 :=
  T_lp (body := bX6_takeLine_42 r1 x2) (lv := fun s => [(0, .ref 49), (1, .ref r1), (2, .int x2), (3, .int s.1)]) (st := fun _ => []) (μ := fun s : Int32 × mMem => s.2) (fun k42 hk42 s => by
    obtain ⟨x3, m⟩ := s
    show T qX6_takeLine X (bX6_takeLine_42 r1 x2 k42 (x3, m)) 42 [(0, .ref 49), (1, .ref r1), (2, .int x2), (3, .int x3)] [] m
    unfold bX6_takeLine_42
    dsimp only
    refine T_iload_n 3 rfl rfl dX6_takeLine_42 ?_
    refine T_gs (x := .ref 114) zs114 lfX6_85 dX6_takeLine_43 ?_
    refine T_iload_n 2 rfl rfl dX6_takeLine_46 ?_
    refine T_tald zt114 dX6_takeLine_47 ?_
    refine T_icmp_ge 74 dX6_takeLine_48 (by decide) (fun _ => ?_) (fun _ => ?_)
    · exact T_sub [0, 1, 2] rfl (uX6_takeLine_74 X r1 x2 m h1)
    · refine T_aload_n 0 rfl rfl dX6_takeLine_51 ?_
      refine gIX6_15 rfl kd_49 dX6_takeLine_52 ?_
      refine T_if_ne 74 dX6_takeLine_55 (by decide) (fun _ => ?_) (fun _ => ?_)
      · refine T_aload_n 0 rfl rfl dX6_takeLine_58 ?_
        refine T_cVV (c := 6) [] [] mkX6_takeToken lmX6_50 rfl rfl (by decide) (Nat.le_of_ble_eq_true rfl) kd_49 dX6_takeLine_59 (bsX6_takeToken _  m) (fun m8 => ?_)
        refine T_aload_n 0 rfl rfl dX6_takeLine_62 ?_
        refine T_iload_n 2 rfl rfl dX6_takeLine_63 ?_
        refine T_iload_n 3 rfl rfl dX6_takeLine_64 ?_
        refine T_cVV (c := 6) [.int x2, .int x3] [] mkX6_takeNumber lmX6_88 rfl rfl (by decide) (Nat.le_of_ble_eq_true rfl) kd_49 dX6_takeLine_65 (bsX6_takeNumber _ x2 x3 m8) (fun m9 => ?_)
        refine T_iinc (lv' := [(3, .int (x3 + (1 : Int32))), (0, .ref 49), (1, .ref r1), (2, .int x2)]) 3 (1 : Int32) rfl (by decide) (Nat.le_of_ble_eq_true rfl) rfl dX6_takeLine_68 ?_
        refine T_li (fun y10 => ?_)
        refine T_goto 42 dX6_takeLine_71 (by decide) ?_
        exact T_sub [1, 2, 3, 0] rfl (hk42 (y10, m9))
      · exact T_sub [0, 1, 2] rfl (uX6_takeLine_74 X r1 x2 m h1))
def jX6_takeLine_17 (r1 : Nat) (xs0 : Int32) (m : mMem) : mR := if xs0 < (7 : Int32) then bV (fX6_refuseOneTooMany r1 xs0 m) (fun m4 => lp (bX6_takeLine_42 r1 xs0) FU ((0 : Int32), m4)) else bV (fX6_refuse (2 : Int32) (m.1 49 7) m) (fun m11 => some (none, m11))
set_option maxRecDepth 100000 in
theorem uX6_takeLine_17 (X : mCx) (r1 : Nat) (xs0 : Int32) (m : mMem) (h1 : kd r1 = (4, 0)) : T qX6_takeLine X (jX6_takeLine_17 r1 xs0 m) 17 [(0, .ref 49), (1, .ref r1)] [.int xs0] m := by
  unfold jX6_takeLine_17
  refine T_istore_n (lv' := [(2, .int xs0), (0, .ref 49), (1, .ref r1)]) rfl (Nat.le_of_ble_eq_true rfl) rfl dX6_takeLine_17 ?_
  refine T_iload_n 0 rfl rfl dX6_takeLine_18 ?_
  refine T_bipush (7 : Int32) (by decide) dX6_takeLine_19 ?_
  refine T_icmp_lt 34 dX6_takeLine_21 (by decide) (fun _ => ?_) (fun _ => ?_)
  · refine T_aload_n 1 rfl rfl dX6_takeLine_34 ?_
    refine T_aload_n 2 rfl rfl dX6_takeLine_35 ?_
    refine T_iload_n 0 rfl rfl dX6_takeLine_36 ?_
    refine T_cVV (c := 6) [.ref r1, .int xs0] [] mkX6_refuseOneTooMany lmX6_81 rfl rfl (by decide) (Nat.le_of_ble_eq_true rfl) kd_49 dX6_takeLine_37 (bsX6_refuseOneTooMany _ r1 xs0 m h1) (fun m4 => ?_)
    refine T_iconst (0 : Int32) (by decide) dX6_takeLine_40 ?_
    refine T_istore_n (lv' := [(3, .int (0 : Int32)), (2, .int xs0), (0, .ref 49), (1, .ref r1)]) rfl (Nat.le_of_ble_eq_true rfl) rfl dX6_takeLine_41 ?_
    exact T_sub [2, 3, 1, 0] rfl (tX6_takeLine_42 X r1 xs0 h1 FU ((0 : Int32), m4))
  · refine T_aload_n 1 rfl rfl dX6_takeLine_24 ?_
    refine T_iconst (2 : Int32) (by decide) dX6_takeLine_25 ?_
    refine T_aload_n 1 rfl rfl dX6_takeLine_26 ?_
    refine gIX6_35 rfl kd_49 dX6_takeLine_27 ?_
    refine T_cVV (c := 6) [.int (2 : Int32), .int (m.1 49 7)] [] mkX6_refuse lmX6_64 rfl rfl (by decide) (Nat.le_of_ble_eq_true rfl) kd_49 dX6_takeLine_30 (bsX6_refuse _ (2 : Int32) (m.1 49 7) m) (fun m11 => ?_)
    exact T_vret rfl dX6_takeLine_33
def fX6_takeLine (r1 : Nat) (m : mMem) : mR := if (m.1 49 6) = (1 : Int32) then bI (fX6_lineOfName m) (fun z2 m1 => jX6_takeLine_17 r1 z2 m1) else jX6_takeLine_17 r1 (7 : Int32) m
set_option maxRecDepth 100000 in
theorem bsX6_takeLine (l : Launch) (r1 : Nat) (m : mMem) (h1 : kd r1 = (4, 0)) : BS l qX6_takeLine [.ref 49, .ref r1] m (fX6_takeLine r1 m) := BS_of (by decide) (Nat.le_of_ble_eq_true rfl) (fun X _ => by
    show T qX6_takeLine X (fX6_takeLine r1 m) 0 [(0, .ref 49), (1, .ref r1)] [] m
    unfold fX6_takeLine
    refine T_aload_n 0 rfl rfl dX6_takeLine_0 ?_
    refine gIX6_32 rfl kd_49 dX6_takeLine_1 ?_
    refine T_iconst (1 : Int32) (by decide) dX6_takeLine_4 ?_
    refine T_icmp_ne 15 dX6_takeLine_5 (by decide) (fun _ => ?_) (fun _ => ?_)
    · refine T_aload_n 0 rfl rfl dX6_takeLine_8 ?_
      refine T_cVI (c := 6) [] [] mkX6_lineOfName lmX6_77 rfl rfl (by decide) (Nat.le_of_ble_eq_true rfl) kd_49 dX6_takeLine_9 (bsX6_lineOfName _  m) (fun z2 m1 => ?_)
      refine T_goto 17 dX6_takeLine_12 (by decide) ?_
      exact T_sub [0, 1] rfl (uX6_takeLine_17 X r1 z2 m1 h1)
    · refine T_bipush (7 : Int32) (by decide) dX6_takeLine_15 ?_
      exact T_sub [0, 1] rfl (uX6_takeLine_17 X r1 (7 : Int32) m h1))
theorem lmX6_45 : Cond.methodLink RX6 45 yX4_empty ∈ gdL := gd_mem 357 (by decide +kernel) (by decide +kernel)
theorem lmX6_53 : Cond.methodLink RX6 53 yX6_takeLine ∈ gdL := gd_mem 372 (by decide +kernel) (by decide +kernel)
theorem lmX6_60 : Cond.methodLink RX6 60 yX6_hasLostFloor ∈ gdL := gd_mem 472 (by decide +kernel) (by decide +kernel)
def jX6_tell_96 (x2 : Int32) (m : mMem) : mR := lt (si m 49 0 (0 : Int32)) (fun m11 => if (m11.1 49 1) = (0 : Int32) then some (some (.int x2), m11) else some (some (.int ((-10 : Int32) - (m11.1 49 2))), m11))
set_option maxRecDepth 100000 in
theorem uX6_tell_96 (X : mCx) (x2 : Int32) (m : mMem)  : T qX6_tell X (jX6_tell_96 x2 m) 96 [(0, .ref 49), (2, .int x2)] [] m := by
  unfold jX6_tell_96
  refine T_aload_n 0 rfl rfl dX6_tell_96 ?_
  refine T_iconst (0 : Int32) (by decide) dX6_tell_97 ?_
  refine pIX6_9 rfl rfl rfl kd_49 dX6_tell_98 ?_
  refine T_lt (fun m11 => ?_)
  refine T_aload_n 0 rfl rfl dX6_tell_101 ?_
  refine gIX6_15 rfl kd_49 dX6_tell_102 ?_
  refine T_if_ne 112 dX6_tell_105 (by decide) (fun _ => ?_) (fun _ => ?_)
  · refine T_iload_n 1 rfl rfl dX6_tell_108 ?_
    refine T_goto 119 dX6_tell_109 (by decide) ?_
    exact T_iret rfl dX6_tell_119
  · refine T_bipush (-10 : Int32) (by decide) dX6_tell_112 ?_
    refine T_aload_n 0 rfl rfl dX6_tell_114 ?_
    refine gIX6_18 rfl kd_49 dX6_tell_115 ?_
    refine T_isub dX6_tell_118 ?_
    exact T_iret rfl dX6_tell_119
def jX6_tell_72 (r1 : Nat) (x2 : Int32) (m : mMem) : mR := if (m.1 49 1) = (0 : Int32) then bI (fX6_hasLostFloor r1 m) (fun z9 m8 => if z9 = (0 : Int32) then jX6_tell_96 x2 m8 else bV (fX6_refuse (6 : Int32) (m8.1 49 0) m8) (fun m12 => jX6_tell_96 x2 m12)) else jX6_tell_96 x2 m
set_option maxRecDepth 100000 in
theorem uX6_tell_72 (X : mCx) (r1 : Nat) (x2 : Int32) (m : mMem) (h1 : kd r1 = (4, 0)) : T qX6_tell X (jX6_tell_72 r1 x2 m) 72 [(0, .ref 49), (1, .ref r1), (2, .int x2)] [] m := by
  unfold jX6_tell_72
  refine T_aload_n 0 rfl rfl dX6_tell_72 ?_
  refine gIX6_15 rfl kd_49 dX6_tell_73 ?_
  refine T_if_ne 96 dX6_tell_76 (by decide) (fun _ => ?_) (fun _ => ?_)
  · refine T_aload_n 1 rfl rfl dX6_tell_79 ?_
    refine T_cSI [.ref r1] [] mkX6_hasLostFloor lmX6_60 rfl (by decide) (Nat.le_of_ble_eq_true rfl) dX6_tell_80 (bsX6_hasLostFloor _ r1 m h1) (fun z9 m8 => ?_)
    refine T_if_eq 96 dX6_tell_83 (by decide) (fun _ => ?_) (fun _ => ?_)
    · exact T_sub [0, 2] rfl (uX6_tell_96 X x2 m8 )
    · refine T_aload_n 0 rfl rfl dX6_tell_86 ?_
      refine T_bipush (6 : Int32) (by decide) dX6_tell_87 ?_
      refine T_aload_n 0 rfl rfl dX6_tell_89 ?_
      refine gIX6_9 rfl kd_49 dX6_tell_90 ?_
      refine T_cVV (c := 6) [.int (6 : Int32), .int (m8.1 49 0)] [] mkX6_refuse lmX6_64 rfl rfl (by decide) (Nat.le_of_ble_eq_true rfl) kd_49 dX6_tell_93 (bsX6_refuse _ (6 : Int32) (m8.1 49 0) m8) (fun m12 => ?_)
      exact T_sub [0, 2] rfl (uX6_tell_96 X x2 m12 )
  · exact T_sub [0, 2] rfl (uX6_tell_96 X x2 m )
def bX6_tell_35 (r1 : Nat) (k35 : Int32 × mMem → mR) (s : Int32 × mMem) : mR := match s with
  | (x2, m) => if (m.1 49 1) = (0 : Int32) then if (m.1 49 6) = (4 : Int32) then jX6_tell_72 r1 x2 m else if (160 : Int32) ≤ x2 then jX6_tell_72 r1 x2 m else bV (fX6_takeLine r1 m) (fun m13 => bV (fX6_takeTokenIfSound m13) (fun m14 => li (x2 + (1 : Int32)) (fun y15 => k35 (y15, m14)))) else jX6_tell_72 r1 x2 m
set_option maxRecDepth 100000 in
theorem tX6_tell_35 (X : mCx) (r1 : Nat) (h1 : kd r1 = (4, 0)) : ∀ (n : Nat) (s : Int32 × mMem), T qX6_tell X (lp (bX6_tell_35 r1) n s) 35 [(0, .ref 49), (1, .ref r1), (2, .int s.1)] [] s.2 :=
  T_lp (body := bX6_tell_35 r1) (lv := fun s => [(0, .ref 49), (1, .ref r1), (2, .int s.1)]) (st := fun _ => []) (μ := fun s : Int32 × mMem => s.2) (fun k35 hk35 s => by
    obtain ⟨x2, m⟩ := s
    show T qX6_tell X (bX6_tell_35 r1 k35 (x2, m)) 35 [(0, .ref 49), (1, .ref r1), (2, .int x2)] [] m
    unfold bX6_tell_35
    dsimp only
    refine T_aload_n 0 rfl rfl dX6_tell_35 ?_
    refine gIX6_15 rfl kd_49 dX6_tell_36 ?_
    refine T_if_ne 72 dX6_tell_39 (by decide) (fun _ => ?_) (fun _ => ?_)
    · refine T_aload_n 0 rfl rfl dX6_tell_42 ?_
      refine gIX6_32 rfl kd_49 dX6_tell_43 ?_
      refine T_iconst (4 : Int32) (by decide) dX6_tell_46 ?_
      refine T_icmp_eq 72 dX6_tell_47 (by decide) (fun _ => ?_) (fun _ => ?_)
      · exact T_sub [0, 1, 2] rfl (uX6_tell_72 X r1 x2 m h1)
      · refine T_iload_n 2 rfl rfl dX6_tell_50 ?_
        refine T_sipush (160 : Int32) (by decide) dX6_tell_51 ?_
        refine T_icmp_ge 72 dX6_tell_54 (by decide) (fun _ => ?_) (fun _ => ?_)
        · exact T_sub [0, 1, 2] rfl (uX6_tell_72 X r1 x2 m h1)
        · refine T_aload_n 0 rfl rfl dX6_tell_57 ?_
          refine T_aload_n 1 rfl rfl dX6_tell_58 ?_
          refine T_cVV (c := 6) [.ref r1] [] mkX6_takeLine lmX6_53 rfl rfl (by decide) (Nat.le_of_ble_eq_true rfl) kd_49 dX6_tell_59 (bsX6_takeLine _ r1 m h1) (fun m13 => ?_)
          refine T_aload_n 0 rfl rfl dX6_tell_62 ?_
          refine T_cVV (c := 6) [] [] mkX6_takeTokenIfSound lmX6_57 rfl rfl (by decide) (Nat.le_of_ble_eq_true rfl) kd_49 dX6_tell_63 (bsX6_takeTokenIfSound _  m13) (fun m14 => ?_)
          refine T_iinc (lv' := [(2, .int (x2 + (1 : Int32))), (0, .ref 49), (1, .ref r1)]) 2 (1 : Int32) rfl (by decide) (Nat.le_of_ble_eq_true rfl) rfl dX6_tell_66 ?_
          refine T_li (fun y15 => ?_)
          refine T_goto 35 dX6_tell_69 (by decide) ?_
          exact T_sub [1, 2, 0] rfl (hk35 (y15, m14))
    · exact T_sub [0, 1, 2] rfl (uX6_tell_72 X r1 x2 m h1))
def fX6_tell (r1 : Nat) (m : mMem) : mR := bV (fX4_empty r1 m) (fun m1 => lt (si m1 49 1 (0 : Int32)) (fun m2 => lt (si m2 49 2 (0 : Int32)) (fun m3 => lt (si m3 49 5 (0 : Int32)) (fun m4 => lt (si m4 49 8 (0 : Int32)) (fun m5 => lt (si m5 49 9 (0 : Int32)) (fun m6 => bV (fX6_takeToken m6) (fun m7 => lp (bX6_tell_35 r1) FU ((0 : Int32), m7))))))))
set_option maxRecDepth 100000 in
theorem bsX6_tell (l : Launch) (r1 : Nat) (m : mMem) (h1 : kd r1 = (4, 0)) : BS l qX6_tell [.ref 49, .ref r1] m (fX6_tell r1 m) := BS_of (by decide) (Nat.le_of_ble_eq_true rfl) (fun X _ => by
    show T qX6_tell X (fX6_tell r1 m) 0 [(0, .ref 49), (1, .ref r1)] [] m
    unfold fX6_tell
    refine T_aload_n 1 rfl rfl dX6_tell_0 ?_
    refine T_cVV (c := 4) [] [] mkX4_empty lmX6_45 rfl rfl (by decide) (Nat.le_of_ble_eq_true rfl) h1 dX6_tell_1 (bsX4_empty _ r1 m h1) (fun m1 => ?_)
    refine T_aload_n 0 rfl rfl dX6_tell_4 ?_
    refine T_iconst (0 : Int32) (by decide) dX6_tell_5 ?_
    refine pIX6_15 rfl rfl rfl kd_49 dX6_tell_6 ?_
    refine T_lt (fun m2 => ?_)
    refine T_aload_n 0 rfl rfl dX6_tell_9 ?_
    refine T_iconst (0 : Int32) (by decide) dX6_tell_10 ?_
    refine pIX6_18 rfl rfl rfl kd_49 dX6_tell_11 ?_
    refine T_lt (fun m3 => ?_)
    refine T_aload_n 0 rfl rfl dX6_tell_14 ?_
    refine T_iconst (0 : Int32) (by decide) dX6_tell_15 ?_
    refine pIX6_29 rfl rfl rfl kd_49 dX6_tell_16 ?_
    refine T_lt (fun m4 => ?_)
    refine T_aload_n 0 rfl rfl dX6_tell_19 ?_
    refine T_iconst (0 : Int32) (by decide) dX6_tell_20 ?_
    refine pIX6_38 rfl rfl rfl kd_49 dX6_tell_21 ?_
    refine T_lt (fun m5 => ?_)
    refine T_aload_n 0 rfl rfl dX6_tell_24 ?_
    refine T_iconst (0 : Int32) (by decide) dX6_tell_25 ?_
    refine pIX6_42 rfl rfl rfl kd_49 dX6_tell_26 ?_
    refine T_lt (fun m6 => ?_)
    refine T_iconst (0 : Int32) (by decide) dX6_tell_29 ?_
    refine T_istore_n (lv' := [(2, .int (0 : Int32)), (0, .ref 49), (1, .ref r1)]) rfl (Nat.le_of_ble_eq_true rfl) rfl dX6_tell_30 ?_
    refine T_aload_n 1 rfl rfl dX6_tell_31 ?_
    refine T_cVV (c := 6) [] [] mkX6_takeToken lmX6_50 rfl rfl (by decide) (Nat.le_of_ble_eq_true rfl) kd_49 dX6_tell_32 (bsX6_takeToken _  m6) (fun m7 => ?_)
    exact T_sub [1, 2, 0] rfl (tX6_tell_35 X r1 h1 FU ((0 : Int32), m7)))
