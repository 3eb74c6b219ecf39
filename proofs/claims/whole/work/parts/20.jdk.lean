abbrev qJ6_numberOfTrailingZeros_0f7a4 : mMI := (yJ6_numberOfTrailingZeros_0f7a4, cJ6_numberOfTrailingZeros_0f7a4, 2, (some .int), 0)
theorem dJ6_numberOfTrailingZeros_0f7a4_0 : decode cJ6_numberOfTrailingZeros_0f7a4 0 = .ok (.iload_n 0, 1) := by decide +kernel
theorem dJ6_numberOfTrailingZeros_0f7a4_1 : decode cJ6_numberOfTrailingZeros_0f7a4 1 = .ok (.iconst (-1), 1) := by decide +kernel
theorem dJ6_numberOfTrailingZeros_0f7a4_2 : decode cJ6_numberOfTrailingZeros_0f7a4 2 = .ok (.ixor, 1) := by decide +kernel
theorem dJ6_numberOfTrailingZeros_0f7a4_3 : decode cJ6_numberOfTrailingZeros_0f7a4 3 = .ok (.iload_n 0, 1) := by decide +kernel
theorem dJ6_numberOfTrailingZeros_0f7a4_4 : decode cJ6_numberOfTrailingZeros_0f7a4 4 = .ok (.iconst 1, 1) := by decide +kernel
theorem dJ6_numberOfTrailingZeros_0f7a4_5 : decode cJ6_numberOfTrailingZeros_0f7a4 5 = .ok (.isub, 1) := by decide +kernel
theorem dJ6_numberOfTrailingZeros_0f7a4_6 : decode cJ6_numberOfTrailingZeros_0f7a4 6 = .ok (.iand, 1) := by decide +kernel
theorem dJ6_numberOfTrailingZeros_0f7a4_7 : decode cJ6_numberOfTrailingZeros_0f7a4 7 = .ok (.istore_n 0, 1) := by decide +kernel
theorem dJ6_numberOfTrailingZeros_0f7a4_8 : decode cJ6_numberOfTrailingZeros_0f7a4 8 = .ok (.iload_n 0, 1) := by decide +kernel
theorem dJ6_numberOfTrailingZeros_0f7a4_9 : decode cJ6_numberOfTrailingZeros_0f7a4 9 = .ok (.ifCond .gt 8, 3) := by decide +kernel
theorem dJ6_numberOfTrailingZeros_0f7a4_12 : decode cJ6_numberOfTrailingZeros_0f7a4 12 = .ok (.iload_n 0, 1) := by decide +kernel
theorem dJ6_numberOfTrailingZeros_0f7a4_13 : decode cJ6_numberOfTrailingZeros_0f7a4 13 = .ok (.bipush 32, 2) := by decide +kernel
theorem dJ6_numberOfTrailingZeros_0f7a4_15 : decode cJ6_numberOfTrailingZeros_0f7a4 15 = .ok (.iand, 1) := by decide +kernel
theorem dJ6_numberOfTrailingZeros_0f7a4_16 : decode cJ6_numberOfTrailingZeros_0f7a4 16 = .ok (.ireturn, 1) := by decide +kernel
theorem dJ6_numberOfTrailingZeros_0f7a4_17 : decode cJ6_numberOfTrailingZeros_0f7a4 17 = .ok (.iconst 1, 1) := by decide +kernel
theorem dJ6_numberOfTrailingZeros_0f7a4_18 : decode cJ6_numberOfTrailingZeros_0f7a4 18 = .ok (.istore_n 1, 1) := by decide +kernel
theorem dJ6_numberOfTrailingZeros_0f7a4_19 : decode cJ6_numberOfTrailingZeros_0f7a4 19 = .ok (.iload_n 0, 1) := by decide +kernel
theorem dJ6_numberOfTrailingZeros_0f7a4_20 : decode cJ6_numberOfTrailingZeros_0f7a4 20 = .ok (.ldc_w 264, 3) := by decide +kernel
theorem dJ6_numberOfTrailingZeros_0f7a4_23 : decode cJ6_numberOfTrailingZeros_0f7a4 23 = .ok (.if_icmp .le 11, 3) := by decide +kernel
theorem dJ6_numberOfTrailingZeros_0f7a4_26 : decode cJ6_numberOfTrailingZeros_0f7a4 26 = .ok (.iinc 1 16, 3) := by decide +kernel
theorem dJ6_numberOfTrailingZeros_0f7a4_29 : decode cJ6_numberOfTrailingZeros_0f7a4 29 = .ok (.iload_n 0, 1) := by decide +kernel
theorem dJ6_numberOfTrailingZeros_0f7a4_30 : decode cJ6_numberOfTrailingZeros_0f7a4 30 = .ok (.bipush 16, 2) := by decide +kernel
theorem dJ6_numberOfTrailingZeros_0f7a4_32 : decode cJ6_numberOfTrailingZeros_0f7a4 32 = .ok (.iushr, 1) := by decide +kernel
theorem dJ6_numberOfTrailingZeros_0f7a4_33 : decode cJ6_numberOfTrailingZeros_0f7a4 33 = .ok (.istore_n 0, 1) := by decide +kernel
theorem dJ6_numberOfTrailingZeros_0f7a4_34 : decode cJ6_numberOfTrailingZeros_0f7a4 34 = .ok (.iload_n 0, 1) := by decide +kernel
theorem dJ6_numberOfTrailingZeros_0f7a4_35 : decode cJ6_numberOfTrailingZeros_0f7a4 35 = .ok (.sipush 256, 3) := by decide +kernel
theorem dJ6_numberOfTrailingZeros_0f7a4_38 : decode cJ6_numberOfTrailingZeros_0f7a4 38 = .ok (.if_icmp .le 11, 3) := by decide +kernel
theorem dJ6_numberOfTrailingZeros_0f7a4_41 : decode cJ6_numberOfTrailingZeros_0f7a4 41 = .ok (.iinc 1 8, 3) := by decide +kernel
theorem dJ6_numberOfTrailingZeros_0f7a4_44 : decode cJ6_numberOfTrailingZeros_0f7a4 44 = .ok (.iload_n 0, 1) := by decide +kernel
theorem dJ6_numberOfTrailingZeros_0f7a4_45 : decode cJ6_numberOfTrailingZeros_0f7a4 45 = .ok (.bipush 8, 2) := by decide +kernel
theorem dJ6_numberOfTrailingZeros_0f7a4_47 : decode cJ6_numberOfTrailingZeros_0f7a4 47 = .ok (.iushr, 1) := by decide +kernel
theorem dJ6_numberOfTrailingZeros_0f7a4_48 : decode cJ6_numberOfTrailingZeros_0f7a4 48 = .ok (.istore_n 0, 1) := by decide +kernel
theorem dJ6_numberOfTrailingZeros_0f7a4_49 : decode cJ6_numberOfTrailingZeros_0f7a4 49 = .ok (.iload_n 0, 1) := by decide +kernel
theorem dJ6_numberOfTrailingZeros_0f7a4_50 : decode cJ6_numberOfTrailingZeros_0f7a4 50 = .ok (.bipush 16, 2) := by decide +kernel
theorem dJ6_numberOfTrailingZeros_0f7a4_52 : decode cJ6_numberOfTrailingZeros_0f7a4 52 = .ok (.if_icmp .le 10, 3) := by decide +kernel
theorem dJ6_numberOfTrailingZeros_0f7a4_55 : decode cJ6_numberOfTrailingZeros_0f7a4 55 = .ok (.iinc 1 4, 3) := by decide +kernel
theorem dJ6_numberOfTrailingZeros_0f7a4_58 : decode cJ6_numberOfTrailingZeros_0f7a4 58 = .ok (.iload_n 0, 1) := by decide +kernel
theorem dJ6_numberOfTrailingZeros_0f7a4_59 : decode cJ6_numberOfTrailingZeros_0f7a4 59 = .ok (.iconst 4, 1) := by decide +kernel
theorem dJ6_numberOfTrailingZeros_0f7a4_60 : decode cJ6_numberOfTrailingZeros_0f7a4 60 = .ok (.iushr, 1) := by decide +kernel
theorem dJ6_numberOfTrailingZeros_0f7a4_61 : decode cJ6_numberOfTrailingZeros_0f7a4 61 = .ok (.istore_n 0, 1) := by decide +kernel
theorem dJ6_numberOfTrailingZeros_0f7a4_62 : decode cJ6_numberOfTrailingZeros_0f7a4 62 = .ok (.iload_n 0, 1) := by decide +kernel
theorem dJ6_numberOfTrailingZeros_0f7a4_63 : decode cJ6_numberOfTrailingZeros_0f7a4 63 = .ok (.iconst 4, 1) := by decide +kernel
theorem dJ6_numberOfTrailingZeros_0f7a4_64 : decode cJ6_numberOfTrailingZeros_0f7a4 64 = .ok (.if_icmp .le 10, 3) := by decide +kernel
theorem dJ6_numberOfTrailingZeros_0f7a4_67 : decode cJ6_numberOfTrailingZeros_0f7a4 67 = .ok (.iinc 1 2, 3) := by decide +kernel
theorem dJ6_numberOfTrailingZeros_0f7a4_70 : decode cJ6_numberOfTrailingZeros_0f7a4 70 = .ok (.iload_n 0, 1) := by decide +kernel
theorem dJ6_numberOfTrailingZeros_0f7a4_71 : decode cJ6_numberOfTrailingZeros_0f7a4 71 = .ok (.iconst 2, 1) := by decide +kernel
theorem dJ6_numberOfTrailingZeros_0f7a4_72 : decode cJ6_numberOfTrailingZeros_0f7a4 72 = .ok (.iushr, 1) := by decide +kernel
theorem dJ6_numberOfTrailingZeros_0f7a4_73 : decode cJ6_numberOfTrailingZeros_0f7a4 73 = .ok (.istore_n 0, 1) := by decide +kernel
theorem dJ6_numberOfTrailingZeros_0f7a4_74 : decode cJ6_numberOfTrailingZeros_0f7a4 74 = .ok (.iload_n 1, 1) := by decide +kernel
theorem dJ6_numberOfTrailingZeros_0f7a4_75 : decode cJ6_numberOfTrailingZeros_0f7a4 75 = .ok (.iload_n 0, 1) := by decide +kernel
theorem dJ6_numberOfTrailingZeros_0f7a4_76 : decode cJ6_numberOfTrailingZeros_0f7a4 76 = .ok (.iconst 1, 1) := by decide +kernel
theorem dJ6_numberOfTrailingZeros_0f7a4_77 : decode cJ6_numberOfTrailingZeros_0f7a4 77 = .ok (.iushr, 1) := by decide +kernel
theorem dJ6_numberOfTrailingZeros_0f7a4_78 : decode cJ6_numberOfTrailingZeros_0f7a4 78 = .ok (.iadd, 1) := by decide +kernel
theorem dJ6_numberOfTrailingZeros_0f7a4_79 : decode cJ6_numberOfTrailingZeros_0f7a4 79 = .ok (.ireturn, 1) := by decide +kernel
theorem mkJ6_numberOfTrailingZeros_0f7a4 : mokS qJ6_numberOfTrailingZeros_0f7a4 1 := ⟨⟨⟨⟨by decide, by decide, by decide +kernel⟩, by decide⟩, gd_mem 66 (by decide +kernel) (by decide +kernel), gd_mem 616 (by decide +kernel) (by decide +kernel)⟩, gd_mem 615 (by decide +kernel) (by decide +kernel)⟩
abbrev qJ6_bitCount_0f7a4 : mMI := (yJ6_bitCount_0f7a4, cJ6_bitCount_0f7a4, 1, (some .int), 0)
theorem dJ6_bitCount_0f7a4_0 : decode cJ6_bitCount_0f7a4 0 = .ok (.iload_n 0, 1) := by decide +kernel
theorem dJ6_bitCount_0f7a4_1 : decode cJ6_bitCount_0f7a4 1 = .ok (.iload_n 0, 1) := by decide +kernel
theorem dJ6_bitCount_0f7a4_2 : decode cJ6_bitCount_0f7a4 2 = .ok (.iconst 1, 1) := by decide +kernel
theorem dJ6_bitCount_0f7a4_3 : decode cJ6_bitCount_0f7a4 3 = .ok (.iushr, 1) := by decide +kernel
theorem dJ6_bitCount_0f7a4_4 : decode cJ6_bitCount_0f7a4 4 = .ok (.ldc_w 265, 3) := by decide +kernel
theorem dJ6_bitCount_0f7a4_7 : decode cJ6_bitCount_0f7a4 7 = .ok (.iand, 1) := by decide +kernel
theorem dJ6_bitCount_0f7a4_8 : decode cJ6_bitCount_0f7a4 8 = .ok (.isub, 1) := by decide +kernel
theorem dJ6_bitCount_0f7a4_9 : decode cJ6_bitCount_0f7a4 9 = .ok (.istore_n 0, 1) := by decide +kernel
theorem dJ6_bitCount_0f7a4_10 : decode cJ6_bitCount_0f7a4 10 = .ok (.iload_n 0, 1) := by decide +kernel
theorem dJ6_bitCount_0f7a4_11 : decode cJ6_bitCount_0f7a4 11 = .ok (.ldc_w 266, 3) := by decide +kernel
theorem dJ6_bitCount_0f7a4_14 : decode cJ6_bitCount_0f7a4 14 = .ok (.iand, 1) := by decide +kernel
theorem dJ6_bitCount_0f7a4_15 : decode cJ6_bitCount_0f7a4 15 = .ok (.iload_n 0, 1) := by decide +kernel
theorem dJ6_bitCount_0f7a4_16 : decode cJ6_bitCount_0f7a4 16 = .ok (.iconst 2, 1) := by decide +kernel
theorem dJ6_bitCount_0f7a4_17 : decode cJ6_bitCount_0f7a4 17 = .ok (.iushr, 1) := by decide +kernel
theorem dJ6_bitCount_0f7a4_18 : decode cJ6_bitCount_0f7a4 18 = .ok (.ldc_w 266, 3) := by decide +kernel
theorem dJ6_bitCount_0f7a4_21 : decode cJ6_bitCount_0f7a4 21 = .ok (.iand, 1) := by decide +kernel
theorem dJ6_bitCount_0f7a4_22 : decode cJ6_bitCount_0f7a4 22 = .ok (.iadd, 1) := by decide +kernel
theorem dJ6_bitCount_0f7a4_23 : decode cJ6_bitCount_0f7a4 23 = .ok (.istore_n 0, 1) := by decide +kernel
theorem dJ6_bitCount_0f7a4_24 : decode cJ6_bitCount_0f7a4 24 = .ok (.iload_n 0, 1) := by decide +kernel
theorem dJ6_bitCount_0f7a4_25 : decode cJ6_bitCount_0f7a4 25 = .ok (.iload_n 0, 1) := by decide +kernel
theorem dJ6_bitCount_0f7a4_26 : decode cJ6_bitCount_0f7a4 26 = .ok (.iconst 4, 1) := by decide +kernel
theorem dJ6_bitCount_0f7a4_27 : decode cJ6_bitCount_0f7a4 27 = .ok (.iushr, 1) := by decide +kernel
theorem dJ6_bitCount_0f7a4_28 : decode cJ6_bitCount_0f7a4 28 = .ok (.iadd, 1) := by decide +kernel
theorem dJ6_bitCount_0f7a4_29 : decode cJ6_bitCount_0f7a4 29 = .ok (.ldc_w 267, 3) := by decide +kernel
theorem dJ6_bitCount_0f7a4_32 : decode cJ6_bitCount_0f7a4 32 = .ok (.iand, 1) := by decide +kernel
theorem dJ6_bitCount_0f7a4_33 : decode cJ6_bitCount_0f7a4 33 = .ok (.istore_n 0, 1) := by decide +kernel
theorem dJ6_bitCount_0f7a4_34 : decode cJ6_bitCount_0f7a4 34 = .ok (.iload_n 0, 1) := by decide +kernel
theorem dJ6_bitCount_0f7a4_35 : decode cJ6_bitCount_0f7a4 35 = .ok (.iload_n 0, 1) := by decide +kernel
theorem dJ6_bitCount_0f7a4_36 : decode cJ6_bitCount_0f7a4 36 = .ok (.bipush 8, 2) := by decide +kernel
theorem dJ6_bitCount_0f7a4_38 : decode cJ6_bitCount_0f7a4 38 = .ok (.iushr, 1) := by decide +kernel
theorem dJ6_bitCount_0f7a4_39 : decode cJ6_bitCount_0f7a4 39 = .ok (.iadd, 1) := by decide +kernel
theorem dJ6_bitCount_0f7a4_40 : decode cJ6_bitCount_0f7a4 40 = .ok (.istore_n 0, 1) := by decide +kernel
theorem dJ6_bitCount_0f7a4_41 : decode cJ6_bitCount_0f7a4 41 = .ok (.iload_n 0, 1) := by decide +kernel
theorem dJ6_bitCount_0f7a4_42 : decode cJ6_bitCount_0f7a4 42 = .ok (.iload_n 0, 1) := by decide +kernel
theorem dJ6_bitCount_0f7a4_43 : decode cJ6_bitCount_0f7a4 43 = .ok (.bipush 16, 2) := by decide +kernel
theorem dJ6_bitCount_0f7a4_45 : decode cJ6_bitCount_0f7a4 45 = .ok (.iushr, 1) := by decide +kernel
theorem dJ6_bitCount_0f7a4_46 : decode cJ6_bitCount_0f7a4 46 = .ok (.iadd, 1) := by decide +kernel
theorem dJ6_bitCount_0f7a4_47 : decode cJ6_bitCount_0f7a4 47 = .ok (.istore_n 0, 1) := by decide +kernel
theorem dJ6_bitCount_0f7a4_48 : decode cJ6_bitCount_0f7a4 48 = .ok (.iload_n 0, 1) := by decide +kernel
theorem dJ6_bitCount_0f7a4_49 : decode cJ6_bitCount_0f7a4 49 = .ok (.bipush 63, 2) := by decide +kernel
theorem dJ6_bitCount_0f7a4_51 : decode cJ6_bitCount_0f7a4 51 = .ok (.iand, 1) := by decide +kernel
theorem dJ6_bitCount_0f7a4_52 : decode cJ6_bitCount_0f7a4 52 = .ok (.ireturn, 1) := by decide +kernel
theorem mkJ6_bitCount_0f7a4 : mokS qJ6_bitCount_0f7a4 1 := ⟨⟨⟨⟨by decide, by decide, by decide +kernel⟩, by decide⟩, gd_mem 66 (by decide +kernel) (by decide +kernel), gd_mem 606 (by decide +kernel) (by decide +kernel)⟩, gd_mem 605 (by decide +kernel) (by decide +kernel)⟩
abbrev qJ7_fill_d0a16 : mMI := (yJ7_fill_d0a16, cJ7_fill_d0a16, 5, none, 0)
theorem dJ7_fill_d0a16_0 : decode cJ7_fill_d0a16 0 = .ok (.iconst 0, 1) := by decide +kernel
theorem dJ7_fill_d0a16_1 : decode cJ7_fill_d0a16 1 = .ok (.istore_n 3, 1) := by decide +kernel
theorem dJ7_fill_d0a16_2 : decode cJ7_fill_d0a16 2 = .ok (.aload_n 0, 1) := by decide +kernel
theorem dJ7_fill_d0a16_3 : decode cJ7_fill_d0a16 3 = .ok (.arraylength, 1) := by decide +kernel
theorem dJ7_fill_d0a16_4 : decode cJ7_fill_d0a16 4 = .ok (.istore 4, 2) := by decide +kernel
theorem dJ7_fill_d0a16_6 : decode cJ7_fill_d0a16 6 = .ok (.iload_n 3, 1) := by decide +kernel
theorem dJ7_fill_d0a16_7 : decode cJ7_fill_d0a16 7 = .ok (.iload 4, 2) := by decide +kernel
theorem dJ7_fill_d0a16_9 : decode cJ7_fill_d0a16 9 = .ok (.if_icmp .ge 13, 3) := by decide +kernel
theorem dJ7_fill_d0a16_12 : decode cJ7_fill_d0a16 12 = .ok (.aload_n 0, 1) := by decide +kernel
theorem dJ7_fill_d0a16_13 : decode cJ7_fill_d0a16 13 = .ok (.iload_n 3, 1) := by decide +kernel
theorem dJ7_fill_d0a16_14 : decode cJ7_fill_d0a16 14 = .ok (.lload_n 1, 1) := by decide +kernel
theorem dJ7_fill_d0a16_15 : decode cJ7_fill_d0a16 15 = .ok (.lastore, 1) := by decide +kernel
theorem dJ7_fill_d0a16_16 : decode cJ7_fill_d0a16 16 = .ok (.iinc 3 1, 3) := by decide +kernel
theorem dJ7_fill_d0a16_19 : decode cJ7_fill_d0a16 19 = .ok (.goto (-13), 3) := by decide +kernel
theorem dJ7_fill_d0a16_22 : decode cJ7_fill_d0a16 22 = .ok (.return_, 1) := by decide +kernel
theorem mkJ7_fill_d0a16 : mokS qJ7_fill_d0a16 2 := ⟨⟨⟨⟨by decide, by decide, by decide +kernel⟩, by decide⟩, gd_mem 67 (by decide +kernel) (by decide +kernel), gd_mem 747 (by decide +kernel) (by decide +kernel)⟩, gd_mem 746 (by decide +kernel) (by decide +kernel)⟩
abbrev qJ7_fill_53178 : mMI := (yJ7_fill_53178, cJ7_fill_53178, 4, none, 0)
theorem dJ7_fill_53178_0 : decode cJ7_fill_53178 0 = .ok (.iconst 0, 1) := by decide +kernel
theorem dJ7_fill_53178_1 : decode cJ7_fill_53178 1 = .ok (.istore_n 2, 1) := by decide +kernel
theorem dJ7_fill_53178_2 : decode cJ7_fill_53178 2 = .ok (.aload_n 0, 1) := by decide +kernel
theorem dJ7_fill_53178_3 : decode cJ7_fill_53178 3 = .ok (.arraylength, 1) := by decide +kernel
theorem dJ7_fill_53178_4 : decode cJ7_fill_53178 4 = .ok (.istore_n 3, 1) := by decide +kernel
theorem dJ7_fill_53178_5 : decode cJ7_fill_53178 5 = .ok (.iload_n 2, 1) := by decide +kernel
theorem dJ7_fill_53178_6 : decode cJ7_fill_53178 6 = .ok (.iload_n 3, 1) := by decide +kernel
theorem dJ7_fill_53178_7 : decode cJ7_fill_53178 7 = .ok (.if_icmp .ge 13, 3) := by decide +kernel
theorem dJ7_fill_53178_10 : decode cJ7_fill_53178 10 = .ok (.aload_n 0, 1) := by decide +kernel
theorem dJ7_fill_53178_11 : decode cJ7_fill_53178 11 = .ok (.iload_n 2, 1) := by decide +kernel
theorem dJ7_fill_53178_12 : decode cJ7_fill_53178 12 = .ok (.iload_n 1, 1) := by decide +kernel
theorem dJ7_fill_53178_13 : decode cJ7_fill_53178 13 = .ok (.iastore, 1) := by decide +kernel
theorem dJ7_fill_53178_14 : decode cJ7_fill_53178 14 = .ok (.iinc 2 1, 3) := by decide +kernel
theorem dJ7_fill_53178_17 : decode cJ7_fill_53178 17 = .ok (.goto (-12), 3) := by decide +kernel
theorem dJ7_fill_53178_20 : decode cJ7_fill_53178 20 = .ok (.return_, 1) := by decide +kernel
theorem mkJ7_fill_53178 : mokS qJ7_fill_53178 2 := ⟨⟨⟨⟨by decide, by decide, by decide +kernel⟩, by decide⟩, gd_mem 67 (by decide +kernel) (by decide +kernel), gd_mem 785 (by decide +kernel) (by decide +kernel)⟩, gd_mem 784 (by decide +kernel) (by decide +kernel)⟩
theorem lcJ6_264 : Cond.constant RJ6 264 (65536) ∈ gdL := gd_mem 617 (by decide +kernel) (by decide +kernel)
def jJ6_numberOfTrailingZeros_0f7a4_62 (x0 : Int32) (x1 : Int32) (m : mMem) : mR := if x0 ≤ (4 : Int32) then some (some (.int (x1 + ((x0.toUInt32 >>> ((1 : Int32).toUInt32 &&& Int32.toUInt32 31)).toInt32))), m) else li (x1 + (2 : Int32)) (fun y2 => li ((x0.toUInt32 >>> ((2 : Int32).toUInt32 &&& Int32.toUInt32 31)).toInt32) (fun y3 => some (some (.int (y2 + ((y3.toUInt32 >>> ((1 : Int32).toUInt32 &&& Int32.toUInt32 31)).toInt32))), m)))
set_option maxRecDepth 100000 in
theorem uJ6_numberOfTrailingZeros_0f7a4_62 (X : mCx) (x0 : Int32) (x1 : Int32) (m : mMem)  : T qJ6_numberOfTrailingZeros_0f7a4 X (jJ6_numberOfTrailingZeros_0f7a4_62 x0 x1 m) 62 [(0, .int x0), (1, .int x1)] [] m := by
  unfold jJ6_numberOfTrailingZeros_0f7a4_62
  refine T_iload_n 0 rfl rfl dJ6_numberOfTrailingZeros_0f7a4_62 ?_
  refine T_iconst (4 : Int32) (by decide) dJ6_numberOfTrailingZeros_0f7a4_63 ?_
  refine T_icmp_le 74 dJ6_numberOfTrailingZeros_0f7a4_64 (by decide) (fun _ => ?_) (fun _ => ?_)
  · refine T_iload_n 1 rfl rfl dJ6_numberOfTrailingZeros_0f7a4_74 ?_
    refine T_iload_n 0 rfl rfl dJ6_numberOfTrailingZeros_0f7a4_75 ?_
    refine T_iconst (1 : Int32) (by decide) dJ6_numberOfTrailingZeros_0f7a4_76 ?_
    refine T_iushr dJ6_numberOfTrailingZeros_0f7a4_77 ?_
    refine T_iadd dJ6_numberOfTrailingZeros_0f7a4_78 ?_
    exact T_iret rfl dJ6_numberOfTrailingZeros_0f7a4_79
  · refine T_iinc (lv' := [(1, .int (x1 + (2 : Int32))), (0, .int x0)]) 1 (2 : Int32) rfl (by decide) (Nat.le_of_ble_eq_true rfl) rfl dJ6_numberOfTrailingZeros_0f7a4_67 ?_
    refine T_li (fun y2 => ?_)
    refine T_iload_n 1 rfl rfl dJ6_numberOfTrailingZeros_0f7a4_70 ?_
    refine T_iconst (2 : Int32) (by decide) dJ6_numberOfTrailingZeros_0f7a4_71 ?_
    refine T_iushr dJ6_numberOfTrailingZeros_0f7a4_72 ?_
    refine T_istore_n (lv' := [(0, .int ((x0.toUInt32 >>> ((2 : Int32).toUInt32 &&& Int32.toUInt32 31)).toInt32)), (1, .int y2)]) rfl (Nat.le_of_ble_eq_true rfl) rfl dJ6_numberOfTrailingZeros_0f7a4_73 ?_
    refine T_li (fun y3 => ?_)
    refine T_iload_n 1 rfl rfl dJ6_numberOfTrailingZeros_0f7a4_74 ?_
    refine T_iload_n 0 rfl rfl dJ6_numberOfTrailingZeros_0f7a4_75 ?_
    refine T_iconst (1 : Int32) (by decide) dJ6_numberOfTrailingZeros_0f7a4_76 ?_
    refine T_iushr dJ6_numberOfTrailingZeros_0f7a4_77 ?_
    refine T_iadd dJ6_numberOfTrailingZeros_0f7a4_78 ?_
    exact T_iret rfl dJ6_numberOfTrailingZeros_0f7a4_79
def jJ6_numberOfTrailingZeros_0f7a4_49 (x0 : Int32) (x1 : Int32) (m : mMem) : mR := if x0 ≤ (16 : Int32) then jJ6_numberOfTrailingZeros_0f7a4_62 x0 x1 m else li (x1 + (4 : Int32)) (fun y4 => li ((x0.toUInt32 >>> ((4 : Int32).toUInt32 &&& Int32.toUInt32 31)).toInt32) (fun y5 => jJ6_numberOfTrailingZeros_0f7a4_62 y5 y4 m))
set_option maxRecDepth 100000 in
theorem uJ6_numberOfTrailingZeros_0f7a4_49 (X : mCx) (x0 : Int32) (x1 : Int32) (m : mMem)  : T qJ6_numberOfTrailingZeros_0f7a4 X (jJ6_numberOfTrailingZeros_0f7a4_49 x0 x1 m) 49 [(0, .int x0), (1, .int x1)] [] m := by
  unfold jJ6_numberOfTrailingZeros_0f7a4_49
  refine T_iload_n 0 rfl rfl dJ6_numberOfTrailingZeros_0f7a4_49 ?_
  refine T_bipush (16 : Int32) (by decide) dJ6_numberOfTrailingZeros_0f7a4_50 ?_
  refine T_icmp_le 62 dJ6_numberOfTrailingZeros_0f7a4_52 (by decide) (fun _ => ?_) (fun _ => ?_)
  · exact T_sub [0, 1] rfl (uJ6_numberOfTrailingZeros_0f7a4_62 X x0 x1 m )
  · refine T_iinc (lv' := [(1, .int (x1 + (4 : Int32))), (0, .int x0)]) 1 (4 : Int32) rfl (by decide) (Nat.le_of_ble_eq_true rfl) rfl dJ6_numberOfTrailingZeros_0f7a4_55 ?_
    refine T_li (fun y4 => ?_)
    refine T_iload_n 1 rfl rfl dJ6_numberOfTrailingZeros_0f7a4_58 ?_
    refine T_iconst (4 : Int32) (by decide) dJ6_numberOfTrailingZeros_0f7a4_59 ?_
    refine T_iushr dJ6_numberOfTrailingZeros_0f7a4_60 ?_
    refine T_istore_n (lv' := [(0, .int ((x0.toUInt32 >>> ((4 : Int32).toUInt32 &&& Int32.toUInt32 31)).toInt32)), (1, .int y4)]) rfl (Nat.le_of_ble_eq_true rfl) rfl dJ6_numberOfTrailingZeros_0f7a4_61 ?_
    refine T_li (fun y5 => ?_)
    exact T_sub [0, 1] rfl (uJ6_numberOfTrailingZeros_0f7a4_62 X y5 y4 m )
def jJ6_numberOfTrailingZeros_0f7a4_34 (x0 : Int32) (x1 : Int32) (m : mMem) : mR := if x0 ≤ (256 : Int32) then jJ6_numberOfTrailingZeros_0f7a4_49 x0 x1 m else li (x1 + (8 : Int32)) (fun y6 => li ((x0.toUInt32 >>> ((8 : Int32).toUInt32 &&& Int32.toUInt32 31)).toInt32) (fun y7 => jJ6_numberOfTrailingZeros_0f7a4_49 y7 y6 m))
set_option maxRecDepth 100000 in
theorem uJ6_numberOfTrailingZeros_0f7a4_34 (X : mCx) (x0 : Int32) (x1 : Int32) (m : mMem)  : T qJ6_numberOfTrailingZeros_0f7a4 X (jJ6_numberOfTrailingZeros_0f7a4_34 x0 x1 m) 34 [(0, .int x0), (1, .int x1)] [] m := by
  unfold jJ6_numberOfTrailingZeros_0f7a4_34
  refine T_iload_n 0 rfl rfl dJ6_numberOfTrailingZeros_0f7a4_34 ?_
  refine T_sipush (256 : Int32) (by decide) dJ6_numberOfTrailingZeros_0f7a4_35 ?_
  refine T_icmp_le 49 dJ6_numberOfTrailingZeros_0f7a4_38 (by decide) (fun _ => ?_) (fun _ => ?_)
  · exact T_sub [0, 1] rfl (uJ6_numberOfTrailingZeros_0f7a4_49 X x0 x1 m )
  · refine T_iinc (lv' := [(1, .int (x1 + (8 : Int32))), (0, .int x0)]) 1 (8 : Int32) rfl (by decide) (Nat.le_of_ble_eq_true rfl) rfl dJ6_numberOfTrailingZeros_0f7a4_41 ?_
    refine T_li (fun y6 => ?_)
    refine T_iload_n 1 rfl rfl dJ6_numberOfTrailingZeros_0f7a4_44 ?_
    refine T_bipush (8 : Int32) (by decide) dJ6_numberOfTrailingZeros_0f7a4_45 ?_
    refine T_iushr dJ6_numberOfTrailingZeros_0f7a4_47 ?_
    refine T_istore_n (lv' := [(0, .int ((x0.toUInt32 >>> ((8 : Int32).toUInt32 &&& Int32.toUInt32 31)).toInt32)), (1, .int y6)]) rfl (Nat.le_of_ble_eq_true rfl) rfl dJ6_numberOfTrailingZeros_0f7a4_48 ?_
    refine T_li (fun y7 => ?_)
    exact T_sub [0, 1] rfl (uJ6_numberOfTrailingZeros_0f7a4_49 X y7 y6 m )
def fJ6_numberOfTrailingZeros_0f7a4 (x0 : Int32) (m : mMem) : mR := li ((x0 ^^^ (-1 : Int32)) &&& (x0 - (1 : Int32))) (fun y1 => if (0 : Int32) < y1 then if y1 ≤ (65536 : Int32) then jJ6_numberOfTrailingZeros_0f7a4_34 y1 (1 : Int32) m else li ((1 : Int32) + (16 : Int32)) (fun y8 => li ((y1.toUInt32 >>> ((16 : Int32).toUInt32 &&& Int32.toUInt32 31)).toInt32) (fun y9 => jJ6_numberOfTrailingZeros_0f7a4_34 y9 y8 m)) else some (some (.int (y1 &&& (32 : Int32))), m))
set_option maxRecDepth 100000 in
theorem bsJ6_numberOfTrailingZeros_0f7a4 (l : Launch) (x0 : Int32) (m : mMem)  : BS l qJ6_numberOfTrailingZeros_0f7a4 [.int x0] m (fJ6_numberOfTrailingZeros_0f7a4 x0 m) := BS_of (by decide) (Nat.le_of_ble_eq_true rfl) (fun X _ => by
    show T qJ6_numberOfTrailingZeros_0f7a4 X (fJ6_numberOfTrailingZeros_0f7a4 x0 m) 0 [(0, .int x0)] [] m
    unfold fJ6_numberOfTrailingZeros_0f7a4
    refine T_iload_n 0 rfl rfl dJ6_numberOfTrailingZeros_0f7a4_0 ?_
    refine T_iconst (-1 : Int32) (by decide) dJ6_numberOfTrailingZeros_0f7a4_1 ?_
    refine T_ixor dJ6_numberOfTrailingZeros_0f7a4_2 ?_
    refine T_iload_n 0 rfl rfl dJ6_numberOfTrailingZeros_0f7a4_3 ?_
    refine T_iconst (1 : Int32) (by decide) dJ6_numberOfTrailingZeros_0f7a4_4 ?_
    refine T_isub dJ6_numberOfTrailingZeros_0f7a4_5 ?_
    refine T_iand dJ6_numberOfTrailingZeros_0f7a4_6 ?_
    refine T_istore_n (lv' := [(0, .int ((x0 ^^^ (-1 : Int32)) &&& (x0 - (1 : Int32))))]) rfl (Nat.le_of_ble_eq_true rfl) rfl dJ6_numberOfTrailingZeros_0f7a4_7 ?_
    refine T_li (fun y1 => ?_)
    refine T_iload_n 0 rfl rfl dJ6_numberOfTrailingZeros_0f7a4_8 ?_
    refine T_if_gt 17 dJ6_numberOfTrailingZeros_0f7a4_9 (by decide) (fun _ => ?_) (fun _ => ?_)
    · refine T_iconst (1 : Int32) (by decide) dJ6_numberOfTrailingZeros_0f7a4_17 ?_
      refine T_istore_n (lv' := [(1, .int (1 : Int32)), (0, .int y1)]) rfl (Nat.le_of_ble_eq_true rfl) rfl dJ6_numberOfTrailingZeros_0f7a4_18 ?_
      refine T_iload_n 1 rfl rfl dJ6_numberOfTrailingZeros_0f7a4_19 ?_
      refine T_ldcw lcJ6_264 dJ6_numberOfTrailingZeros_0f7a4_20 ?_
      refine T_icmp_le 34 dJ6_numberOfTrailingZeros_0f7a4_23 (by decide) (fun _ => ?_) (fun _ => ?_)
      · exact T_sub [1, 0] rfl (uJ6_numberOfTrailingZeros_0f7a4_34 X y1 (1 : Int32) m )
      · refine T_iinc (lv' := [(1, .int ((1 : Int32) + (16 : Int32))), (0, .int y1)]) 0 (16 : Int32) rfl (by decide) (Nat.le_of_ble_eq_true rfl) rfl dJ6_numberOfTrailingZeros_0f7a4_26 ?_
        refine T_li (fun y8 => ?_)
        refine T_iload_n 1 rfl rfl dJ6_numberOfTrailingZeros_0f7a4_29 ?_
        refine T_bipush (16 : Int32) (by decide) dJ6_numberOfTrailingZeros_0f7a4_30 ?_
        refine T_iushr dJ6_numberOfTrailingZeros_0f7a4_32 ?_
        refine T_istore_n (lv' := [(0, .int ((y1.toUInt32 >>> ((16 : Int32).toUInt32 &&& Int32.toUInt32 31)).toInt32)), (1, .int y8)]) rfl (Nat.le_of_ble_eq_true rfl) rfl dJ6_numberOfTrailingZeros_0f7a4_33 ?_
        refine T_li (fun y9 => ?_)
        exact T_sub [0, 1] rfl (uJ6_numberOfTrailingZeros_0f7a4_34 X y9 y8 m )
    · refine T_iload_n 0 rfl rfl dJ6_numberOfTrailingZeros_0f7a4_12 ?_
      refine T_bipush (32 : Int32) (by decide) dJ6_numberOfTrailingZeros_0f7a4_13 ?_
      refine T_iand dJ6_numberOfTrailingZeros_0f7a4_15 ?_
      exact T_iret rfl dJ6_numberOfTrailingZeros_0f7a4_16)
theorem lcJ6_265 : Cond.constant RJ6 265 (1431655765) ∈ gdL := gd_mem 607 (by decide +kernel) (by decide +kernel)
theorem lcJ6_266 : Cond.constant RJ6 266 (858993459) ∈ gdL := gd_mem 608 (by decide +kernel) (by decide +kernel)
theorem lcJ6_267 : Cond.constant RJ6 267 (252645135) ∈ gdL := gd_mem 609 (by decide +kernel) (by decide +kernel)
def fJ6_bitCount_0f7a4 (x0 : Int32) (m : mMem) : mR := li (x0 - (((x0.toUInt32 >>> ((1 : Int32).toUInt32 &&& Int32.toUInt32 31)).toInt32) &&& (1431655765 : Int32))) (fun y1 => li ((y1 &&& (858993459 : Int32)) + (((y1.toUInt32 >>> ((2 : Int32).toUInt32 &&& Int32.toUInt32 31)).toInt32) &&& (858993459 : Int32))) (fun y2 => li ((y2 + ((y2.toUInt32 >>> ((4 : Int32).toUInt32 &&& Int32.toUInt32 31)).toInt32)) &&& (252645135 : Int32)) (fun y3 => li (y3 + ((y3.toUInt32 >>> ((8 : Int32).toUInt32 &&& Int32.toUInt32 31)).toInt32)) (fun y4 => li (y4 + ((y4.toUInt32 >>> ((16 : Int32).toUInt32 &&& Int32.toUInt32 31)).toInt32)) (fun y5 => some (some (.int (y5 &&& (63 : Int32))), m))))))
set_option maxRecDepth 100000 in
theorem bsJ6_bitCount_0f7a4 (l : Launch) (x0 : Int32) (m : mMem)  : BS l qJ6_bitCount_0f7a4 [.int x0] m (fJ6_bitCount_0f7a4 x0 m) := BS_of (by decide) (Nat.le_of_ble_eq_true rfl) (fun X _ => by
    show T qJ6_bitCount_0f7a4 X (fJ6_bitCount_0f7a4 x0 m) 0 [(0, .int x0)] [] m
    unfold fJ6_bitCount_0f7a4
    refine T_iload_n 0 rfl rfl dJ6_bitCount_0f7a4_0 ?_
    refine T_iload_n 0 rfl rfl dJ6_bitCount_0f7a4_1 ?_
    refine T_iconst (1 : Int32) (by decide) dJ6_bitCount_0f7a4_2 ?_
    refine T_iushr dJ6_bitCount_0f7a4_3 ?_
    refine T_ldcw lcJ6_265 dJ6_bitCount_0f7a4_4 ?_
    refine T_iand dJ6_bitCount_0f7a4_7 ?_
    refine T_isub dJ6_bitCount_0f7a4_8 ?_
    refine T_istore_n (lv' := [(0, .int (x0 - (((x0.toUInt32 >>> ((1 : Int32).toUInt32 &&& Int32.toUInt32 31)).toInt32) &&& (1431655765 : Int32))))]) rfl (Nat.le_of_ble_eq_true rfl) rfl dJ6_bitCount_0f7a4_9 ?_
    refine T_li (fun y1 => ?_)
    refine T_iload_n 0 rfl rfl dJ6_bitCount_0f7a4_10 ?_
    refine T_ldcw lcJ6_266 dJ6_bitCount_0f7a4_11 ?_
    refine T_iand dJ6_bitCount_0f7a4_14 ?_
    refine T_iload_n 0 rfl rfl dJ6_bitCount_0f7a4_15 ?_
    refine T_iconst (2 : Int32) (by decide) dJ6_bitCount_0f7a4_16 ?_
    refine T_iushr dJ6_bitCount_0f7a4_17 ?_
    refine T_ldcw lcJ6_266 dJ6_bitCount_0f7a4_18 ?_
    refine T_iand dJ6_bitCount_0f7a4_21 ?_
    refine T_iadd dJ6_bitCount_0f7a4_22 ?_
    refine T_istore_n (lv' := [(0, .int ((y1 &&& (858993459 : Int32)) + (((y1.toUInt32 >>> ((2 : Int32).toUInt32 &&& Int32.toUInt32 31)).toInt32) &&& (858993459 : Int32))))]) rfl (Nat.le_of_ble_eq_true rfl) rfl dJ6_bitCount_0f7a4_23 ?_
    refine T_li (fun y2 => ?_)
    refine T_iload_n 0 rfl rfl dJ6_bitCount_0f7a4_24 ?_
    refine T_iload_n 0 rfl rfl dJ6_bitCount_0f7a4_25 ?_
    refine T_iconst (4 : Int32) (by decide) dJ6_bitCount_0f7a4_26 ?_
    refine T_iushr dJ6_bitCount_0f7a4_27 ?_
    refine T_iadd dJ6_bitCount_0f7a4_28 ?_
    refine T_ldcw lcJ6_267 dJ6_bitCount_0f7a4_29 ?_
    refine T_iand dJ6_bitCount_0f7a4_32 ?_
    refine T_istore_n (lv' := [(0, .int ((y2 + ((y2.toUInt32 >>> ((4 : Int32).toUInt32 &&& Int32.toUInt32 31)).toInt32)) &&& (252645135 : Int32)))]) rfl (Nat.le_of_ble_eq_true rfl) rfl dJ6_bitCount_0f7a4_33 ?_
    refine T_li (fun y3 => ?_)
    refine T_iload_n 0 rfl rfl dJ6_bitCount_0f7a4_34 ?_
    refine T_iload_n 0 rfl rfl dJ6_bitCount_0f7a4_35 ?_
    refine T_bipush (8 : Int32) (by decide) dJ6_bitCount_0f7a4_36 ?_
    refine T_iushr dJ6_bitCount_0f7a4_38 ?_
    refine T_iadd dJ6_bitCount_0f7a4_39 ?_
    refine T_istore_n (lv' := [(0, .int (y3 + ((y3.toUInt32 >>> ((8 : Int32).toUInt32 &&& Int32.toUInt32 31)).toInt32)))]) rfl (Nat.le_of_ble_eq_true rfl) rfl dJ6_bitCount_0f7a4_40 ?_
    refine T_li (fun y4 => ?_)
    refine T_iload_n 0 rfl rfl dJ6_bitCount_0f7a4_41 ?_
    refine T_iload_n 0 rfl rfl dJ6_bitCount_0f7a4_42 ?_
    refine T_bipush (16 : Int32) (by decide) dJ6_bitCount_0f7a4_43 ?_
    refine T_iushr dJ6_bitCount_0f7a4_45 ?_
    refine T_iadd dJ6_bitCount_0f7a4_46 ?_
    refine T_istore_n (lv' := [(0, .int (y4 + ((y4.toUInt32 >>> ((16 : Int32).toUInt32 &&& Int32.toUInt32 31)).toInt32)))]) rfl (Nat.le_of_ble_eq_true rfl) rfl dJ6_bitCount_0f7a4_47 ?_
    refine T_li (fun y5 => ?_)
    refine T_iload_n 0 rfl rfl dJ6_bitCount_0f7a4_48 ?_
    refine T_bipush (63 : Int32) (by decide) dJ6_bitCount_0f7a4_49 ?_
    refine T_iand dJ6_bitCount_0f7a4_51 ?_
    exact T_iret rfl dJ6_bitCount_0f7a4_52)
def bJ7_fill_d0a16_6 (r0 : Nat) (n0 : Nat) (x1 : Int64) (x4 : Int32) (k6 : Int32 × mMem → mR) (s : Int32 × mMem) : mR := match s with
  | (x3, m) => if x4 ≤ x3 then some (none, m) else ga x3 n0 (lt (sl m r0 (x3).toNatClampNeg x1) (fun m2 => li (x3 + (1 : Int32)) (fun y3 => k6 (y3, m2))))
set_option maxRecDepth 100000 in
theorem tJ7_fill_d0a16_6 (X : mCx) (r0 : Nat) (n0 : Nat) (x1 : Int64) (x4 : Int32) (h0 : kd r0 = (11, n0)) : ∀ (n : Nat) (s : Int32 × mMem), T qJ7_fill_d0a16 X (lp (bJ7_fill_d0a16_6 r0 n0 x1 x4) n s) 6 [(0, .ref r0), (1, .long x1), (3, .int s.1), (4, .int x4)] [] s.2 :=
  T_lp (body := bJ7_fill_d0a16_6 r0 n0 x1 x4) (lv := fun s => [(0, .ref r0), (1, .long x1), (3, .int s.1), (4, .int x4)]) (st := fun _ => []) (μ := fun s : Int32 × mMem => s.2) (fun k6 hk6 s => by
    obtain ⟨x3, m⟩ := s
    show T qJ7_fill_d0a16 X (bJ7_fill_d0a16_6 r0 n0 x1 x4 k6 (x3, m)) 6 [(0, .ref r0), (1, .long x1), (3, .int x3), (4, .int x4)] [] m
    unfold bJ7_fill_d0a16_6
    dsimp only
    refine T_iload_n 2 rfl rfl dJ7_fill_d0a16_6 ?_
    refine T_iload 3 rfl dJ7_fill_d0a16_7 ?_
    refine T_icmp_ge 22 dJ7_fill_d0a16_9 (by decide) (fun _ => ?_) (fun _ => ?_)
    · exact T_vret rfl dJ7_fill_d0a16_22
    · refine T_aload_n 0 rfl rfl dJ7_fill_d0a16_12 ?_
      refine T_iload_n 2 rfl rfl dJ7_fill_d0a16_13 ?_
      refine T_lload_n 1 rfl rfl dJ7_fill_d0a16_14 ?_
      refine T_last h0 dJ7_fill_d0a16_15 ?_
      refine T_lt (fun m2 => ?_)
      refine T_iinc (lv' := [(3, .int (x3 + (1 : Int32))), (0, .ref r0), (1, .long x1), (4, .int x4)]) 2 (1 : Int32) rfl (by decide) (Nat.le_of_ble_eq_true rfl) rfl dJ7_fill_d0a16_16 ?_
      refine T_li (fun y3 => ?_)
      refine T_goto 6 dJ7_fill_d0a16_19 (by decide) ?_
      exact T_sub [1, 2, 0, 3] rfl (hk6 (y3, m2)))
def fJ7_fill_d0a16 (r0 : Nat) (n0 : Nat) (x1 : Int64) (m : mMem) : mR := li (Int32.ofNat n0) (fun y1 => lp (bJ7_fill_d0a16_6 r0 n0 x1 y1) FU ((0 : Int32), m))
set_option maxRecDepth 100000 in
theorem bsJ7_fill_d0a16 (l : Launch) (r0 : Nat) (n0 : Nat) (x1 : Int64) (m : mMem) (h0 : kd r0 = (11, n0)) : BS l qJ7_fill_d0a16 [.ref r0, .long x1] m (fJ7_fill_d0a16 r0 n0 x1 m) := BS_of (by decide) (Nat.le_of_ble_eq_true rfl) (fun X _ => by
    show T qJ7_fill_d0a16 X (fJ7_fill_d0a16 r0 n0 x1 m) 0 [(0, .ref r0), (1, .long x1)] [] m
    unfold fJ7_fill_d0a16
    refine T_iconst (0 : Int32) (by decide) dJ7_fill_d0a16_0 ?_
    refine T_istore_n (lv' := [(3, .int (0 : Int32)), (0, .ref r0), (1, .long x1)]) rfl (Nat.le_of_ble_eq_true rfl) rfl dJ7_fill_d0a16_1 ?_
    refine T_aload_n 1 rfl rfl dJ7_fill_d0a16_2 ?_
    refine T_alenL h0 dJ7_fill_d0a16_3 ?_
    refine T_istore (lv' := [(4, .int (Int32.ofNat n0)), (3, .int (0 : Int32)), (0, .ref r0), (1, .long x1)]) (Nat.le_of_ble_eq_true rfl) rfl dJ7_fill_d0a16_4 ?_
    refine T_li (fun y1 => ?_)
    exact T_sub [2, 3, 1, 0] rfl (tJ7_fill_d0a16_6 X r0 n0 x1 y1 h0 FU ((0 : Int32), m)))
def bJ7_fill_53178_5 (r0 : Nat) (n0 : Nat) (x1 : Int32) (x3 : Int32) (k5 : Int32 × mMem → mR) (s : Int32 × mMem) : mR := match s with
  | (x2, m) => if x3 ≤ x2 then some (none, m) else ga x2 n0 (lt (si m r0 (x2).toNatClampNeg x1) (fun m2 => li (x2 + (1 : Int32)) (fun y3 => k5 (y3, m2))))
set_option maxRecDepth 100000 in
theorem tJ7_fill_53178_5 (X : mCx) (r0 : Nat) (n0 : Nat) (x1 : Int32) (x3 : Int32) (h0 : kd r0 = (10, n0)) : ∀ (n : Nat) (s : Int32 × mMem), T qJ7_fill_53178 X (lp (bJ7_fill_53178_5 r0 n0 x1 x3) n s) 5 [(0, .ref r0), (1, .int x1), (2, .int s.1), (3, .int x3)] [] s.2 :=
  T_lp (body := bJ7_fill_53178_5 r0 n0 x1 x3) (lv := fun s => [(0, .ref r0), (1, .int x1), (2, .int s.1), (3, .int x3)]) (st := fun _ => []) (μ := fun s : Int32 × mMem => s.2) (fun k5 hk5 s => by
    obtain ⟨x2, m⟩ := s
    show T qJ7_fill_53178 X (bJ7_fill_53178_5 r0 n0 x1 x3 k5 (x2, m)) 5 [(0, .ref r0), (1, .int x1), (2, .int x2), (3, .int x3)] [] m
    unfold bJ7_fill_53178_5
    dsimp only
    refine T_iload_n 2 rfl rfl dJ7_fill_53178_5 ?_
    refine T_iload_n 3 rfl rfl dJ7_fill_53178_6 ?_
    refine T_icmp_ge 20 dJ7_fill_53178_7 (by decide) (fun _ => ?_) (fun _ => ?_)
    · exact T_vret rfl dJ7_fill_53178_20
    · refine T_aload_n 0 rfl rfl dJ7_fill_53178_10 ?_
      refine T_iload_n 2 rfl rfl dJ7_fill_53178_11 ?_
      refine T_iload_n 1 rfl rfl dJ7_fill_53178_12 ?_
      refine T_iast _ rfl h0 dJ7_fill_53178_13 ?_
      refine T_lt (fun m2 => ?_)
      refine T_iinc (lv' := [(2, .int (x2 + (1 : Int32))), (0, .ref r0), (1, .int x1), (3, .int x3)]) 2 (1 : Int32) rfl (by decide) (Nat.le_of_ble_eq_true rfl) rfl dJ7_fill_53178_14 ?_
      refine T_li (fun y3 => ?_)
      refine T_goto 5 dJ7_fill_53178_17 (by decide) ?_
      exact T_sub [1, 2, 0, 3] rfl (hk5 (y3, m2)))
def fJ7_fill_53178 (r0 : Nat) (n0 : Nat) (x1 : Int32) (m : mMem) : mR := li (Int32.ofNat n0) (fun y1 => lp (bJ7_fill_53178_5 r0 n0 x1 y1) FU ((0 : Int32), m))
set_option maxRecDepth 100000 in
theorem bsJ7_fill_53178 (l : Launch) (r0 : Nat) (n0 : Nat) (x1 : Int32) (m : mMem) (h0 : kd r0 = (10, n0)) : BS l qJ7_fill_53178 [.ref r0, .int x1] m (fJ7_fill_53178 r0 n0 x1 m) := BS_of (by decide) (Nat.le_of_ble_eq_true rfl) (fun X _ => by
    show T qJ7_fill_53178 X (fJ7_fill_53178 r0 n0 x1 m) 0 [(0, .ref r0), (1, .int x1)] [] m
    unfold fJ7_fill_53178
    refine T_iconst (0 : Int32) (by decide) dJ7_fill_53178_0 ?_
    refine T_istore_n (lv' := [(2, .int (0 : Int32)), (0, .ref r0), (1, .int x1)]) rfl (Nat.le_of_ble_eq_true rfl) rfl dJ7_fill_53178_1 ?_
    refine T_aload_n 1 rfl rfl dJ7_fill_53178_2 ?_
    refine T_alen h0 (by decide) dJ7_fill_53178_3 ?_
    refine T_istore_n (lv' := [(3, .int (Int32.ofNat n0)), (2, .int (0 : Int32)), (0, .ref r0), (1, .int x1)]) rfl (Nat.le_of_ble_eq_true rfl) rfl dJ7_fill_53178_4 ?_
    refine T_li (fun y1 => ?_)
    exact T_sub [2, 3, 1, 0] rfl (tJ7_fill_53178_5 X r0 n0 x1 y1 h0 FU ((0 : Int32), m)))
