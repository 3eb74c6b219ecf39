abbrev qX2_note : mMI := (yX2_note, cX2_note, 3, (some .int), 0)
theorem dX2_note_0 : decode cX2_note 0 = .ok (.aload_n 0, 1) := by decide +kernel
theorem dX2_note_1 : decode cX2_note 1 = .ok (.getfield 9, 3) := by decide +kernel
theorem dX2_note_4 : decode cX2_note 4 = .ok (.bipush 6, 2) := by decide +kernel
theorem dX2_note_6 : decode cX2_note 6 = .ok (.if_icmp .lt 6, 3) := by decide +kernel
theorem dX2_note_9 : decode cX2_note 9 = .ok (.bipush (-3), 2) := by decide +kernel
theorem dX2_note_11 : decode cX2_note 11 = .ok (.ireturn, 1) := by decide +kernel
theorem dX2_note_12 : decode cX2_note 12 = .ok (.aload_n 0, 1) := by decide +kernel
theorem dX2_note_13 : decode cX2_note 13 = .ok (.getfield 19, 3) := by decide +kernel
theorem dX2_note_16 : decode cX2_note 16 = .ok (.aload_n 0, 1) := by decide +kernel
theorem dX2_note_17 : decode cX2_note 17 = .ok (.getfield 9, 3) := by decide +kernel
theorem dX2_note_20 : decode cX2_note 20 = .ok (.iload_n 1, 1) := by decide +kernel
theorem dX2_note_21 : decode cX2_note 21 = .ok (.iastore, 1) := by decide +kernel
theorem dX2_note_22 : decode cX2_note 22 = .ok (.aload_n 0, 1) := by decide +kernel
theorem dX2_note_23 : decode cX2_note 23 = .ok (.getfield 22, 3) := by decide +kernel
theorem dX2_note_26 : decode cX2_note 26 = .ok (.aload_n 0, 1) := by decide +kernel
theorem dX2_note_27 : decode cX2_note 27 = .ok (.getfield 9, 3) := by decide +kernel
theorem dX2_note_30 : decode cX2_note 30 = .ok (.iload_n 2, 1) := by decide +kernel
theorem dX2_note_31 : decode cX2_note 31 = .ok (.iastore, 1) := by decide +kernel
theorem dX2_note_32 : decode cX2_note 32 = .ok (.aload_n 0, 1) := by decide +kernel
theorem dX2_note_33 : decode cX2_note 33 = .ok (.dup, 1) := by decide +kernel
theorem dX2_note_34 : decode cX2_note 34 = .ok (.getfield 9, 3) := by decide +kernel
theorem dX2_note_37 : decode cX2_note 37 = .ok (.iconst 1, 1) := by decide +kernel
theorem dX2_note_38 : decode cX2_note 38 = .ok (.iadd, 1) := by decide +kernel
theorem dX2_note_39 : decode cX2_note 39 = .ok (.putfield 9, 3) := by decide +kernel
theorem dX2_note_42 : decode cX2_note 42 = .ok (.aload_n 0, 1) := by decide +kernel
theorem dX2_note_43 : decode cX2_note 43 = .ok (.getfield 9, 3) := by decide +kernel
theorem dX2_note_46 : decode cX2_note 46 = .ok (.ireturn, 1) := by decide +kernel
theorem mkX2_note : mokV qX2_note 2 := ⟨⟨⟨⟨by decide, by decide, by decide +kernel⟩, by decide⟩, gd_mem 57 (by decide +kernel) (by decide +kernel), gd_mem 769 (by decide +kernel) (by decide +kernel)⟩, gd_mem 767 (by decide +kernel) (by decide +kernel), gd_mem 768 (by decide +kernel) (by decide +kernel)⟩
abbrev qX2_canBeSo : mMI := (yX2_canBeSo, cX2_canBeSo, 6, (some .boolean), 0)
theorem dX2_canBeSo_0 : decode cX2_canBeSo 0 = .ok (.iconst 3, 1) := by decide +kernel
theorem dX2_canBeSo_1 : decode cX2_canBeSo 1 = .ok (.aload_n 0, 1) := by decide +kernel
theorem dX2_canBeSo_2 : decode cX2_canBeSo 2 = .ok (.getfield 28, 3) := by decide +kernel
theorem dX2_canBeSo_5 : decode cX2_canBeSo 5 = .ok (.getfield 67, 3) := by decide +kernel
theorem dX2_canBeSo_8 : decode cX2_canBeSo 8 = .ok (.iload_n 1, 1) := by decide +kernel
theorem dX2_canBeSo_9 : decode cX2_canBeSo 9 = .ok (.isub, 1) := by decide +kernel
theorem dX2_canBeSo_10 : decode cX2_canBeSo 10 = .ok (.imul, 1) := by decide +kernel
theorem dX2_canBeSo_11 : decode cX2_canBeSo 11 = .ok (.istore_n 2, 1) := by decide +kernel
theorem dX2_canBeSo_12 : decode cX2_canBeSo 12 = .ok (.iconst 0, 1) := by decide +kernel
theorem dX2_canBeSo_13 : decode cX2_canBeSo 13 = .ok (.istore_n 3, 1) := by decide +kernel
theorem dX2_canBeSo_14 : decode cX2_canBeSo 14 = .ok (.iload_n 3, 1) := by decide +kernel
theorem dX2_canBeSo_15 : decode cX2_canBeSo 15 = .ok (.aload_n 0, 1) := by decide +kernel
theorem dX2_canBeSo_16 : decode cX2_canBeSo 16 = .ok (.getfield 9, 3) := by decide +kernel
theorem dX2_canBeSo_19 : decode cX2_canBeSo 19 = .ok (.if_icmp .ge 58, 3) := by decide +kernel
theorem dX2_canBeSo_22 : decode cX2_canBeSo 22 = .ok (.aload_n 0, 1) := by decide +kernel
theorem dX2_canBeSo_23 : decode cX2_canBeSo 23 = .ok (.getfield 19, 3) := by decide +kernel
theorem dX2_canBeSo_26 : decode cX2_canBeSo 26 = .ok (.iload_n 3, 1) := by decide +kernel
theorem dX2_canBeSo_27 : decode cX2_canBeSo 27 = .ok (.iaload, 1) := by decide +kernel
theorem dX2_canBeSo_28 : decode cX2_canBeSo 28 = .ok (.istore 4, 2) := by decide +kernel
theorem dX2_canBeSo_30 : decode cX2_canBeSo 30 = .ok (.aload_n 0, 1) := by decide +kernel
theorem dX2_canBeSo_31 : decode cX2_canBeSo 31 = .ok (.getfield 22, 3) := by decide +kernel
theorem dX2_canBeSo_34 : decode cX2_canBeSo 34 = .ok (.iload_n 3, 1) := by decide +kernel
theorem dX2_canBeSo_35 : decode cX2_canBeSo 35 = .ok (.iaload, 1) := by decide +kernel
theorem dX2_canBeSo_36 : decode cX2_canBeSo 36 = .ok (.aload_n 0, 1) := by decide +kernel
theorem dX2_canBeSo_37 : decode cX2_canBeSo 37 = .ok (.getfield 34, 3) := by decide +kernel
theorem dX2_canBeSo_40 : decode cX2_canBeSo 40 = .ok (.iload_n 1, 1) := by decide +kernel
theorem dX2_canBeSo_41 : decode cX2_canBeSo 41 = .ok (.aaload, 1) := by decide +kernel
theorem dX2_canBeSo_42 : decode cX2_canBeSo 42 = .ok (.iload 4, 2) := by decide +kernel
theorem dX2_canBeSo_44 : decode cX2_canBeSo 44 = .ok (.iaload, 1) := by decide +kernel
theorem dX2_canBeSo_45 : decode cX2_canBeSo 45 = .ok (.aload_n 0, 1) := by decide +kernel
theorem dX2_canBeSo_46 : decode cX2_canBeSo 46 = .ok (.getfield 34, 3) := by decide +kernel
theorem dX2_canBeSo_49 : decode cX2_canBeSo 49 = .ok (.iconst 0, 1) := by decide +kernel
theorem dX2_canBeSo_50 : decode cX2_canBeSo 50 = .ok (.aaload, 1) := by decide +kernel
theorem dX2_canBeSo_51 : decode cX2_canBeSo 51 = .ok (.iload 4, 2) := by decide +kernel
theorem dX2_canBeSo_53 : decode cX2_canBeSo 53 = .ok (.iaload, 1) := by decide +kernel
theorem dX2_canBeSo_54 : decode cX2_canBeSo 54 = .ok (.isub, 1) := by decide +kernel
theorem dX2_canBeSo_55 : decode cX2_canBeSo 55 = .ok (.isub, 1) := by decide +kernel
theorem dX2_canBeSo_56 : decode cX2_canBeSo 56 = .ok (.istore 5, 2) := by decide +kernel
theorem dX2_canBeSo_58 : decode cX2_canBeSo 58 = .ok (.iload 5, 2) := by decide +kernel
theorem dX2_canBeSo_60 : decode cX2_canBeSo 60 = .ok (.ifCond .lt 9, 3) := by decide +kernel
theorem dX2_canBeSo_63 : decode cX2_canBeSo 63 = .ok (.iload 5, 2) := by decide +kernel
theorem dX2_canBeSo_65 : decode cX2_canBeSo 65 = .ok (.iload_n 2, 1) := by decide +kernel
theorem dX2_canBeSo_66 : decode cX2_canBeSo 66 = .ok (.if_icmp .le 5, 3) := by decide +kernel
theorem dX2_canBeSo_69 : decode cX2_canBeSo 69 = .ok (.iconst 0, 1) := by decide +kernel
theorem dX2_canBeSo_70 : decode cX2_canBeSo 70 = .ok (.ireturn, 1) := by decide +kernel
theorem dX2_canBeSo_71 : decode cX2_canBeSo 71 = .ok (.iinc 3 1, 3) := by decide +kernel
theorem dX2_canBeSo_74 : decode cX2_canBeSo 74 = .ok (.goto (-60), 3) := by decide +kernel
theorem dX2_canBeSo_77 : decode cX2_canBeSo 77 = .ok (.iconst 1, 1) := by decide +kernel
theorem dX2_canBeSo_78 : decode cX2_canBeSo 78 = .ok (.ireturn, 1) := by decide +kernel
theorem mkX2_canBeSo : mokV qX2_canBeSo 1 := ⟨⟨⟨⟨by decide, by decide, by decide +kernel⟩, by decide⟩, gd_mem 57 (by decide +kernel) (by decide +kernel), gd_mem 794 (by decide +kernel) (by decide +kernel)⟩, gd_mem 793 (by decide +kernel) (by decide +kernel), gd_mem 16 (by decide +kernel) (by decide +kernel)⟩
abbrev qX2_searchBehind (d : Nat) : mMI := (yX2_searchBehind, cX2_searchBehind, 3, (some .int), 2 * d + 11)
theorem dX2_searchBehind_0 : decode cX2_searchBehind 0 = .ok (.aload_n 0, 1) := by decide +kernel
theorem dX2_searchBehind_1 : decode cX2_searchBehind 1 = .ok (.getfield 34, 3) := by decide +kernel
theorem dX2_searchBehind_4 : decode cX2_searchBehind 4 = .ok (.iload_n 1, 1) := by decide +kernel
theorem dX2_searchBehind_5 : decode cX2_searchBehind 5 = .ok (.aaload, 1) := by decide +kernel
theorem dX2_searchBehind_6 : decode cX2_searchBehind 6 = .ok (.iconst 0, 1) := by decide +kernel
theorem dX2_searchBehind_7 : decode cX2_searchBehind 7 = .ok (.aload_n 0, 1) := by decide +kernel
theorem dX2_searchBehind_8 : decode cX2_searchBehind 8 = .ok (.getfield 28, 3) := by decide +kernel
theorem dX2_searchBehind_11 : decode cX2_searchBehind 11 = .ok (.getfield 50, 3) := by decide +kernel
theorem dX2_searchBehind_14 : decode cX2_searchBehind 14 = .ok (.iconst 0, 1) := by decide +kernel
theorem dX2_searchBehind_15 : decode cX2_searchBehind 15 = .ok (.bipush 10, 2) := by decide +kernel
theorem dX2_searchBehind_17 : decode cX2_searchBehind 17 = .ok (.invokestatic 53, 3) := by decide +kernel
theorem dX2_searchBehind_20 : decode cX2_searchBehind 20 = .ok (.aload_n 0, 1) := by decide +kernel
theorem dX2_searchBehind_21 : decode cX2_searchBehind 21 = .ok (.getfield 28, 3) := by decide +kernel
theorem dX2_searchBehind_24 : decode cX2_searchBehind 24 = .ok (.iload_n 1, 1) := by decide +kernel
theorem dX2_searchBehind_25 : decode cX2_searchBehind 25 = .ok (.iload_n 2, 1) := by decide +kernel
theorem dX2_searchBehind_26 : decode cX2_searchBehind 26 = .ok (.invokevirtual 89, 3) := by decide +kernel
theorem dX2_searchBehind_29 : decode cX2_searchBehind 29 = .ok (.aload_n 0, 1) := by decide +kernel
theorem dX2_searchBehind_30 : decode cX2_searchBehind 30 = .ok (.getfield 28, 3) := by decide +kernel
theorem dX2_searchBehind_33 : decode cX2_searchBehind 33 = .ok (.getfield 50, 3) := by decide +kernel
theorem dX2_searchBehind_36 : decode cX2_searchBehind 36 = .ok (.iconst 0, 1) := by decide +kernel
theorem dX2_searchBehind_37 : decode cX2_searchBehind 37 = .ok (.aload_n 0, 1) := by decide +kernel
theorem dX2_searchBehind_38 : decode cX2_searchBehind 38 = .ok (.getfield 34, 3) := by decide +kernel
theorem dX2_searchBehind_41 : decode cX2_searchBehind 41 = .ok (.iload_n 1, 1) := by decide +kernel
theorem dX2_searchBehind_42 : decode cX2_searchBehind 42 = .ok (.iconst 1, 1) := by decide +kernel
theorem dX2_searchBehind_43 : decode cX2_searchBehind 43 = .ok (.iadd, 1) := by decide +kernel
theorem dX2_searchBehind_44 : decode cX2_searchBehind 44 = .ok (.aaload, 1) := by decide +kernel
theorem dX2_searchBehind_45 : decode cX2_searchBehind 45 = .ok (.iconst 0, 1) := by decide +kernel
theorem dX2_searchBehind_46 : decode cX2_searchBehind 46 = .ok (.bipush 10, 2) := by decide +kernel
theorem dX2_searchBehind_48 : decode cX2_searchBehind 48 = .ok (.invokestatic 53, 3) := by decide +kernel
theorem dX2_searchBehind_51 : decode cX2_searchBehind 51 = .ok (.aload_n 0, 1) := by decide +kernel
theorem dX2_searchBehind_52 : decode cX2_searchBehind 52 = .ok (.iload_n 1, 1) := by decide +kernel
theorem dX2_searchBehind_53 : decode cX2_searchBehind 53 = .ok (.iconst 1, 1) := by decide +kernel
theorem dX2_searchBehind_54 : decode cX2_searchBehind 54 = .ok (.iadd, 1) := by decide +kernel
theorem dX2_searchBehind_55 : decode cX2_searchBehind 55 = .ok (.invokevirtual 59, 3) := by decide +kernel
theorem dX2_searchBehind_58 : decode cX2_searchBehind 58 = .ok (.ireturn, 1) := by decide +kernel
theorem mkX2_searchBehind_0 : mokV (qX2_searchBehind 0) 2 := ⟨⟨⟨⟨by decide, by decide, by decide +kernel⟩, by decide⟩, gd_mem 57 (by decide +kernel) (by decide +kernel), gd_mem 801 (by decide +kernel) (by decide +kernel)⟩, gd_mem 800 (by decide +kernel) (by decide +kernel), gd_mem 17 (by decide +kernel) (by decide +kernel)⟩
theorem mkX2_searchBehind (d : Nat) : mokV (qX2_searchBehind d) 2 := by
  have h := mkX2_searchBehind_0
  unfold mokV mok at *
  exact h
abbrev qX2_searchFrom (d : Nat) : mMI := (yX2_searchFrom, cX2_searchFrom, 7, (some .int), 2 * d + 10)
theorem dX2_searchFrom_0 : decode cX2_searchFrom 0 = .ok (.aload_n 0, 1) := by decide +kernel
theorem dX2_searchFrom_1 : decode cX2_searchFrom 1 = .ok (.iload_n 1, 1) := by decide +kernel
theorem dX2_searchFrom_2 : decode cX2_searchFrom 2 = .ok (.invokevirtual 63, 3) := by decide +kernel
theorem dX2_searchFrom_5 : decode cX2_searchFrom 5 = .ok (.ifCond .ne 5, 3) := by decide +kernel
theorem dX2_searchFrom_8 : decode cX2_searchFrom 8 = .ok (.iconst 0, 1) := by decide +kernel
theorem dX2_searchFrom_9 : decode cX2_searchFrom 9 = .ok (.ireturn, 1) := by decide +kernel
theorem dX2_searchFrom_10 : decode cX2_searchFrom 10 = .ok (.iload_n 1, 1) := by decide +kernel
theorem dX2_searchFrom_11 : decode cX2_searchFrom 11 = .ok (.aload_n 0, 1) := by decide +kernel
theorem dX2_searchFrom_12 : decode cX2_searchFrom 12 = .ok (.getfield 28, 3) := by decide +kernel
theorem dX2_searchFrom_15 : decode cX2_searchFrom 15 = .ok (.getfield 67, 3) := by decide +kernel
theorem dX2_searchFrom_18 : decode cX2_searchFrom 18 = .ok (.if_icmp .ge 8, 3) := by decide +kernel
theorem dX2_searchFrom_21 : decode cX2_searchFrom 21 = .ok (.iload_n 1, 1) := by decide +kernel
theorem dX2_searchFrom_22 : decode cX2_searchFrom 22 = .ok (.iconst 4, 1) := by decide +kernel
theorem dX2_searchFrom_23 : decode cX2_searchFrom 23 = .ok (.if_icmp .lt 5, 3) := by decide +kernel
theorem dX2_searchFrom_26 : decode cX2_searchFrom 26 = .ok (.iconst 1, 1) := by decide +kernel
theorem dX2_searchFrom_27 : decode cX2_searchFrom 27 = .ok (.ireturn, 1) := by decide +kernel
theorem dX2_searchFrom_28 : decode cX2_searchFrom 28 = .ok (.aload_n 0, 1) := by decide +kernel
theorem dX2_searchFrom_29 : decode cX2_searchFrom 29 = .ok (.getfield 37, 3) := by decide +kernel
theorem dX2_searchFrom_32 : decode cX2_searchFrom 32 = .ok (.iload_n 1, 1) := by decide +kernel
theorem dX2_searchFrom_33 : decode cX2_searchFrom 33 = .ok (.aaload, 1) := by decide +kernel
theorem dX2_searchFrom_34 : decode cX2_searchFrom 34 = .ok (.astore_n 2, 1) := by decide +kernel
theorem dX2_searchFrom_35 : decode cX2_searchFrom 35 = .ok (.aload_n 0, 1) := by decide +kernel
theorem dX2_searchFrom_36 : decode cX2_searchFrom 36 = .ok (.getfield 28, 3) := by decide +kernel
theorem dX2_searchFrom_39 : decode cX2_searchFrom 39 = .ok (.iload_n 1, 1) := by decide +kernel
theorem dX2_searchFrom_40 : decode cX2_searchFrom 40 = .ok (.invokevirtual 70, 3) := by decide +kernel
theorem dX2_searchFrom_43 : decode cX2_searchFrom 43 = .ok (.aload_n 0, 1) := by decide +kernel
theorem dX2_searchFrom_44 : decode cX2_searchFrom 44 = .ok (.getfield 28, 3) := by decide +kernel
theorem dX2_searchFrom_47 : decode cX2_searchFrom 47 = .ok (.iload_n 1, 1) := by decide +kernel
theorem dX2_searchFrom_48 : decode cX2_searchFrom 48 = .ok (.invokevirtual 73, 3) := by decide +kernel
theorem dX2_searchFrom_51 : decode cX2_searchFrom 51 = .ok (.aload_n 0, 1) := by decide +kernel
theorem dX2_searchFrom_52 : decode cX2_searchFrom 52 = .ok (.getfield 28, 3) := by decide +kernel
theorem dX2_searchFrom_55 : decode cX2_searchFrom 55 = .ok (.getfield 76, 3) := by decide +kernel
theorem dX2_searchFrom_58 : decode cX2_searchFrom 58 = .ok (.iconst 1, 1) := by decide +kernel
theorem dX2_searchFrom_59 : decode cX2_searchFrom 59 = .ok (.isub, 1) := by decide +kernel
theorem dX2_searchFrom_60 : decode cX2_searchFrom 60 = .ok (.aload_n 2, 1) := by decide +kernel
theorem dX2_searchFrom_61 : decode cX2_searchFrom 61 = .ok (.invokestatic 79, 3) := by decide +kernel
theorem dX2_searchFrom_64 : decode cX2_searchFrom 64 = .ok (.iconst 0, 1) := by decide +kernel
theorem dX2_searchFrom_65 : decode cX2_searchFrom 65 = .ok (.istore_n 3, 1) := by decide +kernel
theorem dX2_searchFrom_66 : decode cX2_searchFrom 66 = .ok (.iconst (-1), 1) := by decide +kernel
theorem dX2_searchFrom_67 : decode cX2_searchFrom 67 = .ok (.istore 4, 2) := by decide +kernel
theorem dX2_searchFrom_69 : decode cX2_searchFrom 69 = .ok (.iconst 0, 1) := by decide +kernel
theorem dX2_searchFrom_70 : decode cX2_searchFrom 70 = .ok (.istore 5, 2) := by decide +kernel
theorem dX2_searchFrom_72 : decode cX2_searchFrom 72 = .ok (.iload 5, 2) := by decide +kernel
theorem dX2_searchFrom_74 : decode cX2_searchFrom 74 = .ok (.aload_n 0, 1) := by decide +kernel
theorem dX2_searchFrom_75 : decode cX2_searchFrom 75 = .ok (.getfield 28, 3) := by decide +kernel
theorem dX2_searchFrom_78 : decode cX2_searchFrom 78 = .ok (.getfield 76, 3) := by decide +kernel
theorem dX2_searchFrom_81 : decode cX2_searchFrom 81 = .ok (.if_icmp .ge 74, 3) := by decide +kernel
theorem dX2_searchFrom_84 : decode cX2_searchFrom 84 = .ok (.aload_n 2, 1) := by decide +kernel
theorem dX2_searchFrom_85 : decode cX2_searchFrom 85 = .ok (.iload 5, 2) := by decide +kernel
theorem dX2_searchFrom_87 : decode cX2_searchFrom 87 = .ok (.iaload, 1) := by decide +kernel
theorem dX2_searchFrom_88 : decode cX2_searchFrom 88 = .ok (.ifCond .ne 8, 3) := by decide +kernel
theorem dX2_searchFrom_91 : decode cX2_searchFrom 91 = .ok (.iload 4, 2) := by decide +kernel
theorem dX2_searchFrom_93 : decode cX2_searchFrom 93 = .ok (.goto 4, 3) := by decide +kernel
theorem dX2_searchFrom_96 : decode cX2_searchFrom 96 = .ok (.iconst (-1), 1) := by decide +kernel
theorem dX2_searchFrom_97 : decode cX2_searchFrom 97 = .ok (.istore 6, 2) := by decide +kernel
theorem dX2_searchFrom_99 : decode cX2_searchFrom 99 = .ok (.iload 6, 2) := by decide +kernel
theorem dX2_searchFrom_101 : decode cX2_searchFrom 101 = .ok (.ifCond .ge 14, 3) := by decide +kernel
theorem dX2_searchFrom_104 : decode cX2_searchFrom 104 = .ok (.aload_n 0, 1) := by decide +kernel
theorem dX2_searchFrom_105 : decode cX2_searchFrom 105 = .ok (.iload_n 1, 1) := by decide +kernel
theorem dX2_searchFrom_106 : decode cX2_searchFrom 106 = .ok (.aload_n 2, 1) := by decide +kernel
theorem dX2_searchFrom_107 : decode cX2_searchFrom 107 = .ok (.iload 5, 2) := by decide +kernel
theorem dX2_searchFrom_109 : decode cX2_searchFrom 109 = .ok (.iaload, 1) := by decide +kernel
theorem dX2_searchFrom_110 : decode cX2_searchFrom 110 = .ok (.invokevirtual 85, 3) := by decide +kernel
theorem dX2_searchFrom_113 : decode cX2_searchFrom 113 = .ok (.istore 6, 2) := by decide +kernel
theorem dX2_searchFrom_115 : decode cX2_searchFrom 115 = .ok (.aload_n 2, 1) := by decide +kernel
theorem dX2_searchFrom_116 : decode cX2_searchFrom 116 = .ok (.iload 5, 2) := by decide +kernel
theorem dX2_searchFrom_118 : decode cX2_searchFrom 118 = .ok (.iaload, 1) := by decide +kernel
theorem dX2_searchFrom_119 : decode cX2_searchFrom 119 = .ok (.ifCond .ne 7, 3) := by decide +kernel
theorem dX2_searchFrom_122 : decode cX2_searchFrom 122 = .ok (.iload 6, 2) := by decide +kernel
theorem dX2_searchFrom_124 : decode cX2_searchFrom 124 = .ok (.istore 4, 2) := by decide +kernel
theorem dX2_searchFrom_126 : decode cX2_searchFrom 126 = .ok (.iload 6, 2) := by decide +kernel
theorem dX2_searchFrom_128 : decode cX2_searchFrom 128 = .ok (.ifCond .le 16, 3) := by decide +kernel
theorem dX2_searchFrom_131 : decode cX2_searchFrom 131 = .ok (.aload_n 0, 1) := by decide +kernel
theorem dX2_searchFrom_132 : decode cX2_searchFrom 132 = .ok (.getfield 15, 3) := by decide +kernel
theorem dX2_searchFrom_135 : decode cX2_searchFrom 135 = .ok (.iload_n 1, 1) := by decide +kernel
theorem dX2_searchFrom_136 : decode cX2_searchFrom 136 = .ok (.dup2, 1) := by decide +kernel
theorem dX2_searchFrom_137 : decode cX2_searchFrom 137 = .ok (.iaload, 1) := by decide +kernel
theorem dX2_searchFrom_138 : decode cX2_searchFrom 138 = .ok (.iconst 1, 1) := by decide +kernel
theorem dX2_searchFrom_139 : decode cX2_searchFrom 139 = .ok (.iload 5, 2) := by decide +kernel
theorem dX2_searchFrom_141 : decode cX2_searchFrom 141 = .ok (.ishl, 1) := by decide +kernel
theorem dX2_searchFrom_142 : decode cX2_searchFrom 142 = .ok (.ior, 1) := by decide +kernel
theorem dX2_searchFrom_143 : decode cX2_searchFrom 143 = .ok (.iastore, 1) := by decide +kernel
theorem dX2_searchFrom_144 : decode cX2_searchFrom 144 = .ok (.iload_n 3, 1) := by decide +kernel
theorem dX2_searchFrom_145 : decode cX2_searchFrom 145 = .ok (.iload 6, 2) := by decide +kernel
theorem dX2_searchFrom_147 : decode cX2_searchFrom 147 = .ok (.iadd, 1) := by decide +kernel
theorem dX2_searchFrom_148 : decode cX2_searchFrom 148 = .ok (.istore_n 3, 1) := by decide +kernel
theorem dX2_searchFrom_149 : decode cX2_searchFrom 149 = .ok (.iinc 5 1, 3) := by decide +kernel
theorem dX2_searchFrom_152 : decode cX2_searchFrom 152 = .ok (.goto (-80), 3) := by decide +kernel
theorem dX2_searchFrom_155 : decode cX2_searchFrom 155 = .ok (.iload_n 3, 1) := by decide +kernel
theorem dX2_searchFrom_156 : decode cX2_searchFrom 156 = .ok (.ireturn, 1) := by decide +kernel
theorem mkX2_searchFrom_0 : mokV (qX2_searchFrom 0) 1 := ⟨⟨⟨⟨by decide, by decide, by decide +kernel⟩, by decide⟩, gd_mem 57 (by decide +kernel) (by decide +kernel), gd_mem 790 (by decide +kernel) (by decide +kernel)⟩, gd_mem 789 (by decide +kernel) (by decide +kernel), gd_mem 15 (by decide +kernel) (by decide +kernel)⟩
theorem mkX2_searchFrom (d : Nat) : mokV (qX2_searchFrom d) 1 := by
  have h := mkX2_searchFrom_0
  unfold mokV mok at *
  exact h
abbrev qX2_search : mMI := (yX2_search, cX2_search, 2, (some .int), 27)
theorem dX2_search_0 : decode cX2_search 0 = .ok (.aload_n 0, 1) := by decide +kernel
theorem dX2_search_1 : decode cX2_search 1 = .ok (.getfield 28, 3) := by decide +kernel
theorem dX2_search_4 : decode cX2_search 4 = .ok (.aload_n 1, 1) := by decide +kernel
theorem dX2_search_5 : decode cX2_search 5 = .ok (.invokevirtual 40, 3) := by decide +kernel
theorem dX2_search_8 : decode cX2_search 8 = .ok (.aload_n 0, 1) := by decide +kernel
theorem dX2_search_9 : decode cX2_search 9 = .ok (.getfield 15, 3) := by decide +kernel
theorem dX2_search_12 : decode cX2_search 12 = .ok (.iconst 0, 1) := by decide +kernel
theorem dX2_search_13 : decode cX2_search 13 = .ok (.invokestatic 44, 3) := by decide +kernel
theorem dX2_search_16 : decode cX2_search 16 = .ok (.aload_n 1, 1) := by decide +kernel
theorem dX2_search_17 : decode cX2_search 17 = .ok (.getfield 50, 3) := by decide +kernel
theorem dX2_search_20 : decode cX2_search 20 = .ok (.iconst 0, 1) := by decide +kernel
theorem dX2_search_21 : decode cX2_search 21 = .ok (.aload_n 0, 1) := by decide +kernel
theorem dX2_search_22 : decode cX2_search 22 = .ok (.getfield 34, 3) := by decide +kernel
theorem dX2_search_25 : decode cX2_search 25 = .ok (.iconst 0, 1) := by decide +kernel
theorem dX2_search_26 : decode cX2_search 26 = .ok (.aaload, 1) := by decide +kernel
theorem dX2_search_27 : decode cX2_search 27 = .ok (.iconst 0, 1) := by decide +kernel
theorem dX2_search_28 : decode cX2_search 28 = .ok (.bipush 10, 2) := by decide +kernel
theorem dX2_search_30 : decode cX2_search 30 = .ok (.invokestatic 53, 3) := by decide +kernel
theorem dX2_search_33 : decode cX2_search 33 = .ok (.aload_n 0, 1) := by decide +kernel
theorem dX2_search_34 : decode cX2_search 34 = .ok (.iconst 0, 1) := by decide +kernel
theorem dX2_search_35 : decode cX2_search 35 = .ok (.invokevirtual 59, 3) := by decide +kernel
theorem dX2_search_38 : decode cX2_search 38 = .ok (.ireturn, 1) := by decide +kernel
theorem mkX2_search : mokV qX2_search 1 := ⟨⟨⟨⟨by decide, by decide, by decide +kernel⟩, by decide⟩, gd_mem 57 (by decide +kernel) (by decide +kernel), gd_mem 781 (by decide +kernel) (by decide +kernel)⟩, gd_mem 779 (by decide +kernel) (by decide +kernel), gd_mem 780 (by decide +kernel) (by decide +kernel)⟩
theorem lfX2_9 : Cond.fieldLink RX2 9 "RankStairs$Dust" "seen" "I" ∈ gdL := gd_mem 257 (by decide +kernel) (by decide +kernel)
theorem gIX2_9 {q : mMI} {X : mCx} {tgt : mR} {pc : Nat} {lv : List (Nat × Value)} {st : List Value} {μ : mMem} {b : Nat} (hq : q.1.cls = RX2) (hb : kd b = (2, 0)) (hd : decode q.2.1 pc = .ok (.getfield 9, 3)) (h : T q X tgt (pc + 3) lv (.int (μ.1 b 0) :: st) μ) : T q X tgt pc lv (.ref b :: st) μ := T_getI (c := 2) rfl (by decide) rfl (by decide) (by rw [hq]; exact lfX2_9) hb hd h
theorem pIX2_9 {q : mMI} {X : mCx} {tgt : mR} {pc : Nat} {lv : List (Nat × Value)} {st : List Value} {μ : mMem} {b : Nat} {x : Int32} (hq : q.1.cls = RX2) (hn : narrow .int (.int x) = .int x) (hfit : fits .int (.int x) = true) (hb : kd b = (2, 0)) (hd : decode q.2.1 pc = .ok (.putfield 9, 3)) (h : T q X tgt (pc + 3) lv st (si μ b 0 x)) : T q X tgt pc lv (.int x :: .ref b :: st) μ := T_put (c := 2) rfl (by decide) rfl (by decide) (by rw [hq]; exact lfX2_9) (by decide) hn hfit hb hd h
theorem lfX2_19 : Cond.fieldLink RX2 19 "RankStairs$Dust" "seenSteps" "[I" ∈ gdL := gd_mem 261 (by decide +kernel) (by decide +kernel)
theorem gRX2_19 {q : mMI} {X : mCx} {tgt : mR} {pc : Nat} {lv : List (Nat × Value)} {st : List Value} {μ : mMem} {b : Nat} (hq : q.1.cls = RX2) (hb : kd b = (2, 0)) (z : Nat) (hz : rf b 2 = z) (hd : decode q.2.1 pc = .ok (.getfield 19, 3)) (h : T q X tgt (pc + 3) lv (.ref z :: st) μ) : T q X tgt pc lv (.ref b :: st) μ := T_getR (c := 2) rfl (by decide) rfl (by decide) (by rw [hq]; exact lfX2_19) hb z hz hd h
theorem lfX2_22 : Cond.fieldLink RX2 22 "RankStairs$Dust" "seenMore" "[I" ∈ gdL := gd_mem 262 (by decide +kernel) (by decide +kernel)
theorem gRX2_22 {q : mMI} {X : mCx} {tgt : mR} {pc : Nat} {lv : List (Nat × Value)} {st : List Value} {μ : mMem} {b : Nat} (hq : q.1.cls = RX2) (hb : kd b = (2, 0)) (z : Nat) (hz : rf b 3 = z) (hd : decode q.2.1 pc = .ok (.getfield 22, 3)) (h : T q X tgt (pc + 3) lv (.ref z :: st) μ) : T q X tgt pc lv (.ref b :: st) μ := T_getR (c := 2) rfl (by decide) rfl (by decide) (by rw [hq]; exact lfX2_22) hb z hz hd h
def fX2_note (x1 : Int32) (x2 : Int32) (m : mMem) : mR := if (m.1 65 0) < (6 : Int32) then ga (m.1 65 0) 6 (lt (si m 67 ((m.1 65 0)).toNatClampNeg x1) (fun m1 => ga (m1.1 65 0) 6 (lt (si m1 68 ((m1.1 65 0)).toNatClampNeg x2) (fun m2 => lt (si m2 65 0 ((m2.1 65 0) + (1 : Int32))) (fun m3 => some (some (.int (m3.1 65 0)), m3)))))) else some (some (.int (-3 : Int32)), m)
set_option maxRecDepth 100000 in
theorem bsX2_note (l : Launch) (x1 : Int32) (x2 : Int32) (m : mMem)  : BS l qX2_note [.ref 65, .int x1, .int x2] m (fX2_note x1 x2 m) := BS_of (by decide) (Nat.le_of_ble_eq_true rfl) (fun X _ => by
    show T qX2_note X (fX2_note x1 x2 m) 0 [(0, .ref 65), (1, .int x1), (2, .int x2)] [] m
    unfold fX2_note
    refine T_aload_n 0 rfl rfl dX2_note_0 ?_
    refine gIX2_9 rfl kd_65 dX2_note_1 ?_
    refine T_bipush (6 : Int32) (by decide) dX2_note_4 ?_
    refine T_icmp_lt 12 dX2_note_6 (by decide) (fun _ => ?_) (fun _ => ?_)
    · refine T_aload_n 0 rfl rfl dX2_note_12 ?_
      refine gRX2_19 rfl kd_65 67 rfl dX2_note_13 ?_
      refine T_aload_n 0 rfl rfl dX2_note_16 ?_
      refine gIX2_9 rfl kd_65 dX2_note_17 ?_
      refine T_iload_n 1 rfl rfl dX2_note_20 ?_
      refine T_iast _ rfl kd_67 dX2_note_21 ?_
      refine T_lt (fun m1 => ?_)
      refine T_aload_n 0 rfl rfl dX2_note_22 ?_
      refine gRX2_22 rfl kd_65 68 rfl dX2_note_23 ?_
      refine T_aload_n 0 rfl rfl dX2_note_26 ?_
      refine gIX2_9 rfl kd_65 dX2_note_27 ?_
      refine T_iload_n 2 rfl rfl dX2_note_30 ?_
      refine T_iast _ rfl kd_68 dX2_note_31 ?_
      refine T_lt (fun m2 => ?_)
      refine T_aload_n 0 rfl rfl dX2_note_32 ?_
      refine T_dup rfl dX2_note_33 ?_
      refine gIX2_9 rfl kd_65 dX2_note_34 ?_
      refine T_iconst (1 : Int32) (by decide) dX2_note_37 ?_
      refine T_iadd dX2_note_38 ?_
      refine pIX2_9 rfl rfl rfl kd_65 dX2_note_39 ?_
      refine T_lt (fun m3 => ?_)
      refine T_aload_n 0 rfl rfl dX2_note_42 ?_
      refine gIX2_9 rfl kd_65 dX2_note_43 ?_
      exact T_iret rfl dX2_note_46
    · refine T_bipush (-3 : Int32) (by decide) dX2_note_9 ?_
      exact T_iret rfl dX2_note_11)
theorem lfX2_28 : Cond.fieldLink RX2 28 "RankStairs$Dust" "trial" "LRankStairs$House;" ∈ gdL := gd_mem 263 (by decide +kernel) (by decide +kernel)
theorem gRX2_28 {q : mMI} {X : mCx} {tgt : mR} {pc : Nat} {lv : List (Nat × Value)} {st : List Value} {μ : mMem} {b : Nat} (hq : q.1.cls = RX2) (hb : kd b = (2, 0)) (z : Nat) (hz : rf b 4 = z) (hd : decode q.2.1 pc = .ok (.getfield 28, 3)) (h : T q X tgt (pc + 3) lv (.ref z :: st) μ) : T q X tgt pc lv (.ref b :: st) μ := T_getR (c := 2) rfl (by decide) rfl (by decide) (by rw [hq]; exact lfX2_28) hb z hz hd h
theorem lfX2_34 : Cond.fieldLink RX2 34 "RankStairs$Dust" "wearsAt" "[[I" ∈ gdL := gd_mem 264 (by decide +kernel) (by decide +kernel)
theorem gRX2_34 {q : mMI} {X : mCx} {tgt : mR} {pc : Nat} {lv : List (Nat × Value)} {st : List Value} {μ : mMem} {b : Nat} (hq : q.1.cls = RX2) (hb : kd b = (2, 0)) (z : Nat) (hz : rf b 5 = z) (hd : decode q.2.1 pc = .ok (.getfield 34, 3)) (h : T q X tgt (pc + 3) lv (.ref z :: st) μ) : T q X tgt pc lv (.ref b :: st) μ := T_getR (c := 2) rfl (by decide) rfl (by decide) (by rw [hq]; exact lfX2_34) hb z hz hd h
theorem lfX2_67 : Cond.fieldLink RX2 67 "RankStairs$House" "lodgers" "I" ∈ gdL := gd_mem 132 (by decide +kernel) (by decide +kernel)
theorem gIX2_67 {q : mMI} {X : mCx} {tgt : mR} {pc : Nat} {lv : List (Nat × Value)} {st : List Value} {μ : mMem} {b : Nat} (hq : q.1.cls = RX2) (hb : kd b = (4, 0)) (hd : decode q.2.1 pc = .ok (.getfield 67, 3)) (h : T q X tgt (pc + 3) lv (.int (μ.1 b 1) :: st) μ) : T q X tgt pc lv (.ref b :: st) μ := T_getI (c := 4) rfl (by decide) rfl (by decide) (by rw [hq]; exact lfX2_67) hb hd h
theorem pIX2_67 {q : mMI} {X : mCx} {tgt : mR} {pc : Nat} {lv : List (Nat × Value)} {st : List Value} {μ : mMem} {b : Nat} {x : Int32} (hq : q.1.cls = RX2) (hn : narrow .int (.int x) = .int x) (hfit : fits .int (.int x) = true) (hb : kd b = (4, 0)) (hd : decode q.2.1 pc = .ok (.putfield 67, 3)) (h : T q X tgt (pc + 3) lv st (si μ b 1 x)) : T q X tgt pc lv (.int x :: .ref b :: st) μ := T_put (c := 4) rfl (by decide) rfl (by decide) (by rw [hq]; exact lfX2_67) (by decide) hn hfit hb hd h
def bX2_canBeSo_14 (x1 : Int32) (x2 : Int32) (k14 : Int32 × mMem → mR) (s : Int32 × mMem) : mR := match s with
  | (x3, m) => if (m.1 65 0) ≤ x3 then some (some (.int (1 : Int32)), m) else ga x3 6 (li (m.1 67 (x3).toNatClampNeg) (fun y2 => ga x3 6 (ga x1 5 (ga y2 10 (ga (0 : Int32) 5 (ga y2 10 (li ((m.1 68 (x3).toNatClampNeg) - ((m.1 (rf 69 (x1).toNatClampNeg) (y2).toNatClampNeg) - (m.1 (rf 69 ((0 : Int32)).toNatClampNeg) (y2).toNatClampNeg))) (fun y5 => if y5 < (0 : Int32) then some (some (.int (0 : Int32)), m) else if y5 ≤ x2 then li (x3 + (1 : Int32)) (fun y6 => k14 (y6, m)) else some (some (.int (0 : Int32)), m)))))))))
set_option maxRecDepth 100000 in
theorem tX2_canBeSo_14 (X : mCx) (x1 : Int32) (x2 : Int32)  : ∀ (n : Nat) (s : Int32 × mMem), T qX2_canBeSo X (lp (bX2_canBeSo_14 x1 x2) n s) 14 [(0, .ref 65), (1, .int x1), (2, .int x2), (3, .int s.1)] [] s.2 :=
  T_lp (body := bX2_canBeSo_14 x1 x2) (lv := fun s => [(0, .ref 65), (1, .int x1), (2, .int x2), (3, .int s.1)]) (st := fun _ => []) (μ := fun s : Int32 × mMem => s.2) (fun k14 hk14 s => by
    obtain ⟨x3, m⟩ := s
    show T qX2_canBeSo X (bX2_canBeSo_14 x1 x2 k14 (x3, m)) 14 [(0, .ref 65), (1, .int x1), (2, .int x2), (3, .int x3)] [] m
    unfold bX2_canBeSo_14
    dsimp only
    refine T_iload_n 3 rfl rfl dX2_canBeSo_14 ?_
    refine T_aload_n 0 rfl rfl dX2_canBeSo_15 ?_
    refine gIX2_9 rfl kd_65 dX2_canBeSo_16 ?_
    refine T_icmp_ge 77 dX2_canBeSo_19 (by decide) (fun _ => ?_) (fun _ => ?_)
    · refine T_iconst (1 : Int32) (by decide) dX2_canBeSo_77 ?_
      exact T_zretc (by decide) rfl dX2_canBeSo_78
    · refine T_aload_n 0 rfl rfl dX2_canBeSo_22 ?_
      refine gRX2_19 rfl kd_65 67 rfl dX2_canBeSo_23 ?_
      refine T_iload_n 3 rfl rfl dX2_canBeSo_26 ?_
      refine T_iald kd_67 dX2_canBeSo_27 ?_
      refine T_istore (lv' := [(4, .int (m.1 67 (x3).toNatClampNeg)), (0, .ref 65), (1, .int x1), (2, .int x2), (3, .int x3)]) (Nat.le_of_ble_eq_true rfl) rfl dX2_canBeSo_28 ?_
      refine T_li (fun y2 => ?_)
      refine T_aload_n 1 rfl rfl dX2_canBeSo_30 ?_
      refine gRX2_22 rfl kd_65 68 rfl dX2_canBeSo_31 ?_
      refine T_iload_n 4 rfl rfl dX2_canBeSo_34 ?_
      refine T_iald kd_68 dX2_canBeSo_35 ?_
      refine T_aload_n 1 rfl rfl dX2_canBeSo_36 ?_
      refine gRX2_34 rfl kd_65 69 rfl dX2_canBeSo_37 ?_
      refine T_iload_n 2 rfl rfl dX2_canBeSo_40 ?_
      refine T_aaldI kd_69 dX2_canBeSo_41 (fun hv3 => ?_)
      refine T_iload 0 rfl dX2_canBeSo_42 ?_
      refine T_iald (kdA69 hv3) dX2_canBeSo_44 ?_
      refine T_aload_n 1 rfl rfl dX2_canBeSo_45 ?_
      refine gRX2_34 rfl kd_65 69 rfl dX2_canBeSo_46 ?_
      refine T_iconst (0 : Int32) (by decide) dX2_canBeSo_49 ?_
      refine T_aaldI kd_69 dX2_canBeSo_50 (fun hv4 => ?_)
      refine T_iload 0 rfl dX2_canBeSo_51 ?_
      refine T_iald (kdA69 hv4) dX2_canBeSo_53 ?_
      refine T_isub dX2_canBeSo_54 ?_
      refine T_isub dX2_canBeSo_55 ?_
      refine T_istore (lv' := [(5, .int ((m.1 68 (x3).toNatClampNeg) - ((m.1 (rf 69 (x1).toNatClampNeg) (y2).toNatClampNeg) - (m.1 (rf 69 ((0 : Int32)).toNatClampNeg) (y2).toNatClampNeg)))), (4, .int y2), (0, .ref 65), (1, .int x1), (2, .int x2), (3, .int x3)]) (Nat.le_of_ble_eq_true rfl) rfl dX2_canBeSo_56 ?_
      refine T_li (fun y5 => ?_)
      refine T_iload 0 rfl dX2_canBeSo_58 ?_
      refine T_if_lt 69 dX2_canBeSo_60 (by decide) (fun _ => ?_) (fun _ => ?_)
      · refine T_iconst (0 : Int32) (by decide) dX2_canBeSo_69 ?_
        exact T_zretc (by decide) rfl dX2_canBeSo_70
      · refine T_iload 0 rfl dX2_canBeSo_63 ?_
        refine T_iload_n 4 rfl rfl dX2_canBeSo_65 ?_
        refine T_icmp_le 71 dX2_canBeSo_66 (by decide) (fun _ => ?_) (fun _ => ?_)
        · refine T_iinc (lv' := [(3, .int (x3 + (1 : Int32))), (5, .int y5), (4, .int y2), (0, .ref 65), (1, .int x1), (2, .int x2)]) 5 (1 : Int32) rfl (by decide) (Nat.le_of_ble_eq_true rfl) rfl dX2_canBeSo_71 ?_
          refine T_li (fun y6 => ?_)
          refine T_goto 14 dX2_canBeSo_74 (by decide) ?_
          exact T_sub [3, 4, 5, 0] rfl (hk14 (y6, m))
        · refine T_iconst (0 : Int32) (by decide) dX2_canBeSo_69 ?_
          exact T_zretc (by decide) rfl dX2_canBeSo_70)
def fX2_canBeSo (x1 : Int32) (m : mMem) : mR := li ((3 : Int32) * ((m.1 32 1) - x1)) (fun y1 => lp (bX2_canBeSo_14 x1 y1) FU ((0 : Int32), m))
set_option maxRecDepth 100000 in
theorem bsX2_canBeSo (l : Launch) (x1 : Int32) (m : mMem)  : BS l qX2_canBeSo [.ref 65, .int x1] m (fX2_canBeSo x1 m) := BS_of (by decide) (Nat.le_of_ble_eq_true rfl) (fun X _ => by
    show T qX2_canBeSo X (fX2_canBeSo x1 m) 0 [(0, .ref 65), (1, .int x1)] [] m
    unfold fX2_canBeSo
    refine T_iconst (3 : Int32) (by decide) dX2_canBeSo_0 ?_
    refine T_aload_n 0 rfl rfl dX2_canBeSo_1 ?_
    refine gRX2_28 rfl kd_65 32 rfl dX2_canBeSo_2 ?_
    refine gIX2_67 rfl kd_32 dX2_canBeSo_5 ?_
    refine T_iload_n 1 rfl rfl dX2_canBeSo_8 ?_
    refine T_isub dX2_canBeSo_9 ?_
    refine T_imul dX2_canBeSo_10 ?_
    refine T_istore_n (lv' := [(2, .int ((3 : Int32) * ((m.1 32 1) - x1))), (0, .ref 65), (1, .int x1)]) rfl (Nat.le_of_ble_eq_true rfl) rfl dX2_canBeSo_11 ?_
    refine T_li (fun y1 => ?_)
    refine T_iconst (0 : Int32) (by decide) dX2_canBeSo_12 ?_
    refine T_istore_n (lv' := [(3, .int (0 : Int32)), (2, .int y1), (0, .ref 65), (1, .int x1)]) rfl (Nat.le_of_ble_eq_true rfl) rfl dX2_canBeSo_13 ?_
    exact T_sub [2, 3, 1, 0] rfl (tX2_canBeSo_14 X x1 y1  FU ((0 : Int32), m)))
theorem lmX2_53 : Cond.methodLink RX2 53 arraycopyName ∈ gdL := gd_mem 786 (by decide +kernel) (by decide +kernel)
theorem lmX2_59 : Cond.methodLink RX2 59 yX2_searchFrom ∈ gdL := gd_mem 787 (by decide +kernel) (by decide +kernel)
theorem lmX2_89 : Cond.methodLink RX2 89 yX4_wearBy ∈ gdL := gd_mem 802 (by decide +kernel) (by decide +kernel)
theorem lfX2_50 : Cond.fieldLink RX2 50 "RankStairs$House" "wears" "[I" ∈ gdL := gd_mem 150 (by decide +kernel) (by decide +kernel)
theorem gRX2_50 {q : mMI} {X : mCx} {tgt : mR} {pc : Nat} {lv : List (Nat × Value)} {st : List Value} {μ : mMem} {b : Nat} (hq : q.1.cls = RX2) (hb : kd b = (4, 0)) (z : Nat) (hz : rf b 7 = z) (hd : decode q.2.1 pc = .ok (.getfield 50, 3)) (h : T q X tgt (pc + 3) lv (.ref z :: st) μ) : T q X tgt pc lv (.ref b :: st) μ := T_getR (c := 4) rfl (by decide) rfl (by decide) (by rw [hq]; exact lfX2_50) hb z hz hd h
def fX2_searchBehind (rec : Int32 → mMem → mR) (x1 : Int32) (x2 : Int32) (m : mMem) : mR := ga x1 5 (lt (ci m (rf 69 (x1).toNatClampNeg) 35 0 0 10) (fun m2 => bV (fX4_wearBy 32 x1 x2 m2) (fun m3 => ga (x1 + (1 : Int32)) 5 (lt (ci m3 35 (rf 69 ((x1 + (1 : Int32))).toNatClampNeg) 0 0 10) (fun m5 => bI (rec (x1 + (1 : Int32)) m5) (fun z7 m6 => some (some (.int z7), m6)))))))
set_option maxRecDepth 100000 in
theorem bsX2_searchBehind (l : Launch) (d : Nat) (rec : Int32 → mMem → mR) (hrec : ∀ (l : Launch) (x1 : Int32) (m : mMem), BS l (qX2_searchFrom d) [.ref 65, .int x1] m (rec x1 m)) (x1 : Int32) (x2 : Int32) (m : mMem)  : BS l (qX2_searchBehind d) [.ref 65, .int x1, .int x2] m (fX2_searchBehind rec x1 x2 m) := BS_of (by show plainName yX2_searchBehind.cls = true; decide) (Nat.le_of_ble_eq_true rfl) (fun X _ => by
    show T (qX2_searchBehind d) X (fX2_searchBehind rec x1 x2 m) 0 [(0, .ref 65), (1, .int x1), (2, .int x2)] [] m
    unfold fX2_searchBehind
    refine T_aload_n 0 rfl rfl dX2_searchBehind_0 ?_
    refine gRX2_34 rfl kd_65 69 rfl dX2_searchBehind_1 ?_
    refine T_iload_n 1 rfl rfl dX2_searchBehind_4 ?_
    refine T_aaldI kd_69 dX2_searchBehind_5 (fun hv1 => ?_)
    refine T_iconst (0 : Int32) (by decide) dX2_searchBehind_6 ?_
    refine T_aload_n 0 rfl rfl dX2_searchBehind_7 ?_
    refine gRX2_28 rfl kd_65 32 rfl dX2_searchBehind_8 ?_
    refine gRX2_50 rfl kd_32 35 rfl dX2_searchBehind_11 ?_
    refine T_iconst (0 : Int32) (by decide) dX2_searchBehind_14 ?_
    refine T_bipush (10 : Int32) (by decide) dX2_searchBehind_15 ?_
    refine T_cpyI (N := 10) (by decide) (by decide) (by decide) (by decide) lmX2_53 (by simp only [qX2_searchBehind, qX2_searchFrom]; omega) (Nat.le_of_ble_eq_true rfl) (kdA69 hv1) kd_35 dX2_searchBehind_17 ?_
    refine T_lt (fun m2 => ?_)
    refine T_aload_n 0 rfl rfl dX2_searchBehind_20 ?_
    refine gRX2_28 rfl kd_65 32 rfl dX2_searchBehind_21 ?_
    refine T_iload_n 1 rfl rfl dX2_searchBehind_24 ?_
    refine T_iload_n 2 rfl rfl dX2_searchBehind_25 ?_
    refine T_cVV (c := 4) [.int x1, .int x2] [] mkX4_wearBy lmX2_89 rfl rfl (by simp only [qX2_searchBehind, qX2_searchFrom]; omega) (Nat.le_of_ble_eq_true rfl) kd_32 dX2_searchBehind_26 (bsX4_wearBy _ 32 x1 x2 m2 kd_32) (fun m3 => ?_)
    refine T_aload_n 0 rfl rfl dX2_searchBehind_29 ?_
    refine gRX2_28 rfl kd_65 32 rfl dX2_searchBehind_30 ?_
    refine gRX2_50 rfl kd_32 35 rfl dX2_searchBehind_33 ?_
    refine T_iconst (0 : Int32) (by decide) dX2_searchBehind_36 ?_
    refine T_aload_n 0 rfl rfl dX2_searchBehind_37 ?_
    refine gRX2_34 rfl kd_65 69 rfl dX2_searchBehind_38 ?_
    refine T_iload_n 1 rfl rfl dX2_searchBehind_41 ?_
    refine T_iconst (1 : Int32) (by decide) dX2_searchBehind_42 ?_
    refine T_iadd dX2_searchBehind_43 ?_
    refine T_aaldI kd_69 dX2_searchBehind_44 (fun hv4 => ?_)
    refine T_iconst (0 : Int32) (by decide) dX2_searchBehind_45 ?_
    refine T_bipush (10 : Int32) (by decide) dX2_searchBehind_46 ?_
    refine T_cpyI (N := 10) (by decide) (by decide) (by decide) (by decide) lmX2_53 (by simp only [qX2_searchBehind, qX2_searchFrom]; omega) (Nat.le_of_ble_eq_true rfl) kd_35 (kdA69 hv4) dX2_searchBehind_48 ?_
    refine T_lt (fun m5 => ?_)
    refine T_aload_n 0 rfl rfl dX2_searchBehind_51 ?_
    refine T_iload_n 1 rfl rfl dX2_searchBehind_52 ?_
    refine T_iconst (1 : Int32) (by decide) dX2_searchBehind_53 ?_
    refine T_iadd dX2_searchBehind_54 ?_
    refine T_cVI (c := 2) [.int (x1 + (1 : Int32))] [] (mkX2_searchFrom d) lmX2_59 rfl rfl (by simp only [qX2_searchBehind, qX2_searchFrom]; omega) (Nat.le_of_ble_eq_true rfl) kd_65 dX2_searchBehind_55 (hrec _ (x1 + (1 : Int32)) m5) (fun z7 m6 => ?_)
    exact T_iret rfl dX2_searchBehind_58)
theorem lmX2_63 : Cond.methodLink RX2 63 yX2_canBeSo ∈ gdL := gd_mem 791 (by decide +kernel) (by decide +kernel)
theorem lmX2_70 : Cond.methodLink RX2 70 yX4_treadBits ∈ gdL := gd_mem 795 (by decide +kernel) (by decide +kernel)
theorem lmX2_73 : Cond.methodLink RX2 73 yX4_reachOf ∈ gdL := gd_mem 796 (by decide +kernel) (by decide +kernel)
theorem lmX2_79 : Cond.methodLink RX2 79 yX1_findPaths ∈ gdL := gd_mem 797 (by decide +kernel) (by decide +kernel)
theorem lmX2_85 : Cond.methodLink RX2 85 yX2_searchBehind ∈ gdL := gd_mem 798 (by decide +kernel) (by decide +kernel)
theorem lfX2_15 : Cond.fieldLink RX2 15 "RankStairs$Dust" "floorBits" "[I" ∈ gdL := gd_mem 259 (by decide +kernel) (by decide +kernel)
theorem gRX2_15 {q : mMI} {X : mCx} {tgt : mR} {pc : Nat} {lv : List (Nat × Value)} {st : List Value} {μ : mMem} {b : Nat} (hq : q.1.cls = RX2) (hb : kd b = (2, 0)) (z : Nat) (hz : rf b 1 = z) (hd : decode q.2.1 pc = .ok (.getfield 15, 3)) (h : T q X tgt (pc + 3) lv (.ref z :: st) μ) : T q X tgt pc lv (.ref b :: st) μ := T_getR (c := 2) rfl (by decide) rfl (by decide) (by rw [hq]; exact lfX2_15) hb z hz hd h
theorem lfX2_37 : Cond.fieldLink RX2 37 "RankStairs$Dust" "pathsAt" "[[I" ∈ gdL := gd_mem 265 (by decide +kernel) (by decide +kernel)
theorem gRX2_37 {q : mMI} {X : mCx} {tgt : mR} {pc : Nat} {lv : List (Nat × Value)} {st : List Value} {μ : mMem} {b : Nat} (hq : q.1.cls = RX2) (hb : kd b = (2, 0)) (z : Nat) (hz : rf b 6 = z) (hd : decode q.2.1 pc = .ok (.getfield 37, 3)) (h : T q X tgt (pc + 3) lv (.ref z :: st) μ) : T q X tgt pc lv (.ref b :: st) μ := T_getR (c := 2) rfl (by decide) rfl (by decide) (by rw [hq]; exact lfX2_37) hb z hz hd h
theorem lfX2_76 : Cond.fieldLink RX2 76 "RankStairs$House" "steps" "I" ∈ gdL := gd_mem 126 (by decide +kernel) (by decide +kernel)
theorem gIX2_76 {q : mMI} {X : mCx} {tgt : mR} {pc : Nat} {lv : List (Nat × Value)} {st : List Value} {μ : mMem} {b : Nat} (hq : q.1.cls = RX2) (hb : kd b = (4, 0)) (hd : decode q.2.1 pc = .ok (.getfield 76, 3)) (h : T q X tgt (pc + 3) lv (.int (μ.1 b 0) :: st) μ) : T q X tgt pc lv (.ref b :: st) μ := T_getI (c := 4) rfl (by decide) rfl (by decide) (by rw [hq]; exact lfX2_76) hb hd h
theorem pIX2_76 {q : mMI} {X : mCx} {tgt : mR} {pc : Nat} {lv : List (Nat × Value)} {st : List Value} {μ : mMem} {b : Nat} {x : Int32} (hq : q.1.cls = RX2) (hn : narrow .int (.int x) = .int x) (hfit : fits .int (.int x) = true) (hb : kd b = (4, 0)) (hd : decode q.2.1 pc = .ok (.putfield 76, 3)) (h : T q X tgt (pc + 3) lv st (si μ b 0 x)) : T q X tgt pc lv (.int x :: .ref b :: st) μ := T_put (c := 4) rfl (by decide) rfl (by decide) (by rw [hq]; exact lfX2_76) (by decide) hn hfit hb hd h
def jX2_searchFrom_126 (rec : Int32 → mMem → mR) (k72 : Int32 × Int32 × Int32 × mMem → mR) (x1 : Int32) (r2 : Nat) (x3 : Int32) (x4 : Int32) (x5 : Int32) (x6 : Int32) (m : mMem) : mR := if x6 ≤ (0 : Int32) then li (x3 + x6) (fun y12 => li (x5 + (1 : Int32)) (fun y13 => k72 (y12, x4, y13, m))) else ga x1 4 (ga x1 4 (lt (si m 66 (x1).toNatClampNeg ((m.1 66 (x1).toNatClampNeg) ||| ((1 : Int32) <<< (x5 &&& 31)))) (fun m14 => li (x3 + x6) (fun y15 => li (x5 + (1 : Int32)) (fun y16 => k72 (y15, x4, y16, m14))))))
set_option maxRecDepth 100000 in
theorem uX2_searchFrom_126 (X : mCx) (rec : Int32 → mMem → mR) (k72 : Int32 × Int32 × Int32 × mMem → mR) (x1 : Int32) (r2 : Nat) (x3 : Int32) (x4 : Int32) (x5 : Int32) (x6 : Int32) (m : mMem) (h2 : kd r2 = (10, 10)) (d : Nat) (hrec : ∀ (l : Launch) (x1 : Int32) (m : mMem), BS l (qX2_searchFrom d) [.ref 65, .int x1] m (rec x1 m)) (hk72 : ∀ s : Int32 × Int32 × Int32 × mMem, T (qX2_searchFrom (d + 1)) X (k72 s) 72 [(0, .ref 65), (1, .int x1), (2, .ref r2), (3, .int s.1), (4, .int s.2.1), (5, .int s.2.2.1)] [] s.2.2.2) : T (qX2_searchFrom (d + 1)) X (jX2_searchFrom_126 rec k72 x1 r2 x3 x4 x5 x6 m) 126 [(0, .ref 65), (1, .int x1), (2, .ref r2), (3, .int x3), (4, .int x4), (5, .int x5), (6, .int x6)] [] m := by
  unfold jX2_searchFrom_126
  refine T_iload 6 rfl dX2_searchFrom_126 ?_
  refine T_if_le 144 dX2_searchFrom_128 (by decide) (fun _ => ?_) (fun _ => ?_)
  · refine T_iload_n 3 rfl rfl dX2_searchFrom_144 ?_
    refine T_iload 6 rfl dX2_searchFrom_145 ?_
    refine T_iadd dX2_searchFrom_147 ?_
    refine T_istore_n (lv' := [(3, .int (x3 + x6)), (0, .ref 65), (1, .int x1), (2, .ref r2), (4, .int x4), (5, .int x5), (6, .int x6)]) rfl (Nat.le_of_ble_eq_true rfl) rfl dX2_searchFrom_148 ?_
    refine T_li (fun y12 => ?_)
    refine T_iinc (lv' := [(5, .int (x5 + (1 : Int32))), (3, .int y12), (0, .ref 65), (1, .int x1), (2, .ref r2), (4, .int x4), (6, .int x6)]) 5 (1 : Int32) rfl (by decide) (Nat.le_of_ble_eq_true rfl) rfl dX2_searchFrom_149 ?_
    refine T_li (fun y13 => ?_)
    refine T_goto 72 dX2_searchFrom_152 (by decide) ?_
    exact T_sub [2, 3, 4, 1, 5, 0] rfl (hk72 (y12, x4, y13, m))
  · refine T_aload_n 0 rfl rfl dX2_searchFrom_131 ?_
    refine gRX2_15 rfl kd_65 66 rfl dX2_searchFrom_132 ?_
    refine T_iload_n 1 rfl rfl dX2_searchFrom_135 ?_
    refine T_dup2 rfl rfl dX2_searchFrom_136 ?_
    refine T_iald kd_66 dX2_searchFrom_137 ?_
    refine T_iconst (1 : Int32) (by decide) dX2_searchFrom_138 ?_
    refine T_iload 5 rfl dX2_searchFrom_139 ?_
    refine T_ishl dX2_searchFrom_141 ?_
    refine T_ior dX2_searchFrom_142 ?_
    refine T_iast _ rfl kd_66 dX2_searchFrom_143 ?_
    refine T_lt (fun m14 => ?_)
    refine T_iload_n 3 rfl rfl dX2_searchFrom_144 ?_
    refine T_iload 6 rfl dX2_searchFrom_145 ?_
    refine T_iadd dX2_searchFrom_147 ?_
    refine T_istore_n (lv' := [(3, .int (x3 + x6)), (0, .ref 65), (1, .int x1), (2, .ref r2), (4, .int x4), (5, .int x5), (6, .int x6)]) rfl (Nat.le_of_ble_eq_true rfl) rfl dX2_searchFrom_148 ?_
    refine T_li (fun y15 => ?_)
    refine T_iinc (lv' := [(5, .int (x5 + (1 : Int32))), (3, .int y15), (0, .ref 65), (1, .int x1), (2, .ref r2), (4, .int x4), (6, .int x6)]) 5 (1 : Int32) rfl (by decide) (Nat.le_of_ble_eq_true rfl) rfl dX2_searchFrom_149 ?_
    refine T_li (fun y16 => ?_)
    refine T_goto 72 dX2_searchFrom_152 (by decide) ?_
    exact T_sub [2, 3, 4, 1, 5, 0] rfl (hk72 (y15, x4, y16, m14))
def jX2_searchFrom_115 (rec : Int32 → mMem → mR) (k72 : Int32 × Int32 × Int32 × mMem → mR) (x1 : Int32) (r2 : Nat) (x3 : Int32) (x4 : Int32) (x5 : Int32) (x6 : Int32) (m : mMem) : mR := ga x5 10 (if (m.1 r2 (x5).toNatClampNeg) = (0 : Int32) then jX2_searchFrom_126 rec k72 x1 r2 x3 x6 x5 x6 m else jX2_searchFrom_126 rec k72 x1 r2 x3 x4 x5 x6 m)
set_option maxRecDepth 100000 in
theorem uX2_searchFrom_115 (X : mCx) (rec : Int32 → mMem → mR) (k72 : Int32 × Int32 × Int32 × mMem → mR) (x1 : Int32) (r2 : Nat) (x3 : Int32) (x4 : Int32) (x5 : Int32) (x6 : Int32) (m : mMem) (h2 : kd r2 = (10, 10)) (d : Nat) (hrec : ∀ (l : Launch) (x1 : Int32) (m : mMem), BS l (qX2_searchFrom d) [.ref 65, .int x1] m (rec x1 m)) (hk72 : ∀ s : Int32 × Int32 × Int32 × mMem, T (qX2_searchFrom (d + 1)) X (k72 s) 72 [(0, .ref 65), (1, .int x1), (2, .ref r2), (3, .int s.1), (4, .int s.2.1), (5, .int s.2.2.1)] [] s.2.2.2) : T (qX2_searchFrom (d + 1)) X (jX2_searchFrom_115 rec k72 x1 r2 x3 x4 x5 x6 m) 115 [(0, .ref 65), (1, .int x1), (2, .ref r2), (3, .int x3), (4, .int x4), (5, .int x5), (6, .int x6)] [] m := by
  unfold jX2_searchFrom_115
  refine T_aload_n 2 rfl rfl dX2_searchFrom_115 ?_
  refine T_iload 5 rfl dX2_searchFrom_116 ?_
  refine T_iald h2 dX2_searchFrom_118 ?_
  refine T_if_ne 126 dX2_searchFrom_119 (by decide) (fun _ => ?_) (fun _ => ?_)
  · refine T_iload 6 rfl dX2_searchFrom_122 ?_
    refine T_istore (lv' := [(4, .int x6), (0, .ref 65), (1, .int x1), (2, .ref r2), (3, .int x3), (5, .int x5), (6, .int x6)]) (Nat.le_of_ble_eq_true rfl) rfl dX2_searchFrom_124 ?_
    exact T_sub [1, 2, 3, 4, 0, 5, 6] rfl (uX2_searchFrom_126 X rec k72 x1 r2 x3 x6 x5 x6 m h2 d hrec hk72)
  · exact T_sub [0, 1, 2, 3, 4, 5, 6] rfl (uX2_searchFrom_126 X rec k72 x1 r2 x3 x4 x5 x6 m h2 d hrec hk72)
def jX2_searchFrom_97 (rec : Int32 → mMem → mR) (k72 : Int32 × Int32 × Int32 × mMem → mR) (x1 : Int32) (r2 : Nat) (x3 : Int32) (x4 : Int32) (x5 : Int32) (xs0 : Int32) (m : mMem) : mR := if (0 : Int32) ≤ xs0 then jX2_searchFrom_115 rec k72 x1 r2 x3 x4 x5 xs0 m else ga x5 10 (bI (fX2_searchBehind rec x1 (m.1 r2 (x5).toNatClampNeg) m) (fun z18 m17 => jX2_searchFrom_115 rec k72 x1 r2 x3 x4 x5 z18 m17))
set_option maxRecDepth 100000 in
theorem uX2_searchFrom_97 (X : mCx) (rec : Int32 → mMem → mR) (k72 : Int32 × Int32 × Int32 × mMem → mR) (x1 : Int32) (r2 : Nat) (x3 : Int32) (x4 : Int32) (x5 : Int32) (xs0 : Int32) (m : mMem) (h2 : kd r2 = (10, 10)) (d : Nat) (hrec : ∀ (l : Launch) (x1 : Int32) (m : mMem), BS l (qX2_searchFrom d) [.ref 65, .int x1] m (rec x1 m)) (hk72 : ∀ s : Int32 × Int32 × Int32 × mMem, T (qX2_searchFrom (d + 1)) X (k72 s) 72 [(0, .ref 65), (1, .int x1), (2, .ref r2), (3, .int s.1), (4, .int s.2.1), (5, .int s.2.2.1)] [] s.2.2.2) : T (qX2_searchFrom (d + 1)) X (jX2_searchFrom_97 rec k72 x1 r2 x3 x4 x5 xs0 m) 97 [(0, .ref 65), (1, .int x1), (2, .ref r2), (3, .int x3), (4, .int x4), (5, .int x5)] [.int xs0] m := by
  unfold jX2_searchFrom_97
  refine T_istore (lv' := [(6, .int xs0), (0, .ref 65), (1, .int x1), (2, .ref r2), (3, .int x3), (4, .int x4), (5, .int x5)]) (Nat.le_of_ble_eq_true rfl) rfl dX2_searchFrom_97 ?_
  refine T_iload 0 rfl dX2_searchFrom_99 ?_
  refine T_if_ge 115 dX2_searchFrom_101 (by decide) (fun _ => ?_) (fun _ => ?_)
  · exact T_sub [1, 2, 3, 4, 5, 6, 0] rfl (uX2_searchFrom_115 X rec k72 x1 r2 x3 x4 x5 xs0 m h2 d hrec hk72)
  · refine T_aload_n 1 rfl rfl dX2_searchFrom_104 ?_
    refine T_iload_n 2 rfl rfl dX2_searchFrom_105 ?_
    refine T_aload_n 3 rfl rfl dX2_searchFrom_106 ?_
    refine T_iload 6 rfl dX2_searchFrom_107 ?_
    refine T_iald h2 dX2_searchFrom_109 ?_
    refine T_cVI (c := 2) [.int x1, .int (m.1 r2 (x5).toNatClampNeg)] [] (mkX2_searchBehind d) lmX2_85 rfl rfl (by simp only [qX2_searchFrom, qX2_searchBehind]; omega) (Nat.le_of_ble_eq_true rfl) kd_65 dX2_searchFrom_110 (bsX2_searchBehind _ d rec hrec x1 (m.1 r2 (x5).toNatClampNeg) m) (fun z18 m17 => ?_)
    refine T_istore (lv' := [(6, .int z18), (0, .ref 65), (1, .int x1), (2, .ref r2), (3, .int x3), (4, .int x4), (5, .int x5)]) (Nat.le_of_ble_eq_true rfl) rfl dX2_searchFrom_113 ?_
    exact T_sub [1, 2, 3, 4, 5, 6, 0] rfl (uX2_searchFrom_115 X rec k72 x1 r2 x3 x4 x5 z18 m17 h2 d hrec hk72)
def bX2_searchFrom_72 (rec : Int32 → mMem → mR) (x1 : Int32) (r2 : Nat) (k72 : Int32 × Int32 × Int32 × mMem → mR) (s : Int32 × Int32 × Int32 × mMem) : mR := match s with
  | (x3, x4, x5, m) => if (m.1 32 0) ≤ x5 then some (some (.int x3), m) else ga x5 10 (if (m.1 r2 (x5).toNatClampNeg) = (0 : Int32) then jX2_searchFrom_97 rec k72 x1 r2 x3 x4 x5 x4 m else jX2_searchFrom_97 rec k72 x1 r2 x3 x4 x5 (-1 : Int32) m)
set_option maxRecDepth 100000 in
theorem tX2_searchFrom_72 (X : mCx) (rec : Int32 → mMem → mR) (x1 : Int32) (r2 : Nat) (h2 : kd r2 = (10, 10)) (d : Nat) (hrec : ∀ (l : Launch) (x1 : Int32) (m : mMem), BS l (qX2_searchFrom d) [.ref 65, .int x1] m (rec x1 m)) : ∀ (n : Nat) (s : Int32 × Int32 × Int32 × mMem), T (qX2_searchFrom (d + 1)) X (lp (bX2_searchFrom_72 rec x1 r2) n s) 72 [(0, .ref 65), (1, .int x1), (2, .ref r2), (3, .int s.1), (4, .int s.2.1), (5, .int s.2.2.1)] [] s.2.2.2 :=
  T_lp (body := bX2_searchFrom_72 rec x1 r2) (lv := fun s => [(0, .ref 65), (1, .int x1), (2, .ref r2), (3, .int s.1), (4, .int s.2.1), (5, .int s.2.2.1)]) (st := fun _ => []) (μ := fun s : Int32 × Int32 × Int32 × mMem => s.2.2.2) (fun k72 hk72 s => by
    obtain ⟨x3, x4, x5, m⟩ := s
    show T (qX2_searchFrom (d + 1)) X (bX2_searchFrom_72 rec x1 r2 k72 (x3, x4, x5, m)) 72 [(0, .ref 65), (1, .int x1), (2, .ref r2), (3, .int x3), (4, .int x4), (5, .int x5)] [] m
    unfold bX2_searchFrom_72
    dsimp only
    refine T_iload 5 rfl dX2_searchFrom_72 ?_
    refine T_aload_n 0 rfl rfl dX2_searchFrom_74 ?_
    refine gRX2_28 rfl kd_65 32 rfl dX2_searchFrom_75 ?_
    refine gIX2_76 rfl kd_32 dX2_searchFrom_78 ?_
    refine T_icmp_ge 155 dX2_searchFrom_81 (by decide) (fun _ => ?_) (fun _ => ?_)
    · refine T_iload_n 3 rfl rfl dX2_searchFrom_155 ?_
      exact T_iret rfl dX2_searchFrom_156
    · refine T_aload_n 2 rfl rfl dX2_searchFrom_84 ?_
      refine T_iload 5 rfl dX2_searchFrom_85 ?_
      refine T_iald h2 dX2_searchFrom_87 ?_
      refine T_if_ne 96 dX2_searchFrom_88 (by decide) (fun _ => ?_) (fun _ => ?_)
      · refine T_iload 4 rfl dX2_searchFrom_91 ?_
        refine T_goto 97 dX2_searchFrom_93 (by decide) ?_
        exact T_sub [0, 1, 2, 3, 4, 5] rfl (uX2_searchFrom_97 X rec k72 x1 r2 x3 x4 x5 x4 m h2 d hrec hk72)
      · refine T_iconst (-1 : Int32) (by decide) dX2_searchFrom_96 ?_
        exact T_sub [0, 1, 2, 3, 4, 5] rfl (uX2_searchFrom_97 X rec k72 x1 r2 x3 x4 x5 (-1 : Int32) m h2 d hrec hk72))
def FX2_searchFrom (rec : Int32 → mMem → mR) (x1 : Int32) (m : mMem) : mR := bI (fX2_canBeSo x1 m) (fun z2 m1 => if z2 = (0 : Int32) then some (some (.int (0 : Int32)), m1) else if (m1.1 32 1) ≤ x1 then some (some (.int (1 : Int32)), m1) else if x1 < (4 : Int32) then ga x1 4 (bI (fX4_treadBits 32 x1 m1) (fun z6 m5 => bI (fX4_reachOf 32 x1 m5) (fun z9 m8 => bV (fX1_findPaths z6 z9 ((m8.1 32 0) - (1 : Int32)) (rf 75 (x1).toNatClampNeg) 10 m8) (fun m11 => lp (bX2_searchFrom_72 rec x1 (rf 75 (x1).toNatClampNeg)) FU ((0 : Int32), (-1 : Int32), (0 : Int32), m11))))) else some (some (.int (1 : Int32)), m1))
set_option maxRecDepth 100000 in
theorem BS_X2_searchFrom (l : Launch) (d : Nat) (rec : Int32 → mMem → mR) (hrec : ∀ (l : Launch) (x1 : Int32) (m : mMem), BS l (qX2_searchFrom d) [.ref 65, .int x1] m (rec x1 m)) (x1 : Int32) (m : mMem)  : BS l (qX2_searchFrom (d + 1)) [.ref 65, .int x1] m (FX2_searchFrom rec x1 m) := BS_of (by show plainName yX2_searchFrom.cls = true; decide) (Nat.le_of_ble_eq_true rfl) (fun X _ => by
    show T (qX2_searchFrom (d + 1)) X (FX2_searchFrom rec x1 m) 0 [(0, .ref 65), (1, .int x1)] [] m
    unfold FX2_searchFrom
    refine T_aload_n 0 rfl rfl dX2_searchFrom_0 ?_
    refine T_iload_n 1 rfl rfl dX2_searchFrom_1 ?_
    refine T_cVI (c := 2) [.int x1] [] mkX2_canBeSo lmX2_63 rfl rfl (by simp only [qX2_searchFrom, qX2_searchBehind]; omega) (Nat.le_of_ble_eq_true rfl) kd_65 dX2_searchFrom_2 (bsX2_canBeSo _ x1 m) (fun z2 m1 => ?_)
    refine T_if_ne 10 dX2_searchFrom_5 (by decide) (fun _ => ?_) (fun _ => ?_)
    · refine T_iconst (0 : Int32) (by decide) dX2_searchFrom_8 ?_
      exact T_iret rfl dX2_searchFrom_9
    · refine T_iload_n 1 rfl rfl dX2_searchFrom_10 ?_
      refine T_aload_n 0 rfl rfl dX2_searchFrom_11 ?_
      refine gRX2_28 rfl kd_65 32 rfl dX2_searchFrom_12 ?_
      refine gIX2_67 rfl kd_32 dX2_searchFrom_15 ?_
      refine T_icmp_ge 26 dX2_searchFrom_18 (by decide) (fun _ => ?_) (fun _ => ?_)
      · refine T_iconst (1 : Int32) (by decide) dX2_searchFrom_26 ?_
        exact T_iret rfl dX2_searchFrom_27
      · refine T_iload_n 1 rfl rfl dX2_searchFrom_21 ?_
        refine T_iconst (4 : Int32) (by decide) dX2_searchFrom_22 ?_
        refine T_icmp_lt 28 dX2_searchFrom_23 (by decide) (fun _ => ?_) (fun _ => ?_)
        · refine T_aload_n 0 rfl rfl dX2_searchFrom_28 ?_
          refine gRX2_37 rfl kd_65 75 rfl dX2_searchFrom_29 ?_
          refine T_iload_n 1 rfl rfl dX2_searchFrom_32 ?_
          refine T_aaldI kd_75 dX2_searchFrom_33 (fun hv4 => ?_)
          refine T_astore_n (lv' := [(2, .ref (rf 75 (x1).toNatClampNeg)), (0, .ref 65), (1, .int x1)]) rfl (Nat.le_of_ble_eq_true rfl) rfl dX2_searchFrom_34 ?_
          refine T_aload_n 1 rfl rfl dX2_searchFrom_35 ?_
          refine gRX2_28 rfl kd_65 32 rfl dX2_searchFrom_36 ?_
          refine T_iload_n 2 rfl rfl dX2_searchFrom_39 ?_
          refine T_cVI (c := 4) [.int x1] [] mkX4_treadBits lmX2_70 rfl rfl (by simp only [qX2_searchFrom, qX2_searchBehind]; omega) (Nat.le_of_ble_eq_true rfl) kd_32 dX2_searchFrom_40 (bsX4_treadBits _ 32 x1 m1 kd_32) (fun z6 m5 => ?_)
          refine T_aload_n 1 rfl rfl dX2_searchFrom_43 ?_
          refine gRX2_28 rfl kd_65 32 rfl dX2_searchFrom_44 ?_
          refine T_iload_n 2 rfl rfl dX2_searchFrom_47 ?_
          refine T_cVI (c := 4) [.int x1] [.int z6] mkX4_reachOf lmX2_73 rfl rfl (by simp only [qX2_searchFrom, qX2_searchBehind]; omega) (Nat.le_of_ble_eq_true rfl) kd_32 dX2_searchFrom_48 (bsX4_reachOf _ 32 x1 m5 kd_32) (fun z9 m8 => ?_)
          refine T_aload_n 1 rfl rfl dX2_searchFrom_51 ?_
          refine gRX2_28 rfl kd_65 32 rfl dX2_searchFrom_52 ?_
          refine gIX2_76 rfl kd_32 dX2_searchFrom_55 ?_
          refine T_iconst (1 : Int32) (by decide) dX2_searchFrom_58 ?_
          refine T_isub dX2_searchFrom_59 ?_
          refine T_aload_n 0 rfl rfl dX2_searchFrom_60 ?_
          refine T_cSV [.int z6, .int z9, .int ((m8.1 32 0) - (1 : Int32)), .ref (rf 75 (x1).toNatClampNeg)] [] mkX1_findPaths lmX2_79 rfl (by simp only [qX2_searchFrom, qX2_searchBehind]; omega) (Nat.le_of_ble_eq_true rfl) dX2_searchFrom_61 (bsX1_findPaths _ z6 z9 ((m8.1 32 0) - (1 : Int32)) (rf 75 (x1).toNatClampNeg) 10 m8 (kdA75 hv4)) (fun m11 => ?_)
          refine T_iconst (0 : Int32) (by decide) dX2_searchFrom_64 ?_
          refine T_istore_n (lv' := [(3, .int (0 : Int32)), (2, .ref (rf 75 (x1).toNatClampNeg)), (0, .ref 65), (1, .int x1)]) rfl (Nat.le_of_ble_eq_true rfl) rfl dX2_searchFrom_65 ?_
          refine T_iconst (-1 : Int32) (by decide) dX2_searchFrom_66 ?_
          refine T_istore (lv' := [(4, .int (-1 : Int32)), (3, .int (0 : Int32)), (2, .ref (rf 75 (x1).toNatClampNeg)), (0, .ref 65), (1, .int x1)]) (Nat.le_of_ble_eq_true rfl) rfl dX2_searchFrom_67 ?_
          refine T_iconst (0 : Int32) (by decide) dX2_searchFrom_69 ?_
          refine T_istore (lv' := [(5, .int (0 : Int32)), (4, .int (-1 : Int32)), (3, .int (0 : Int32)), (2, .ref (rf 75 (x1).toNatClampNeg)), (0, .ref 65), (1, .int x1)]) (Nat.le_of_ble_eq_true rfl) rfl dX2_searchFrom_70 ?_
          exact T_sub [4, 5, 3, 2, 1, 0] rfl (tX2_searchFrom_72 X rec x1 (rf 75 (x1).toNatClampNeg) (kdA75 hv4) d hrec FU ((0 : Int32), (-1 : Int32), (0 : Int32), m11))
        · refine T_iconst (1 : Int32) (by decide) dX2_searchFrom_26 ?_
          exact T_iret rfl dX2_searchFrom_27)
def fX2_searchFrom : Nat → Int32 → mMem → mR
  | 0 => fun _ _ => none
  | d + 1 => FX2_searchFrom (fX2_searchFrom d)
theorem bsX2_searchFrom (l : Launch) : ∀ (d : Nat) (x1 : Int32) (m : mMem), BS l (qX2_searchFrom d) [.ref 65, .int x1] m (fX2_searchFrom d x1 m)
  | 0, x1, m => fun _ _ h => by cases h
  | d + 1, x1, m => BS_X2_searchFrom l d (fX2_searchFrom d) (fun l x1 m => bsX2_searchFrom l d x1 m) x1 m
theorem lmX2_40 : Cond.methodLink RX2 40 yX4_copyFrom ∈ gdL := gd_mem 782 (by decide +kernel) (by decide +kernel)
theorem lmX2_44 : Cond.methodLink RX2 44 yJ7_fill_53178 ∈ gdL := gd_mem 783 (by decide +kernel) (by decide +kernel)
def fX2_search (r1 : Nat) (m : mMem) : mR := bV (fX4_copyFrom 32 r1 m) (fun m1 => bV (fJ7_fill_53178 66 4 (0 : Int32) m1) (fun m2 => ga (0 : Int32) 5 (lt (ci m2 (r1 + 3) (rf 69 ((0 : Int32)).toNatClampNeg) 0 0 10) (fun m4 => bI (fX2_searchFrom 8 (0 : Int32) m4) (fun z6 m5 => some (some (.int z6), m5))))))
set_option maxRecDepth 100000 in
theorem bsX2_search (l : Launch) (r1 : Nat) (m : mMem) (h1 : kd r1 = (4, 0)) : BS l qX2_search [.ref 65, .ref r1] m (fX2_search r1 m) := BS_of (by decide) (Nat.le_of_ble_eq_true rfl) (fun X _ => by
    show T qX2_search X (fX2_search r1 m) 0 [(0, .ref 65), (1, .ref r1)] [] m
    unfold fX2_search
    refine T_aload_n 0 rfl rfl dX2_search_0 ?_
    refine gRX2_28 rfl kd_65 32 rfl dX2_search_1 ?_
    refine T_aload_n 1 rfl rfl dX2_search_4 ?_
    refine T_cVV (c := 4) [.ref r1] [] mkX4_copyFrom lmX2_40 rfl rfl (by decide) (Nat.le_of_ble_eq_true rfl) kd_32 dX2_search_5 (bsX4_copyFrom _ 32 r1 m kd_32 h1) (fun m1 => ?_)
    refine T_aload_n 0 rfl rfl dX2_search_8 ?_
    refine gRX2_15 rfl kd_65 66 rfl dX2_search_9 ?_
    refine T_iconst (0 : Int32) (by decide) dX2_search_12 ?_
    refine T_cSV [.ref 66, .int (0 : Int32)] [] mkJ7_fill_53178 lmX2_44 rfl (by decide) (Nat.le_of_ble_eq_true rfl) dX2_search_13 (bsJ7_fill_53178 _ 66 4 (0 : Int32) m1 kd_66) (fun m2 => ?_)
    refine T_aload_n 1 rfl rfl dX2_search_16 ?_
    refine gRX2_50 rfl h1 (r1 + 3) (rfH7 h1) dX2_search_17 ?_
    refine T_iconst (0 : Int32) (by decide) dX2_search_20 ?_
    refine T_aload_n 0 rfl rfl dX2_search_21 ?_
    refine gRX2_34 rfl kd_65 69 rfl dX2_search_22 ?_
    refine T_iconst (0 : Int32) (by decide) dX2_search_25 ?_
    refine T_aaldI kd_69 dX2_search_26 (fun hv3 => ?_)
    refine T_iconst (0 : Int32) (by decide) dX2_search_27 ?_
    refine T_bipush (10 : Int32) (by decide) dX2_search_28 ?_
    refine T_cpyI (N := 10) (by decide) (by decide) (by decide) (by decide) lmX2_53 (by decide) (Nat.le_of_ble_eq_true rfl) (kdH7 h1) (kdA69 hv3) dX2_search_30 ?_
    refine T_lt (fun m4 => ?_)
    refine T_aload_n 0 rfl rfl dX2_search_33 ?_
    refine T_iconst (0 : Int32) (by decide) dX2_search_34 ?_
    refine T_cVI (c := 2) [.int (0 : Int32)] [] (mkX2_searchFrom 8) lmX2_59 rfl rfl (by decide) (Nat.le_of_ble_eq_true rfl) kd_65 dX2_search_35 (bsX2_searchFrom _ 8 (0 : Int32) m4) (fun z6 m5 => ?_)
    exact T_iret rfl dX2_search_38)
