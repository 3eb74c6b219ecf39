abbrev qX3_takeFrom (d : Nat) : mMI := (yX3_takeFrom, cX3_takeFrom, 8, none, d + 2)
theorem dX3_takeFrom_0 : decode cX3_takeFrom 0 = .ok (.iload_n 1, 1) := by decide +kernel
theorem dX3_takeFrom_1 : decode cX3_takeFrom 1 = .ok (.iload_n 2, 1) := by decide +kernel
theorem dX3_takeFrom_2 : decode cX3_takeFrom 2 = .ok (.if_icmp .ge 8, 3) := by decide +kernel
theorem dX3_takeFrom_5 : decode cX3_takeFrom 5 = .ok (.iload_n 1, 1) := by decide +kernel
theorem dX3_takeFrom_6 : decode cX3_takeFrom 6 = .ok (.iconst 4, 1) := by decide +kernel
theorem dX3_takeFrom_7 : decode cX3_takeFrom 7 = .ok (.if_icmp .lt 57, 3) := by decide +kernel
theorem dX3_takeFrom_10 : decode cX3_takeFrom 10 = .ok (.iload 4, 2) := by decide +kernel
theorem dX3_takeFrom_12 : decode cX3_takeFrom 12 = .ok (.aload_n 0, 1) := by decide +kernel
theorem dX3_takeFrom_13 : decode cX3_takeFrom 13 = .ok (.getfield 9, 3) := by decide +kernel
theorem dX3_takeFrom_16 : decode cX3_takeFrom 16 = .ok (.if_icmp .gt 21, 3) := by decide +kernel
theorem dX3_takeFrom_19 : decode cX3_takeFrom 19 = .ok (.iload 4, 2) := by decide +kernel
theorem dX3_takeFrom_21 : decode cX3_takeFrom 21 = .ok (.aload_n 0, 1) := by decide +kernel
theorem dX3_takeFrom_22 : decode cX3_takeFrom 22 = .ok (.getfield 9, 3) := by decide +kernel
theorem dX3_takeFrom_25 : decode cX3_takeFrom 25 = .ok (.if_icmp .ne 38, 3) := by decide +kernel
theorem dX3_takeFrom_28 : decode cX3_takeFrom 28 = .ok (.iload 5, 2) := by decide +kernel
theorem dX3_takeFrom_30 : decode cX3_takeFrom 30 = .ok (.aload_n 0, 1) := by decide +kernel
theorem dX3_takeFrom_31 : decode cX3_takeFrom 31 = .ok (.getfield 15, 3) := by decide +kernel
theorem dX3_takeFrom_34 : decode cX3_takeFrom 34 = .ok (.if_icmp .ge 29, 3) := by decide +kernel
theorem dX3_takeFrom_37 : decode cX3_takeFrom 37 = .ok (.aload_n 0, 1) := by decide +kernel
theorem dX3_takeFrom_38 : decode cX3_takeFrom 38 = .ok (.iload 4, 2) := by decide +kernel
theorem dX3_takeFrom_40 : decode cX3_takeFrom 40 = .ok (.putfield 9, 3) := by decide +kernel
theorem dX3_takeFrom_43 : decode cX3_takeFrom 43 = .ok (.aload_n 0, 1) := by decide +kernel
theorem dX3_takeFrom_44 : decode cX3_takeFrom 44 = .ok (.iload 5, 2) := by decide +kernel
theorem dX3_takeFrom_46 : decode cX3_takeFrom 46 = .ok (.putfield 15, 3) := by decide +kernel
theorem dX3_takeFrom_49 : decode cX3_takeFrom 49 = .ok (.aload_n 0, 1) := by decide +kernel
theorem dX3_takeFrom_50 : decode cX3_takeFrom 50 = .ok (.getfield 22, 3) := by decide +kernel
theorem dX3_takeFrom_53 : decode cX3_takeFrom 53 = .ok (.iconst 0, 1) := by decide +kernel
theorem dX3_takeFrom_54 : decode cX3_takeFrom 54 = .ok (.aload_n 0, 1) := by decide +kernel
theorem dX3_takeFrom_55 : decode cX3_takeFrom 55 = .ok (.getfield 18, 3) := by decide +kernel
theorem dX3_takeFrom_58 : decode cX3_takeFrom 58 = .ok (.iconst 0, 1) := by decide +kernel
theorem dX3_takeFrom_59 : decode cX3_takeFrom 59 = .ok (.iconst 4, 1) := by decide +kernel
theorem dX3_takeFrom_60 : decode cX3_takeFrom 60 = .ok (.invokestatic 64, 3) := by decide +kernel
theorem dX3_takeFrom_63 : decode cX3_takeFrom 63 = .ok (.return_, 1) := by decide +kernel
theorem dX3_takeFrom_64 : decode cX3_takeFrom 64 = .ok (.iconst 0, 1) := by decide +kernel
theorem dX3_takeFrom_65 : decode cX3_takeFrom 65 = .ok (.istore 6, 2) := by decide +kernel
theorem dX3_takeFrom_67 : decode cX3_takeFrom 67 = .ok (.iload 6, 2) := by decide +kernel
theorem dX3_takeFrom_69 : decode cX3_takeFrom 69 = .ok (.iload_n 2, 1) := by decide +kernel
theorem dX3_takeFrom_70 : decode cX3_takeFrom 70 = .ok (.if_icmp .ge 71, 3) := by decide +kernel
theorem dX3_takeFrom_73 : decode cX3_takeFrom 73 = .ok (.iload_n 3, 1) := by decide +kernel
theorem dX3_takeFrom_74 : decode cX3_takeFrom 74 = .ok (.iload 6, 2) := by decide +kernel
theorem dX3_takeFrom_76 : decode cX3_takeFrom 76 = .ok (.ishr, 1) := by decide +kernel
theorem dX3_takeFrom_77 : decode cX3_takeFrom 77 = .ok (.iconst 1, 1) := by decide +kernel
theorem dX3_takeFrom_78 : decode cX3_takeFrom 78 = .ok (.iand, 1) := by decide +kernel
theorem dX3_takeFrom_79 : decode cX3_takeFrom 79 = .ok (.ifCond .ne 56, 3) := by decide +kernel
theorem dX3_takeFrom_82 : decode cX3_takeFrom 82 = .ok (.aload_n 0, 1) := by decide +kernel
theorem dX3_takeFrom_83 : decode cX3_takeFrom 83 = .ok (.getfield 28, 3) := by decide +kernel
theorem dX3_takeFrom_86 : decode cX3_takeFrom 86 = .ok (.iload_n 1, 1) := by decide +kernel
theorem dX3_takeFrom_87 : decode cX3_takeFrom 87 = .ok (.iconst 4, 1) := by decide +kernel
theorem dX3_takeFrom_88 : decode cX3_takeFrom 88 = .ok (.imul, 1) := by decide +kernel
theorem dX3_takeFrom_89 : decode cX3_takeFrom 89 = .ok (.iload 6, 2) := by decide +kernel
theorem dX3_takeFrom_91 : decode cX3_takeFrom 91 = .ok (.iadd, 1) := by decide +kernel
theorem dX3_takeFrom_92 : decode cX3_takeFrom 92 = .ok (.iaload, 1) := by decide +kernel
theorem dX3_takeFrom_93 : decode cX3_takeFrom 93 = .ok (.istore 7, 2) := by decide +kernel
theorem dX3_takeFrom_95 : decode cX3_takeFrom 95 = .ok (.aload_n 0, 1) := by decide +kernel
theorem dX3_takeFrom_96 : decode cX3_takeFrom 96 = .ok (.getfield 22, 3) := by decide +kernel
theorem dX3_takeFrom_99 : decode cX3_takeFrom 99 = .ok (.iload_n 1, 1) := by decide +kernel
theorem dX3_takeFrom_100 : decode cX3_takeFrom 100 = .ok (.iload 6, 2) := by decide +kernel
theorem dX3_takeFrom_102 : decode cX3_takeFrom 102 = .ok (.iastore, 1) := by decide +kernel
theorem dX3_takeFrom_103 : decode cX3_takeFrom 103 = .ok (.aload_n 0, 1) := by decide +kernel
theorem dX3_takeFrom_104 : decode cX3_takeFrom 104 = .ok (.iload_n 1, 1) := by decide +kernel
theorem dX3_takeFrom_105 : decode cX3_takeFrom 105 = .ok (.iconst 1, 1) := by decide +kernel
theorem dX3_takeFrom_106 : decode cX3_takeFrom 106 = .ok (.iadd, 1) := by decide +kernel
theorem dX3_takeFrom_107 : decode cX3_takeFrom 107 = .ok (.iload_n 2, 1) := by decide +kernel
theorem dX3_takeFrom_108 : decode cX3_takeFrom 108 = .ok (.iload_n 3, 1) := by decide +kernel
theorem dX3_takeFrom_109 : decode cX3_takeFrom 109 = .ok (.iconst 1, 1) := by decide +kernel
theorem dX3_takeFrom_110 : decode cX3_takeFrom 110 = .ok (.iload 6, 2) := by decide +kernel
theorem dX3_takeFrom_112 : decode cX3_takeFrom 112 = .ok (.ishl, 1) := by decide +kernel
theorem dX3_takeFrom_113 : decode cX3_takeFrom 113 = .ok (.ior, 1) := by decide +kernel
theorem dX3_takeFrom_114 : decode cX3_takeFrom 114 = .ok (.iload 4, 2) := by decide +kernel
theorem dX3_takeFrom_116 : decode cX3_takeFrom 116 = .ok (.iload 7, 2) := by decide +kernel
theorem dX3_takeFrom_118 : decode cX3_takeFrom 118 = .ok (.ifCond .le 7, 3) := by decide +kernel
theorem dX3_takeFrom_121 : decode cX3_takeFrom 121 = .ok (.iconst 1, 1) := by decide +kernel
theorem dX3_takeFrom_122 : decode cX3_takeFrom 122 = .ok (.goto 4, 3) := by decide +kernel
theorem dX3_takeFrom_125 : decode cX3_takeFrom 125 = .ok (.iconst 0, 1) := by decide +kernel
theorem dX3_takeFrom_126 : decode cX3_takeFrom 126 = .ok (.iadd, 1) := by decide +kernel
theorem dX3_takeFrom_127 : decode cX3_takeFrom 127 = .ok (.iload 5, 2) := by decide +kernel
theorem dX3_takeFrom_129 : decode cX3_takeFrom 129 = .ok (.iload 7, 2) := by decide +kernel
theorem dX3_takeFrom_131 : decode cX3_takeFrom 131 = .ok (.iadd, 1) := by decide +kernel
theorem dX3_takeFrom_132 : decode cX3_takeFrom 132 = .ok (.invokevirtual 60, 3) := by decide +kernel
theorem dX3_takeFrom_135 : decode cX3_takeFrom 135 = .ok (.iinc 6 1, 3) := by decide +kernel
theorem dX3_takeFrom_138 : decode cX3_takeFrom 138 = .ok (.goto (-71), 3) := by decide +kernel
theorem dX3_takeFrom_141 : decode cX3_takeFrom 141 = .ok (.return_, 1) := by decide +kernel
theorem mkX3_takeFrom_0 : mokV (qX3_takeFrom 0) 5 := ⟨⟨⟨⟨by decide, by decide, by decide +kernel⟩, by decide⟩, gd_mem 55 (by decide +kernel) (by decide +kernel), gd_mem 732 (by decide +kernel) (by decide +kernel)⟩, gd_mem 731 (by decide +kernel) (by decide +kernel), gd_mem 13 (by decide +kernel) (by decide +kernel)⟩
theorem mkX3_takeFrom (d : Nat) : mokV (qX3_takeFrom d) 5 := by
  have h := mkX3_takeFrom_0
  unfold mokV mok at *
  exact h
abbrev qX3_arrange : mMI := (yX3_arrange, cX3_arrange, 4, none, 11)
theorem dX3_arrange_0 : decode cX3_arrange 0 = .ok (.iconst 0, 1) := by decide +kernel
theorem dX3_arrange_1 : decode cX3_arrange 1 = .ok (.istore_n 2, 1) := by decide +kernel
theorem dX3_arrange_2 : decode cX3_arrange 2 = .ok (.iload_n 2, 1) := by decide +kernel
theorem dX3_arrange_3 : decode cX3_arrange 3 = .ok (.aload_n 1, 1) := by decide +kernel
theorem dX3_arrange_4 : decode cX3_arrange 4 = .ok (.getfield 31, 3) := by decide +kernel
theorem dX3_arrange_7 : decode cX3_arrange 7 = .ok (.if_icmp .ge 72, 3) := by decide +kernel
theorem dX3_arrange_10 : decode cX3_arrange 10 = .ok (.aload_n 1, 1) := by decide +kernel
theorem dX3_arrange_11 : decode cX3_arrange 11 = .ok (.iload_n 2, 1) := by decide +kernel
theorem dX3_arrange_12 : decode cX3_arrange 12 = .ok (.invokevirtual 36, 3) := by decide +kernel
theorem dX3_arrange_15 : decode cX3_arrange 15 = .ok (.aload_n 1, 1) := by decide +kernel
theorem dX3_arrange_16 : decode cX3_arrange 16 = .ok (.iload_n 2, 1) := by decide +kernel
theorem dX3_arrange_17 : decode cX3_arrange 17 = .ok (.invokevirtual 40, 3) := by decide +kernel
theorem dX3_arrange_20 : decode cX3_arrange 20 = .ok (.aload_n 1, 1) := by decide +kernel
theorem dX3_arrange_21 : decode cX3_arrange 21 = .ok (.getfield 43, 3) := by decide +kernel
theorem dX3_arrange_24 : decode cX3_arrange 24 = .ok (.iconst 1, 1) := by decide +kernel
theorem dX3_arrange_25 : decode cX3_arrange 25 = .ok (.isub, 1) := by decide +kernel
theorem dX3_arrange_26 : decode cX3_arrange 26 = .ok (.aload_n 0, 1) := by decide +kernel
theorem dX3_arrange_27 : decode cX3_arrange 27 = .ok (.getfield 25, 3) := by decide +kernel
theorem dX3_arrange_30 : decode cX3_arrange 30 = .ok (.invokestatic 46, 3) := by decide +kernel
theorem dX3_arrange_33 : decode cX3_arrange 33 = .ok (.iconst 0, 1) := by decide +kernel
theorem dX3_arrange_34 : decode cX3_arrange 34 = .ok (.istore_n 3, 1) := by decide +kernel
theorem dX3_arrange_35 : decode cX3_arrange 35 = .ok (.iload_n 3, 1) := by decide +kernel
theorem dX3_arrange_36 : decode cX3_arrange 36 = .ok (.aload_n 1, 1) := by decide +kernel
theorem dX3_arrange_37 : decode cX3_arrange 37 = .ok (.getfield 31, 3) := by decide +kernel
theorem dX3_arrange_40 : decode cX3_arrange 40 = .ok (.if_icmp .ge 33, 3) := by decide +kernel
theorem dX3_arrange_43 : decode cX3_arrange 43 = .ok (.aload_n 0, 1) := by decide +kernel
theorem dX3_arrange_44 : decode cX3_arrange 44 = .ok (.getfield 28, 3) := by decide +kernel
theorem dX3_arrange_47 : decode cX3_arrange 47 = .ok (.iload_n 2, 1) := by decide +kernel
theorem dX3_arrange_48 : decode cX3_arrange 48 = .ok (.iconst 4, 1) := by decide +kernel
theorem dX3_arrange_49 : decode cX3_arrange 49 = .ok (.imul, 1) := by decide +kernel
theorem dX3_arrange_50 : decode cX3_arrange 50 = .ok (.iload_n 3, 1) := by decide +kernel
theorem dX3_arrange_51 : decode cX3_arrange 51 = .ok (.iadd, 1) := by decide +kernel
theorem dX3_arrange_52 : decode cX3_arrange 52 = .ok (.aload_n 0, 1) := by decide +kernel
theorem dX3_arrange_53 : decode cX3_arrange 53 = .ok (.getfield 25, 3) := by decide +kernel
theorem dX3_arrange_56 : decode cX3_arrange 56 = .ok (.aload_n 1, 1) := by decide +kernel
theorem dX3_arrange_57 : decode cX3_arrange 57 = .ok (.getfield 52, 3) := by decide +kernel
theorem dX3_arrange_60 : decode cX3_arrange 60 = .ok (.iload_n 3, 1) := by decide +kernel
theorem dX3_arrange_61 : decode cX3_arrange 61 = .ok (.iaload, 1) := by decide +kernel
theorem dX3_arrange_62 : decode cX3_arrange 62 = .ok (.iaload, 1) := by decide +kernel
theorem dX3_arrange_63 : decode cX3_arrange 63 = .ok (.invokestatic 55, 3) := by decide +kernel
theorem dX3_arrange_66 : decode cX3_arrange 66 = .ok (.iastore, 1) := by decide +kernel
theorem dX3_arrange_67 : decode cX3_arrange 67 = .ok (.iinc 3 1, 3) := by decide +kernel
theorem dX3_arrange_70 : decode cX3_arrange 70 = .ok (.goto (-35), 3) := by decide +kernel
theorem dX3_arrange_73 : decode cX3_arrange 73 = .ok (.iinc 2 1, 3) := by decide +kernel
theorem dX3_arrange_76 : decode cX3_arrange 76 = .ok (.goto (-74), 3) := by decide +kernel
theorem dX3_arrange_79 : decode cX3_arrange 79 = .ok (.aload_n 0, 1) := by decide +kernel
theorem dX3_arrange_80 : decode cX3_arrange 80 = .ok (.iconst (-1), 1) := by decide +kernel
theorem dX3_arrange_81 : decode cX3_arrange 81 = .ok (.putfield 9, 3) := by decide +kernel
theorem dX3_arrange_84 : decode cX3_arrange 84 = .ok (.aload_n 0, 1) := by decide +kernel
theorem dX3_arrange_85 : decode cX3_arrange 85 = .ok (.iconst 0, 1) := by decide +kernel
theorem dX3_arrange_86 : decode cX3_arrange 86 = .ok (.putfield 15, 3) := by decide +kernel
theorem dX3_arrange_89 : decode cX3_arrange 89 = .ok (.aload_n 0, 1) := by decide +kernel
theorem dX3_arrange_90 : decode cX3_arrange 90 = .ok (.iconst 0, 1) := by decide +kernel
theorem dX3_arrange_91 : decode cX3_arrange 91 = .ok (.aload_n 1, 1) := by decide +kernel
theorem dX3_arrange_92 : decode cX3_arrange 92 = .ok (.getfield 31, 3) := by decide +kernel
theorem dX3_arrange_95 : decode cX3_arrange 95 = .ok (.iconst 0, 1) := by decide +kernel
theorem dX3_arrange_96 : decode cX3_arrange 96 = .ok (.iconst 0, 1) := by decide +kernel
theorem dX3_arrange_97 : decode cX3_arrange 97 = .ok (.iconst 0, 1) := by decide +kernel
theorem dX3_arrange_98 : decode cX3_arrange 98 = .ok (.invokevirtual 60, 3) := by decide +kernel
theorem dX3_arrange_101 : decode cX3_arrange 101 = .ok (.return_, 1) := by decide +kernel
theorem mkX3_arrange : mokV qX3_arrange 1 := ⟨⟨⟨⟨by decide, by decide, by decide +kernel⟩, by decide⟩, gd_mem 55 (by decide +kernel) (by decide +kernel), gd_mem 724 (by decide +kernel) (by decide +kernel)⟩, gd_mem 722 (by decide +kernel) (by decide +kernel), gd_mem 723 (by decide +kernel) (by decide +kernel)⟩
theorem lmX3_60 : Cond.methodLink RX3 60 yX3_takeFrom ∈ gdL := gd_mem 729 (by decide +kernel) (by decide +kernel)
theorem lmX3_64 : Cond.methodLink RX3 64 arraycopyName ∈ gdL := gd_mem 733 (by decide +kernel) (by decide +kernel)
theorem lfX3_9 : Cond.fieldLink RX3 9 "RankStairs$Exchange" "bestHave" "I" ∈ gdL := gd_mem 211 (by decide +kernel) (by decide +kernel)
theorem gIX3_9 {q : mMI} {X : mCx} {tgt : mR} {pc : Nat} {lv : List (Nat × Value)} {st : List Value} {μ : mMem} {b : Nat} (hq : q.1.cls = RX3) (hb : kd b = (3, 0)) (hd : decode q.2.1 pc = .ok (.getfield 9, 3)) (h : T q X tgt (pc + 3) lv (.int (μ.1 b 0) :: st) μ) : T q X tgt pc lv (.ref b :: st) μ := T_getI (c := 3) rfl (by decide) rfl (by decide) (by rw [hq]; exact lfX3_9) hb hd h
theorem pIX3_9 {q : mMI} {X : mCx} {tgt : mR} {pc : Nat} {lv : List (Nat × Value)} {st : List Value} {μ : mMem} {b : Nat} {x : Int32} (hq : q.1.cls = RX3) (hn : narrow .int (.int x) = .int x) (hfit : fits .int (.int x) = true) (hb : kd b = (3, 0)) (hd : decode q.2.1 pc = .ok (.putfield 9, 3)) (h : T q X tgt (pc + 3) lv st (si μ b 0 x)) : T q X tgt pc lv (.int x :: .ref b :: st) μ := T_put (c := 3) rfl (by decide) rfl (by decide) (by rw [hq]; exact lfX3_9) (by decide) hn hfit hb hd h
theorem lfX3_15 : Cond.fieldLink RX3 15 "RankStairs$Exchange" "bestSteps" "I" ∈ gdL := gd_mem 213 (by decide +kernel) (by decide +kernel)
theorem gIX3_15 {q : mMI} {X : mCx} {tgt : mR} {pc : Nat} {lv : List (Nat × Value)} {st : List Value} {μ : mMem} {b : Nat} (hq : q.1.cls = RX3) (hb : kd b = (3, 0)) (hd : decode q.2.1 pc = .ok (.getfield 15, 3)) (h : T q X tgt (pc + 3) lv (.int (μ.1 b 1) :: st) μ) : T q X tgt pc lv (.ref b :: st) μ := T_getI (c := 3) rfl (by decide) rfl (by decide) (by rw [hq]; exact lfX3_15) hb hd h
theorem pIX3_15 {q : mMI} {X : mCx} {tgt : mR} {pc : Nat} {lv : List (Nat × Value)} {st : List Value} {μ : mMem} {b : Nat} {x : Int32} (hq : q.1.cls = RX3) (hn : narrow .int (.int x) = .int x) (hfit : fits .int (.int x) = true) (hb : kd b = (3, 0)) (hd : decode q.2.1 pc = .ok (.putfield 15, 3)) (h : T q X tgt (pc + 3) lv st (si μ b 1 x)) : T q X tgt pc lv (.int x :: .ref b :: st) μ := T_put (c := 3) rfl (by decide) rfl (by decide) (by rw [hq]; exact lfX3_15) (by decide) hn hfit hb hd h
theorem lfX3_18 : Cond.fieldLink RX3 18 "RankStairs$Exchange" "bestTakes" "[I" ∈ gdL := gd_mem 215 (by decide +kernel) (by decide +kernel)
theorem gRX3_18 {q : mMI} {X : mCx} {tgt : mR} {pc : Nat} {lv : List (Nat × Value)} {st : List Value} {μ : mMem} {b : Nat} (hq : q.1.cls = RX3) (hb : kd b = (3, 0)) (z : Nat) (hz : rf b 2 = z) (hd : decode q.2.1 pc = .ok (.getfield 18, 3)) (h : T q X tgt (pc + 3) lv (.ref z :: st) μ) : T q X tgt pc lv (.ref b :: st) μ := T_getR (c := 3) rfl (by decide) rfl (by decide) (by rw [hq]; exact lfX3_18) hb z hz hd h
theorem lfX3_22 : Cond.fieldLink RX3 22 "RankStairs$Exchange" "takes" "[I" ∈ gdL := gd_mem 217 (by decide +kernel) (by decide +kernel)
theorem gRX3_22 {q : mMI} {X : mCx} {tgt : mR} {pc : Nat} {lv : List (Nat × Value)} {st : List Value} {μ : mMem} {b : Nat} (hq : q.1.cls = RX3) (hb : kd b = (3, 0)) (z : Nat) (hz : rf b 3 = z) (hd : decode q.2.1 pc = .ok (.getfield 22, 3)) (h : T q X tgt (pc + 3) lv (.ref z :: st) μ) : T q X tgt pc lv (.ref b :: st) μ := T_getR (c := 3) rfl (by decide) rfl (by decide) (by rw [hq]; exact lfX3_22) hb z hz hd h
theorem lfX3_28 : Cond.fieldLink RX3 28 "RankStairs$Exchange" "lengths" "[I" ∈ gdL := gd_mem 219 (by decide +kernel) (by decide +kernel)
theorem gRX3_28 {q : mMI} {X : mCx} {tgt : mR} {pc : Nat} {lv : List (Nat × Value)} {st : List Value} {μ : mMem} {b : Nat} (hq : q.1.cls = RX3) (hb : kd b = (3, 0)) (z : Nat) (hz : rf b 5 = z) (hd : decode q.2.1 pc = .ok (.getfield 28, 3)) (h : T q X tgt (pc + 3) lv (.ref z :: st) μ) : T q X tgt pc lv (.ref b :: st) μ := T_getR (c := 3) rfl (by decide) rfl (by decide) (by rw [hq]; exact lfX3_28) hb z hz hd h
def jX3_takeFrom_37 (rec : Int32 → Int32 → Int32 → Int32 → Int32 → mMem → mR) (x4 : Int32) (x5 : Int32) (m : mMem) : mR := lt (si m 57 0 x4) (fun m1 => lt (si m1 57 1 x5) (fun m2 => lt (ci m2 59 58 0 0 4) (fun m3 => some (none, m3))))
set_option maxRecDepth 100000 in
theorem uX3_takeFrom_37 (X : mCx) (rec : Int32 → Int32 → Int32 → Int32 → Int32 → mMem → mR) (x4 : Int32) (x5 : Int32) (m : mMem) (d : Nat) (hrec : ∀ (l : Launch) (x1 x2 x3 x4 x5 : Int32) (m : mMem), BS l (qX3_takeFrom d) [.ref 57, .int x1, .int x2, .int x3, .int x4, .int x5] m (rec x1 x2 x3 x4 x5 m)) : T (qX3_takeFrom (d + 1)) X (jX3_takeFrom_37 rec x4 x5 m) 37 [(0, .ref 57), (4, .int x4), (5, .int x5)] [] m := by
  unfold jX3_takeFrom_37
  refine T_aload_n 0 rfl rfl dX3_takeFrom_37 ?_
  refine T_iload 1 rfl dX3_takeFrom_38 ?_
  refine pIX3_9 rfl rfl rfl kd_57 dX3_takeFrom_40 ?_
  refine T_lt (fun m1 => ?_)
  refine T_aload_n 0 rfl rfl dX3_takeFrom_43 ?_
  refine T_iload 2 rfl dX3_takeFrom_44 ?_
  refine pIX3_15 rfl rfl rfl kd_57 dX3_takeFrom_46 ?_
  refine T_lt (fun m2 => ?_)
  refine T_aload_n 0 rfl rfl dX3_takeFrom_49 ?_
  refine gRX3_22 rfl kd_57 59 rfl dX3_takeFrom_50 ?_
  refine T_iconst (0 : Int32) (by decide) dX3_takeFrom_53 ?_
  refine T_aload_n 0 rfl rfl dX3_takeFrom_54 ?_
  refine gRX3_18 rfl kd_57 58 rfl dX3_takeFrom_55 ?_
  refine T_iconst (0 : Int32) (by decide) dX3_takeFrom_58 ?_
  refine T_iconst (4 : Int32) (by decide) dX3_takeFrom_59 ?_
  refine T_cpyI (N := 4) (by decide) (by decide) (by decide) (by decide) lmX3_64 (by simp only [qX3_takeFrom]; omega) (Nat.le_of_ble_eq_true rfl) kd_59 kd_58 dX3_takeFrom_60 ?_
  refine T_lt (fun m3 => ?_)
  exact T_vret rfl dX3_takeFrom_63
def jX3_takeFrom_10 (rec : Int32 → Int32 → Int32 → Int32 → Int32 → mMem → mR) (x4 : Int32) (x5 : Int32) (m : mMem) : mR := if (m.1 57 0) < x4 then jX3_takeFrom_37 rec x4 x5 m else if x4 = (m.1 57 0) then if (m.1 57 1) ≤ x5 then some (none, m) else jX3_takeFrom_37 rec x4 x5 m else some (none, m)
set_option maxRecDepth 100000 in
theorem uX3_takeFrom_10 (X : mCx) (rec : Int32 → Int32 → Int32 → Int32 → Int32 → mMem → mR) (x4 : Int32) (x5 : Int32) (m : mMem) (d : Nat) (hrec : ∀ (l : Launch) (x1 x2 x3 x4 x5 : Int32) (m : mMem), BS l (qX3_takeFrom d) [.ref 57, .int x1, .int x2, .int x3, .int x4, .int x5] m (rec x1 x2 x3 x4 x5 m)) : T (qX3_takeFrom (d + 1)) X (jX3_takeFrom_10 rec x4 x5 m) 10 [(0, .ref 57), (4, .int x4), (5, .int x5)] [] m := by
  unfold jX3_takeFrom_10
  refine T_iload 1 rfl dX3_takeFrom_10 ?_
  refine T_aload_n 0 rfl rfl dX3_takeFrom_12 ?_
  refine gIX3_9 rfl kd_57 dX3_takeFrom_13 ?_
  refine T_icmp_gt 37 dX3_takeFrom_16 (by decide) (fun _ => ?_) (fun _ => ?_)
  · exact T_sub [0, 1, 2] rfl (uX3_takeFrom_37 X rec x4 x5 m d hrec)
  · refine T_iload 1 rfl dX3_takeFrom_19 ?_
    refine T_aload_n 0 rfl rfl dX3_takeFrom_21 ?_
    refine gIX3_9 rfl kd_57 dX3_takeFrom_22 ?_
    refine T_icmp_ne 63 dX3_takeFrom_25 (by decide) (fun _ => ?_) (fun _ => ?_)
    · refine T_iload 2 rfl dX3_takeFrom_28 ?_
      refine T_aload_n 0 rfl rfl dX3_takeFrom_30 ?_
      refine gIX3_15 rfl kd_57 dX3_takeFrom_31 ?_
      refine T_icmp_ge 63 dX3_takeFrom_34 (by decide) (fun _ => ?_) (fun _ => ?_)
      · exact T_vret rfl dX3_takeFrom_63
      · exact T_sub [0, 1, 2] rfl (uX3_takeFrom_37 X rec x4 x5 m d hrec)
    · exact T_vret rfl dX3_takeFrom_63
def jX3_takeFrom_126 (rec : Int32 → Int32 → Int32 → Int32 → Int32 → mMem → mR) (k67 : Int32 × mMem → mR) (x1 : Int32) (x2 : Int32) (x3 : Int32) (x4 : Int32) (x5 : Int32) (x6 : Int32) (x7 : Int32) (xs0 : Int32) (xs1 : Int32) (xs2 : Int32) (xs3 : Int32) (xs4 : Int32) (m : mMem) : mR := bV (rec xs4 xs3 xs2 (xs1 + xs0) (x5 + x7) m) (fun m6 => li (x6 + (1 : Int32)) (fun y7 => k67 (y7, m6)))
set_option maxRecDepth 100000 in
theorem uX3_takeFrom_126 (X : mCx) (rec : Int32 → Int32 → Int32 → Int32 → Int32 → mMem → mR) (k67 : Int32 × mMem → mR) (x1 : Int32) (x2 : Int32) (x3 : Int32) (x4 : Int32) (x5 : Int32) (x6 : Int32) (x7 : Int32) (xs0 : Int32) (xs1 : Int32) (xs2 : Int32) (xs3 : Int32) (xs4 : Int32) (m : mMem) (d : Nat) (hrec : ∀ (l : Launch) (x1 x2 x3 x4 x5 : Int32) (m : mMem), BS l (qX3_takeFrom d) [.ref 57, .int x1, .int x2, .int x3, .int x4, .int x5] m (rec x1 x2 x3 x4 x5 m)) (hk67 : ∀ s : Int32 × mMem, T (qX3_takeFrom (d + 1)) X (k67 s) 67 [(0, .ref 57), (1, .int x1), (2, .int x2), (3, .int x3), (4, .int x4), (5, .int x5), (6, .int s.1)] [] s.2) : T (qX3_takeFrom (d + 1)) X (jX3_takeFrom_126 rec k67 x1 x2 x3 x4 x5 x6 x7 xs0 xs1 xs2 xs3 xs4 m) 126 [(0, .ref 57), (1, .int x1), (2, .int x2), (3, .int x3), (4, .int x4), (5, .int x5), (6, .int x6), (7, .int x7)] [.int xs0, .int xs1, .int xs2, .int xs3, .int xs4, .ref 57] m := by
  unfold jX3_takeFrom_126
  refine T_iadd dX3_takeFrom_126 ?_
  refine T_iload 5 rfl dX3_takeFrom_127 ?_
  refine T_iload 7 rfl dX3_takeFrom_129 ?_
  refine T_iadd dX3_takeFrom_131 ?_
  refine T_cVV (c := 3) [.int xs4, .int xs3, .int xs2, .int (xs1 + xs0), .int (x5 + x7)] [] (mkX3_takeFrom d) lmX3_60 rfl rfl (by simp only [qX3_takeFrom]; omega) (Nat.le_of_ble_eq_true rfl) kd_57 dX3_takeFrom_132 (hrec _ xs4 xs3 xs2 (xs1 + xs0) (x5 + x7) m) (fun m6 => ?_)
  refine T_iinc (lv' := [(6, .int (x6 + (1 : Int32))), (0, .ref 57), (1, .int x1), (2, .int x2), (3, .int x3), (4, .int x4), (5, .int x5), (7, .int x7)]) 6 (1 : Int32) rfl (by decide) (Nat.le_of_ble_eq_true rfl) rfl dX3_takeFrom_135 ?_
  refine T_li (fun y7 => ?_)
  refine T_goto 67 dX3_takeFrom_138 (by decide) ?_
  exact T_sub [1, 2, 3, 4, 5, 6, 0] rfl (hk67 (y7, m6))
def bX3_takeFrom_67 (rec : Int32 → Int32 → Int32 → Int32 → Int32 → mMem → mR) (x1 : Int32) (x2 : Int32) (x3 : Int32) (x4 : Int32) (x5 : Int32) (k67 : Int32 × mMem → mR) (s : Int32 × mMem) : mR := match s with
  | (x6, m) => if x2 ≤ x6 then some (none, m) else if ((x3 >>> (x6 &&& 31)) &&& (1 : Int32)) = (0 : Int32) then ga ((x1 * (4 : Int32)) + x6) 16 (li (m.1 61 (((x1 * (4 : Int32)) + x6)).toNatClampNeg) (fun y4 => ga x1 4 (lt (si m 59 (x1).toNatClampNeg x6) (fun m5 => if y4 ≤ (0 : Int32) then jX3_takeFrom_126 rec k67 x1 x2 x3 x4 x5 x6 y4 (0 : Int32) x4 (x3 ||| ((1 : Int32) <<< (x6 &&& 31))) x2 (x1 + (1 : Int32)) m5 else jX3_takeFrom_126 rec k67 x1 x2 x3 x4 x5 x6 y4 (1 : Int32) x4 (x3 ||| ((1 : Int32) <<< (x6 &&& 31))) x2 (x1 + (1 : Int32)) m5)))) else li (x6 + (1 : Int32)) (fun y8 => k67 (y8, m))
set_option maxRecDepth 100000 in
theorem tX3_takeFrom_67 (X : mCx) (rec : Int32 → Int32 → Int32 → Int32 → Int32 → mMem → mR) (x1 : Int32) (x2 : Int32) (x3 : Int32) (x4 : Int32) (x5 : Int32) (d : Nat) (hrec : ∀ (l : Launch) (x1 x2 x3 x4 x5 : Int32) (m : mMem), BS l (qX3_takeFrom d) [.ref 57, .int x1, .int x2, .int x3, .int x4, .int x5] m (rec x1 x2 x3 x4 x5 m)) : ∀ (n : Nat) (s : Int32 × mMem), T (qX3_takeFrom (d + 1)) X (lp (bX3_takeFrom_67 rec x1 x2 x3 x4 x5) n s) 67 [(0, .ref 57), (1, .int x1), (2, .int x2), (3, .int x3), (4, .int x4), (5, .int x5), (6, .int s.1)] [] s.2 :=
  T_lp (body := bX3_takeFrom_67 rec x1 x2 x3 x4 x5) (lv := fun s => [(0, .ref 57), (1, .int x1), (2, .int x2), (3, .int x3), (4, .int x4), (5, .int x5), (6, .int s.1)]) (st := fun _ => []) (μ := fun s : Int32 × mMem => s.2) (fun k67 hk67 s => by
    obtain ⟨x6, m⟩ := s
    show T (qX3_takeFrom (d + 1)) X (bX3_takeFrom_67 rec x1 x2 x3 x4 x5 k67 (x6, m)) 67 [(0, .ref 57), (1, .int x1), (2, .int x2), (3, .int x3), (4, .int x4), (5, .int x5), (6, .int x6)] [] m
    unfold bX3_takeFrom_67
    dsimp only
    refine T_iload 6 rfl dX3_takeFrom_67 ?_
    refine T_iload_n 2 rfl rfl dX3_takeFrom_69 ?_
    refine T_icmp_ge 141 dX3_takeFrom_70 (by decide) (fun _ => ?_) (fun _ => ?_)
    · exact T_vret rfl dX3_takeFrom_141
    · refine T_iload_n 3 rfl rfl dX3_takeFrom_73 ?_
      refine T_iload 6 rfl dX3_takeFrom_74 ?_
      refine T_ishr dX3_takeFrom_76 ?_
      refine T_iconst (1 : Int32) (by decide) dX3_takeFrom_77 ?_
      refine T_iand dX3_takeFrom_78 ?_
      refine T_if_ne 135 dX3_takeFrom_79 (by decide) (fun _ => ?_) (fun _ => ?_)
      · refine T_aload_n 0 rfl rfl dX3_takeFrom_82 ?_
        refine gRX3_28 rfl kd_57 61 rfl dX3_takeFrom_83 ?_
        refine T_iload_n 1 rfl rfl dX3_takeFrom_86 ?_
        refine T_iconst (4 : Int32) (by decide) dX3_takeFrom_87 ?_
        refine T_imul dX3_takeFrom_88 ?_
        refine T_iload 6 rfl dX3_takeFrom_89 ?_
        refine T_iadd dX3_takeFrom_91 ?_
        refine T_iald kd_61 dX3_takeFrom_92 ?_
        refine T_istore (lv' := [(7, .int (m.1 61 (((x1 * (4 : Int32)) + x6)).toNatClampNeg)), (0, .ref 57), (1, .int x1), (2, .int x2), (3, .int x3), (4, .int x4), (5, .int x5), (6, .int x6)]) (Nat.le_of_ble_eq_true rfl) rfl dX3_takeFrom_93 ?_
        refine T_li (fun y4 => ?_)
        refine T_aload_n 1 rfl rfl dX3_takeFrom_95 ?_
        refine gRX3_22 rfl kd_57 59 rfl dX3_takeFrom_96 ?_
        refine T_iload_n 2 rfl rfl dX3_takeFrom_99 ?_
        refine T_iload 7 rfl dX3_takeFrom_100 ?_
        refine T_iast _ rfl kd_59 dX3_takeFrom_102 ?_
        refine T_lt (fun m5 => ?_)
        refine T_aload_n 1 rfl rfl dX3_takeFrom_103 ?_
        refine T_iload_n 2 rfl rfl dX3_takeFrom_104 ?_
        refine T_iconst (1 : Int32) (by decide) dX3_takeFrom_105 ?_
        refine T_iadd dX3_takeFrom_106 ?_
        refine T_iload_n 3 rfl rfl dX3_takeFrom_107 ?_
        refine T_iload_n 4 rfl rfl dX3_takeFrom_108 ?_
        refine T_iconst (1 : Int32) (by decide) dX3_takeFrom_109 ?_
        refine T_iload 7 rfl dX3_takeFrom_110 ?_
        refine T_ishl dX3_takeFrom_112 ?_
        refine T_ior dX3_takeFrom_113 ?_
        refine T_iload 5 rfl dX3_takeFrom_114 ?_
        refine T_iload 0 rfl dX3_takeFrom_116 ?_
        refine T_if_le 125 dX3_takeFrom_118 (by decide) (fun _ => ?_) (fun _ => ?_)
        · refine T_iconst (0 : Int32) (by decide) dX3_takeFrom_125 ?_
          exact T_sub [1, 2, 3, 4, 5, 6, 7, 0] rfl (uX3_takeFrom_126 X rec k67 x1 x2 x3 x4 x5 x6 y4 (0 : Int32) x4 (x3 ||| ((1 : Int32) <<< (x6 &&& 31))) x2 (x1 + (1 : Int32)) m5 d hrec hk67)
        · refine T_iconst (1 : Int32) (by decide) dX3_takeFrom_121 ?_
          refine T_goto 126 dX3_takeFrom_122 (by decide) ?_
          exact T_sub [1, 2, 3, 4, 5, 6, 7, 0] rfl (uX3_takeFrom_126 X rec k67 x1 x2 x3 x4 x5 x6 y4 (1 : Int32) x4 (x3 ||| ((1 : Int32) <<< (x6 &&& 31))) x2 (x1 + (1 : Int32)) m5 d hrec hk67)
      · refine T_iinc (lv' := [(6, .int (x6 + (1 : Int32))), (0, .ref 57), (1, .int x1), (2, .int x2), (3, .int x3), (4, .int x4), (5, .int x5)]) 6 (1 : Int32) rfl (by decide) (Nat.le_of_ble_eq_true rfl) rfl dX3_takeFrom_135 ?_
        refine T_li (fun y8 => ?_)
        refine T_goto 67 dX3_takeFrom_138 (by decide) ?_
        exact T_sub [1, 2, 3, 4, 5, 6, 0] rfl (hk67 (y8, m)))
def FX3_takeFrom (rec : Int32 → Int32 → Int32 → Int32 → Int32 → mMem → mR) (x1 : Int32) (x2 : Int32) (x3 : Int32) (x4 : Int32) (x5 : Int32) (m : mMem) : mR := if x2 ≤ x1 then jX3_takeFrom_10 rec x4 x5 m else if x1 < (4 : Int32) then lp (bX3_takeFrom_67 rec x1 x2 x3 x4 x5) FU ((0 : Int32), m) else jX3_takeFrom_10 rec x4 x5 m
set_option maxRecDepth 100000 in
theorem BS_X3_takeFrom (l : Launch) (d : Nat) (rec : Int32 → Int32 → Int32 → Int32 → Int32 → mMem → mR) (hrec : ∀ (l : Launch) (x1 x2 x3 x4 x5 : Int32) (m : mMem), BS l (qX3_takeFrom d) [.ref 57, .int x1, .int x2, .int x3, .int x4, .int x5] m (rec x1 x2 x3 x4 x5 m)) (x1 : Int32) (x2 : Int32) (x3 : Int32) (x4 : Int32) (x5 : Int32) (m : mMem)  : BS l (qX3_takeFrom (d + 1)) [.ref 57, .int x1, .int x2, .int x3, .int x4, .int x5] m (FX3_takeFrom rec x1 x2 x3 x4 x5 m) := BS_of (by show plainName yX3_takeFrom.cls = true; decide) (Nat.le_of_ble_eq_true rfl) (fun X _ => by
    show T (qX3_takeFrom (d + 1)) X (FX3_takeFrom rec x1 x2 x3 x4 x5 m) 0 [(0, .ref 57), (1, .int x1), (2, .int x2), (3, .int x3), (4, .int x4), (5, .int x5)] [] m
    unfold FX3_takeFrom
    refine T_iload_n 1 rfl rfl dX3_takeFrom_0 ?_
    refine T_iload_n 2 rfl rfl dX3_takeFrom_1 ?_
    refine T_icmp_ge 10 dX3_takeFrom_2 (by decide) (fun _ => ?_) (fun _ => ?_)
    · exact T_sub [0, 4, 5] rfl (uX3_takeFrom_10 X rec x4 x5 m d hrec)
    · refine T_iload_n 1 rfl rfl dX3_takeFrom_5 ?_
      refine T_iconst (4 : Int32) (by decide) dX3_takeFrom_6 ?_
      refine T_icmp_lt 64 dX3_takeFrom_7 (by decide) (fun _ => ?_) (fun _ => ?_)
      · refine T_iconst (0 : Int32) (by decide) dX3_takeFrom_64 ?_
        refine T_istore (lv' := [(6, .int (0 : Int32)), (0, .ref 57), (1, .int x1), (2, .int x2), (3, .int x3), (4, .int x4), (5, .int x5)]) (Nat.le_of_ble_eq_true rfl) rfl dX3_takeFrom_65 ?_
        exact T_sub [1, 2, 3, 4, 5, 6, 0] rfl (tX3_takeFrom_67 X rec x1 x2 x3 x4 x5 d hrec FU ((0 : Int32), m))
      · exact T_sub [0, 4, 5] rfl (uX3_takeFrom_10 X rec x4 x5 m d hrec))
def fX3_takeFrom : Nat → Int32 → Int32 → Int32 → Int32 → Int32 → mMem → mR
  | 0 => fun _ _ _ _ _ _ => none
  | d + 1 => FX3_takeFrom (fX3_takeFrom d)
theorem bsX3_takeFrom (l : Launch) : ∀ (d : Nat) (x1 : Int32) (x2 : Int32) (x3 : Int32) (x4 : Int32) (x5 : Int32) (m : mMem), BS l (qX3_takeFrom d) [.ref 57, .int x1, .int x2, .int x3, .int x4, .int x5] m (fX3_takeFrom d x1 x2 x3 x4 x5 m)
  | 0, x1, x2, x3, x4, x5, m => fun _ _ h => by cases h
  | d + 1, x1, x2, x3, x4, x5, m => BS_X3_takeFrom l d (fX3_takeFrom d) (fun l x1 x2 x3 x4 x5 m => bsX3_takeFrom l d x1 x2 x3 x4 x5 m) x1 x2 x3 x4 x5 m
theorem lmX3_36 : Cond.methodLink RX3 36 yX4_treadBits ∈ gdL := gd_mem 725 (by decide +kernel) (by decide +kernel)
theorem lmX3_40 : Cond.methodLink RX3 40 yX4_reachOf ∈ gdL := gd_mem 726 (by decide +kernel) (by decide +kernel)
theorem lmX3_46 : Cond.methodLink RX3 46 yX1_findPaths ∈ gdL := gd_mem 727 (by decide +kernel) (by decide +kernel)
theorem lmX3_55 : Cond.methodLink RX3 55 yJ6_bitCount_0f7a4 ∈ gdL := gd_mem 728 (by decide +kernel) (by decide +kernel)
theorem lfX3_25 : Cond.fieldLink RX3 25 "RankStairs$Exchange" "paths" "[I" ∈ gdL := gd_mem 218 (by decide +kernel) (by decide +kernel)
theorem gRX3_25 {q : mMI} {X : mCx} {tgt : mR} {pc : Nat} {lv : List (Nat × Value)} {st : List Value} {μ : mMem} {b : Nat} (hq : q.1.cls = RX3) (hb : kd b = (3, 0)) (z : Nat) (hz : rf b 4 = z) (hd : decode q.2.1 pc = .ok (.getfield 25, 3)) (h : T q X tgt (pc + 3) lv (.ref z :: st) μ) : T q X tgt pc lv (.ref b :: st) μ := T_getR (c := 3) rfl (by decide) rfl (by decide) (by rw [hq]; exact lfX3_25) hb z hz hd h
theorem lfX3_31 : Cond.fieldLink RX3 31 "RankStairs$House" "lodgers" "I" ∈ gdL := gd_mem 130 (by decide +kernel) (by decide +kernel)
theorem gIX3_31 {q : mMI} {X : mCx} {tgt : mR} {pc : Nat} {lv : List (Nat × Value)} {st : List Value} {μ : mMem} {b : Nat} (hq : q.1.cls = RX3) (hb : kd b = (4, 0)) (hd : decode q.2.1 pc = .ok (.getfield 31, 3)) (h : T q X tgt (pc + 3) lv (.int (μ.1 b 1) :: st) μ) : T q X tgt pc lv (.ref b :: st) μ := T_getI (c := 4) rfl (by decide) rfl (by decide) (by rw [hq]; exact lfX3_31) hb hd h
theorem pIX3_31 {q : mMI} {X : mCx} {tgt : mR} {pc : Nat} {lv : List (Nat × Value)} {st : List Value} {μ : mMem} {b : Nat} {x : Int32} (hq : q.1.cls = RX3) (hn : narrow .int (.int x) = .int x) (hfit : fits .int (.int x) = true) (hb : kd b = (4, 0)) (hd : decode q.2.1 pc = .ok (.putfield 31, 3)) (h : T q X tgt (pc + 3) lv st (si μ b 1 x)) : T q X tgt pc lv (.int x :: .ref b :: st) μ := T_put (c := 4) rfl (by decide) rfl (by decide) (by rw [hq]; exact lfX3_31) (by decide) hn hfit hb hd h
theorem lfX3_43 : Cond.fieldLink RX3 43 "RankStairs$House" "steps" "I" ∈ gdL := gd_mem 124 (by decide +kernel) (by decide +kernel)
theorem gIX3_43 {q : mMI} {X : mCx} {tgt : mR} {pc : Nat} {lv : List (Nat × Value)} {st : List Value} {μ : mMem} {b : Nat} (hq : q.1.cls = RX3) (hb : kd b = (4, 0)) (hd : decode q.2.1 pc = .ok (.getfield 43, 3)) (h : T q X tgt (pc + 3) lv (.int (μ.1 b 0) :: st) μ) : T q X tgt pc lv (.ref b :: st) μ := T_getI (c := 4) rfl (by decide) rfl (by decide) (by rw [hq]; exact lfX3_43) hb hd h
theorem pIX3_43 {q : mMI} {X : mCx} {tgt : mR} {pc : Nat} {lv : List (Nat × Value)} {st : List Value} {μ : mMem} {b : Nat} {x : Int32} (hq : q.1.cls = RX3) (hn : narrow .int (.int x) = .int x) (hfit : fits .int (.int x) = true) (hb : kd b = (4, 0)) (hd : decode q.2.1 pc = .ok (.putfield 43, 3)) (h : T q X tgt (pc + 3) lv st (si μ b 0 x)) : T q X tgt pc lv (.int x :: .ref b :: st) μ := T_put (c := 4) rfl (by decide) rfl (by decide) (by rw [hq]; exact lfX3_43) (by decide) hn hfit hb hd h
theorem lfX3_52 : Cond.fieldLink RX3 52 "RankStairs$House" "floorOf" "[I" ∈ gdL := gd_mem 162 (by decide +kernel) (by decide +kernel)
theorem gRX3_52 {q : mMI} {X : mCx} {tgt : mR} {pc : Nat} {lv : List (Nat × Value)} {st : List Value} {μ : mMem} {b : Nat} (hq : q.1.cls = RX3) (hb : kd b = (4, 0)) (z : Nat) (hz : rf b 11 = z) (hd : decode q.2.1 pc = .ok (.getfield 52, 3)) (h : T q X tgt (pc + 3) lv (.ref z :: st) μ) : T q X tgt pc lv (.ref b :: st) μ := T_getR (c := 4) rfl (by decide) rfl (by decide) (by rw [hq]; exact lfX3_52) hb z hz hd h
def bX3_arrange_35 (k2 : Int32 × mMem → mR) (r1 : Nat) (x2 : Int32) (k35 : Int32 × mMem → mR) (s : Int32 × mMem) : mR := match s with
  | (x3, m) => if (m.1 r1 1) ≤ x3 then li (x2 + (1 : Int32)) (fun y11 => k2 (y11, m)) else ga x3 4 (ga (m.1 (r1 + 7) (x3).toNatClampNeg) 10 (bI (fJ6_bitCount_0f7a4 (m.1 60 ((m.1 (r1 + 7) (x3).toNatClampNeg)).toNatClampNeg) m) (fun z13 m12 => ga ((x2 * (4 : Int32)) + x3) 16 (lt (si m12 61 (((x2 * (4 : Int32)) + x3)).toNatClampNeg z13) (fun m15 => li (x3 + (1 : Int32)) (fun y16 => k35 (y16, m15)))))))
set_option maxRecDepth 100000 in
theorem tX3_arrange_35 (X : mCx) (k2 : Int32 × mMem → mR) (r1 : Nat) (x2 : Int32) (h1 : kd r1 = (4, 0)) (hk2 : ∀ s : Int32 × mMem, T qX3_arrange X (k2 s) 2 [(0, .ref 57), (1, .ref r1), (2, .int s.1)] [] s.2) : ∀ (n : Nat) (s : Int32 × mMem), T qX3_arrange X (lp (bX3_arrange_35 k2 r1 x2) n s) 35 [(0, .ref 57), (1, .ref r1), (2, .int x2), (3, .int s.1)] [] s.2 :=
  T_lp (body := bX3_arrange_35 k2 r1 x2) (lv := fun s => [(0, .ref 57), (1, .ref r1), (2, .int x2), (3, .int s.1)]) (st := fun _ => []) (μ := fun s : Int32 × mMem => s.2) (fun k35 hk35 s => by
    obtain ⟨x3, m⟩ := s
    show T qX3_arrange X (bX3_arrange_35 k2 r1 x2 k35 (x3, m)) 35 [(0, .ref 57), (1, .ref r1), (2, .int x2), (3, .int x3)] [] m
    unfold bX3_arrange_35
    dsimp only
    refine T_iload_n 3 rfl rfl dX3_arrange_35 ?_
    refine T_aload_n 1 rfl rfl dX3_arrange_36 ?_
    refine gIX3_31 rfl h1 dX3_arrange_37 ?_
    refine T_icmp_ge 73 dX3_arrange_40 (by decide) (fun _ => ?_) (fun _ => ?_)
    · refine T_iinc (lv' := [(2, .int (x2 + (1 : Int32))), (0, .ref 57), (1, .ref r1), (3, .int x3)]) 2 (1 : Int32) rfl (by decide) (Nat.le_of_ble_eq_true rfl) rfl dX3_arrange_73 ?_
      refine T_li (fun y11 => ?_)
      refine T_goto 2 dX3_arrange_76 (by decide) ?_
      exact T_sub [1, 2, 0] rfl (hk2 (y11, m))
    · refine T_aload_n 0 rfl rfl dX3_arrange_43 ?_
      refine gRX3_28 rfl kd_57 61 rfl dX3_arrange_44 ?_
      refine T_iload_n 2 rfl rfl dX3_arrange_47 ?_
      refine T_iconst (4 : Int32) (by decide) dX3_arrange_48 ?_
      refine T_imul dX3_arrange_49 ?_
      refine T_iload_n 3 rfl rfl dX3_arrange_50 ?_
      refine T_iadd dX3_arrange_51 ?_
      refine T_aload_n 0 rfl rfl dX3_arrange_52 ?_
      refine gRX3_25 rfl kd_57 60 rfl dX3_arrange_53 ?_
      refine T_aload_n 1 rfl rfl dX3_arrange_56 ?_
      refine gRX3_52 rfl h1 (r1 + 7) (rfH11 h1) dX3_arrange_57 ?_
      refine T_iload_n 3 rfl rfl dX3_arrange_60 ?_
      refine T_iald (kdH11 h1) dX3_arrange_61 ?_
      refine T_iald kd_60 dX3_arrange_62 ?_
      refine T_cSI [.int (m.1 60 ((m.1 (r1 + 7) (x3).toNatClampNeg)).toNatClampNeg)] [.int ((x2 * (4 : Int32)) + x3), .ref 61] mkJ6_bitCount_0f7a4 lmX3_55 rfl (by decide) (Nat.le_of_ble_eq_true rfl) dX3_arrange_63 (bsJ6_bitCount_0f7a4 _ (m.1 60 ((m.1 (r1 + 7) (x3).toNatClampNeg)).toNatClampNeg) m) (fun z13 m12 => ?_)
      refine T_iast _ rfl kd_61 dX3_arrange_66 ?_
      refine T_lt (fun m15 => ?_)
      refine T_iinc (lv' := [(3, .int (x3 + (1 : Int32))), (0, .ref 57), (1, .ref r1), (2, .int x2)]) 3 (1 : Int32) rfl (by decide) (Nat.le_of_ble_eq_true rfl) rfl dX3_arrange_67 ?_
      refine T_li (fun y16 => ?_)
      refine T_goto 35 dX3_arrange_70 (by decide) ?_
      exact T_sub [1, 2, 3, 0] rfl (hk35 (y16, m15)))
def bX3_arrange_2 (r1 : Nat) (k2 : Int32 × mMem → mR) (s : Int32 × mMem) : mR := match s with
  | (x2, m) => if (m.1 r1 1) ≤ x2 then lt (si m 57 0 (-1 : Int32)) (fun m1 => lt (si m1 57 1 (0 : Int32)) (fun m2 => bV (fX3_takeFrom 8 (0 : Int32) (m2.1 r1 1) (0 : Int32) (0 : Int32) (0 : Int32) m2) (fun m3 => some (none, m3)))) else bI (fX4_treadBits r1 x2 m) (fun z5 m4 => bI (fX4_reachOf r1 x2 m4) (fun z8 m7 => bV (fX1_findPaths z5 z8 ((m7.1 r1 0) - (1 : Int32)) 60 10 m7) (fun m10 => lp (bX3_arrange_35 k2 r1 x2) FU ((0 : Int32), m10))))
set_option maxRecDepth 100000 in
theorem tX3_arrange_2 (X : mCx) (r1 : Nat) (h1 : kd r1 = (4, 0)) : ∀ (n : Nat) (s : Int32 × mMem), T qX3_arrange X (lp (bX3_arrange_2 r1) n s) 2 [(0, .ref 57), (1, .ref r1), (2, .int s.1)] [] s.2 :=
  T_lp (body := bX3_arrange_2 r1) (lv := fun s => [(0, .ref 57), (1, .ref r1), (2, .int s.1)]) (st := fun _ => []) (μ := fun s : Int32 × mMem => s.2) (fun k2 hk2 s => by
    obtain ⟨x2, m⟩ := s
    show T qX3_arrange X (bX3_arrange_2 r1 k2 (x2, m)) 2 [(0, .ref 57), (1, .ref r1), (2, .int x2)] [] m
    unfold bX3_arrange_2
    dsimp only
    refine T_iload_n 2 rfl rfl dX3_arrange_2 ?_
    refine T_aload_n 1 rfl rfl dX3_arrange_3 ?_
    refine gIX3_31 rfl h1 dX3_arrange_4 ?_
    refine T_icmp_ge 79 dX3_arrange_7 (by decide) (fun _ => ?_) (fun _ => ?_)
    · refine T_aload_n 0 rfl rfl dX3_arrange_79 ?_
      refine T_iconst (-1 : Int32) (by decide) dX3_arrange_80 ?_
      refine pIX3_9 rfl rfl rfl kd_57 dX3_arrange_81 ?_
      refine T_lt (fun m1 => ?_)
      refine T_aload_n 0 rfl rfl dX3_arrange_84 ?_
      refine T_iconst (0 : Int32) (by decide) dX3_arrange_85 ?_
      refine pIX3_15 rfl rfl rfl kd_57 dX3_arrange_86 ?_
      refine T_lt (fun m2 => ?_)
      refine T_aload_n 0 rfl rfl dX3_arrange_89 ?_
      refine T_iconst (0 : Int32) (by decide) dX3_arrange_90 ?_
      refine T_aload_n 1 rfl rfl dX3_arrange_91 ?_
      refine gIX3_31 rfl h1 dX3_arrange_92 ?_
      refine T_iconst (0 : Int32) (by decide) dX3_arrange_95 ?_
      refine T_iconst (0 : Int32) (by decide) dX3_arrange_96 ?_
      refine T_iconst (0 : Int32) (by decide) dX3_arrange_97 ?_
      refine T_cVV (c := 3) [.int (0 : Int32), .int (m2.1 r1 1), .int (0 : Int32), .int (0 : Int32), .int (0 : Int32)] [] (mkX3_takeFrom 8) lmX3_60 rfl rfl (by decide) (Nat.le_of_ble_eq_true rfl) kd_57 dX3_arrange_98 (bsX3_takeFrom _ 8 (0 : Int32) (m2.1 r1 1) (0 : Int32) (0 : Int32) (0 : Int32) m2) (fun m3 => ?_)
      exact T_vret rfl dX3_arrange_101
    · refine T_aload_n 1 rfl rfl dX3_arrange_10 ?_
      refine T_iload_n 2 rfl rfl dX3_arrange_11 ?_
      refine T_cVI (c := 4) [.int x2] [] mkX4_treadBits lmX3_36 rfl rfl (by decide) (Nat.le_of_ble_eq_true rfl) h1 dX3_arrange_12 (bsX4_treadBits _ r1 x2 m h1) (fun z5 m4 => ?_)
      refine T_aload_n 1 rfl rfl dX3_arrange_15 ?_
      refine T_iload_n 2 rfl rfl dX3_arrange_16 ?_
      refine T_cVI (c := 4) [.int x2] [.int z5] mkX4_reachOf lmX3_40 rfl rfl (by decide) (Nat.le_of_ble_eq_true rfl) h1 dX3_arrange_17 (bsX4_reachOf _ r1 x2 m4 h1) (fun z8 m7 => ?_)
      refine T_aload_n 1 rfl rfl dX3_arrange_20 ?_
      refine gIX3_43 rfl h1 dX3_arrange_21 ?_
      refine T_iconst (1 : Int32) (by decide) dX3_arrange_24 ?_
      refine T_isub dX3_arrange_25 ?_
      refine T_aload_n 0 rfl rfl dX3_arrange_26 ?_
      refine gRX3_25 rfl kd_57 60 rfl dX3_arrange_27 ?_
      refine T_cSV [.int z5, .int z8, .int ((m7.1 r1 0) - (1 : Int32)), .ref 60] [] mkX1_findPaths lmX3_46 rfl (by decide) (Nat.le_of_ble_eq_true rfl) dX3_arrange_30 (bsX1_findPaths _ z5 z8 ((m7.1 r1 0) - (1 : Int32)) 60 10 m7 kd_60) (fun m10 => ?_)
      refine T_iconst (0 : Int32) (by decide) dX3_arrange_33 ?_
      refine T_istore_n (lv' := [(3, .int (0 : Int32)), (0, .ref 57), (1, .ref r1), (2, .int x2)]) rfl (Nat.le_of_ble_eq_true rfl) rfl dX3_arrange_34 ?_
      exact T_sub [1, 2, 3, 0] rfl (tX3_arrange_35 X k2 r1 x2 h1 hk2 FU ((0 : Int32), m10)))
def fX3_arrange (r1 : Nat) (m : mMem) : mR := lp (bX3_arrange_2 r1) FU ((0 : Int32), m)
set_option maxRecDepth 100000 in
theorem bsX3_arrange (l : Launch) (r1 : Nat) (m : mMem) (h1 : kd r1 = (4, 0)) : BS l qX3_arrange [.ref 57, .ref r1] m (fX3_arrange r1 m) := BS_of (by decide) (Nat.le_of_ble_eq_true rfl) (fun X _ => by
    show T qX3_arrange X (fX3_arrange r1 m) 0 [(0, .ref 57), (1, .ref r1)] [] m
    unfold fX3_arrange
    refine T_iconst (0 : Int32) (by decide) dX3_arrange_0 ?_
    refine T_istore_n (lv' := [(2, .int (0 : Int32)), (0, .ref 57), (1, .ref r1)]) rfl (Nat.le_of_ble_eq_true rfl) rfl dX3_arrange_1 ?_
    exact T_sub [1, 2, 0] rfl (tX3_arrange_2 X r1 h1 FU ((0 : Int32), m)))
