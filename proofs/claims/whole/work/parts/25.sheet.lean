abbrev qX5_isNothing : mMI := (yX5_isNothing, cX5_isNothing, 1, (some .boolean), 0)
theorem dX5_isNothing_0 : decode cX5_isNothing 0 = .ok (.aload_n 0, 1) := by decide +kernel
theorem dX5_isNothing_1 : decode cX5_isNothing 1 = .ok (.getfield 17, 3) := by decide +kernel
theorem dX5_isNothing_4 : decode cX5_isNothing 4 = .ok (.iconst (-1), 1) := by decide +kernel
theorem dX5_isNothing_5 : decode cX5_isNothing 5 = .ok (.if_icmp .ne 7, 3) := by decide +kernel
theorem dX5_isNothing_8 : decode cX5_isNothing 8 = .ok (.iconst 1, 1) := by decide +kernel
theorem dX5_isNothing_9 : decode cX5_isNothing 9 = .ok (.goto 4, 3) := by decide +kernel
theorem dX5_isNothing_12 : decode cX5_isNothing 12 = .ok (.iconst 0, 1) := by decide +kernel
theorem dX5_isNothing_13 : decode cX5_isNothing 13 = .ok (.ireturn, 1) := by decide +kernel
theorem mkX5_isNothing : mokV qX5_isNothing 0 := ⟨⟨⟨⟨by decide, by decide, by decide +kernel⟩, by decide⟩, gd_mem 58 (by decide +kernel) (by decide +kernel), gd_mem 847 (by decide +kernel) (by decide +kernel)⟩, gd_mem 845 (by decide +kernel) (by decide +kernel), gd_mem 846 (by decide +kernel) (by decide +kernel)⟩
abbrev qX5_put : mMI := (yX5_put, cX5_put, 3, none, 0)
theorem dX5_put_0 : decode cX5_put 0 = .ok (.aload_n 0, 1) := by decide +kernel
theorem dX5_put_1 : decode cX5_put 1 = .ok (.getfield 17, 3) := by decide +kernel
theorem dX5_put_4 : decode cX5_put 4 = .ok (.lookupswitch 50 #[(0, 28), (1, 39)], 28) := by decide +kernel
theorem dX5_put_32 : decode cX5_put 32 = .ok (.aload_n 0, 1) := by decide +kernel
theorem dX5_put_33 : decode cX5_put 33 = .ok (.getfield 13, 3) := by decide +kernel
theorem dX5_put_36 : decode cX5_put 36 = .ok (.iload_n 1, 1) := by decide +kernel
theorem dX5_put_37 : decode cX5_put 37 = .ok (.iload_n 2, 1) := by decide +kernel
theorem dX5_put_38 : decode cX5_put 38 = .ok (.i2b, 1) := by decide +kernel
theorem dX5_put_39 : decode cX5_put 39 = .ok (.iastore, 1) := by decide +kernel
theorem dX5_put_40 : decode cX5_put 40 = .ok (.goto 21, 3) := by decide +kernel
theorem dX5_put_43 : decode cX5_put 43 = .ok (.aload_n 0, 1) := by decide +kernel
theorem dX5_put_44 : decode cX5_put 44 = .ok (.getfield 13, 3) := by decide +kernel
theorem dX5_put_47 : decode cX5_put 47 = .ok (.iload_n 1, 1) := by decide +kernel
theorem dX5_put_48 : decode cX5_put 48 = .ok (.iload_n 2, 1) := by decide +kernel
theorem dX5_put_49 : decode cX5_put 49 = .ok (.i2s, 1) := by decide +kernel
theorem dX5_put_50 : decode cX5_put 50 = .ok (.iastore, 1) := by decide +kernel
theorem dX5_put_51 : decode cX5_put 51 = .ok (.goto 10, 3) := by decide +kernel
theorem dX5_put_54 : decode cX5_put 54 = .ok (.aload_n 0, 1) := by decide +kernel
theorem dX5_put_55 : decode cX5_put 55 = .ok (.getfield 13, 3) := by decide +kernel
theorem dX5_put_58 : decode cX5_put 58 = .ok (.iload_n 1, 1) := by decide +kernel
theorem dX5_put_59 : decode cX5_put 59 = .ok (.iload_n 2, 1) := by decide +kernel
theorem dX5_put_60 : decode cX5_put 60 = .ok (.iastore, 1) := by decide +kernel
theorem dX5_put_61 : decode cX5_put 61 = .ok (.return_, 1) := by decide +kernel
theorem mkX5_put : mokV qX5_put 2 := ⟨⟨⟨⟨by decide, by decide, by decide +kernel⟩, by decide⟩, gd_mem 58 (by decide +kernel) (by decide +kernel), gd_mem 851 (by decide +kernel) (by decide +kernel)⟩, gd_mem 849 (by decide +kernel) (by decide +kernel), gd_mem 850 (by decide +kernel) (by decide +kernel)⟩
abbrev qX5_renew : mMI := (yX5_renew, cX5_renew, 3, none, 1)
theorem dX5_renew_0 : decode cX5_renew 0 = .ok (.aload_n 0, 1) := by decide +kernel
theorem dX5_renew_1 : decode cX5_renew 1 = .ok (.iload_n 1, 1) := by decide +kernel
theorem dX5_renew_2 : decode cX5_renew 2 = .ok (.putfield 17, 3) := by decide +kernel
theorem dX5_renew_5 : decode cX5_renew 5 = .ok (.aload_n 0, 1) := by decide +kernel
theorem dX5_renew_6 : decode cX5_renew 6 = .ok (.iload_n 2, 1) := by decide +kernel
theorem dX5_renew_7 : decode cX5_renew 7 = .ok (.putfield 7, 3) := by decide +kernel
theorem dX5_renew_10 : decode cX5_renew 10 = .ok (.aload_n 0, 1) := by decide +kernel
theorem dX5_renew_11 : decode cX5_renew 11 = .ok (.getfield 13, 3) := by decide +kernel
theorem dX5_renew_14 : decode cX5_renew 14 = .ok (.iconst 0, 1) := by decide +kernel
theorem dX5_renew_15 : decode cX5_renew 15 = .ok (.invokestatic 20, 3) := by decide +kernel
theorem dX5_renew_18 : decode cX5_renew 18 = .ok (.return_, 1) := by decide +kernel
theorem mkX5_renew : mokV qX5_renew 2 := ⟨⟨⟨⟨by decide, by decide, by decide +kernel⟩, by decide⟩, gd_mem 58 (by decide +kernel) (by decide +kernel), gd_mem 834 (by decide +kernel) (by decide +kernel)⟩, gd_mem 832 (by decide +kernel) (by decide +kernel), gd_mem 833 (by decide +kernel) (by decide +kernel)⟩
abbrev qX5_faultAt : mMI := (yX5_faultAt, cX5_faultAt, 2, (some .int), 1)
theorem dX5_faultAt_0 : decode cX5_faultAt 0 = .ok (.aload_n 0, 1) := by decide +kernel
theorem dX5_faultAt_1 : decode cX5_faultAt 1 = .ok (.invokevirtual 26, 3) := by decide +kernel
theorem dX5_faultAt_4 : decode cX5_faultAt 4 = .ok (.ifCond .eq 5, 3) := by decide +kernel
theorem dX5_faultAt_7 : decode cX5_faultAt 7 = .ok (.iconst 1, 1) := by decide +kernel
theorem dX5_faultAt_8 : decode cX5_faultAt 8 = .ok (.ireturn, 1) := by decide +kernel
theorem dX5_faultAt_9 : decode cX5_faultAt 9 = .ok (.iload_n 1, 1) := by decide +kernel
theorem dX5_faultAt_10 : decode cX5_faultAt 10 = .ok (.ifCond .lt 11, 3) := by decide +kernel
theorem dX5_faultAt_13 : decode cX5_faultAt 13 = .ok (.iload_n 1, 1) := by decide +kernel
theorem dX5_faultAt_14 : decode cX5_faultAt 14 = .ok (.aload_n 0, 1) := by decide +kernel
theorem dX5_faultAt_15 : decode cX5_faultAt 15 = .ok (.getfield 7, 3) := by decide +kernel
theorem dX5_faultAt_18 : decode cX5_faultAt 18 = .ok (.if_icmp .lt 7, 3) := by decide +kernel
theorem dX5_faultAt_21 : decode cX5_faultAt 21 = .ok (.iconst 2, 1) := by decide +kernel
theorem dX5_faultAt_22 : decode cX5_faultAt 22 = .ok (.goto 4, 3) := by decide +kernel
theorem dX5_faultAt_25 : decode cX5_faultAt 25 = .ok (.iconst 0, 1) := by decide +kernel
theorem dX5_faultAt_26 : decode cX5_faultAt 26 = .ok (.ireturn, 1) := by decide +kernel
theorem mkX5_faultAt : mokV qX5_faultAt 1 := ⟨⟨⟨⟨by decide, by decide, by decide +kernel⟩, by decide⟩, gd_mem 58 (by decide +kernel) (by decide +kernel), gd_mem 843 (by decide +kernel) (by decide +kernel)⟩, gd_mem 841 (by decide +kernel) (by decide +kernel), gd_mem 842 (by decide +kernel) (by decide +kernel)⟩
abbrev qX5_faultAs : mMI := (yX5_faultAs, cX5_faultAs, 3, (some .int), 2)
theorem dX5_faultAs_0 : decode cX5_faultAs 0 = .ok (.aload_n 0, 1) := by decide +kernel
theorem dX5_faultAs_1 : decode cX5_faultAs 1 = .ok (.invokevirtual 26, 3) := by decide +kernel
theorem dX5_faultAs_4 : decode cX5_faultAs 4 = .ok (.ifCond .ne 11, 3) := by decide +kernel
theorem dX5_faultAs_7 : decode cX5_faultAs 7 = .ok (.aload_n 0, 1) := by decide +kernel
theorem dX5_faultAs_8 : decode cX5_faultAs 8 = .ok (.getfield 17, 3) := by decide +kernel
theorem dX5_faultAs_11 : decode cX5_faultAs 11 = .ok (.iload_n 1, 1) := by decide +kernel
theorem dX5_faultAs_12 : decode cX5_faultAs 12 = .ok (.if_icmp .ne 11, 3) := by decide +kernel
theorem dX5_faultAs_15 : decode cX5_faultAs 15 = .ok (.aload_n 0, 1) := by decide +kernel
theorem dX5_faultAs_16 : decode cX5_faultAs 16 = .ok (.iload_n 2, 1) := by decide +kernel
theorem dX5_faultAs_17 : decode cX5_faultAs 17 = .ok (.invokevirtual 30, 3) := by decide +kernel
theorem dX5_faultAs_20 : decode cX5_faultAs 20 = .ok (.goto 4, 3) := by decide +kernel
theorem dX5_faultAs_23 : decode cX5_faultAs 23 = .ok (.iconst 3, 1) := by decide +kernel
theorem dX5_faultAs_24 : decode cX5_faultAs 24 = .ok (.ireturn, 1) := by decide +kernel
theorem mkX5_faultAs : mokV qX5_faultAs 2 := ⟨⟨⟨⟨by decide, by decide, by decide +kernel⟩, by decide⟩, gd_mem 58 (by decide +kernel) (by decide +kernel), gd_mem 859 (by decide +kernel) (by decide +kernel)⟩, gd_mem 857 (by decide +kernel) (by decide +kernel), gd_mem 858 (by decide +kernel) (by decide +kernel)⟩
theorem lfX5_17 : Cond.fieldLink RX5 17 "RankStairs$Sheet" "itsLane" "I" ∈ gdL := gd_mem 292 (by decide +kernel) (by decide +kernel)
theorem gIX5_17 {q : mMI} {X : mCx} {tgt : mR} {pc : Nat} {lv : List (Nat × Value)} {st : List Value} {μ : mMem} {b : Nat} (hq : q.1.cls = RX5) (hb : kd b = (5, 0)) (hd : decode q.2.1 pc = .ok (.getfield 17, 3)) (h : T q X tgt (pc + 3) lv (.int (μ.1 b 2) :: st) μ) : T q X tgt pc lv (.ref b :: st) μ := T_getI (c := 5) rfl (by decide) rfl (by decide) (by rw [hq]; exact lfX5_17) hb hd h
theorem pIX5_17 {q : mMI} {X : mCx} {tgt : mR} {pc : Nat} {lv : List (Nat × Value)} {st : List Value} {μ : mMem} {b : Nat} {x : Int32} (hq : q.1.cls = RX5) (hn : narrow .int (.int x) = .int x) (hfit : fits .int (.int x) = true) (hb : kd b = (5, 0)) (hd : decode q.2.1 pc = .ok (.putfield 17, 3)) (h : T q X tgt (pc + 3) lv st (si μ b 2 x)) : T q X tgt pc lv (.int x :: .ref b :: st) μ := T_put (c := 5) rfl (by decide) rfl (by decide) (by rw [hq]; exact lfX5_17) (by decide) hn hfit hb hd h
def fX5_isNothing (r0 : Nat) (m : mMem) : mR := if (m.1 r0 2) = (-1 : Int32) then some (some (.int (1 : Int32)), m) else some (some (.int (0 : Int32)), m)
set_option maxRecDepth 100000 in
theorem bsX5_isNothing (l : Launch) (r0 : Nat) (m : mMem) (h0 : kd r0 = (5, 0)) : BS l qX5_isNothing [.ref r0] m (fX5_isNothing r0 m) := BS_of (by decide) (Nat.le_of_ble_eq_true rfl) (fun X _ => by
    show T qX5_isNothing X (fX5_isNothing r0 m) 0 [(0, .ref r0)] [] m
    unfold fX5_isNothing
    refine T_aload_n 0 rfl rfl dX5_isNothing_0 ?_
    refine gIX5_17 rfl h0 dX5_isNothing_1 ?_
    refine T_iconst (-1 : Int32) (by decide) dX5_isNothing_4 ?_
    refine T_icmp_ne 12 dX5_isNothing_5 (by decide) (fun _ => ?_) (fun _ => ?_)
    · refine T_iconst (1 : Int32) (by decide) dX5_isNothing_8 ?_
      refine T_goto 13 dX5_isNothing_9 (by decide) ?_
      exact T_zretc (by decide) rfl dX5_isNothing_13
    · refine T_iconst (0 : Int32) (by decide) dX5_isNothing_12 ?_
      exact T_zretc (by decide) rfl dX5_isNothing_13)
theorem lfX5_13 : Cond.fieldLink RX5 13 "RankStairs$Sheet" "cells" "[I" ∈ gdL := gd_mem 290 (by decide +kernel) (by decide +kernel)
theorem gRX5_13 {q : mMI} {X : mCx} {tgt : mR} {pc : Nat} {lv : List (Nat × Value)} {st : List Value} {μ : mMem} {b : Nat} (hq : q.1.cls = RX5) (hb : kd b = (5, 0)) (z : Nat) (hz : rf b 1 = z) (hd : decode q.2.1 pc = .ok (.getfield 13, 3)) (h : T q X tgt (pc + 3) lv (.ref z :: st) μ) : T q X tgt pc lv (.ref b :: st) μ := T_getR (c := 5) rfl (by decide) rfl (by decide) (by rw [hq]; exact lfX5_13) hb z hz hd h
def fX5_put (r0 : Nat) (x1 : Int32) (x2 : Int32) (m : mMem) : mR := if (m.1 r0 2) = (0 : Int32) then ga x1 40 (lt (si m (r0 + 1) (x1).toNatClampNeg (x2).toInt8.toInt32) (fun m1 => some (none, m1))) else if (m.1 r0 2) = (1 : Int32) then ga x1 40 (lt (si m (r0 + 1) (x1).toNatClampNeg (x2).toInt16.toInt32) (fun m2 => some (none, m2))) else ga x1 40 (lt (si m (r0 + 1) (x1).toNatClampNeg x2) (fun m3 => some (none, m3)))
set_option maxRecDepth 100000 in
theorem bsX5_put (l : Launch) (r0 : Nat) (x1 : Int32) (x2 : Int32) (m : mMem) (h0 : kd r0 = (5, 0)) : BS l qX5_put [.ref r0, .int x1, .int x2] m (fX5_put r0 x1 x2 m) := BS_of (by decide) (Nat.le_of_ble_eq_true rfl) (fun X _ => by
    show T qX5_put X (fX5_put r0 x1 x2 m) 0 [(0, .ref r0), (1, .int x1), (2, .int x2)] [] m
    unfold fX5_put
    refine T_aload_n 0 rfl rfl dX5_put_0 ?_
    refine gIX5_17 rfl h0 dX5_put_1 ?_
    refine T_ite (fun hc => ?_) (fun hn0 => ?_)
    · refine T_lsw (off := 28) 32 dX5_put_4 (by decide) (by rw [hc]; decide) (by decide) ?_
      refine T_aload_n 0 rfl rfl dX5_put_32 ?_
      refine gRX5_13 rfl h0 (r0 + 1) (rfS1 h0) dX5_put_33 ?_
      refine T_iload_n 1 rfl rfl dX5_put_36 ?_
      refine T_iload_n 2 rfl rfl dX5_put_37 ?_
      refine T_i2b dX5_put_38 ?_
      refine T_iast _ rfl (kdS1 h0) dX5_put_39 ?_
      refine T_lt (fun m1 => ?_)
      refine T_goto 61 dX5_put_40 (by decide) ?_
      exact T_vret rfl dX5_put_61
    · refine T_ite (fun hc => ?_) (fun hn1 => ?_)
      · refine T_lsw (off := 39) 43 dX5_put_4 (by decide) (by rw [hc]; decide) (by decide) ?_
        refine T_aload_n 0 rfl rfl dX5_put_43 ?_
        refine gRX5_13 rfl h0 (r0 + 1) (rfS1 h0) dX5_put_44 ?_
        refine T_iload_n 1 rfl rfl dX5_put_47 ?_
        refine T_iload_n 2 rfl rfl dX5_put_48 ?_
        refine T_i2s dX5_put_49 ?_
        refine T_iast _ rfl (kdS1 h0) dX5_put_50 ?_
        refine T_lt (fun m2 => ?_)
        refine T_goto 61 dX5_put_51 (by decide) ?_
        exact T_vret rfl dX5_put_61
      · refine T_lsw (off := 50) 54 dX5_put_4 (by decide) (by have e0 := neT (k := 0) hn0 (by decide); have e1 := neT (k := 1) hn1 (by decide); simp [Op.lookupswitch.offset, e0, e0.symm, e1, e1.symm]) (by decide) ?_
        refine T_aload_n 0 rfl rfl dX5_put_54 ?_
        refine gRX5_13 rfl h0 (r0 + 1) (rfS1 h0) dX5_put_55 ?_
        refine T_iload_n 1 rfl rfl dX5_put_58 ?_
        refine T_iload_n 2 rfl rfl dX5_put_59 ?_
        refine T_iast _ rfl (kdS1 h0) dX5_put_60 ?_
        refine T_lt (fun m3 => ?_)
        exact T_vret rfl dX5_put_61)
theorem lmX5_20 : Cond.methodLink RX5 20 yJ7_fill_53178 ∈ gdL := gd_mem 835 (by decide +kernel) (by decide +kernel)
theorem lfX5_7 : Cond.fieldLink RX5 7 "RankStairs$Sheet" "size" "I" ∈ gdL := gd_mem 288 (by decide +kernel) (by decide +kernel)
theorem gIX5_7 {q : mMI} {X : mCx} {tgt : mR} {pc : Nat} {lv : List (Nat × Value)} {st : List Value} {μ : mMem} {b : Nat} (hq : q.1.cls = RX5) (hb : kd b = (5, 0)) (hd : decode q.2.1 pc = .ok (.getfield 7, 3)) (h : T q X tgt (pc + 3) lv (.int (μ.1 b 0) :: st) μ) : T q X tgt pc lv (.ref b :: st) μ := T_getI (c := 5) rfl (by decide) rfl (by decide) (by rw [hq]; exact lfX5_7) hb hd h
theorem pIX5_7 {q : mMI} {X : mCx} {tgt : mR} {pc : Nat} {lv : List (Nat × Value)} {st : List Value} {μ : mMem} {b : Nat} {x : Int32} (hq : q.1.cls = RX5) (hn : narrow .int (.int x) = .int x) (hfit : fits .int (.int x) = true) (hb : kd b = (5, 0)) (hd : decode q.2.1 pc = .ok (.putfield 7, 3)) (h : T q X tgt (pc + 3) lv st (si μ b 0 x)) : T q X tgt pc lv (.int x :: .ref b :: st) μ := T_put (c := 5) rfl (by decide) rfl (by decide) (by rw [hq]; exact lfX5_7) (by decide) hn hfit hb hd h
def fX5_renew (r0 : Nat) (x1 : Int32) (x2 : Int32) (m : mMem) : mR := lt (si m r0 2 x1) (fun m1 => lt (si m1 r0 0 x2) (fun m2 => bV (fJ7_fill_53178 (r0 + 1) 40 (0 : Int32) m2) (fun m3 => some (none, m3))))
set_option maxRecDepth 100000 in
theorem bsX5_renew (l : Launch) (r0 : Nat) (x1 : Int32) (x2 : Int32) (m : mMem) (h0 : kd r0 = (5, 0)) : BS l qX5_renew [.ref r0, .int x1, .int x2] m (fX5_renew r0 x1 x2 m) := BS_of (by decide) (Nat.le_of_ble_eq_true rfl) (fun X _ => by
    show T qX5_renew X (fX5_renew r0 x1 x2 m) 0 [(0, .ref r0), (1, .int x1), (2, .int x2)] [] m
    unfold fX5_renew
    refine T_aload_n 0 rfl rfl dX5_renew_0 ?_
    refine T_iload_n 1 rfl rfl dX5_renew_1 ?_
    refine pIX5_17 rfl rfl rfl h0 dX5_renew_2 ?_
    refine T_lt (fun m1 => ?_)
    refine T_aload_n 0 rfl rfl dX5_renew_5 ?_
    refine T_iload_n 2 rfl rfl dX5_renew_6 ?_
    refine pIX5_7 rfl rfl rfl h0 dX5_renew_7 ?_
    refine T_lt (fun m2 => ?_)
    refine T_aload_n 0 rfl rfl dX5_renew_10 ?_
    refine gRX5_13 rfl h0 (r0 + 1) (rfS1 h0) dX5_renew_11 ?_
    refine T_iconst (0 : Int32) (by decide) dX5_renew_14 ?_
    refine T_cSV [.ref (r0 + 1), .int (0 : Int32)] [] mkJ7_fill_53178 lmX5_20 rfl (by decide) (Nat.le_of_ble_eq_true rfl) dX5_renew_15 (bsJ7_fill_53178 _ (r0 + 1) 40 (0 : Int32) m2 (kdS1 h0)) (fun m3 => ?_)
    exact T_vret rfl dX5_renew_18)
theorem lmX5_26 : Cond.methodLink RX5 26 yX5_isNothing ∈ gdL := gd_mem 844 (by decide +kernel) (by decide +kernel)
def fX5_faultAt (r0 : Nat) (x1 : Int32) (m : mMem) : mR := bI (fX5_isNothing r0 m) (fun z2 m1 => if z2 = (0 : Int32) then if x1 < (0 : Int32) then some (some (.int (2 : Int32)), m1) else if x1 < (m1.1 r0 0) then some (some (.int (0 : Int32)), m1) else some (some (.int (2 : Int32)), m1) else some (some (.int (1 : Int32)), m1))
set_option maxRecDepth 100000 in
theorem bsX5_faultAt (l : Launch) (r0 : Nat) (x1 : Int32) (m : mMem) (h0 : kd r0 = (5, 0)) : BS l qX5_faultAt [.ref r0, .int x1] m (fX5_faultAt r0 x1 m) := BS_of (by decide) (Nat.le_of_ble_eq_true rfl) (fun X _ => by
    show T qX5_faultAt X (fX5_faultAt r0 x1 m) 0 [(0, .ref r0), (1, .int x1)] [] m
    unfold fX5_faultAt
    refine T_aload_n 0 rfl rfl dX5_faultAt_0 ?_
    refine T_cVI (c := 5) [] [] mkX5_isNothing lmX5_26 rfl rfl (by decide) (Nat.le_of_ble_eq_true rfl) h0 dX5_faultAt_1 (bsX5_isNothing _ r0 m h0) (fun z2 m1 => ?_)
    refine T_if_eq 9 dX5_faultAt_4 (by decide) (fun _ => ?_) (fun _ => ?_)
    · refine T_iload_n 1 rfl rfl dX5_faultAt_9 ?_
      refine T_if_lt 21 dX5_faultAt_10 (by decide) (fun _ => ?_) (fun _ => ?_)
      · refine T_iconst (2 : Int32) (by decide) dX5_faultAt_21 ?_
        refine T_goto 26 dX5_faultAt_22 (by decide) ?_
        exact T_iret rfl dX5_faultAt_26
      · refine T_iload_n 1 rfl rfl dX5_faultAt_13 ?_
        refine T_aload_n 0 rfl rfl dX5_faultAt_14 ?_
        refine gIX5_7 rfl h0 dX5_faultAt_15 ?_
        refine T_icmp_lt 25 dX5_faultAt_18 (by decide) (fun _ => ?_) (fun _ => ?_)
        · refine T_iconst (0 : Int32) (by decide) dX5_faultAt_25 ?_
          exact T_iret rfl dX5_faultAt_26
        · refine T_iconst (2 : Int32) (by decide) dX5_faultAt_21 ?_
          refine T_goto 26 dX5_faultAt_22 (by decide) ?_
          exact T_iret rfl dX5_faultAt_26
    · refine T_iconst (1 : Int32) (by decide) dX5_faultAt_7 ?_
      exact T_iret rfl dX5_faultAt_8)
theorem lmX5_30 : Cond.methodLink RX5 30 yX5_faultAt ∈ gdL := gd_mem 860 (by decide +kernel) (by decide +kernel)
def jX5_faultAs_15 (r0 : Nat) (x2 : Int32) (m : mMem) : mR := bI (fX5_faultAt r0 x2 m) (fun z5 m4 => some (some (.int z5), m4))
set_option maxRecDepth 100000 in
theorem uX5_faultAs_15 (X : mCx) (r0 : Nat) (x2 : Int32) (m : mMem) (h0 : kd r0 = (5, 0)) : T qX5_faultAs X (jX5_faultAs_15 r0 x2 m) 15 [(0, .ref r0), (2, .int x2)] [] m := by
  unfold jX5_faultAs_15
  refine T_aload_n 0 rfl rfl dX5_faultAs_15 ?_
  refine T_iload_n 1 rfl rfl dX5_faultAs_16 ?_
  refine T_cVI (c := 5) [.int x2] [] mkX5_faultAt lmX5_30 rfl rfl (by decide) (Nat.le_of_ble_eq_true rfl) h0 dX5_faultAs_17 (bsX5_faultAt _ r0 x2 m h0) (fun z5 m4 => ?_)
  refine T_goto 24 dX5_faultAs_20 (by decide) ?_
  exact T_iret rfl dX5_faultAs_24
def fX5_faultAs (r0 : Nat) (x1 : Int32) (x2 : Int32) (m : mMem) : mR := bI (fX5_isNothing r0 m) (fun z2 m1 => if z2 = (0 : Int32) then if (m1.1 r0 2) = x1 then jX5_faultAs_15 r0 x2 m1 else some (some (.int (3 : Int32)), m1) else jX5_faultAs_15 r0 x2 m1)
set_option maxRecDepth 100000 in
theorem bsX5_faultAs (l : Launch) (r0 : Nat) (x1 : Int32) (x2 : Int32) (m : mMem) (h0 : kd r0 = (5, 0)) : BS l qX5_faultAs [.ref r0, .int x1, .int x2] m (fX5_faultAs r0 x1 x2 m) := BS_of (by decide) (Nat.le_of_ble_eq_true rfl) (fun X _ => by
    show T qX5_faultAs X (fX5_faultAs r0 x1 x2 m) 0 [(0, .ref r0), (1, .int x1), (2, .int x2)] [] m
    unfold fX5_faultAs
    refine T_aload_n 0 rfl rfl dX5_faultAs_0 ?_
    refine T_cVI (c := 5) [] [] mkX5_isNothing lmX5_26 rfl rfl (by decide) (Nat.le_of_ble_eq_true rfl) h0 dX5_faultAs_1 (bsX5_isNothing _ r0 m h0) (fun z2 m1 => ?_)
    refine T_if_ne 15 dX5_faultAs_4 (by decide) (fun _ => ?_) (fun _ => ?_)
    · refine T_aload_n 0 rfl rfl dX5_faultAs_7 ?_
      refine gIX5_17 rfl h0 dX5_faultAs_8 ?_
      refine T_iload_n 1 rfl rfl dX5_faultAs_11 ?_
      refine T_icmp_ne 23 dX5_faultAs_12 (by decide) (fun _ => ?_) (fun _ => ?_)
      · exact T_sub [0, 2] rfl (uX5_faultAs_15 X r0 x2 m1 h0)
      · refine T_iconst (3 : Int32) (by decide) dX5_faultAs_23 ?_
        exact T_iret rfl dX5_faultAs_24
    · exact T_sub [0, 2] rfl (uX5_faultAs_15 X r0 x2 m1 h0))
