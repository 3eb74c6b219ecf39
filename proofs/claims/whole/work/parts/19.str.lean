abbrev qJ0_coder_7d493 : mMI := (yJ0_coder_7d493, cJ0_coder_7d493, 1, (some .byte), 0)
theorem dJ0_coder_7d493_0 : decode cJ0_coder_7d493 0 = .ok (.getstatic 38, 3) := by decide +kernel
theorem dJ0_coder_7d493_3 : decode cJ0_coder_7d493 3 = .ok (.ifCond .eq 10, 3) := by decide +kernel
theorem dJ0_coder_7d493_6 : decode cJ0_coder_7d493 6 = .ok (.aload_n 0, 1) := by decide +kernel
theorem dJ0_coder_7d493_7 : decode cJ0_coder_7d493 7 = .ok (.getfield 15, 3) := by decide +kernel
theorem dJ0_coder_7d493_10 : decode cJ0_coder_7d493 10 = .ok (.goto 4, 3) := by decide +kernel
theorem dJ0_coder_7d493_13 : decode cJ0_coder_7d493 13 = .ok (.iconst 1, 1) := by decide +kernel
theorem dJ0_coder_7d493_14 : decode cJ0_coder_7d493 14 = .ok (.ireturn, 1) := by decide +kernel
theorem mkJ0_coder_7d493 : mokV qJ0_coder_7d493 0 := ⟨⟨⟨⟨by decide, by decide, by decide +kernel⟩, by decide⟩, gd_mem 60 (by decide +kernel) (by decide +kernel), gd_mem 401 (by decide +kernel) (by decide +kernel)⟩, gd_mem 399 (by decide +kernel) (by decide +kernel), gd_mem 400 (by decide +kernel) (by decide +kernel)⟩
abbrev qJ0_length_8abf5 : mMI := (yJ0_length_8abf5, cJ0_length_8abf5, 1, (some .int), 1)
theorem dJ0_length_8abf5_0 : decode cJ0_length_8abf5 0 = .ok (.aload_n 0, 1) := by decide +kernel
theorem dJ0_length_8abf5_1 : decode cJ0_length_8abf5 1 = .ok (.getfield 9, 3) := by decide +kernel
theorem dJ0_length_8abf5_4 : decode cJ0_length_8abf5 4 = .ok (.arraylength, 1) := by decide +kernel
theorem dJ0_length_8abf5_5 : decode cJ0_length_8abf5 5 = .ok (.aload_n 0, 1) := by decide +kernel
theorem dJ0_length_8abf5_6 : decode cJ0_length_8abf5 6 = .ok (.invokevirtual 335, 3) := by decide +kernel
theorem dJ0_length_8abf5_9 : decode cJ0_length_8abf5 9 = .ok (.ishr, 1) := by decide +kernel
theorem dJ0_length_8abf5_10 : decode cJ0_length_8abf5 10 = .ok (.ireturn, 1) := by decide +kernel
theorem mkJ0_length_8abf5 : mokV qJ0_length_8abf5 0 := ⟨⟨⟨⟨by decide, by decide, by decide +kernel⟩, by decide⟩, gd_mem 60 (by decide +kernel) (by decide +kernel), gd_mem 397 (by decide +kernel) (by decide +kernel)⟩, gd_mem 395 (by decide +kernel) (by decide +kernel), gd_mem 396 (by decide +kernel) (by decide +kernel)⟩
abbrev qJ0_isLatin1_aae02 : mMI := (yJ0_isLatin1_aae02, cJ0_isLatin1_aae02, 1, (some .boolean), 0)
theorem dJ0_isLatin1_aae02_0 : decode cJ0_isLatin1_aae02 0 = .ok (.getstatic 38, 3) := by decide +kernel
theorem dJ0_isLatin1_aae02_3 : decode cJ0_isLatin1_aae02 3 = .ok (.ifCond .eq 14, 3) := by decide +kernel
theorem dJ0_isLatin1_aae02_6 : decode cJ0_isLatin1_aae02 6 = .ok (.aload_n 0, 1) := by decide +kernel
theorem dJ0_isLatin1_aae02_7 : decode cJ0_isLatin1_aae02 7 = .ok (.getfield 15, 3) := by decide +kernel
theorem dJ0_isLatin1_aae02_10 : decode cJ0_isLatin1_aae02 10 = .ok (.ifCond .ne 7, 3) := by decide +kernel
theorem dJ0_isLatin1_aae02_13 : decode cJ0_isLatin1_aae02 13 = .ok (.iconst 1, 1) := by decide +kernel
theorem dJ0_isLatin1_aae02_14 : decode cJ0_isLatin1_aae02 14 = .ok (.goto 4, 3) := by decide +kernel
theorem dJ0_isLatin1_aae02_17 : decode cJ0_isLatin1_aae02 17 = .ok (.iconst 0, 1) := by decide +kernel
theorem dJ0_isLatin1_aae02_18 : decode cJ0_isLatin1_aae02 18 = .ok (.ireturn, 1) := by decide +kernel
theorem mkJ0_isLatin1_aae02 : mokV qJ0_isLatin1_aae02 0 := ⟨⟨⟨⟨by decide, by decide, by decide +kernel⟩, by decide⟩, gd_mem 60 (by decide +kernel) (by decide +kernel), gd_mem 411 (by decide +kernel) (by decide +kernel)⟩, gd_mem 409 (by decide +kernel) (by decide +kernel), gd_mem 410 (by decide +kernel) (by decide +kernel)⟩
abbrev qJ3_checkIndex_8e157 : mMI := (yJ3_checkIndex_8e157, cJ3_checkIndex_8e157, 3, (some .int), 0)
theorem dJ3_checkIndex_8e157_0 : decode cJ3_checkIndex_8e157 0 = .ok (.iload_n 0, 1) := by decide +kernel
theorem dJ3_checkIndex_8e157_1 : decode cJ3_checkIndex_8e157 1 = .ok (.ifCond .lt 8, 3) := by decide +kernel
theorem dJ3_checkIndex_8e157_4 : decode cJ3_checkIndex_8e157 4 = .ok (.iload_n 0, 1) := by decide +kernel
theorem dJ3_checkIndex_8e157_5 : decode cJ3_checkIndex_8e157 5 = .ok (.iload_n 1, 1) := by decide +kernel
theorem dJ3_checkIndex_8e157_6 : decode cJ3_checkIndex_8e157 6 = .ok (.if_icmp .lt 10, 3) := by decide +kernel
theorem dJ3_checkIndex_8e157_9 : decode cJ3_checkIndex_8e157 9 = .ok (.aload_n 2, 1) := by decide +kernel
theorem dJ3_checkIndex_8e157_10 : decode cJ3_checkIndex_8e157 10 = .ok (.iload_n 0, 1) := by decide +kernel
theorem dJ3_checkIndex_8e157_11 : decode cJ3_checkIndex_8e157 11 = .ok (.iload_n 1, 1) := by decide +kernel
theorem dJ3_checkIndex_8e157_12 : decode cJ3_checkIndex_8e157 12 = .ok (.invokestatic 95, 3) := by decide +kernel
theorem dJ3_checkIndex_8e157_15 : decode cJ3_checkIndex_8e157 15 = .ok (.athrow, 1) := by decide +kernel
theorem dJ3_checkIndex_8e157_16 : decode cJ3_checkIndex_8e157 16 = .ok (.iload_n 0, 1) := by decide +kernel
theorem dJ3_checkIndex_8e157_17 : decode cJ3_checkIndex_8e157 17 = .ok (.ireturn, 1) := by decide +kernel
theorem mkJ3_checkIndex_8e157 : mokS qJ3_checkIndex_8e157 3 := ⟨⟨⟨⟨by decide, by decide, by decide +kernel⟩, by decide⟩, gd_mem 62 (by decide +kernel) (by decide +kernel), gd_mem 422 (by decide +kernel) (by decide +kernel)⟩, gd_mem 421 (by decide +kernel) (by decide +kernel)⟩
abbrev qJ0_checkIndex_df160 : mMI := (yJ0_checkIndex_df160, cJ0_checkIndex_df160, 2, none, 1)
theorem dJ0_checkIndex_df160_0 : decode cJ0_checkIndex_df160 0 = .ok (.iload_n 0, 1) := by decide +kernel
theorem dJ0_checkIndex_df160_1 : decode cJ0_checkIndex_df160 1 = .ok (.iload_n 1, 1) := by decide +kernel
theorem dJ0_checkIndex_df160_2 : decode cJ0_checkIndex_df160 2 = .ok (.getstatic 1053, 3) := by decide +kernel
theorem dJ0_checkIndex_df160_5 : decode cJ0_checkIndex_df160 5 = .ok (.invokestatic 1059, 3) := by decide +kernel
theorem dJ0_checkIndex_df160_8 : decode cJ0_checkIndex_df160 8 = .ok (.pop, 1) := by decide +kernel
theorem dJ0_checkIndex_df160_9 : decode cJ0_checkIndex_df160 9 = .ok (.return_, 1) := by decide +kernel
theorem mkJ0_checkIndex_df160 : mokS qJ0_checkIndex_df160 2 := ⟨⟨⟨⟨by decide, by decide, by decide +kernel⟩, by decide⟩, gd_mem 60 (by decide +kernel) (by decide +kernel), gd_mem 417 (by decide +kernel) (by decide +kernel)⟩, gd_mem 416 (by decide +kernel) (by decide +kernel)⟩
abbrev qJ1_charAt_3b067 : mMI := (yJ1_charAt_3b067, cJ1_charAt_3b067, 2, (some .char), 2)
theorem dJ1_charAt_3b067_0 : decode cJ1_charAt_3b067 0 = .ok (.iload_n 1, 1) := by decide +kernel
theorem dJ1_charAt_3b067_1 : decode cJ1_charAt_3b067 1 = .ok (.aload_n 0, 1) := by decide +kernel
theorem dJ1_charAt_3b067_2 : decode cJ1_charAt_3b067 2 = .ok (.arraylength, 1) := by decide +kernel
theorem dJ1_charAt_3b067_3 : decode cJ1_charAt_3b067 3 = .ok (.invokestatic 9, 3) := by decide +kernel
theorem dJ1_charAt_3b067_6 : decode cJ1_charAt_3b067 6 = .ok (.aload_n 0, 1) := by decide +kernel
theorem dJ1_charAt_3b067_7 : decode cJ1_charAt_3b067 7 = .ok (.iload_n 1, 1) := by decide +kernel
theorem dJ1_charAt_3b067_8 : decode cJ1_charAt_3b067 8 = .ok (.baload, 1) := by decide +kernel
theorem dJ1_charAt_3b067_9 : decode cJ1_charAt_3b067 9 = .ok (.sipush 255, 3) := by decide +kernel
theorem dJ1_charAt_3b067_12 : decode cJ1_charAt_3b067 12 = .ok (.iand, 1) := by decide +kernel
theorem dJ1_charAt_3b067_13 : decode cJ1_charAt_3b067 13 = .ok (.i2c, 1) := by decide +kernel
theorem dJ1_charAt_3b067_14 : decode cJ1_charAt_3b067 14 = .ok (.ireturn, 1) := by decide +kernel
theorem mkJ1_charAt_3b067 : mokS qJ1_charAt_3b067 2 := ⟨⟨⟨⟨by decide, by decide, by decide +kernel⟩, by decide⟩, gd_mem 61 (by decide +kernel) (by decide +kernel), gd_mem 414 (by decide +kernel) (by decide +kernel)⟩, gd_mem 413 (by decide +kernel) (by decide +kernel)⟩
abbrev qJ0_charAt_5068e : mMI := (yJ0_charAt_5068e, cJ0_charAt_5068e, 2, (some .char), 3)
theorem dJ0_charAt_5068e_0 : decode cJ0_charAt_5068e 0 = .ok (.aload_n 0, 1) := by decide +kernel
theorem dJ0_charAt_5068e_1 : decode cJ0_charAt_5068e 1 = .ok (.invokevirtual 492, 3) := by decide +kernel
theorem dJ0_charAt_5068e_4 : decode cJ0_charAt_5068e 4 = .ok (.ifCond .eq 12, 3) := by decide +kernel
theorem dJ0_charAt_5068e_7 : decode cJ0_charAt_5068e 7 = .ok (.aload_n 0, 1) := by decide +kernel
theorem dJ0_charAt_5068e_8 : decode cJ0_charAt_5068e 8 = .ok (.getfield 9, 3) := by decide +kernel
theorem dJ0_charAt_5068e_11 : decode cJ0_charAt_5068e 11 = .ok (.iload_n 1, 1) := by decide +kernel
theorem dJ0_charAt_5068e_12 : decode cJ0_charAt_5068e 12 = .ok (.invokestatic 495, 3) := by decide +kernel
theorem dJ0_charAt_5068e_15 : decode cJ0_charAt_5068e 15 = .ok (.ireturn, 1) := by decide +kernel
theorem dJ0_charAt_5068e_16 : decode cJ0_charAt_5068e 16 = .ok (.aload_n 0, 1) := by decide +kernel
theorem dJ0_charAt_5068e_17 : decode cJ0_charAt_5068e 17 = .ok (.getfield 9, 3) := by decide +kernel
theorem dJ0_charAt_5068e_20 : decode cJ0_charAt_5068e 20 = .ok (.iload_n 1, 1) := by decide +kernel
theorem dJ0_charAt_5068e_21 : decode cJ0_charAt_5068e 21 = .ok (.invokestatic 498, 3) := by decide +kernel
theorem dJ0_charAt_5068e_24 : decode cJ0_charAt_5068e 24 = .ok (.ireturn, 1) := by decide +kernel
theorem mkJ0_charAt_5068e : mokV qJ0_charAt_5068e 1 := ⟨⟨⟨⟨by decide, by decide, by decide +kernel⟩, by decide⟩, gd_mem 60 (by decide +kernel) (by decide +kernel), gd_mem 407 (by decide +kernel) (by decide +kernel)⟩, gd_mem 405 (by decide +kernel) (by decide +kernel), gd_mem 406 (by decide +kernel) (by decide +kernel)⟩
theorem lfJ0_38 : Cond.fieldLink RJ0 38 "java/lang/String" "COMPACT_STRINGS" "Z" ∈ gdL := gd_mem 402 (by decide +kernel) (by decide +kernel)
theorem lfJ0_15 : Cond.fieldLink RJ0 15 "java/lang/String" "coder" "B" ∈ gdL := gd_mem 1313 (by decide +kernel) (by decide +kernel)
theorem lfJ0_9 : Cond.fieldLink RJ0 9 "java/lang/String" "value" "[B" ∈ gdL := gd_mem 1312 (by decide +kernel) (by decide +kernel)
theorem lfJ0_1053 : Cond.fieldLink RJ0 1053 "jdk/internal/util/Preconditions" "SIOOBE_FORMATTER" "Ljava/util/function/BiFunction;" ∈ gdL := gd_mem 418 (by decide +kernel) (by decide +kernel)
theorem lmJ0_335 : Cond.methodLink RJ0 335 yJ0_coder_7d493 ∈ gdL := gd_mem 398 (by decide +kernel) (by decide +kernel)
theorem lmJ0_492 : Cond.methodLink RJ0 492 yJ0_isLatin1_aae02 ∈ gdL := gd_mem 408 (by decide +kernel) (by decide +kernel)
theorem lmJ0_495 : Cond.methodLink RJ0 495 yJ1_charAt_3b067 ∈ gdL := gd_mem 412 (by decide +kernel) (by decide +kernel)
theorem lmJ0_1059 : Cond.methodLink RJ0 1059 yJ3_checkIndex_8e157 ∈ gdL := gd_mem 420 (by decide +kernel) (by decide +kernel)
theorem lmJ1_9 : Cond.methodLink RJ1 9 yJ0_checkIndex_df160 ∈ gdL := gd_mem 415 (by decide +kernel) (by decide +kernel)
theorem bsJ0_coder_7d493 (l : Launch) (r0 : Nat) (m : mMem) (h0 : 100 ≤ r0 ∧ r0 < 107) : BS l qJ0_coder_7d493 [.ref r0] m (some (some (.int 0), m)) := BS_of (by decide) (Nat.le_of_ble_eq_true rfl) (fun X _ => by
    show T qJ0_coder_7d493 X (some (some (.int 0), m)) 0 [(0, .ref r0)] [] m
    refine T_gs zsC lfJ0_38 dJ0_coder_7d493_0 ?_
    rw [show (some (some (Value.int 0), m) : mR) = if (1 : Int32) = 0 then none else some (some (.int 0), m) from (if_neg (by decide)).symm]
    refine T_if_eq 13 dJ0_coder_7d493_3 (by decide) (fun _ => T_none) (fun _ => ?_)
    refine T_aload_n 0 rfl rfl dJ0_coder_7d493_6 ?_
    refine T_gSc h0 lfJ0_15 dJ0_coder_7d493_7 ?_
    refine T_goto 14 dJ0_coder_7d493_10 (by decide) ?_
    exact T_nret rfl rfl dJ0_coder_7d493_14)
def fJ0_length_8abf5 (r0 : Nat) (m : mMem) : mR := some (some (.int (nI (sLen.getD (r0 - 100) 0))), m)
theorem sl_sh : ∀ i, i < 7 → Int32.ofNat (sLen.getD i 0) >>> ((0 : Int32) &&& 31) = nI (sLen.getD i 0) := by decide +kernel
theorem bsJ0_length_8abf5 (l : Launch) (r0 : Nat) (m : mMem) (h0 : 100 ≤ r0 ∧ r0 < 107) : BS l qJ0_length_8abf5 [.ref r0] m (fJ0_length_8abf5 r0 m) := BS_of (by decide) (Nat.le_of_ble_eq_true rfl) (fun X _ => by
    show T qJ0_length_8abf5 X (fJ0_length_8abf5 r0 m) 0 [(0, .ref r0)] [] m
    refine T_aload_n 0 rfl rfl dJ0_length_8abf5_0 ?_
    refine T_gSv h0 lfJ0_9 dJ0_length_8abf5_1 ?_
    refine T_Slen h0 dJ0_length_8abf5_4 ?_
    refine T_aload_n 0 rfl rfl dJ0_length_8abf5_5 ?_
    refine T_callVS (v2 := some (.int 0)) [] [.int (Int32.ofNat (sLen.getD (r0 - 100) 0))] mkJ0_coder_7d493 lmJ0_335 h0 rfl rfl (by decide) (Nat.le_of_ble_eq_true rfl) dJ0_length_8abf5_6 (bsJ0_coder_7d493 _ r0 m h0) ?_
    refine T_ishr (x := Int32.ofNat (sLen.getD (r0 - 100) 0)) (y := 0) (st := []) dJ0_length_8abf5_9 ?_
    unfold fJ0_length_8abf5
    rw [← sl_sh (r0 - 100) (by omega)]
    exact T_iret rfl dJ0_length_8abf5_10)
theorem bsJ0_isLatin1_aae02 (l : Launch) (r0 : Nat) (m : mMem) (h0 : 100 ≤ r0 ∧ r0 < 107) : BS l qJ0_isLatin1_aae02 [.ref r0] m (some (some (.int 1), m)) := BS_of (by decide) (Nat.le_of_ble_eq_true rfl) (fun X _ => by
    show T qJ0_isLatin1_aae02 X (some (some (.int 1), m)) 0 [(0, .ref r0)] [] m
    refine T_gs zsC lfJ0_38 dJ0_isLatin1_aae02_0 ?_
    rw [show (some (some (Value.int 1), m) : mR) = if (1 : Int32) = 0 then none else some (some (.int 1), m) from (if_neg (by decide)).symm]
    refine T_if_eq 17 dJ0_isLatin1_aae02_3 (by decide) (fun _ => T_none) (fun _ => ?_)
    refine T_aload_n 0 rfl rfl dJ0_isLatin1_aae02_6 ?_
    refine T_gSc h0 lfJ0_15 dJ0_isLatin1_aae02_7 ?_
    rw [show (some (some (Value.int 1), m) : mR) = if (0 : Int32) = 0 then some (some (.int 1), m) else none from (if_pos rfl).symm]
    refine T_if_ne 17 dJ0_isLatin1_aae02_10 (by decide) (fun _ => ?_) (fun _ => T_none)
    refine T_iconst (1 : Int32) (by decide) dJ0_isLatin1_aae02_13 ?_
    refine T_goto 18 dJ0_isLatin1_aae02_14 (by decide) ?_
    exact T_nret rfl rfl dJ0_isLatin1_aae02_18)
theorem bsJ3_checkIndex_8e157 (l : Launch) (x n : Int32) (v : Value) (hv : v.category = 1) (m : mMem) (h1 : ¬ x < 0) (h2 : x < n) : BS l qJ3_checkIndex_8e157 [.int x, .int n, v] m (some (some (.int x), m)) := BS_of (by decide) (by cases v <;> first | exact Nat.le_of_ble_eq_true rfl | (simp [Value.category] at hv)) (fun X _ => by
    show T qJ3_checkIndex_8e157 X (some (some (.int x), m)) 0 [(0, .int x), (1, .int n), (2, v)] [] m
    refine T_iload_n 0 rfl rfl dJ3_checkIndex_8e157_0 ?_
    rw [show (some (some (Value.int x), m) : mR) = if x < 0 then none else some (some (.int x), m) from (if_neg h1).symm]
    refine T_if_lt 9 dJ3_checkIndex_8e157_1 (by decide) (fun _ => T_none) (fun _ => ?_)
    refine T_iload_n 0 rfl rfl dJ3_checkIndex_8e157_4 ?_
    refine T_iload_n 1 rfl rfl dJ3_checkIndex_8e157_5 ?_
    rw [show (some (some (Value.int x), m) : mR) = if x < n then some (some (.int x), m) else none from (if_pos h2).symm]
    refine T_icmp_lt 16 dJ3_checkIndex_8e157_6 (by decide) (fun _ => ?_) (fun _ => T_none)
    refine T_iload_n 0 rfl rfl dJ3_checkIndex_8e157_16 ?_
    exact T_iret rfl dJ3_checkIndex_8e157_17)
theorem bsJ0_checkIndex_df160 (l : Launch) (x n : Int32) (m : mMem) (h1 : ¬ x < 0) (h2 : x < n) : BS l qJ0_checkIndex_df160 [.int x, .int n] m (some (none, m)) := BS_of (by decide) (Nat.le_of_ble_eq_true rfl) (fun X _ => by
    show T qJ0_checkIndex_df160 X (some (none, m)) 0 [(0, .int x), (1, .int n)] [] m
    refine T_iload_n 0 rfl rfl dJ0_checkIndex_df160_0 ?_
    refine T_iload_n 1 rfl rfl dJ0_checkIndex_df160_1 ?_
    refine T_gsQ lfJ0_1053 dJ0_checkIndex_df160_2 ?_ ?_
    · refine T_callS (v2 := some (.int x)) [.int x, .int n, .null] [] mkJ3_checkIndex_8e157 lmJ0_1059 rfl (by decide) (Nat.le_of_ble_eq_true rfl) dJ0_checkIndex_df160_5 (bsJ3_checkIndex_8e157 _ x n .null rfl m h1 h2) ?_
      refine T_pop (x := .int x) (st := []) rfl dJ0_checkIndex_df160_8 ?_
      exact T_vret rfl dJ0_checkIndex_df160_9
    · refine T_callS (v2 := some (.int x)) [.int x, .int n, .ref 117] [] mkJ3_checkIndex_8e157 lmJ0_1059 rfl (by decide) (Nat.le_of_ble_eq_true rfl) dJ0_checkIndex_df160_5 (bsJ3_checkIndex_8e157 _ x n (.ref 117) rfl m h1 h2) ?_
      refine T_pop (x := .int x) (st := []) rfl dJ0_checkIndex_df160_8 ?_
      exact T_vret rfl dJ0_checkIndex_df160_9)
def fJ0_charAt_5068e (r0 : Nat) (x1 : Int32) (m : mMem) : mR := ga x1 (sLen.getD (r0 - 100) 0) (some (some (.int ((sByt.getD (r0 - 100) []).getD x1.toNatClampNeg 0)), m))
theorem sb_ch : ∀ i, i < 7 → ∀ k, k < 8 → ((((sByt.getD i []).getD k 0) &&& 255).toUInt32 % 65536).toInt32 = (sByt.getD i []).getD k 0 ∧ narrow .char (.int ((sByt.getD i []).getD k 0)) = .int ((sByt.getD i []).getD k 0) := by decide +kernel
theorem sl_8 : ∀ i, i < 7 → sLen.getD i 0 ≤ 8 := by decide +kernel
theorem vp_lt {x : Int32} {n : Nat} (h : vp_in x n) (hn : n ≤ 8) : ¬ x < 0 ∧ x < Int32.ofNat n ∧ x.toNatClampNeg < n := by
  obtain ⟨j, hj, rfl⟩ := vp_in_of h (by omega)
  exact ⟨nI_pos (by omega), nI_lt hj (by omega), by rw [nI_clamp (by omega)]; exact hj⟩
theorem bsJ1_charAt_3b067 (l : Launch) (r0 : Nat) (x1 : Int32) (m : mMem) (h0 : 100 ≤ r0 ∧ r0 < 107) (hx : vp_in x1 (sLen.getD (r0 - 100) 0)) : BS l qJ1_charAt_3b067 [.ref (r0 + 7), .int x1] m (some (some (.int ((sByt.getD (r0 - 100) []).getD x1.toNatClampNeg 0)), m)) := BS_of (by decide) (Nat.le_of_ble_eq_true rfl) (fun X _ => by
    obtain ⟨hx1, hx2, hx3⟩ := vp_lt hx (sl_8 _ (by omega))
    obtain ⟨e1, e2⟩ := sb_ch (r0 - 100) (by omega) x1.toNatClampNeg (by have := sl_8 (r0 - 100) (by omega); omega)
    show T qJ1_charAt_3b067 X _ 0 [(0, .ref (r0 + 7)), (1, .int x1)] [] m
    refine T_iload_n 1 rfl rfl dJ1_charAt_3b067_0 ?_
    refine T_aload_n 0 rfl rfl dJ1_charAt_3b067_1 ?_
    refine T_Slen h0 dJ1_charAt_3b067_2 ?_
    refine T_callS (v2 := none) [.int x1, .int (Int32.ofNat (sLen.getD (r0 - 100) 0))] [] mkJ0_checkIndex_df160 lmJ1_9 rfl (by decide) (Nat.le_of_ble_eq_true rfl) dJ1_charAt_3b067_3 (bsJ0_checkIndex_df160 _ _ _ m hx1 hx2) ?_
    refine T_aload_n (st := []) 0 rfl rfl dJ1_charAt_3b067_6 ?_
    refine T_iload_n 1 rfl rfl dJ1_charAt_3b067_7 ?_
    refine T_Sbald h0 hx dJ1_charAt_3b067_8 ?_
    refine T_sipush (255 : Int32) (by decide) dJ1_charAt_3b067_9 ?_
    refine T_iand dJ1_charAt_3b067_12 ?_
    refine T_i2c dJ1_charAt_3b067_13 ?_
    rw [e1]
    exact T_nret e2 rfl dJ1_charAt_3b067_14)
theorem bsJ0_charAt_5068e (l : Launch) (r0 : Nat) (x1 : Int32) (m : mMem) (h0 : 100 ≤ r0 ∧ r0 < 107) : BS l qJ0_charAt_5068e [.ref r0, .int x1] m (fJ0_charAt_5068e r0 x1 m) := BS_of (by decide) (Nat.le_of_ble_eq_true rfl) (fun X _ => by
    show T qJ0_charAt_5068e X (fJ0_charAt_5068e r0 x1 m) 0 [(0, .ref r0), (1, .int x1)] [] m
    unfold fJ0_charAt_5068e
    refine T_gg (fun hx => ?_)
    obtain ⟨hx1, hx2, hx3⟩ := vp_lt hx (sl_8 _ (by omega))
    obtain ⟨e1, e2⟩ := sb_ch (r0 - 100) (by omega) x1.toNatClampNeg (by have := sl_8 (r0 - 100) (by omega); omega)
    refine T_aload_n 0 rfl rfl dJ0_charAt_5068e_0 ?_
    refine T_callVS (v2 := some (.int 1)) [] [] mkJ0_isLatin1_aae02 lmJ0_492 h0 rfl rfl (by decide) (Nat.le_of_ble_eq_true rfl) dJ0_charAt_5068e_1 (bsJ0_isLatin1_aae02 _ r0 m h0) ?_
    generalize hz : (some (some (Value.int ((sByt.getD (r0 - 100) []).getD x1.toNatClampNeg 0)), m) : mR) = z
    rw [show z = if (1 : Int32) = 0 then none else z from (if_neg (by decide)).symm]
    refine T_if_eq (x := 1) (st := []) 16 dJ0_charAt_5068e_4 (by decide) (fun _ => T_none) (fun _ => ?_)
    subst hz
    refine T_aload_n 0 rfl rfl dJ0_charAt_5068e_7 ?_
    refine T_gSv h0 lfJ0_9 dJ0_charAt_5068e_8 ?_
    refine T_iload_n 1 rfl rfl dJ0_charAt_5068e_11 ?_
    refine T_callS (v2 := some (.int ((sByt.getD (r0 - 100) []).getD x1.toNatClampNeg 0))) [.ref (r0 + 7), .int x1] [] mkJ1_charAt_3b067 lmJ0_495 rfl (by decide) (Nat.le_of_ble_eq_true rfl) dJ0_charAt_5068e_12 (bsJ1_charAt_3b067 _ r0 x1 m h0 hx) ?_
    exact T_nret e2 rfl dJ0_charAt_5068e_15)
