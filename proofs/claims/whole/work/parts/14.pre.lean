def FU : Nat := 20000
def vpd (i : Int32) (n : Nat) : Decidable (vp_in i n) := by unfold vp_in; infer_instance
abbrev ga (i : Int32) (n : Nat) (r : mR) : mR := gd (vp_in i n) r (vpd i n)
abbrev g0i (y : Int32) (r : mR) : mR := gd (¬ y = 0) r inferInstance
abbrev g0l (y : Int64) (r : mR) : mR := gd (¬ y = 0) r inferInstance
abbrev gb (x : Int32) (r : mR) : mR := gd (x = 0 ∨ x = 1) r inferInstance
def li (e : Int32) (k : Int32 → mR) : mR := k e
def ll (e : Int64) (k : Int64 → mR) : mR := k e
def lt (e : mMem) (k : mMem → mR) : mR := k e
theorem T_li {q : mMI} {X : mCx} {pc : Nat} {lv : List (Nat × Value)} {st : List Value} {μ : mMem} {i : Nat} {e : Int32} {k : Int32 → mR} (h : ∀ y, T q X (k y) pc ((i, .int y) :: lv) st μ) : T q X (li e k) pc ((i, .int e) :: lv) st μ := h e
theorem T_ll {q : mMI} {X : mCx} {pc : Nat} {lv : List (Nat × Value)} {st : List Value} {μ : mMem} {i : Nat} {e : Int64} {k : Int64 → mR} (h : ∀ y, T q X (k y) pc ((i, .long y) :: lv) st μ) : T q X (ll e k) pc ((i, .long e) :: lv) st μ := h e
theorem T_lt {q : mMI} {X : mCx} {pc : Nat} {lv : List (Nat × Value)} {st : List Value} {e : mMem} {k : mMem → mR} (h : ∀ y, T q X (k y) pc lv st y) : T q X (lt e k) pc lv st e := h e
theorem neT {x z : Int32} {k : Int} (h : ¬ x = z) (hz : z.toInt = k) : x.toInt ≠ k := fun e => h (Int32.toInt_inj.mp (e.trans hz.symm))
def imax (x y : Int32) : Int32 := if x < y then y else x
theorem lk_max : Cond.static Lib.Math.max.name ∈ gdL ∧ Cond.initialized "java/lang/Math" ∈ gdL ∧ Cond.code Lib.Math.max.name Lib.Math.max.code 2 (some .int) ∈ gdL := ⟨gd_mem 530 (by decide +kernel) (by decide +kernel), gd_mem 65 (by decide +kernel) (by decide +kernel), gd_mem 531 (by decide +kernel) (by decide +kernel)⟩
theorem T_mmax {q : mMI} {X : mCx} {tgt : mR} {pc : Nat} {lv : List (Nat × Value)} {st : List Value} {μ : mMem} {index : Nat} {x y : Int32} (hlk : Cond.methodLink q.1.cls index Lib.Math.max.name ∈ gdL) (hdp : 1 ≤ q.2.2.2.2) (hcat : (st.map fun v => v.category).sum ≤ 8) (hd : decode q.2.1 pc = .ok (.invokestatic index, 3)) (h : T q X tgt (pc + 3) lv (.int (imax x y) :: st) μ) : T q X tgt pc lv (.int y :: .int x :: st) μ := fun hG v μ' ht H locs ls hP hS hl => by
  have hts := hG.2.2.2.2.2.2.1
  refine va_mmax hG.1 hG.2.1 (hG.2.2.1.trans hl.1.symm) hG.2.2.2.2.2.1 (hts _ hlk) (hts _ lk_max.1) (hts _ lk_max.2.1) (hts _ lk_max.2.2) hdp ?_ (Nat.zero_le _) (Nat.zero_le _) hd (h hG v μ' ht H locs ls hP hS hl)
  show _ ≤ 100 * q.2.2.2.2
  rw [cz_sum]
  omega
def imin (x y : Int32) : Int32 := if y < x then y else x
theorem lk_min : Cond.static Lib.Math.min.name ∈ gdL ∧ Cond.initialized "java/lang/Math" ∈ gdL ∧ Cond.code Lib.Math.min.name Lib.Math.min.code 2 (some .int) ∈ gdL := ⟨gd_mem 507 (by decide +kernel) (by decide +kernel), gd_mem 65 (by decide +kernel) (by decide +kernel), gd_mem 508 (by decide +kernel) (by decide +kernel)⟩
theorem T_mmin {q : mMI} {X : mCx} {tgt : mR} {pc : Nat} {lv : List (Nat × Value)} {st : List Value} {μ : mMem} {index : Nat} {x y : Int32} (hlk : Cond.methodLink q.1.cls index Lib.Math.min.name ∈ gdL) (hdp : 1 ≤ q.2.2.2.2) (hcat : (st.map fun v => v.category).sum ≤ 8) (hd : decode q.2.1 pc = .ok (.invokestatic index, 3)) (h : T q X tgt (pc + 3) lv (.int (imin x y) :: st) μ) : T q X tgt pc lv (.int y :: .int x :: st) μ := fun hG v μ' ht H locs ls hP hS hl => by
  have hts := hG.2.2.2.2.2.2.1
  refine va_mmin hG.1 hG.2.1 (hG.2.2.1.trans hl.1.symm) hG.2.2.2.2.2.1 (hts _ hlk) (hts _ lk_min.1) (hts _ lk_min.2.1) (hts _ lk_min.2.2) hdp ?_ (Nat.zero_le _) (Nat.zero_le _) hd (h hG v μ' ht H locs ls hP hS hl)
  show _ ≤ 100 * q.2.2.2.2
  rw [cz_sum]
  omega
def iabs (x : Int32) : Int32 := if 0 ≤ x then x else 0 - x
theorem lk_abs : Cond.static Lib.Math.abs.name ∈ gdL ∧ Cond.initialized "java/lang/Math" ∈ gdL ∧ Cond.code Lib.Math.abs.name Lib.Math.abs.code 1 (some .int) ∈ gdL := ⟨gd_mem 543 (by decide +kernel) (by decide +kernel), gd_mem 65 (by decide +kernel) (by decide +kernel), gd_mem 544 (by decide +kernel) (by decide +kernel)⟩
theorem T_mabs {q : mMI} {X : mCx} {tgt : mR} {pc : Nat} {lv : List (Nat × Value)} {st : List Value} {μ : mMem} {index : Nat} {x : Int32} (hlk : Cond.methodLink q.1.cls index Lib.Math.abs.name ∈ gdL) (hdp : 1 ≤ q.2.2.2.2) (hcat : (st.map fun v => v.category).sum ≤ 8) (hd : decode q.2.1 pc = .ok (.invokestatic index, 3)) (h : T q X tgt (pc + 3) lv (.int (iabs x) :: st) μ) : T q X tgt pc lv (.int x :: st) μ := fun hG v μ' ht H locs ls hP hS hl => by
  have hts := hG.2.2.2.2.2.2.1
  refine va_mabs hG.1 hG.2.1 (hG.2.2.1.trans hl.1.symm) hG.2.2.2.2.2.1 (hts _ hlk) (hts _ lk_abs.1) (hts _ lk_abs.2.1) (hts _ lk_abs.2.2) hdp ?_ (Nat.zero_le _) (Nat.zero_le _) hd (h hG v μ' ht H locs ls hP hS hl)
  show _ ≤ 100 * q.2.2.2.2
  rw [cz_sum]
  omega
theorem kd_0 : kd 0 = (4, 0) := rfl
theorem kd_1 : kd 1 = (10, 10) := rfl
theorem kd_2 : kd 2 = (10, 10) := rfl
theorem kd_3 : kd 3 = (10, 10) := rfl
theorem kd_4 : kd 4 = (10, 4) := rfl
theorem kd_5 : kd 5 = (10, 4) := rfl
theorem kd_6 : kd 6 = (10, 4) := rfl
theorem kd_7 : kd 7 = (10, 4) := rfl
theorem kd_8 : kd 8 = (4, 0) := rfl
theorem kd_9 : kd 9 = (10, 10) := rfl
theorem kd_10 : kd 10 = (10, 10) := rfl
theorem kd_11 : kd 11 = (10, 10) := rfl
theorem kd_12 : kd 12 = (10, 4) := rfl
theorem kd_13 : kd 13 = (10, 4) := rfl
theorem kd_14 : kd 14 = (10, 4) := rfl
theorem kd_15 : kd 15 = (10, 4) := rfl
theorem kd_16 : kd 16 = (4, 0) := rfl
theorem kd_17 : kd 17 = (10, 10) := rfl
theorem kd_18 : kd 18 = (10, 10) := rfl
theorem kd_19 : kd 19 = (10, 10) := rfl
theorem kd_20 : kd 20 = (10, 4) := rfl
theorem kd_21 : kd 21 = (10, 4) := rfl
theorem kd_22 : kd 22 = (10, 4) := rfl
theorem kd_23 : kd 23 = (10, 4) := rfl
theorem kd_24 : kd 24 = (4, 0) := rfl
theorem kd_25 : kd 25 = (10, 10) := rfl
theorem kd_26 : kd 26 = (10, 10) := rfl
theorem kd_27 : kd 27 = (10, 10) := rfl
theorem kd_28 : kd 28 = (10, 4) := rfl
theorem kd_29 : kd 29 = (10, 4) := rfl
theorem kd_30 : kd 30 = (10, 4) := rfl
theorem kd_31 : kd 31 = (10, 4) := rfl
theorem kd_32 : kd 32 = (4, 0) := rfl
theorem kd_33 : kd 33 = (10, 10) := rfl
theorem kd_34 : kd 34 = (10, 10) := rfl
theorem kd_35 : kd 35 = (10, 10) := rfl
theorem kd_36 : kd 36 = (10, 4) := rfl
theorem kd_37 : kd 37 = (10, 4) := rfl
theorem kd_38 : kd 38 = (10, 4) := rfl
theorem kd_39 : kd 39 = (10, 4) := rfl
theorem kd_40 : kd 40 = (5, 0) := rfl
theorem kd_41 : kd 41 = (10, 40) := rfl
theorem kd_42 : kd 42 = (5, 0) := rfl
theorem kd_43 : kd 43 = (10, 40) := rfl
theorem kd_44 : kd 44 = (5, 0) := rfl
theorem kd_45 : kd 45 = (10, 40) := rfl
theorem kd_46 : kd 46 = (5, 0) := rfl
theorem kd_47 : kd 47 = (10, 40) := rfl
theorem kd_48 : kd 48 = (7, 0) := rfl
theorem kd_49 : kd 49 = (6, 0) := rfl
theorem kd_50 : kd 50 = (9, 160) := rfl
theorem kd_51 : kd 51 = (10, 4) := rfl
theorem kd_52 : kd 52 = (13, 2) := rfl
theorem kd_53 : kd 53 = (12, 2) := rfl
theorem kd_54 : kd 54 = (1, 0) := rfl
theorem kd_55 : kd 55 = (10, 10) := rfl
theorem kd_56 : kd 56 = (10, 10) := rfl
theorem kd_57 : kd 57 = (3, 0) := rfl
theorem kd_58 : kd 58 = (10, 4) := rfl
theorem kd_59 : kd 59 = (10, 4) := rfl
theorem kd_60 : kd 60 = (10, 10) := rfl
theorem kd_61 : kd 61 = (10, 16) := rfl
theorem kd_62 : kd 62 = (0, 0) := rfl
theorem kd_63 : kd 63 = (11, 16) := rfl
theorem kd_64 : kd 64 = (11, 16) := rfl
theorem kd_65 : kd 65 = (2, 0) := rfl
theorem kd_66 : kd 66 = (10, 4) := rfl
theorem kd_67 : kd 67 = (10, 6) := rfl
theorem kd_68 : kd 68 = (10, 6) := rfl
theorem kd_69 : kd 69 = (15, 5) := rfl
theorem kd_70 : kd 70 = (10, 10) := rfl
theorem kd_71 : kd 71 = (10, 10) := rfl
theorem kd_72 : kd 72 = (10, 10) := rfl
theorem kd_73 : kd 73 = (10, 10) := rfl
theorem kd_74 : kd 74 = (10, 10) := rfl
theorem kd_75 : kd 75 = (15, 4) := rfl
theorem kd_76 : kd 76 = (10, 10) := rfl
theorem kd_77 : kd 77 = (10, 10) := rfl
theorem kd_78 : kd 78 = (10, 10) := rfl
theorem kd_79 : kd 79 = (10, 10) := rfl
theorem kd_80 : kd 80 = (14, 4) := rfl
theorem kd_81 : kd 81 = (8, 0) := rfl
theorem kd_82 : kd 82 = (10, 210) := rfl
theorem kd_83 : kd 83 = (10, 10) := rfl
theorem kd_84 : kd 84 = (10, 4) := rfl
theorem kd_85 : kd 85 = (10, 35) := rfl
theorem kd_86 : kd 86 = (10, 10) := rfl
theorem kd_87 : kd 87 = (10, 4) := rfl
theorem kd_88 : kd 88 = (10, 160) := rfl
theorem kd_89 : kd 89 = (10, 8) := rfl
theorem kd_90 : kd 90 = (10, 33) := rfl
theorem kd_91 : kd 91 = (10, 11) := rfl
theorem kd_92 : kd 92 = (10, 10) := rfl
theorem kd_93 : kd 93 = (10, 11) := rfl
theorem kd_94 : kd 94 = (10, 4) := rfl
theorem kd_95 : kd 95 = (10, 12) := rfl
theorem kd_96 : kd 96 = (12, 2) := rfl
theorem kd_97 : kd 97 = (10, 4) := rfl
theorem kd_98 : kd 98 = (10, 4) := rfl
theorem kd_99 : kd 99 = (10, 160) := rfl
theorem kdH5 {b : Nat} (h : kd b = (4, 0)) : kd (b + 1) = (10, 10) := (show ∀ b, b < 100 → kd b = (4, 0) → kd (b + 1) = (10, 10) by decide +kernel) b (kd_lt h (by decide)) h
theorem rfH5 {b : Nat} (h : kd b = (4, 0)) : rf b 5 = b + 1 := (show ∀ b, b < 100 → kd b = (4, 0) → rf b 5 = b + 1 by decide +kernel) b (kd_lt h (by decide)) h
theorem kdH6 {b : Nat} (h : kd b = (4, 0)) : kd (b + 2) = (10, 10) := (show ∀ b, b < 100 → kd b = (4, 0) → kd (b + 2) = (10, 10) by decide +kernel) b (kd_lt h (by decide)) h
theorem rfH6 {b : Nat} (h : kd b = (4, 0)) : rf b 6 = b + 2 := (show ∀ b, b < 100 → kd b = (4, 0) → rf b 6 = b + 2 by decide +kernel) b (kd_lt h (by decide)) h
theorem kdH7 {b : Nat} (h : kd b = (4, 0)) : kd (b + 3) = (10, 10) := (show ∀ b, b < 100 → kd b = (4, 0) → kd (b + 3) = (10, 10) by decide +kernel) b (kd_lt h (by decide)) h
theorem rfH7 {b : Nat} (h : kd b = (4, 0)) : rf b 7 = b + 3 := (show ∀ b, b < 100 → kd b = (4, 0) → rf b 7 = b + 3 by decide +kernel) b (kd_lt h (by decide)) h
theorem kdH8 {b : Nat} (h : kd b = (4, 0)) : kd (b + 4) = (10, 4) := (show ∀ b, b < 100 → kd b = (4, 0) → kd (b + 4) = (10, 4) by decide +kernel) b (kd_lt h (by decide)) h
theorem rfH8 {b : Nat} (h : kd b = (4, 0)) : rf b 8 = b + 4 := (show ∀ b, b < 100 → kd b = (4, 0) → rf b 8 = b + 4 by decide +kernel) b (kd_lt h (by decide)) h
theorem kdH9 {b : Nat} (h : kd b = (4, 0)) : kd (b + 5) = (10, 4) := (show ∀ b, b < 100 → kd b = (4, 0) → kd (b + 5) = (10, 4) by decide +kernel) b (kd_lt h (by decide)) h
theorem rfH9 {b : Nat} (h : kd b = (4, 0)) : rf b 9 = b + 5 := (show ∀ b, b < 100 → kd b = (4, 0) → rf b 9 = b + 5 by decide +kernel) b (kd_lt h (by decide)) h
theorem kdH10 {b : Nat} (h : kd b = (4, 0)) : kd (b + 6) = (10, 4) := (show ∀ b, b < 100 → kd b = (4, 0) → kd (b + 6) = (10, 4) by decide +kernel) b (kd_lt h (by decide)) h
theorem rfH10 {b : Nat} (h : kd b = (4, 0)) : rf b 10 = b + 6 := (show ∀ b, b < 100 → kd b = (4, 0) → rf b 10 = b + 6 by decide +kernel) b (kd_lt h (by decide)) h
theorem kdH11 {b : Nat} (h : kd b = (4, 0)) : kd (b + 7) = (10, 4) := (show ∀ b, b < 100 → kd b = (4, 0) → kd (b + 7) = (10, 4) by decide +kernel) b (kd_lt h (by decide)) h
theorem rfH11 {b : Nat} (h : kd b = (4, 0)) : rf b 11 = b + 7 := (show ∀ b, b < 100 → kd b = (4, 0) → rf b 11 = b + 7 by decide +kernel) b (kd_lt h (by decide)) h
theorem kdS1 {b : Nat} (h : kd b = (5, 0)) : kd (b + 1) = (10, 40) := (show ∀ b, b < 100 → kd b = (5, 0) → kd (b + 1) = (10, 40) by decide +kernel) b (kd_lt h (by decide)) h
theorem rfS1 {b : Nat} (h : kd b = (5, 0)) : rf b 1 = b + 1 := (show ∀ b, b < 100 → kd b = (5, 0) → rf b 1 = b + 1 by decide +kernel) b (kd_lt h (by decide)) h
theorem kdA52 {i : Int32} (h : vp_in i 2) : kd (rf 52 i.toNatClampNeg) = (4, 0) := (show ∀ j, j < 2 → kd (rf 52 j) = (4, 0) by decide +kernel) _ (Nat.not_le.mp fun z => h (Or.inr z))
theorem kdA80 {i : Int32} (h : vp_in i 4) : kd (rf 80 i.toNatClampNeg) = (5, 0) := (show ∀ j, j < 4 → kd (rf 80 j) = (5, 0) by decide +kernel) _ (Nat.not_le.mp fun z => h (Or.inr z))
theorem kdA69 {i : Int32} (h : vp_in i 5) : kd (rf 69 i.toNatClampNeg) = (10, 10) := (show ∀ j, j < 5 → kd (rf 69 j) = (10, 10) by decide +kernel) _ (Nat.not_le.mp fun z => h (Or.inr z))
theorem kdA75 {i : Int32} (h : vp_in i 4) : kd (rf 75 i.toNatClampNeg) = (10, 10) := (show ∀ j, j < 4 → kd (rf 75 j) = (10, 10) by decide +kernel) _ (Nat.not_le.mp fun z => h (Or.inr z))
