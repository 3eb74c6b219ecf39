theorem fs_at {ad : Nat → Nat} {c i k N : Nat} {x : Nat → Int32} {C : String} {TT : u_T} (hc : vwCl[c]? = some (C, TT, N)) (hk : k < N) : (fsOf ad c i x)[k]? = some (fv ad c i k x) := by
  have hn : nfc c = N := by unfold nfc; rw [hc]
  unfold fsOf
  rw [hn, List.getElem?_map, List.getElem?_range hk]
  rfl
theorem fs_len {ad : Nat → Nat} {c i N : Nat} {x : Nat → Int32} {C : String} {TT : u_T} (hc : vwCl[c]? = some (C, TT, N)) : (fsOf ad c i x).length = N := by
  have hn : nfc c = N := by unfold nfc; rw [hc]
  unfold fsOf
  rw [hn, List.length_map, List.length_range]
theorem fs_set {ad : Nat → Nat} {c i k N : Nat} {x : Nat → Int32} {z : Int32} {C : String} {TT : u_T} (hc : vwCl[c]? = some (C, TT, N)) (hk : k < N) (hf : ft c k ≠ 2) : (fsOf ad c i x).set k (.int z) = fsOf ad c i (upd x k z) := by
  apply List.ext_getElem?
  intro j
  rw [List.getElem?_set]
  by_cases hj : k = j
  · subst hj
    rw [if_pos rfl, fs_len hc, if_pos hk, fs_at hc hk]
    unfold fv
    rw [if_neg hf]
    simp [upd]
  · rw [if_neg hj]
    by_cases h : j < N
    · rw [fs_at hc h, fs_at hc h]
      unfold fv
      simp [upd, Ne.symm hj]
    · rw [List.getElem?_eq_none (by rw [fs_len hc]; omega), List.getElem?_eq_none (by rw [fs_len hc]; omega)]
theorem inG0 : ∀ w ∈ u_ws RX0 TX0 2, w ∈ gdL := by decide +kernel
theorem inG1 : ∀ w ∈ u_ws RX1 TX1 2, w ∈ gdL := by decide +kernel
theorem inG2 : ∀ w ∈ u_ws RX2 TX2 7, w ∈ gdL := by decide +kernel
theorem inG3 : ∀ w ∈ u_ws RX3 TX3 6, w ∈ gdL := by decide +kernel
theorem inG4 : ∀ w ∈ u_ws RX4 TX4 12, w ∈ gdL := by decide +kernel
theorem inG5 : ∀ w ∈ u_ws RX5 TX5 3, w ∈ gdL := by decide +kernel
theorem inG6 : ∀ w ∈ u_ws RX6 TX6 10, w ∈ gdL := by decide +kernel
theorem inG7 : ∀ w ∈ u_ws RX7 TX7 11, w ∈ gdL := by decide +kernel
theorem inG8 : ∀ w ∈ u_ws RX8 TX8 35, w ∈ gdL := by decide +kernel
theorem inG {c N : Nat} {C : String} {TT : u_T} (hc : vwCl[c]? = some (C, TT, N)) : ∀ w ∈ u_ws C TT N, w ∈ gdL := by
  match c, hc with
  | 0, hc => cases hc; exact inG0
  | 1, hc => cases hc; exact inG1
  | 2, hc => cases hc; exact inG2
  | 3, hc => cases hc; exact inG3
  | 4, hc => cases hc; exact inG4
  | 5, hc => cases hc; exact inG5
  | 6, hc => cases hc; exact inG6
  | 7, hc => cases hc; exact inG7
  | 8, hc => cases hc; exact inG8
  | c + 9, hc => simp [vwCl] at hc
theorem vw_lt {c N : Nat} {C : String} {TT : u_T} (hc : vwCl[c]? = some (C, TT, N)) : c < 9 := (List.getElem?_eq_some_iff.mp hc).1
theorem T_getI {q : mMI} {X : mCx} {tgt : mR} {pc : Nat} {lv : List (Nat × Value)} {st : List Value} {μ : mMem} {b c k index N : Nat} {C ref nm ds : String} {TT : u_T} {fn : Bool} (hc : vwCl[c]? = some (C, TT, N)) (hk : k < N) (hT : TT k = (ref, nm, ds, fn)) (hf : ft c k ≠ 2) (hw : Cond.fieldLink q.1.cls index ref nm ds ∈ gdL) (hb : kd b = (c, 0)) (hd : decode q.2.1 pc = .ok (.getfield index, 3)) (h : T q X tgt (pc + 3) lv (.int (μ.1 b k) :: st) μ) : T q X tgt pc lv (.ref b :: st) μ := fun hG v μ' ht H locs ls hP hS hl => by
  have hb0 := kd_lt hb (by have := vw_lt hc; omega)
  have e : (TT k).2.1 = nm ∧ (TT k).2.2.1 = ds ∧ (TT k).1 = ref := by rw [hT]; exact ⟨rfl, rfl, rfl⟩
  refine va_get (v := .int (μ.1 b k)) (ref := ref) hG.1 hG.2.1 hG.2.2.2.2.2.2.1 (inG hc) hG.2.2.2.2.2.1 hG.2.2.2.2.2.2.2.1 hP b (by rw [ws_at hb0, cell_obj hb (vw_lt hc)]) hc k hk (by rw [e.1, e.2.1]; exact hG.2.2.2.2.2.2.1 _ hw) (fun y hy => by rw [e.2.2] at hy; exact hy) ?_ hd (h hG v μ' ht H locs ls hP hS hl)
  rw [fs_at hc hk]
  unfold fv
  rw [if_neg hf]
theorem T_getR {q : mMI} {X : mCx} {tgt : mR} {pc : Nat} {lv : List (Nat × Value)} {st : List Value} {μ : mMem} {b c k index N : Nat} {C ref nm ds : String} {TT : u_T} {fn : Bool} (hc : vwCl[c]? = some (C, TT, N)) (hk : k < N) (hT : TT k = (ref, nm, ds, fn)) (hf : ft c k = 2) (hw : Cond.fieldLink q.1.cls index ref nm ds ∈ gdL) (hb : kd b = (c, 0)) (z : Nat) (hz : rf b k = z) (hd : decode q.2.1 pc = .ok (.getfield index, 3)) (h : T q X tgt (pc + 3) lv (.ref z :: st) μ) : T q X tgt pc lv (.ref b :: st) μ := fun hG v μ' ht H locs ls hP hS hl => by
  have hb0 := kd_lt hb (by have := vw_lt hc; omega)
  have e : (TT k).2.1 = nm ∧ (TT k).2.2.1 = ds ∧ (TT k).1 = ref := by rw [hT]; exact ⟨rfl, rfl, rfl⟩
  refine va_get (v := .ref (xad X z)) (ref := ref) hG.1 hG.2.1 hG.2.2.2.2.2.2.1 (inG hc) hG.2.2.2.2.2.1 hG.2.2.2.2.2.2.2.1 hP b (by rw [ws_at hb0, cell_obj hb (vw_lt hc)]) hc k hk (by rw [e.1, e.2.1]; exact hG.2.2.2.2.2.2.1 _ hw) (fun y hy => by rw [e.2.2] at hy; exact hy) ?_ hd (h hG v μ' ht H locs ls hP hS hl)
  rw [fs_at hc hk]
  unfold fv
  rw [if_pos hf, hz]
theorem ty_G {c N : Nat} {C : String} {TT : u_T} (hc : vwCl[c]? = some (C, TT, N)) : ∃ ty0 : Nat → FieldType, (∀ k, k < N → parseFieldDescriptor (TT k).2.2.1 = some (ty0 k)) ∧ (∀ a, a < N → ∀ b, b < N → a ≠ b → (TT a).2.1 ≠ (TT b).2.1) := by
  match c, hc with
  | 0, hc => cases hc; exact ⟨tyX0, tyX0_ok, nmX0⟩
  | 1, hc => cases hc; exact ⟨tyX1, tyX1_ok, nmX1⟩
  | 2, hc => cases hc; exact ⟨tyX2, tyX2_ok, nmX2⟩
  | 3, hc => cases hc; exact ⟨tyX3, tyX3_ok, nmX3⟩
  | 4, hc => cases hc; exact ⟨tyX4, tyX4_ok, nmX4⟩
  | 5, hc => cases hc; exact ⟨tyX5, tyX5_ok, nmX5⟩
  | 6, hc => cases hc; exact ⟨tyX6, tyX6_ok, nmX6⟩
  | 7, hc => cases hc; exact ⟨tyX7, tyX7_ok, nmX7⟩
  | 8, hc => cases hc; exact ⟨tyX8, tyX8_ok, nmX8⟩
  | c + 9, hc => simp [vwCl] at hc
theorem si_o (μ : mMem) (b k : Nat) (x : Int32) : ∀ j, j ≠ b → (si μ b k x).1 j = μ.1 j ∧ (si μ b k x).2 j = μ.2 j := fun j hj => ⟨by simp [si, hj], rfl⟩
theorem si_b (μ : mMem) (b k : Nat) (x : Int32) : (si μ b k x).1 b = upd (μ.1 b) k x := by simp [si]
theorem sl_o (μ : mMem) (b k : Nat) (x : Int64) : ∀ j, j ≠ b → (sl μ b k x).1 j = μ.1 j ∧ (sl μ b k x).2 j = μ.2 j := fun j hj => ⟨rfl, by simp [sl, hj]⟩
theorem sl_b (μ : mMem) (b k : Nat) (x : Int64) : (sl μ b k x).2 b = vp_updL (μ.2 b) k x := by simp [sl]
theorem T_put {q : mMI} {X : mCx} {tgt : mR} {pc : Nat} {lv : List (Nat × Value)} {st : List Value} {μ : mMem} {b c k index N : Nat} {C ref nm ds : String} {TT : u_T} {ty : FieldType} {x : Int32} (hc : vwCl[c]? = some (C, TT, N)) (hk : k < N) (hT : TT k = (ref, nm, ds, false)) (hf : ft c k ≠ 2) (hw : Cond.fieldLink q.1.cls index ref nm ds ∈ gdL) (hty : parseFieldDescriptor ds = some ty) (hn : narrow ty (.int x) = .int x) (hfit : fits ty (.int x) = true) (hb : kd b = (c, 0)) (hd : decode q.2.1 pc = .ok (.putfield index, 3)) (h : T q X tgt (pc + 3) lv st (si μ b k x)) : T q X tgt pc lv (.int x :: .ref b :: st) μ := fun hG v μ' ht H locs ls hP hS hl => by
  have hb0 := kd_lt hb (by have := vw_lt hc; omega)
  have e : (TT k).2.1 = nm ∧ (TT k).2.2.1 = ds ∧ (TT k).1 = ref ∧ (TT k).2.2.2 = false := by rw [hT]; exact ⟨rfl, rfl, rfl, rfl⟩
  obtain ⟨ty0, t1, t2⟩ := ty_G hc
  refine va_put (v := .int x) (ref := ref) (ty := ty) hG.1 hG.2.1 hG.2.2.2.2.2.2.1 (inG hc) ty0 t1 t2 hG.2.2.2.2.2.1 hG.2.2.2.2.2.2.2.1 hP (ws_D hG.2.2.2.2.2.2.2.2.1 hG.2.2.2.2.2.2.2.2.2.1) hS b (by rw [ws_at hb0, cell_obj hb (vw_lt hc)]) hc k hk (by rw [e.1, e.2.1]; exact hG.2.2.2.2.2.2.1 _ hw) (fun y hy => by rw [e.2.2.1] at hy; exact hy) e.2.2.2 (by rw [e.2.1]; exact hty) hn hfit (by rw [fs_len hc]; exact hk) hd (fun H1 locs1 hP1 _ hS1 => ?_)
  refine h hG v μ' ht H1 locs1 ls ?_ hS1 hl
  rw [ws_set (μ' := si μ b k x) hb0 (by rw [cell_obj hb (vw_lt hc), si_b, fs_set hc hk hf]) (si_o μ b k x)] at hP1
  exact hP1
theorem T_bald {q : mMI} {X : mCx} {tgt : mR} {pc : Nat} {lv : List (Nat × Value)} {st : List Value} {μ : mMem} {b n : Nat} {i : Int32} {dc : Decidable (vp_in i n)} (hb : kd b = (9, n)) (hd : decode q.2.1 pc = .ok (.baload, 1)) (h : T q X tgt (pc + 1) lv (.int (μ.1 b i.toNatClampNeg) :: st) μ) : T q X (gd (vp_in i n) tgt dc) pc lv (.int i :: .ref b :: st) μ := by
  unfold gd
  refine T_ite (fun hc => ?_) (fun _ => T_none)
  exact fun hG v μ' ht H locs ls hP hS hl => va_bald (f := μ.1 b) hG.1 hG.2.1 hG.2.2.2.2.2.2.2.1 hP b 0 (by rw [ws_at (kd_lt hb (by decide)), cell_int hb (by decide)]) rfl hc hd (h hG v μ' ht H locs ls hP hS hl)
theorem T_iald {q : mMI} {X : mCx} {tgt : mR} {pc : Nat} {lv : List (Nat × Value)} {st : List Value} {μ : mMem} {b n : Nat} {i : Int32} {dc : Decidable (vp_in i n)} (hb : kd b = (10, n)) (hd : decode q.2.1 pc = .ok (.iaload, 1)) (h : T q X tgt (pc + 1) lv (.int (μ.1 b i.toNatClampNeg) :: st) μ) : T q X (gd (vp_in i n) tgt dc) pc lv (.int i :: .ref b :: st) μ := by
  unfold gd
  refine T_ite (fun hc => ?_) (fun _ => T_none)
  exact fun hG v μ' ht H locs ls hP hS hl => va_iald (f := μ.1 b) hG.1 hG.2.1 hG.2.2.2.2.2.2.2.1 hP b 1 (by rw [ws_at (kd_lt hb (by decide)), cell_int hb (by decide)]) rfl hc hd (h hG v μ' ht H locs ls hP hS hl)
theorem T_zald {q : mMI} {X : mCx} {tgt : mR} {pc : Nat} {lv : List (Nat × Value)} {st : List Value} {μ : mMem} {b n : Nat} {i : Int32} {dc : Decidable (vp_in i n)} (hb : kd b = (12, n)) (hd : decode q.2.1 pc = .ok (.baload, 1)) (h : T q X tgt (pc + 1) lv (.int (μ.1 b i.toNatClampNeg) :: st) μ) : T q X (gd (vp_in i n) tgt dc) pc lv (.int i :: .ref b :: st) μ := by
  unfold gd
  refine T_ite (fun hc => ?_) (fun _ => T_none)
  exact fun hG v μ' ht H locs ls hP hS hl => va_zald (f := μ.1 b) hG.1 hG.2.1 hG.2.2.2.2.2.2.2.1 hP b 3 (by rw [ws_at (kd_lt hb (by decide)), cell_int hb (by decide)]) rfl hc hd (h hG v μ' ht H locs ls hP hS hl)
theorem T_lald {q : mMI} {X : mCx} {tgt : mR} {pc : Nat} {lv : List (Nat × Value)} {st : List Value} {μ : mMem} {b n : Nat} {i : Int32} {dc : Decidable (vp_in i n)} (hb : kd b = (11, n)) (hd : decode q.2.1 pc = .ok (.laload, 1)) (h : T q X tgt (pc + 1) lv (.long (μ.2 b i.toNatClampNeg) :: st) μ) : T q X (gd (vp_in i n) tgt dc) pc lv (.int i :: .ref b :: st) μ := by
  unfold gd
  refine T_ite (fun hc => ?_) (fun _ => T_none)
  exact fun hG v μ' ht H locs ls hP hS hl => va_lald (f := μ.2 b) hG.1 hG.2.1 hG.2.2.2.2.2.2.2.1 hP b 2 (by rw [ws_at (kd_lt hb (by decide)), cell_long hb]) rfl hc hd (h hG v μ' ht H locs ls hP hS hl)
theorem T_alen {q : mMI} {X : mCx} {tgt : mR} {pc : Nat} {lv : List (Nat × Value)} {st : List Value} {μ : mMem} {b c n : Nat} (hb : kd b = (c, n)) (hc : c = 9 ∨ c = 10 ∨ c = 12) (hd : decode q.2.1 pc = .ok (.arraylength, 1)) (h : T q X tgt (pc + 1) lv (.int (Int32.ofNat n) :: st) μ) : T q X tgt pc lv (.ref b :: st) μ := fun hG v μ' ht H locs ls hP hS hl => by
  have hb0 := kd_lt hb (by omega)
  rcases hc with rfl | rfl | rfl
  · exact va_alen (x := (n, .inl (μ.1 b))) hG.1 hG.2.1 hG.2.2.2.2.2.2.2.1 hP b 0 (by rw [ws_at hb0, cell_int hb (by decide)]) rfl rfl hd (h hG v μ' ht H locs ls hP hS hl)
  · exact va_alen (x := (n, .inl (μ.1 b))) hG.1 hG.2.1 hG.2.2.2.2.2.2.2.1 hP b 1 (by rw [ws_at hb0, cell_int hb (by decide)]) rfl rfl hd (h hG v μ' ht H locs ls hP hS hl)
  · exact va_alen (x := (n, .inl (μ.1 b))) hG.1 hG.2.1 hG.2.2.2.2.2.2.2.1 hP b 3 (by rw [ws_at hb0, cell_int hb (by decide)]) rfl rfl hd (h hG v μ' ht H locs ls hP hS hl)
theorem T_alenL {q : mMI} {X : mCx} {tgt : mR} {pc : Nat} {lv : List (Nat × Value)} {st : List Value} {μ : mMem} {b n : Nat} (hb : kd b = (11, n)) (hd : decode q.2.1 pc = .ok (.arraylength, 1)) (h : T q X tgt (pc + 1) lv (.int (Int32.ofNat n) :: st) μ) : T q X tgt pc lv (.ref b :: st) μ := fun hG v μ' ht H locs ls hP hS hl => va_alen (x := (n, .inr (.inl (μ.2 b)))) hG.1 hG.2.1 hG.2.2.2.2.2.2.2.1 hP b 2 (by rw [ws_at (kd_lt hb (by decide)), cell_long hb]) rfl rfl hd (h hG v μ' ht H locs ls hP hS hl)
theorem T_aaldH {q : mMI} {X : mCx} {tgt : mR} {pc : Nat} {lv : List (Nat × Value)} {st : List Value} {μ : mMem} {b n : Nat} {i : Int32} {dc : Decidable (vp_in i n)} (hb : kd b = (13, n)) (hd : decode q.2.1 pc = .ok (.aaload, 1)) (h : vp_in i n → T q X tgt (pc + 1) lv (.ref (rf b i.toNatClampNeg) :: st) μ) : T q X (gd (vp_in i n) tgt dc) pc lv (.int i :: .ref b :: st) μ := by
  unfold gd
  refine T_ite (fun hc => ?_) (fun _ => T_none)
  refine fun hG v μ' ht H locs ls hP hS hl => ?_
  have hlt : i.toNatClampNeg < n := Nat.not_le.mp fun z => hc (Or.inr z)
  have ha : (wsOf (xad X) (xcA X) μ)[b]? = some (xad X b, .inl (xcA X 13, n, .inr (.inr (.inr (.inr (fun j => some (xad X (rf b j)))))))) := by rw [ws_at (kd_lt hb (by decide)), cell_ref hb (by decide)]
  exact W.aald (v := .ref (xad X (rf b i.toNatClampNeg))) (ty := .object RX4) hG.1 hG.2.1 (hP b _ ha) ((hG.2.2.2.2.2.2.2.1.2 4 _ rfl).1 n (fun j => va_rf (some (xad X (rf b j))))) rfl (fun z => by cases z) (by show ¬ (i < 0 ∨ (arrV _ _ _).slots.size ≤ _); rw [arrV_size]; exact hc) (by show (arrV _ _ _).slots[_]? = _; rw [arrV_read _ _ hlt]; rfl) rfl rfl hd (h hc hG v μ' ht H locs ls hP hS hl)
theorem T_aaldS {q : mMI} {X : mCx} {tgt : mR} {pc : Nat} {lv : List (Nat × Value)} {st : List Value} {μ : mMem} {b n : Nat} {i : Int32} {dc : Decidable (vp_in i n)} (hb : kd b = (14, n)) (hd : decode q.2.1 pc = .ok (.aaload, 1)) (h : vp_in i n → T q X tgt (pc + 1) lv (.ref (rf b i.toNatClampNeg) :: st) μ) : T q X (gd (vp_in i n) tgt dc) pc lv (.int i :: .ref b :: st) μ := by
  unfold gd
  refine T_ite (fun hc => ?_) (fun _ => T_none)
  refine fun hG v μ' ht H locs ls hP hS hl => ?_
  have hlt : i.toNatClampNeg < n := Nat.not_le.mp fun z => hc (Or.inr z)
  have ha : (wsOf (xad X) (xcA X) μ)[b]? = some (xad X b, .inl (xcA X 14, n, .inr (.inr (.inr (.inr (fun j => some (xad X (rf b j)))))))) := by rw [ws_at (kd_lt hb (by decide)), cell_ref hb (by decide)]
  exact W.aald (v := .ref (xad X (rf b i.toNatClampNeg))) (ty := .object RX5) hG.1 hG.2.1 (hP b _ ha) ((hG.2.2.2.2.2.2.2.1.2 5 _ rfl).1 n (fun j => va_rf (some (xad X (rf b j))))) rfl (fun z => by cases z) (by show ¬ (i < 0 ∨ (arrV _ _ _).slots.size ≤ _); rw [arrV_size]; exact hc) (by show (arrV _ _ _).slots[_]? = _; rw [arrV_read _ _ hlt]; rfl) rfl rfl hd (h hc hG v μ' ht H locs ls hP hS hl)
theorem T_aaldI {q : mMI} {X : mCx} {tgt : mR} {pc : Nat} {lv : List (Nat × Value)} {st : List Value} {μ : mMem} {b n : Nat} {i : Int32} {dc : Decidable (vp_in i n)} (hb : kd b = (15, n)) (hd : decode q.2.1 pc = .ok (.aaload, 1)) (h : vp_in i n → T q X tgt (pc + 1) lv (.ref (rf b i.toNatClampNeg) :: st) μ) : T q X (gd (vp_in i n) tgt dc) pc lv (.int i :: .ref b :: st) μ := by
  unfold gd
  refine T_ite (fun hc => ?_) (fun _ => T_none)
  refine fun hG v μ' ht H locs ls hP hS hl => ?_
  have hlt : i.toNatClampNeg < n := Nat.not_le.mp fun z => hc (Or.inr z)
  have ha : (wsOf (xad X) (xcA X) μ)[b]? = some (xad X b, .inl (xcA X 15, n, .inr (.inr (.inr (.inr (fun j => some (xad X (rf b j)))))))) := by rw [ws_at (kd_lt hb (by decide)), cell_ref hb (by decide)]
  exact W.aald (v := .ref (xad X (rf b i.toNatClampNeg))) (ty := .array .int) hG.1 hG.2.1 (hP b _ ha) ((hG.2.2.2.2.2.2.2.1.2 6 _ rfl).1 n (fun j => va_rf (some (xad X (rf b j))))) rfl (fun z => by cases z) (by show ¬ (i < 0 ∨ (arrV _ _ _).slots.size ≤ _); rw [arrV_size]; exact hc) (by show (arrV _ _ _).slots[_]? = _; rw [arrV_read _ _ hlt]; rfl) rfl rfl hd (h hc hG v μ' ht H locs ls hP hS hl)
theorem T_bast {q : mMI} {X : mCx} {tgt : mR} {pc : Nat} {lv : List (Nat × Value)} {st : List Value} {μ : mMem} {b n : Nat} {i x : Int32} {dc : Decidable (vp_in i n)} (z : Int32) (hz : vp_nar .byte x = z) (hb : kd b = (9, n)) (hd : decode q.2.1 pc = .ok (.bastore, 1)) (h : T q X tgt (pc + 1) lv st (si μ b i.toNatClampNeg z)) : T q X (gd (vp_in i n) tgt dc) pc lv (.int x :: .int i :: .ref b :: st) μ := by
  subst hz
  unfold gd
  refine T_ite (fun hc => ?_) (fun _ => T_none)
  refine fun hG v μ' ht H locs ls hP hS hl => ?_
  have hb0 := kd_lt hb (by decide)
  refine va_bast (f := μ.1 b) hG.1 hG.2.1 hG.2.2.2.2.2.2.2.1 hP (ws_D hG.2.2.2.2.2.2.2.2.1 hG.2.2.2.2.2.2.2.2.2.1) hS b 0 (by rw [ws_at hb0, cell_int hb (by decide)]) rfl hc hd (fun H1 locs1 hP1 _ hS1 => ?_)
  refine h hG v μ' ht H1 locs1 ls ?_ hS1 hl
  rw [ws_set (μ' := si μ b i.toNatClampNeg (vp_nar .byte x)) hb0 (by rw [cell_int hb (by decide), si_b]) (si_o μ b _ _)] at hP1
  exact hP1
theorem T_iast {q : mMI} {X : mCx} {tgt : mR} {pc : Nat} {lv : List (Nat × Value)} {st : List Value} {μ : mMem} {b n : Nat} {i x : Int32} {dc : Decidable (vp_in i n)} (z : Int32) (hz : x = z) (hb : kd b = (10, n)) (hd : decode q.2.1 pc = .ok (.iastore, 1)) (h : T q X tgt (pc + 1) lv st (si μ b i.toNatClampNeg z)) : T q X (gd (vp_in i n) tgt dc) pc lv (.int x :: .int i :: .ref b :: st) μ := by
  subst hz
  unfold gd
  refine T_ite (fun hc => ?_) (fun _ => T_none)
  refine fun hG v μ' ht H locs ls hP hS hl => ?_
  have hb0 := kd_lt hb (by decide)
  refine va_iast (f := μ.1 b) hG.1 hG.2.1 hG.2.2.2.2.2.2.2.1 hP (ws_D hG.2.2.2.2.2.2.2.2.1 hG.2.2.2.2.2.2.2.2.2.1) hS b 1 (by rw [ws_at hb0, cell_int hb (by decide)]) rfl hc hd (fun H1 locs1 hP1 _ hS1 => ?_)
  refine h hG v μ' ht H1 locs1 ls ?_ hS1 hl
  rw [ws_set (μ' := si μ b i.toNatClampNeg (x)) hb0 (by rw [cell_int hb (by decide), si_b]) (si_o μ b _ _)] at hP1
  exact hP1
theorem T_zast {q : mMI} {X : mCx} {tgt : mR} {pc : Nat} {lv : List (Nat × Value)} {st : List Value} {μ : mMem} {b n : Nat} {i x : Int32} {dc : Decidable (vp_in i n)} (z : Int32) (hz : vp_nar .boolean x = z) (hb : kd b = (12, n)) (hd : decode q.2.1 pc = .ok (.bastore, 1)) (h : T q X tgt (pc + 1) lv st (si μ b i.toNatClampNeg z)) : T q X (gd (vp_in i n) tgt dc) pc lv (.int x :: .int i :: .ref b :: st) μ := by
  subst hz
  unfold gd
  refine T_ite (fun hc => ?_) (fun _ => T_none)
  refine fun hG v μ' ht H locs ls hP hS hl => ?_
  have hb0 := kd_lt hb (by decide)
  refine va_zast (f := μ.1 b) hG.1 hG.2.1 hG.2.2.2.2.2.2.2.1 hP (ws_D hG.2.2.2.2.2.2.2.2.1 hG.2.2.2.2.2.2.2.2.2.1) hS b 3 (by rw [ws_at hb0, cell_int hb (by decide)]) rfl hc hd (fun H1 locs1 hP1 _ hS1 => ?_)
  refine h hG v μ' ht H1 locs1 ls ?_ hS1 hl
  rw [ws_set (μ' := si μ b i.toNatClampNeg (vp_nar .boolean x)) hb0 (by rw [cell_int hb (by decide), si_b]) (si_o μ b _ _)] at hP1
  exact hP1
theorem T_last {q : mMI} {X : mCx} {tgt : mR} {pc : Nat} {lv : List (Nat × Value)} {st : List Value} {μ : mMem} {b n : Nat} {i : Int32} {x : Int64} {dc : Decidable (vp_in i n)} (hb : kd b = (11, n)) (hd : decode q.2.1 pc = .ok (.lastore, 1)) (h : T q X tgt (pc + 1) lv st (sl μ b i.toNatClampNeg x)) : T q X (gd (vp_in i n) tgt dc) pc lv (.long x :: .int i :: .ref b :: st) μ := by
  unfold gd
  refine T_ite (fun hc => ?_) (fun _ => T_none)
  refine fun hG v μ' ht H locs ls hP hS hl => ?_
  have hb0 := kd_lt hb (by decide)
  refine va_last (f := μ.2 b) hG.1 hG.2.1 hG.2.2.2.2.2.2.2.1 hP (ws_D hG.2.2.2.2.2.2.2.2.1 hG.2.2.2.2.2.2.2.2.2.1) hS b 2 (by rw [ws_at hb0, cell_long hb]) rfl hc hd (fun H1 locs1 hP1 _ hS1 => ?_)
  refine h hG v μ' ht H1 locs1 ls ?_ hS1 hl
  rw [ws_set (μ' := sl μ b i.toNatClampNeg x) hb0 (by rw [cell_long hb, sl_b]) (sl_o μ b _ _)] at hP1
  exact hP1
theorem Qb_ret {X : mCx} {v : Option Value} {μ : mMem} {H : Heap} {locs : List Loc} {a : Array Value} (hP : va_P (xD X) vwCl (wsOf (xad X) (xcA X) μ) H) (hS : va_S (xA X) (xs X).heap H locs) : ∀ t : State, t.heap = H → (xs X).WarmedH t.vm → Qb (xad X) (xcA X) (xD X) (xA X) v μ a (xs X) (.returned (v.map (cz (xad X)))) t := fun t ht _ => ⟨rfl, by rw [ht]; exact hP, hS.F ht⟩
theorem T_iret {q : mMI} {X : mCx} {pc : Nat} {lv : List (Nat × Value)} {μ : mMem} {x : Int32} (hr : q.2.2.2.1 = some .int) (hd : decode q.2.1 pc = .ok (.ireturn, 1)) : T q X (some (some (.int x), μ)) pc lv [.int x] μ := fun hG v μ' ht H locs ls hP hS hl => by
  obtain ⟨rfl, rfl⟩ : some (.int x) = v ∧ μ = μ' := by simpa using ht
  exact W.iret (v := x) hG.1 hG.2.1 (hG.2.2.2.1.trans hr) (Qb_ret (v := some (.int x)) hP hS) hS.2.2 hd (hlocks := hG.2.2.2.2.1)
theorem T_zret {q : mMI} {X : mCx} {pc : Nat} {lv : List (Nat × Value)} {μ : mMem} {x : Int32} {dc : Decidable (x = 0 ∨ x = 1)} (hr : q.2.2.2.1 = some .boolean) (hd : decode q.2.1 pc = .ok (.ireturn, 1)) : T q X (gd (x = 0 ∨ x = 1) (some (some (.int x), μ)) dc) pc lv [.int x] μ := by
  unfold gd
  refine T_ite (fun hc => ?_) (fun _ => T_none)
  refine fun hG v μ' ht H locs ls hP hS hl => ?_
  obtain ⟨rfl, rfl⟩ : some (.int x) = v ∧ μ = μ' := by simpa using ht
  exact W.zret (v := x) hG.1 hG.2.1 (hG.2.2.2.1.trans hr) (by rcases hc with rfl | rfl <;> rfl) (Qb_ret (v := some (.int x)) hP hS) hS.2.2 hd (hlocks := hG.2.2.2.2.1)
theorem T_zretc {q : mMI} {X : mCx} {pc : Nat} {lv : List (Nat × Value)} {μ : mMem} {x : Int32} (hc : narrow .boolean (.int x) = .int x) (hr : q.2.2.2.1 = some .boolean) (hd : decode q.2.1 pc = .ok (.ireturn, 1)) : T q X (some (some (.int x), μ)) pc lv [.int x] μ := fun hG v μ' ht H locs ls hP hS hl => by
  obtain ⟨rfl, rfl⟩ : some (.int x) = v ∧ μ = μ' := by simpa using ht
  exact W.zret (v := x) hG.1 hG.2.1 (hG.2.2.2.1.trans hr) hc (Qb_ret (v := some (.int x)) hP hS) hS.2.2 hd (hlocks := hG.2.2.2.2.1)
theorem T_lret {q : mMI} {X : mCx} {pc : Nat} {lv : List (Nat × Value)} {μ : mMem} {x : Int64} (hr : q.2.2.2.1 = some .long) (hd : decode q.2.1 pc = .ok (.lreturn, 1)) : T q X (some (some (.long x), μ)) pc lv [.long x] μ := fun hG v μ' ht H locs ls hP hS hl => by
  obtain ⟨rfl, rfl⟩ : some (.long x) = v ∧ μ = μ' := by simpa using ht
  exact W.lret (v := x) hG.1 hG.2.1 (hG.2.2.2.1.trans hr) (Qb_ret (v := some (.long x)) hP hS) hS.2.2 hd (hlocks := hG.2.2.2.2.1)
theorem T_vret {q : mMI} {X : mCx} {pc : Nat} {lv : List (Nat × Value)} {μ : mMem} (hr : q.2.2.2.1 = none) (hd : decode q.2.1 pc = .ok (.return_, 1)) : T q X (some (none, μ)) pc lv [] μ := fun hG v μ' ht H locs ls hP hS hl => by
  obtain ⟨rfl, rfl⟩ : none = v ∧ μ = μ' := by simpa using ht
  exact W.vret hG.1 hG.2.1 (hG.2.2.2.1.trans hr) (Qb_ret (v := none) hP hS) hS.2.2 hd (hlocks := hG.2.2.2.2.1)
theorem T_aret {q : mMI} {X : mCx} {pc : Nat} {lv : List (Nat × Value)} {μ : mMem} {b : Nat} {C : String} (hr : q.2.2.2.1 = some (.object C)) (hd : decode q.2.1 pc = .ok (.areturn, 1)) : T q X (some (some (.ref b), μ)) pc lv [.ref b] μ := fun hG v μ' ht H locs ls hP hS hl => by
  obtain ⟨rfl, rfl⟩ : some (.ref b) = v ∧ μ = μ' := by simpa using ht
  exact W.aret (v := .ref (xad X b)) hG.1 hG.2.1 (hG.2.2.2.1.trans hr) (Or.inl ⟨_, rfl⟩) (Or.inr ⟨_, rfl⟩) (Qb_ret (v := some (.ref b)) hP hS) hS.2.2 hd (hlocks := hG.2.2.2.2.1)
