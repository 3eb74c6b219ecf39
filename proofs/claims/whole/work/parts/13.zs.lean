theorem hZS {q : mMI} {X : mCx} (hG : Good q X) : ZS (xad X) (xA X) (xs X) (xs X).heap := hG.2.2.2.2.2.2.2.2.2.2.2
theorem T_gg {q : mMI} {X : mCx} {r : mR} {pc : Nat} {lv : List (Nat × Value)} {st : List Value} {μ : mMem} {c : Prop} {dc : Decidable c} (h : c → T q X r pc lv st μ) : T q X (gd c r dc) pc lv st μ := by
  unfold gd
  exact T_ite h (fun _ => T_none)
theorem T_gs {q : mMI} {X : mCx} {tgt : mR} {pc : Nat} {lv : List (Nat × Value)} {st : List Value} {μ : mMem} {C nm ds : String} {x : Value} {index : Nat} (hz : ∀ X : mCx, ZS (xad X) (xA X) (xs X) (xs X).heap → va_Z C nm ds (cz (xad X) x) (xA X) (xs X) (xs X).heap) (hw : Cond.fieldLink q.1.cls index C nm ds ∈ gdL) (hd : decode q.2.1 pc = .ok (.getstatic index, 3)) (h : T q X tgt (pc + 3) lv (x :: st) μ) : T q X tgt pc lv st μ := fun hG v μ' ht H locs ls hP hS hl => va_gets hG.1 hG.2.1 (hz X (hZS hG)) hS hG.2.2.2.2.2.1 (hG.2.2.2.2.2.2.1 _ hw) (fun _ h => h) hd (h hG v μ' ht H locs ls hP hS hl)
theorem T_tald {q : mMI} {X : mCx} {tgt : mR} {pc : Nat} {lv : List (Nat × Value)} {st : List Value} {μ : mMem} {z N : Nat} {tb : List Int32} {i : Int32} {dc : Decidable (vp_in i N)} (hz : ∀ X : mCx, ZS (xad X) (xA X) (xs X) (xs X).heap → va_T .int (xad X z) N (fun j => .int (tb.getD j 0)) (xA X) (xs X) (xs X).heap) (hd : decode q.2.1 pc = .ok (.iaload, 1)) (h : T q X tgt (pc + 1) lv (.int (tb.getD i.toNatClampNeg 0) :: st) μ) : T q X (gd (vp_in i N) tgt dc) pc lv (.int i :: .ref z :: st) μ := T_gg (fun hc => fun hG v μ' ht H locs ls hP hS hl => va_ti hG.1 hG.2.1 (hz X (hZS hG)) hS hc rfl hd (h hG v μ' ht H locs ls hP hS hl))
theorem zs114 : ∀ X : mCx, ZS (xad X) (xA X) (xs X) (xs X).heap → va_Z "RankStairs$Tape" "NUMBERS" "[I" (cz (xad X) (.ref 114)) (xA X) (xs X) (xs X).heap := fun _ h => h.1.1
theorem zt114 : ∀ X : mCx, ZS (xad X) (xA X) (xs X) (xs X).heap → va_T .int (xad X 114) 7 (fun j => .int (tb114.getD j 0)) (xA X) (xs X) (xs X).heap := fun _ h => h.1.2
theorem zs115 : ∀ X : mCx, ZS (xad X) (xA X) (xs X) (xs X).heap → va_Z "RankStairs$Tape" "LEAST" "[I" (cz (xad X) (.ref 115)) (xA X) (xs X) (xs X).heap := fun _ h => h.2.1.1
theorem zt115 : ∀ X : mCx, ZS (xad X) (xA X) (xs X) (xs X).heap → va_T .int (xad X 115) 28 (fun j => .int (tb115.getD j 0)) (xA X) (xs X) (xs X).heap := fun _ h => h.2.1.2
theorem zs116 : ∀ X : mCx, ZS (xad X) (xA X) (xs X) (xs X).heap → va_Z "RankStairs$Tape" "MOST" "[I" (cz (xad X) (.ref 116)) (xA X) (xs X) (xs X).heap := fun _ h => h.2.2.1.1
theorem zt116 : ∀ X : mCx, ZS (xad X) (xA X) (xs X) (xs X).heap → va_T .int (xad X 116) 28 (fun j => .int (tb116.getD j 0)) (xA X) (xs X) (xs X).heap := fun _ h => h.2.2.1.2
theorem zsC : ∀ X : mCx, ZS (xad X) (xA X) (xs X) (xs X).heap → va_Z "java/lang/String" "COMPACT_STRINGS" "Z" (cz (xad X) (.int 1)) (xA X) (xs X) (xs X).heap := fun _ h => h.2.2.2.1
theorem T_ldcS {q : mMI} {X : mCx} {tgt : mR} {pc : Nat} {lv : List (Nat × Value)} {st : List Value} {μ : mMem} {index : Nat} (i : Nat) (hi : i < 7) (hx : sIdx.getD i 0 = index) (hc : q.1.cls = "RankStairs$Tape") (hd : decode q.2.1 pc = .ok (.ldc index, 2)) (h : T q X tgt (pc + 2) lv (.ref (100 + i) :: st) μ) : T q X tgt pc lv st μ := fun hG v μ' ht H locs ls hP hS hl => by
  subst hx
  have h1 := hG.2.2.2.2.2.1
  rw [hc] at h1
  exact va_ldcS hG.1 hG.2.1 h1 ((hZS hG).2.2.2.2.2.2 i hi) hd (h hG v μ' ht H locs ls hP hS hl)
theorem T_gSv {q : mMI} {X : mCx} {tgt : mR} {pc : Nat} {lv : List (Nat × Value)} {st : List Value} {μ : mMem} {b index : Nat} (hb : 100 ≤ b ∧ b < 107) (hw : Cond.fieldLink q.1.cls index "java/lang/String" "value" "[B" ∈ gdL) (hd : decode q.2.1 pc = .ok (.getfield index, 3)) (h : T q X tgt (pc + 3) lv (.ref (b + 7) :: st) μ) : T q X tgt pc lv (.ref b :: st) μ := fun hG v μ' ht H locs ls hP hS hl => by
  obtain ⟨i, hi⟩ : ∃ i, b = 100 + i := ⟨b - 100, by omega⟩
  subst hi
  have e : 100 + i + 7 = 107 + i := by omega
  rw [e] at h
  exact vk_getf hG.1 hG.2.1 ((hZS hG).2.2.2.2.2.1.1 i (by omega)).2.2.1 hS hG.2.2.2.2.2.1 (hG.2.2.2.2.2.2.1 _ hw) (fun _ h => h) hd (h hG v μ' ht H locs ls hP hS hl)
theorem T_gSc {q : mMI} {X : mCx} {tgt : mR} {pc : Nat} {lv : List (Nat × Value)} {st : List Value} {μ : mMem} {b index : Nat} (hb : 100 ≤ b ∧ b < 107) (hw : Cond.fieldLink q.1.cls index "java/lang/String" "coder" "B" ∈ gdL) (hd : decode q.2.1 pc = .ok (.getfield index, 3)) (h : T q X tgt (pc + 3) lv (.int 0 :: st) μ) : T q X tgt pc lv (.ref b :: st) μ := fun hG v μ' ht H locs ls hP hS hl => by
  obtain ⟨i, hi⟩ : ∃ i, b = 100 + i := ⟨b - 100, by omega⟩
  subst hi
  exact vk_getf hG.1 hG.2.1 ((hZS hG).2.2.2.2.2.1.1 i (by omega)).2.1 hS hG.2.2.2.2.2.1 (hG.2.2.2.2.2.2.1 _ hw) (fun _ h => h) hd (h hG v μ' ht H locs ls hP hS hl)
theorem T_Slen {q : mMI} {X : mCx} {tgt : mR} {pc : Nat} {lv : List (Nat × Value)} {st : List Value} {μ : mMem} {b : Nat} (hb : 100 ≤ b ∧ b < 107) (hd : decode q.2.1 pc = .ok (.arraylength, 1)) (h : T q X tgt (pc + 1) lv (.int (Int32.ofNat (sLen.getD (b - 100) 0)) :: st) μ) : T q X tgt pc lv (.ref (b + 7) :: st) μ := fun hG v μ' ht H locs ls hP hS hl => by
  obtain ⟨i, hi⟩ : ∃ i, b = 100 + i := ⟨b - 100, by omega⟩
  subst hi
  have e : 100 + i + 7 = 107 + i := by omega
  have e2 : 100 + i - 100 = i := by omega
  rw [e2] at h
  rw [e]
  exact va_tlen hG.1 hG.2.1 ((hZS hG).2.2.2.2.2.1.1 i (by omega)).2.2.2 hS rfl hd (h hG v μ' ht H locs ls hP hS hl)
theorem T_Sbald {q : mMI} {X : mCx} {tgt : mR} {pc : Nat} {lv : List (Nat × Value)} {st : List Value} {μ : mMem} {b : Nat} {x : Int32} (hb : 100 ≤ b ∧ b < 107) (hx : vp_in x (sLen.getD (b - 100) 0)) (hd : decode q.2.1 pc = .ok (.baload, 1)) (h : T q X tgt (pc + 1) lv (.int ((sByt.getD (b - 100) []).getD x.toNatClampNeg 0) :: st) μ) : T q X tgt pc lv (.int x :: .ref (b + 7) :: st) μ := fun hG v μ' ht H locs ls hP hS hl => by
  obtain ⟨i, hi⟩ : ∃ i, b = 100 + i := ⟨b - 100, by omega⟩
  subst hi
  have e : 100 + i + 7 = 107 + i := by omega
  have e2 : 100 + i - 100 = i := by omega
  rw [e2] at h hx
  rw [e]
  exact va_tb hG.1 hG.2.1 ((hZS hG).2.2.2.2.2.1.1 i (by omega)).2.2.2 hS hx rfl hd (h hG v μ' ht H locs ls hP hS hl)
theorem T_callVS {q q2 : mMI} {X : mCx} {tgt : mR} {pc : Nat} {lv : List (Nat × Value)} {μ μ2 : mMem} {v2 : Option Value} {b n index : Nat} (As rest : List Value) (hm : mokV q2 n) (hlk : Cond.methodLink q.1.cls index q2.1 ∈ gdL) (hb : 100 ≤ b ∧ b < 107) (hc : q2.1.cls = "java/lang/String") (hn : As.length = n) (hdp : q2.2.2.2.2 + 1 ≤ q.2.2.2.2) (hcat : (rest.map fun v => v.category).sum ≤ 8) (hd : decode q.2.1 pc = .ok (.invokevirtual index, 3)) (hB : BS (xl X) q2 (.ref b :: As) μ (some (v2, μ2))) (h : T q X tgt (pc + 3) lv (v2.toList ++ rest) μ2) : T q X tgt pc lv (As.reverse ++ .ref b :: rest) μ := fun hG v μ' ht H locs ls hP hS hl => by
  have hM := hB v2 μ2 rfl (xD X) (xad X) (xcA X) H.size
  have hrv := vk_recv (i := b - 100) (hZS hG).2.2.2.2.2.1 (by omega) hS
  have e : 100 + (b - 100) = b := by omega
  rw [e, ← hc] at hrv
  have hr := va_runV (As := As.map (cz (xad X))) (rest := rest.map (cz (xad X))) (g := F0 (xm X) pc ls ((As.reverse ++ .ref b :: rest).map (cz (xad X)))) (locs := locs) (cells := 0) (slots := 0) (below := xb X) (e := xe X) (meth := xM X) (H := H) ⟨hG.1, hG.2.1, hG.2.2.1, hG.2.2.2.2.2.1, hG.2.2.2.2.2.2.1⟩ hM ⟨callB_T hG hm.1 hlk hdp, hG.2.2.2.2.2.2.1 _ hm.2.1, hG.2.2.2.2.2.2.1 _ hm.2.2⟩ ⟨blind, hrv, fun U hU hW => ⟨rfl, preH hG hP hS hU hW⟩⟩ rfl (by rw [List.length_map]; exact hn) hl.1 (by simp [cz]) (lv_room (by rw [cz_sum]; exact hcat)) hd ⟨Nat.zero_le _, Nat.zero_le _⟩
  refine callb hr hS (fun z _ hz => AA_in hG hS z hz) (AA_in hG hS) (fun H1 locs1 hP1 hS1 => ?_)
  have := h hG v μ' ht H1 locs1 ls hP1 hS1 hl
  rw [List.map_append] at this
  cases v2 <;> exact this
theorem T_cVIS {q q2 : mMI} {X : mCx} {r : mR} {k : Int32 → mMem → mR} {pc : Nat} {lv : List (Nat × Value)} {μ : mMem} {b n index : Nat} (As rest : List Value) (hm : mokV q2 n) (hlk : Cond.methodLink q.1.cls index q2.1 ∈ gdL) (hc : q2.1.cls = "java/lang/String") (hn : As.length = n) (hdp : q2.2.2.2.2 + 1 ≤ q.2.2.2.2) (hcat : (rest.map fun v => v.category).sum ≤ 8) (hb : 100 ≤ b ∧ b < 107) (hd : decode q.2.1 pc = .ok (.invokevirtual index, 3)) (hB : BS (xl X) q2 (.ref b :: As) μ r) (h : ∀ (x : Int32) (μ2 : mMem), T q X (k x μ2) (pc + 3) lv (.int x :: rest) μ2) : T q X (bI r k) pc lv (As.reverse ++ .ref b :: rest) μ := fun hG v μ' ht H locs ls hP hS hl => by
  obtain ⟨x, μ2, rfl, hk⟩ := bI_of ht
  exact T_callVS (v2 := some (.int x)) As rest hm hlk hb hc hn hdp hcat hd hB (h x μ2) hG v μ' hk H locs ls hP hS hl
theorem T_nret {q : mMI} {X : mCx} {pc : Nat} {lv : List (Nat × Value)} {μ : mMem} {x : Int32} {ty : FieldType} (hc : narrow ty (.int x) = .int x) (hr : q.2.2.2.1 = some ty) (hd : decode q.2.1 pc = .ok (.ireturn, 1)) : T q X (some (some (.int x), μ)) pc lv [.int x] μ := fun hG v μ' ht H locs ls hP hS hl => by
  obtain ⟨rfl, rfl⟩ : some (.int x) = v ∧ μ = μ' := by simpa using ht
  exact W.zret (v := x) hG.1 hG.2.1 (hG.2.2.2.1.trans hr) hc (Qb_ret (v := some (.int x)) hP hS) hS.2.2 hd (hlocks := hG.2.2.2.2.1)
theorem T_i2c {q : mMI} {X : mCx} {tgt : mR} {pc : Nat} {lv : List (Nat × Value)} {st : List Value} {μ : mMem} {x : Int32} (hd : decode q.2.1 pc = .ok (.i2c, 1)) (h : T q X tgt (pc + 1) lv (.int ((x.toUInt32 % 65536).toInt32) :: st) μ) : T q X tgt pc lv (.int x :: st) μ := fun hG v μ' ht H locs ls hP hS hl => lv_i2c hG.1 hG.2.1 hd rfl (h hG v μ' ht H locs ls hP hS hl)
/-- a static of which only 'a reference or null' is known -/
theorem T_gsQ {q : mMI} {X : mCx} {tgt : mR} {pc : Nat} {lv : List (Nat × Value)} {st : List Value} {μ : mMem} {index : Nat} (hw : Cond.fieldLink q.1.cls index "jdk/internal/util/Preconditions" "SIOOBE_FORMATTER" "Ljava/util/function/BiFunction;" ∈ gdL) (hd : decode q.2.1 pc = .ok (.getstatic index, 3)) (h : T q X tgt (pc + 3) lv (.null :: st) μ) (h2 : T q X tgt (pc + 3) lv (.ref 117 :: st) μ) : T q X tgt pc lv st μ := fun hG v μ' ht H locs ls hP hS hl => by
  rcases (hZS hG).2.2.2.2.1 with hz | hz
  · exact va_gets hG.1 hG.2.1 hz hS hG.2.2.2.2.2.1 (hG.2.2.2.2.2.2.1 _ hw) (fun _ h => h) hd (h hG v μ' ht H locs ls hP hS hl)
  · exact va_gets hG.1 hG.2.1 hz hS hG.2.2.2.2.2.1 (hG.2.2.2.2.2.2.1 _ hw) (fun _ h => h) hd (h2 hG v μ' ht H locs ls hP hS hl)
