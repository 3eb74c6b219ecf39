theorem callb {p : Program} {l : Launch} {e : Env} {R : Room} {s : State} {m : MethodId} {args : Array Value} {below : List Frame} {meth : Method} {c : Code} {H : Heap} {locs : List Loc} {Q : State → Prop} {pc : Nat} {ls : Array Slot} {st0 rest : List Value} {ad : Nat → Nat} {cA : Nat → ClassId} {D : va_G} {A0 A1 : Nat → Prop} {free : Addr → Prop} {H0 : Heap} {v0 : Option Value} {μ2 : mMem} {aa : Array Value}
    (hr : va_Run p l e R s m args below meth c H locs 0 0 0 0 (F0 m pc ls st0) rest (Qb ad cA D A1 v0 μ2 aa) free) (hS : va_S A0 H0 H locs) (hA : ∀ q, q < H.size → A1 q → A0 q) (hf : ∀ q, free q → A0 q)
    (kk : ∀ (H1 : Heap) (locs1 : List Loc), va_P D vwCl (wsOf ad cA μ2) H1 → va_S A0 H0 H1 locs1 → W p l e R s m args below meth c H1 locs1 0 0 Q (F0 m (pc + 3) ls ((v0.map (cz ad)).toList ++ rest))) : W p l e R s m args below meth c H locs 0 0 Q (F0 m pc ls st0) := by
  intro T hT X
  obtain ⟨v, st₀, t, T', L, h0, X', hL, e1, e2, ⟨hv, hPt, hz, hk⟩, st⟩ := hr T hT X
  have hv' : v = v0.map (cz ad) := by injection hv
  subst hv'
  rw [h0] at hz hk
  obtain ⟨t2, a1, b1⟩ := kk T'.heap (locs ++ L) (by rw [e1]; exact hPt)
    ⟨Nat.le_trans hS.1 (by rw [e1]; exact hz), fun q h1 h2 => by rw [e1, hk q (Nat.lt_of_lt_of_le h1 hS.1) (fun z => h2 (hA q (Nat.lt_of_lt_of_le h1 hS.1) z))]; exact hS.2.1 q h1 h2, fun q hq => by
      rcases List.mem_append.mp hq with h | h
      · exact hS.2.2 q h
      · exact hf _ (hL q h)⟩ T' rfl X'
  exact ⟨t2, st t2 a1, b1⟩
/-- what the tables say of a method that may be called -/
def mok (q : mMI) (n : Nat) : Prop := ((q.1.cls ≠ "java/lang/invoke/MethodHandle" ∧ q.1.cls ≠ "java/lang/invoke/VarHandle" ∧ (parseMethodDescriptor q.1.desc).map (fun d => d.parameters.length) = some n) ∧ q.2.2.1 ≤ 60) ∧ Cond.initialized q.1.cls ∈ gdL ∧ Cond.code q.1 q.2.1 q.2.2.1 q.2.2.2.1 ∈ gdL
def mokV (q : mMI) (n : Nat) : Prop := mok q n ∧ Cond.instanceMethod q.1 ∈ gdL ∧ Cond.selects q.1.cls q.1 q.1 ∈ gdL
def mokS (q : mMI) (n : Nat) : Prop := mok q n ∧ Cond.static q.1 ∈ gdL
theorem gdM {q : mMI} (h : Cond.code q.1 q.2.1 q.2.2.1 q.2.2.2.1 ∈ gdL) : GoodIn gdL (wsM q) := fun w hw => by
  rcases List.mem_cons.mp hw with rfl | hw
  · exact ⟨h, gd_good h⟩
  · exact ⟨hw, gd_good hw⟩
theorem callB_T {q q2 : mMI} {X : mCx} {n index : Nat} (hG : Good q X) (hm : mok q2 n) (hl : Cond.methodLink q.1.cls index q2.1 ∈ gdL) (hdp : q2.2.2.2.2 + 1 ≤ q.2.2.2.2) : CallB (rmOf q.2.2.2.2) (xs X) (xa X) q.1.cls index q2.1 q2.2.1 q2.2.2.1 q2.2.2.2.1 (wsM q2) (rmOf q2.2.2.2.2) 0 0 n :=
  callB_of n hG.2.2.2.2.2.2.1 (gdM hm.2.2) rfl rfl rfl (hG.2.2.2.2.2.2.1 _ hm.2.1) (hG.2.2.2.2.2.2.1 _ hl) hm.1.1 ⟨hdp, by
    have := hm.1.2
    show 8 + (q2.2.2.1 + 11) + 100 * q2.2.2.2.2 ≤ 100 * q.2.2.2.2
    omega⟩
theorem cz_sum (ad : Nat → Nat) (r : List Value) : ((r.map (cz ad)).map fun v => v.category).sum = (r.map fun v => v.category).sum := by
  induction r with
  | nil => rfl
  | cons a t ih => simp only [List.map_cons, List.sum_cons, ih, cz_cat]
theorem blind {av : List Value} {ad : Nat → Nat} {cA : Nat → ClassId} {D : va_G} {μ : mMem} {sz : Nat} : FrameBlind (va_Pc av (PreW ad cA D μ sz)) := fun a U g mk h => by
  obtain ⟨h0, h1, h2, h3, h4, h5⟩ := h
  exact ⟨h0, h1, h2, va_K.moved (u := U) (U := U.calling g mk a) (Vm.Alike.refl U.vm) h3, h4, ZS.same (s := U) rfl h5⟩
theorem AA_in {X : mCx} {q : mMI} {H : Heap} {locs : List Loc} (hG : Good q X) (hS : va_S (xA X) (xs X).heap H locs) : ∀ z, AA (xad X) H.size z → xA X z := fun z h => by
  rcases h with ⟨i, hi, rfl⟩ | h
  · exact hG.2.2.2.2.2.2.2.2.2.1 i hi
  · exact hG.2.2.2.2.2.2.2.2.2.2.1 z (Nat.le_trans hS.1 h)
theorem preH {X : mCx} {q : mMI} {μ : mMem} {H : Heap} {locs : List Loc} {U : State} (hG : Good q X) (hP : va_P (xD X) vwCl (wsOf (xad X) (xcA X) μ) H) (hS : va_S (xA X) (xs X).heap H locs) (hU : U.heap = H) (hW : (xs X).WarmedH U.vm) : PreW (xad X) (xcA X) (xD X) μ H.size U := by
  refine ⟨by rw [hU], by rw [hU]; exact hP, va_K.moved hW.alike hG.2.2.2.2.2.2.2.1, hG.2.2.2.2.2.2.2.2.1, ?_⟩
  rw [hU]
  exact ZS.warm hW ((hG.2.2.2.2.2.2.2.2.2.2.2.kept hS.2.1).narrow (AA_in hG hS))
theorem T_callV {q q2 : mMI} {X : mCx} {tgt : mR} {pc : Nat} {lv : List (Nat × Value)} {μ μ2 : mMem} {v2 : Option Value} {b c n index N : Nat} {TT : u_T} (As rest : List Value) (hm : mokV q2 n) (hlk : Cond.methodLink q.1.cls index q2.1 ∈ gdL) (hb : kd b = (c, 0)) (hc : vwCl[c]? = some (q2.1.cls, TT, N)) (hn : As.length = n) (hdp : q2.2.2.2.2 + 1 ≤ q.2.2.2.2) (hcat : (rest.map fun v => v.category).sum ≤ 8) (hd : decode q.2.1 pc = .ok (.invokevirtual index, 3)) (hB : BS (xl X) q2 (.ref b :: As) μ (some (v2, μ2))) (h : T q X tgt (pc + 3) lv (v2.toList ++ rest) μ2) : T q X tgt pc lv (As.reverse ++ .ref b :: rest) μ := fun hG v μ' ht H locs ls hP hS hl => by
  have hb0 := kd_lt hb (by have := vw_lt hc; omega)
  have hM := hB v2 μ2 rfl (xD X) (xad X) (xcA X) H.size
  have hrv := va_recv hG.2.2.2.2.2.2.2.1 hP hc (q0 := b) (a := xad X b) (fs := fsOf (xad X) c b (μ.1 b)) (by rw [ws_at hb0, cell_obj hb (vw_lt hc)])
  have hr := va_runV (As := As.map (cz (xad X))) (rest := rest.map (cz (xad X))) (g := F0 (xm X) pc ls ((As.reverse ++ .ref b :: rest).map (cz (xad X)))) (locs := locs) (cells := 0) (slots := 0) (below := xb X) (e := xe X) (meth := xM X) (H := H) ⟨hG.1, hG.2.1, hG.2.2.1, hG.2.2.2.2.2.1, hG.2.2.2.2.2.2.1⟩ hM ⟨callB_T hG hm.1 hlk hdp, hG.2.2.2.2.2.2.1 _ hm.2.1, hG.2.2.2.2.2.2.1 _ hm.2.2⟩ ⟨blind, hrv, fun U hU hW => ⟨rfl, preH hG hP hS hU hW⟩⟩ rfl (by rw [List.length_map]; exact hn) hl.1 (by simp [cz]) (lv_room (by rw [cz_sum]; exact hcat)) hd ⟨Nat.zero_le _, Nat.zero_le _⟩
  refine callb hr hS (fun z _ hz => AA_in hG hS z hz) (AA_in hG hS) (fun H1 locs1 hP1 hS1 => ?_)
  have := h hG v μ' ht H1 locs1 ls hP1 hS1 hl
  rw [List.map_append] at this
  cases v2 <;> exact this
theorem T_callS {q q2 : mMI} {X : mCx} {tgt : mR} {pc : Nat} {lv : List (Nat × Value)} {μ μ2 : mMem} {v2 : Option Value} {n index : Nat} (As rest : List Value) (hm : mokS q2 n) (hlk : Cond.methodLink q.1.cls index q2.1 ∈ gdL) (hn : As.length = n) (hdp : q2.2.2.2.2 + 1 ≤ q.2.2.2.2) (hcat : (rest.map fun v => v.category).sum ≤ 8) (hd : decode q.2.1 pc = .ok (.invokestatic index, 3)) (hB : BS (xl X) q2 As μ (some (v2, μ2))) (h : T q X tgt (pc + 3) lv (v2.toList ++ rest) μ2) : T q X tgt pc lv (As.reverse ++ rest) μ := fun hG v μ' ht H locs ls hP hS hl => by
  have hM := hB v2 μ2 rfl (xD X) (xad X) (xcA X) H.size
  have hr := va_runS (As := As.map (cz (xad X))) (rest := rest.map (cz (xad X))) (g := F0 (xm X) pc ls ((As.reverse ++ rest).map (cz (xad X)))) (locs := locs) (cells := 0) (slots := 0) (below := xb X) (e := xe X) (meth := xM X) (H := H) ⟨hG.1, hG.2.1, hG.2.2.1, hG.2.2.2.2.2.1, hG.2.2.2.2.2.2.1⟩ hM ⟨callB_T hG hm.1 hlk hdp, hG.2.2.2.2.2.2.1 _ hm.2⟩ ⟨blind, fun U hU hW => ⟨rfl, preH hG hP hS hU hW⟩⟩ rfl (by rw [List.length_map]; exact hn) hl.1 (by simp) (lv_room (by rw [cz_sum]; exact hcat)) hd ⟨Nat.zero_le _, Nat.zero_le _⟩
  refine callb hr hS (fun z _ hz => AA_in hG hS z hz) (AA_in hG hS) (fun H1 locs1 hP1 hS1 => ?_)
  have := h hG v μ' ht H1 locs1 ls hP1 hS1 hl
  rw [List.map_append] at this
  cases v2 <;> exact this
/-- go on with what a call answered -/
def bI (r : mR) (k : Int32 → mMem → mR) : mR := match r with
  | some (some (.int x), μ) => k x μ
  | _ => none
def bL (r : mR) (k : Int64 → mMem → mR) : mR := match r with
  | some (some (.long x), μ) => k x μ
  | _ => none
def bA (r : mR) (k : Nat → mMem → mR) : mR := match r with
  | some (some (.ref x), μ) => k x μ
  | _ => none
def bV (r : mR) (k : mMem → mR) : mR := match r with
  | some (none, μ) => k μ
  | _ => none
theorem bI_of {r : mR} {k : Int32 → mMem → mR} {z : Option Value × mMem} (h : bI r k = some z) : ∃ x μ, r = some (some (.int x), μ) ∧ k x μ = some z := by
  unfold bI at h
  split at h
  · exact ⟨_, _, rfl, h⟩
  · cases h
theorem bL_of {r : mR} {k : Int64 → mMem → mR} {z : Option Value × mMem} (h : bL r k = some z) : ∃ x μ, r = some (some (.long x), μ) ∧ k x μ = some z := by
  unfold bL at h
  split at h
  · exact ⟨_, _, rfl, h⟩
  · cases h
theorem bA_of {r : mR} {k : Nat → mMem → mR} {z : Option Value × mMem} (h : bA r k = some z) : ∃ x μ, r = some (some (.ref x), μ) ∧ k x μ = some z := by
  unfold bA at h
  split at h
  · exact ⟨_, _, rfl, h⟩
  · cases h
theorem bV_of {r : mR} {k : mMem → mR} {z : Option Value × mMem} (h : bV r k = some z) : ∃ μ, r = some (none, μ) ∧ k μ = some z := by
  unfold bV at h
  split at h
  · exact ⟨_, rfl, h⟩
  · cases h
theorem T_cVI {q q2 : mMI} {X : mCx} {r : mR} {k : Int32 → mMem → mR} {pc : Nat} {lv : List (Nat × Value)} {μ : mMem} {b c n index N : Nat} {TT : u_T} (As rest : List Value) (hm : mokV q2 n) (hlk : Cond.methodLink q.1.cls index q2.1 ∈ gdL) (hc : vwCl[c]? = some (q2.1.cls, TT, N)) (hn : As.length = n) (hdp : q2.2.2.2.2 + 1 ≤ q.2.2.2.2) (hcat : (rest.map fun v => v.category).sum ≤ 8) (hb : kd b = (c, 0)) (hd : decode q.2.1 pc = .ok (.invokevirtual index, 3)) (hB : BS (xl X) q2 (.ref b :: As) μ r) (h : ∀ (x : Int32) (μ2 : mMem), T q X (k x μ2) (pc + 3) lv (.int x :: rest) μ2) : T q X (bI r k) pc lv (As.reverse ++ .ref b :: rest) μ := fun hG v μ' ht H locs ls hP hS hl => by
  obtain ⟨x, μ2, rfl, hk⟩ := bI_of ht
  exact T_callV (v2 := some (.int x)) As rest hm hlk hb hc hn hdp hcat hd hB (h x μ2) hG v μ' hk H locs ls hP hS hl
theorem T_cSI {q q2 : mMI} {X : mCx} {r : mR} {k : Int32 → mMem → mR} {pc : Nat} {lv : List (Nat × Value)} {μ : mMem} {n index : Nat} (As rest : List Value) (hm : mokS q2 n) (hlk : Cond.methodLink q.1.cls index q2.1 ∈ gdL) (hn : As.length = n) (hdp : q2.2.2.2.2 + 1 ≤ q.2.2.2.2) (hcat : (rest.map fun v => v.category).sum ≤ 8) (hd : decode q.2.1 pc = .ok (.invokestatic index, 3)) (hB : BS (xl X) q2 As μ r) (h : ∀ (x : Int32) (μ2 : mMem), T q X (k x μ2) (pc + 3) lv (.int x :: rest) μ2) : T q X (bI r k) pc lv (As.reverse ++ rest) μ := fun hG v μ' ht H locs ls hP hS hl => by
  obtain ⟨x, μ2, rfl, hk⟩ := bI_of ht
  exact T_callS (v2 := some (.int x)) As rest hm hlk hn hdp hcat hd hB (h x μ2) hG v μ' hk H locs ls hP hS hl
theorem T_cVL {q q2 : mMI} {X : mCx} {r : mR} {k : Int64 → mMem → mR} {pc : Nat} {lv : List (Nat × Value)} {μ : mMem} {b c n index N : Nat} {TT : u_T} (As rest : List Value) (hm : mokV q2 n) (hlk : Cond.methodLink q.1.cls index q2.1 ∈ gdL) (hc : vwCl[c]? = some (q2.1.cls, TT, N)) (hn : As.length = n) (hdp : q2.2.2.2.2 + 1 ≤ q.2.2.2.2) (hcat : (rest.map fun v => v.category).sum ≤ 8) (hb : kd b = (c, 0)) (hd : decode q.2.1 pc = .ok (.invokevirtual index, 3)) (hB : BS (xl X) q2 (.ref b :: As) μ r) (h : ∀ (x : Int64) (μ2 : mMem), T q X (k x μ2) (pc + 3) lv (.long x :: rest) μ2) : T q X (bL r k) pc lv (As.reverse ++ .ref b :: rest) μ := fun hG v μ' ht H locs ls hP hS hl => by
  obtain ⟨x, μ2, rfl, hk⟩ := bL_of ht
  exact T_callV (v2 := some (.long x)) As rest hm hlk hb hc hn hdp hcat hd hB (h x μ2) hG v μ' hk H locs ls hP hS hl
theorem T_cSL {q q2 : mMI} {X : mCx} {r : mR} {k : Int64 → mMem → mR} {pc : Nat} {lv : List (Nat × Value)} {μ : mMem} {n index : Nat} (As rest : List Value) (hm : mokS q2 n) (hlk : Cond.methodLink q.1.cls index q2.1 ∈ gdL) (hn : As.length = n) (hdp : q2.2.2.2.2 + 1 ≤ q.2.2.2.2) (hcat : (rest.map fun v => v.category).sum ≤ 8) (hd : decode q.2.1 pc = .ok (.invokestatic index, 3)) (hB : BS (xl X) q2 As μ r) (h : ∀ (x : Int64) (μ2 : mMem), T q X (k x μ2) (pc + 3) lv (.long x :: rest) μ2) : T q X (bL r k) pc lv (As.reverse ++ rest) μ := fun hG v μ' ht H locs ls hP hS hl => by
  obtain ⟨x, μ2, rfl, hk⟩ := bL_of ht
  exact T_callS (v2 := some (.long x)) As rest hm hlk hn hdp hcat hd hB (h x μ2) hG v μ' hk H locs ls hP hS hl
theorem T_cVA {q q2 : mMI} {X : mCx} {r : mR} {k : Nat → mMem → mR} {pc : Nat} {lv : List (Nat × Value)} {μ : mMem} {b c n index N : Nat} {TT : u_T} (As rest : List Value) (hm : mokV q2 n) (hlk : Cond.methodLink q.1.cls index q2.1 ∈ gdL) (hc : vwCl[c]? = some (q2.1.cls, TT, N)) (hn : As.length = n) (hdp : q2.2.2.2.2 + 1 ≤ q.2.2.2.2) (hcat : (rest.map fun v => v.category).sum ≤ 8) (hb : kd b = (c, 0)) (hd : decode q.2.1 pc = .ok (.invokevirtual index, 3)) (hB : BS (xl X) q2 (.ref b :: As) μ r) (h : ∀ (x : Nat) (μ2 : mMem), T q X (k x μ2) (pc + 3) lv (.ref x :: rest) μ2) : T q X (bA r k) pc lv (As.reverse ++ .ref b :: rest) μ := fun hG v μ' ht H locs ls hP hS hl => by
  obtain ⟨x, μ2, rfl, hk⟩ := bA_of ht
  exact T_callV (v2 := some (.ref x)) As rest hm hlk hb hc hn hdp hcat hd hB (h x μ2) hG v μ' hk H locs ls hP hS hl
theorem T_cSA {q q2 : mMI} {X : mCx} {r : mR} {k : Nat → mMem → mR} {pc : Nat} {lv : List (Nat × Value)} {μ : mMem} {n index : Nat} (As rest : List Value) (hm : mokS q2 n) (hlk : Cond.methodLink q.1.cls index q2.1 ∈ gdL) (hn : As.length = n) (hdp : q2.2.2.2.2 + 1 ≤ q.2.2.2.2) (hcat : (rest.map fun v => v.category).sum ≤ 8) (hd : decode q.2.1 pc = .ok (.invokestatic index, 3)) (hB : BS (xl X) q2 As μ r) (h : ∀ (x : Nat) (μ2 : mMem), T q X (k x μ2) (pc + 3) lv (.ref x :: rest) μ2) : T q X (bA r k) pc lv (As.reverse ++ rest) μ := fun hG v μ' ht H locs ls hP hS hl => by
  obtain ⟨x, μ2, rfl, hk⟩ := bA_of ht
  exact T_callS (v2 := some (.ref x)) As rest hm hlk hn hdp hcat hd hB (h x μ2) hG v μ' hk H locs ls hP hS hl
theorem T_cVV {q q2 : mMI} {X : mCx} {r : mR} {k : mMem → mR} {pc : Nat} {lv : List (Nat × Value)} {μ : mMem} {b c n index N : Nat} {TT : u_T} (As rest : List Value) (hm : mokV q2 n) (hlk : Cond.methodLink q.1.cls index q2.1 ∈ gdL) (hc : vwCl[c]? = some (q2.1.cls, TT, N)) (hn : As.length = n) (hdp : q2.2.2.2.2 + 1 ≤ q.2.2.2.2) (hcat : (rest.map fun v => v.category).sum ≤ 8) (hb : kd b = (c, 0)) (hd : decode q.2.1 pc = .ok (.invokevirtual index, 3)) (hB : BS (xl X) q2 (.ref b :: As) μ r) (h : ∀ (μ2 : mMem), T q X (k μ2) (pc + 3) lv rest μ2) : T q X (bV r k) pc lv (As.reverse ++ .ref b :: rest) μ := fun hG v μ' ht H locs ls hP hS hl => by
  obtain ⟨μ2, rfl, hk⟩ := bV_of ht
  exact T_callV (v2 := none) As rest hm hlk hb hc hn hdp hcat hd hB (h μ2) hG v μ' hk H locs ls hP hS hl
theorem T_cSV {q q2 : mMI} {X : mCx} {r : mR} {k : mMem → mR} {pc : Nat} {lv : List (Nat × Value)} {μ : mMem} {n index : Nat} (As rest : List Value) (hm : mokS q2 n) (hlk : Cond.methodLink q.1.cls index q2.1 ∈ gdL) (hn : As.length = n) (hdp : q2.2.2.2.2 + 1 ≤ q.2.2.2.2) (hcat : (rest.map fun v => v.category).sum ≤ 8) (hd : decode q.2.1 pc = .ok (.invokestatic index, 3)) (hB : BS (xl X) q2 As μ r) (h : ∀ (μ2 : mMem), T q X (k μ2) (pc + 3) lv rest μ2) : T q X (bV r k) pc lv (As.reverse ++ rest) μ := fun hG v μ' ht H locs ls hP hS hl => by
  obtain ⟨μ2, rfl, hk⟩ := bV_of ht
  exact T_callS (v2 := none) As rest hm hlk hn hdp hcat hd hB (h μ2) hG v μ' hk H locs ls hP hS hl
theorem BS_of {l : Launch} {q : mMI} {av : List Value} {μ : mMem} {tgt : mR} (hpl : plainName q.1.cls = true) (hln : (lg_sl av).length ≤ q.2.2.1) (h : ∀ X : mCx, xl X = l → T q X tgt 0 (lv_args 0 av) [] μ) : BS l q av μ tgt := by
  intro v μ' ht D ad cA sz
  refine Met.ofW (cc := q.2.1) (maxL := q.2.2.1) (ret := q.2.2.2.1) hpl rfl ?_
  intro p e s m args below meth c s₁ B hml hv
  obtain ⟨rfl, hsz, hP, hK, hj, hZ⟩ := hv
  subst hsz
  have hl := lv_entry (av.map (cz ad)) (n := q.2.2.1) (by rw [ls_am]; exact hln)
  rw [lv_am] at hl
  rw [lg_entry_eq]
  exact h (p, l, e, s, m, (av.map (cz ad)).toArray, below, meth, c, ad, cA, D, AA ad s.heap.size) rfl ⟨B.exec, B.bytes, hml, B.returns, B.notSynchronized, findClass_of_methodNamed B.named, fun w hw => atoms_spec (ws := wsM q) B.pre w (List.mem_cons_of_mem _ hw), hK, hj, fun i hi => Or.inl ⟨i, hi, rfl⟩, fun z hz => Or.inr hz, hZ⟩ v μ' ht s.heap [] _ hP va_S.rf hl
theorem lk_cpy : Cond.native arraycopyName ∈ gdL ∧ Cond.static arraycopyName ∈ gdL ∧ Cond.initialized "java/lang/System" ∈ gdL := by decide +kernel
theorem T_cpyI {q : mMI} {X : mCx} {tgt : mR} {pc : Nat} {lv : List (Nat × Value)} {st : List Value} {μ : mMem} {a b n0 n1 index N : Nat} {n : Int32} (hN : n.toNatClampNeg = N) (h3 : ¬ n < 0) (h4 : N ≤ n0) (h5 : N ≤ n1) (hlk : Cond.methodLink q.1.cls index arraycopyName ∈ gdL) (hdp : 1 ≤ q.2.2.2.2) (hcat : (st.map fun v => v.category).sum ≤ 8) (ha : kd a = (10, n0)) (hb : kd b = (10, n1)) (hd : decode q.2.1 pc = .ok (.invokestatic index, 3)) (h : T q X tgt (pc + 3) lv st (ci μ a b 0 0 N)) : T q X tgt pc lv (.int n :: .int 0 :: .ref b :: .int 0 :: .ref a :: st) μ := fun hG v μ' ht H locs ls hP hS hl => by
  subst hN
  have ha0 := kd_lt ha (by decide)
  have hb0 := kd_lt hb (by decide)
  have hts := hG.2.2.2.2.2.2.1
  refine va_copyi (f := μ.1 a) (g := μ.1 b) (ty := .int) hG.1 hG.2.1 (hG.2.2.1.trans hl.1.symm) hG.2.2.2.2.2.1 (hts _ hlk) (hts _ lk_cpy.1) (hts _ lk_cpy.2.1) (hts _ lk_cpy.2.2) hG.2.2.2.2.2.2.2.1 hP (ws_D hG.2.2.2.2.2.2.2.2.1 hG.2.2.2.2.2.2.2.2.2.1) hS a b 1 1 (by rw [ws_at ha0, cell_int ha (by decide)]) (by rw [ws_at hb0, cell_int hb (by decide)]) rfl rfl rfl (by decide) (by decide) h3 (by simpa using h4) (by simpa using h5) (fun i _ => rfl) hdp ?_ hd (fun H1 locs1 hP1 _ hS1 => ?_)
  · rw [cz_sum]
    have e : nativeFrameWords "java/lang/System" "arraycopy" 5 + 11 ≤ 60 := by decide +kernel
    show _ ≤ 100 * q.2.2.2.2
    omega
  · refine h hG v μ' ht H1 locs1 ls ?_ hS1 hl
    rw [← ws_set (ad := xad X) (cA := xcA X) (μ := μ) (μ' := ci μ a b 0 0 n.toNatClampNeg) (E := .inl (xcA X 10, n1, .inl (va_cpy (μ.1 a) (μ.1 b) 0 0 n.toNatClampNeg))) hb0 (by rw [cell_int hb (by decide)]; simp [ci]) (fun j hj => ⟨by simp [ci, hj], rfl⟩)]
    exact hP1
theorem T_cpyL {q : mMI} {X : mCx} {tgt : mR} {pc : Nat} {lv : List (Nat × Value)} {st : List Value} {μ : mMem} {a b n0 n1 index N : Nat} {n : Int32} (hN : n.toNatClampNeg = N) (h3 : ¬ n < 0) (h4 : N ≤ n0) (h5 : N ≤ n1) (hlk : Cond.methodLink q.1.cls index arraycopyName ∈ gdL) (hdp : 1 ≤ q.2.2.2.2) (hcat : (st.map fun v => v.category).sum ≤ 8) (ha : kd a = (11, n0)) (hb : kd b = (11, n1)) (hd : decode q.2.1 pc = .ok (.invokestatic index, 3)) (h : T q X tgt (pc + 3) lv st (cl μ a b 0 0 N)) : T q X tgt pc lv (.int n :: .int 0 :: .ref b :: .int 0 :: .ref a :: st) μ := fun hG v μ' ht H locs ls hP hS hl => by
  subst hN
  have ha0 := kd_lt ha (by decide)
  have hb0 := kd_lt hb (by decide)
  have hts := hG.2.2.2.2.2.2.1
  refine va_copyl (f := μ.2 a) (g := μ.2 b) (ty := .long) hG.1 hG.2.1 (hG.2.2.1.trans hl.1.symm) hG.2.2.2.2.2.1 (hts _ hlk) (hts _ lk_cpy.1) (hts _ lk_cpy.2.1) (hts _ lk_cpy.2.2) hG.2.2.2.2.2.2.2.1 hP (ws_D hG.2.2.2.2.2.2.2.2.1 hG.2.2.2.2.2.2.2.2.2.1) hS a b 2 2 (by rw [ws_at ha0, cell_long ha]) (by rw [ws_at hb0, cell_long hb]) rfl rfl rfl (by decide) (by decide) h3 (by simpa using h4) (by simpa using h5) (fun i _ => rfl) hdp ?_ hd (fun H1 locs1 hP1 _ hS1 => ?_)
  · rw [cz_sum]
    have e : nativeFrameWords "java/lang/System" "arraycopy" 5 + 11 ≤ 60 := by decide +kernel
    show _ ≤ 100 * q.2.2.2.2
    omega
  · refine h hG v μ' ht H1 locs1 ls ?_ hS1 hl
    rw [← ws_set (ad := xad X) (cA := xcA X) (μ := μ) (μ' := cl μ a b 0 0 n.toNatClampNeg) (E := .inl (xcA X 11, n1, .inr (.inl (va_cpy (μ.2 a) (μ.2 b) 0 0 n.toNatClampNeg)))) hb0 (by rw [cell_long hb]; simp [cl]) (fun j hj => ⟨rfl, by simp [cl, hj]⟩)]
    exact hP1
theorem T_tsIn {q : mMI} {X : mCx} {tgt : mR} {pc : Nat} {lv : List (Nat × Value)} {st : List Value} {μ : mMem} {x : Int32} {dflt lo hi : Int} {offs : Array Int} {len : Nat} {off : Int} (z : Int32) (t : Nat) (hx : x = z) (hd : decode q.2.1 pc = .ok (.tableswitch dflt lo hi offs, len)) (h1 : ¬ z.toInt < lo) (h2 : ¬ hi < z.toInt) (ho : offs[(z.toInt - lo).toNat]? = some off) (htg : (pc : Int) + off = (t : Int)) (h : T q X tgt t lv st μ) : T q X tgt pc lv (.int x :: st) μ := by
  subst hx
  exact fun hG v μ' ht H locs ls hP hS hl => lv_tableIn hG.1 hG.2.1 hd h1 h2 ho htg (h hG v μ' ht H locs ls hP hS hl)
theorem T_tsOut {q : mMI} {X : mCx} {tgt : mR} {pc : Nat} {lv : List (Nat × Value)} {st : List Value} {μ : mMem} {x : Int32} {dflt lo hi : Int} {offs : Array Int} {len : Nat} (t : Nat) (hx : x.toInt < lo ∨ hi < x.toInt) (hd : decode q.2.1 pc = .ok (.tableswitch dflt lo hi offs, len)) (htg : (pc : Int) + dflt = (t : Int)) (h : T q X tgt t lv st μ) : T q X tgt pc lv (.int x :: st) μ :=
  fun hG v μ' ht H locs ls hP hS hl => lv_tableOut hG.1 hG.2.1 hd hx htg (h hG v μ' ht H locs ls hP hS hl)
theorem T_lsw {q : mMI} {X : mCx} {tgt : mR} {pc : Nat} {lv : List (Nat × Value)} {st : List Value} {μ : mMem} {x : Int32} {dflt : Int} {ps : Array (Int × Int)} {len : Nat} {off : Int} (t : Nat) (hd : decode q.2.1 pc = .ok (.lookupswitch dflt ps, len)) (hp : (ps.toList.zip (ps.toList.drop 1)).all (fun (a, next) => a.1 < next.1) = true) (ho : Op.lookupswitch.offset ps.toList dflt x.toInt = off) (htg : (pc : Int) + off = (t : Int)) (h : T q X tgt t lv st μ) : T q X tgt pc lv (.int x :: st) μ :=
  fun hG v μ' ht H locs ls hP hS hl => lv_lookup hG.1 hG.2.1 hd hp ho htg (h hG v μ' ht H locs ls hP hS hl)
theorem T_dup2 {q : mMI} {X : mCx} {tgt : mR} {pc : Nat} {lv : List (Nat × Value)} {st : List Value} {μ : mMem} {x y : Value} (hx : x.category = 1) (hy : y.category = 1) (hd : decode q.2.1 pc = .ok (.dup2, 1)) (h : T q X tgt (pc + 1) lv (x :: y :: x :: y :: st) μ) : T q X tgt pc lv (x :: y :: st) μ :=
  fun hG v μ' ht H locs ls hP hS hl => lv_dup2_11 hG.1 hG.2.1 hd (by rw [cz_cat]; exact hx) (by rw [cz_cat]; exact hy) (h hG v μ' ht H locs ls hP hS hl)
theorem tsO {x : Int32} (n : Nat) (hn : n < 2 ^ 31) (h : ∀ k, k < n → ¬ x = nI k) : x.toInt < 0 ∨ (n : Int) - 1 < x.toInt := by
  by_cases h0 : x.toInt < 0
  · exact Or.inl h0
  · refine Or.inr ?_
    rcases Int.lt_or_le ((n : Int) - 1) x.toInt with q | q
    · exact q
    · exfalso
      have hk : x.toInt.toNat < n := by omega
      refine h _ hk ?_
      apply Int32.toInt_inj.mp
      rw [nI_toInt (by omega)]
      omega
