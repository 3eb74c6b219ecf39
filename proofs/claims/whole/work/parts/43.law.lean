abbrev qL : mMI := (yL_law, code, 4, ret, 800)
/-- cells and slots that both constructors take -/
abbrev nC : Nat := 100
abbrev nS : Nat := 1600
def SX (X : mCx) (b L : Nat) (sc : Nat → Int32) : Prop := va_X b L sc (xs X) (xs X).heap ∧ b < (xs X).heap.size ∧ ¬ xA X b ∧ xad X 118 = b
def TL (X : mCx) (b L : Nat) (sc : Nat → Int32) (pc : Nat) (lv : List (Nat × Value)) (st : List Value) (μ : mMem) : Prop :=
  Good qL X → SX X b L sc → ∀ (H : Heap) (locs : List Loc) (ls : Array Slot), va_P (xD X) vwCl (wsOf (xad X) (xcA X) μ) H → va_S (xA X) (xs X).heap H locs → lv_has ls 4 (lv.map (czl (xad X))) →
    W (xp X) (xl X) (xe X) room_1 (xs X) (xm X) (xa X) (xb X) (xM X) (xc X) H locs nC nS (lw_Z (xb X) (xa X) (xs X)) (F0 (xm X) pc ls (st.map (cz (xad X))))
theorem TL_iload_n {X : mCx} {b L : Nat} {sc : Nat → Int32} {pc : Nat} {lv : List (Nat × Value)} {st : List Value} {μ : mMem} {f : Fin 4} {i : Nat} {x : Int32} (k : Nat) (hi : (f : Nat) = i) (hk : lv[k]? = some (i, .int x)) (hd : decode code pc = .ok (.iload_n f, 1)) (h : TL X b L sc (pc + 1) lv (.int x :: st) μ) : TL X b L sc pc lv (st) μ := fun hG hs H locs ls hP hS hl => lv_iload_n hG.1 hG.2.1 hd hi (lv_at hl k (lv_gm hk)) (h hG hs H locs ls hP hS hl)
theorem TL_aload_n {X : mCx} {b L : Nat} {sc : Nat → Int32} {pc : Nat} {lv : List (Nat × Value)} {st : List Value} {μ : mMem} {f : Fin 4} {i x : Nat} (k : Nat) (hi : (f : Nat) = i) (hk : lv[k]? = some (i, .ref x)) (hd : decode code pc = .ok (.aload_n f, 1)) (h : TL X b L sc (pc + 1) lv (.ref x :: st) μ) : TL X b L sc pc lv (st) μ := fun hG hs H locs ls hP hS hl => lv_aload_n hG.1 hG.2.1 hd hi (lv_at hl k (lv_gm hk)) (h hG hs H locs ls hP hS hl)
theorem TL_iconst {X : mCx} {b L : Nat} {sc : Nat → Int32} {pc : Nat} {lv : List (Nat × Value)} {st : List Value} {μ : mMem} {n : Int} (z : Int32) (hv : Int32.ofInt n = z) (hd : decode code pc = .ok (.iconst n, 1)) (h : TL X b L sc (pc + 1) lv (.int z :: st) μ) : TL X b L sc pc lv (st) μ := fun hG hs H locs ls hP hS hl => lv_iconst hG.1 hG.2.1 hd hv (h hG hs H locs ls hP hS hl)
theorem TL_bipush {X : mCx} {b L : Nat} {sc : Nat → Int32} {pc : Nat} {lv : List (Nat × Value)} {st : List Value} {μ : mMem} {n : Int} (z : Int32) (hv : (Int8.ofInt n).toInt32 = z) (hd : decode code pc = .ok (.bipush n, 2)) (h : TL X b L sc (pc + 2) lv (.int z :: st) μ) : TL X b L sc pc lv (st) μ := fun hG hs H locs ls hP hS hl => lv_bipush hG.1 hG.2.1 hd hv (h hG hs H locs ls hP hS hl)
theorem TL_iadd {X : mCx} {b L : Nat} {sc : Nat → Int32} {pc : Nat} {lv : List (Nat × Value)} {st : List Value} {μ : mMem} {x y : Int32} (hd : decode code pc = .ok (.iadd, 1)) (h : TL X b L sc (pc + 1) lv (.int (x + y) :: st) μ) : TL X b L sc pc lv (.int y :: .int x :: st) μ := fun hG hs H locs ls hP hS hl => lv_iadd hG.1 hG.2.1 hd (h hG hs H locs ls hP hS hl)
theorem TL_isub {X : mCx} {b L : Nat} {sc : Nat → Int32} {pc : Nat} {lv : List (Nat × Value)} {st : List Value} {μ : mMem} {x y : Int32} (hd : decode code pc = .ok (.isub, 1)) (h : TL X b L sc (pc + 1) lv (.int (x - y) :: st) μ) : TL X b L sc pc lv (.int y :: .int x :: st) μ := fun hG hs H locs ls hP hS hl => lv_isub hG.1 hG.2.1 hd (h hG hs H locs ls hP hS hl)
theorem TL_iand {X : mCx} {b L : Nat} {sc : Nat → Int32} {pc : Nat} {lv : List (Nat × Value)} {st : List Value} {μ : mMem} {x y : Int32} (hd : decode code pc = .ok (.iand, 1)) (h : TL X b L sc (pc + 1) lv (.int (x &&& y) :: st) μ) : TL X b L sc pc lv (.int y :: .int x :: st) μ := fun hG hs H locs ls hP hS hl => lv_iand hG.1 hG.2.1 hd (h hG hs H locs ls hP hS hl)
theorem TL_lcmp {X : mCx} {b L : Nat} {sc : Nat → Int32} {pc : Nat} {lv : List (Nat × Value)} {st : List Value} {μ : mMem} {x y : Int64} (hd : decode code pc = .ok (.lcmp, 1)) (h : TL X b L sc (pc + 1) lv (.int (lg_cmp x y) :: st) μ) : TL X b L sc pc lv (.long y :: .long x :: st) μ := fun hG hs H locs ls hP hS hl => W.lcmp hG.1 hG.2.1 hd (h hG hs H locs ls hP hS hl)
theorem TL_slen {X : mCx} {b L : Nat} {sc : Nat → Int32} {pc : Nat} {lv : List (Nat × Value)} {st : List Value} {μ : mMem} (hd : decode code pc = .ok (.arraylength, 1)) (h : TL X b L sc (pc + 1) lv (.int (Int32.ofNat L) :: st) μ) : TL X b L sc pc lv (.ref 118 :: st) μ := fun hG hs H locs ls hP hS hl => by
  show W _ _ _ _ _ _ _ _ _ _ _ _ _ _ _ (F0 (xm X) pc ls (.ref (xad X 118) :: st.map (cz (xad X))))
  rw [hs.2.2.2]
  exact va_slen hG.1 hG.2.1 hs.1 hs.2.1 hs.2.2.1 hS hd (h hG hs H locs ls hP hS hl)
theorem TL_sld {X : mCx} {b L : Nat} {sc : Nat → Int32} {pc : Nat} {lv : List (Nat × Value)} {st : List Value} {μ : mMem} {i : Int32} (hi : vp_in i L) (hd : decode code pc = .ok (.iaload, 1)) (h : TL X b L sc (pc + 1) lv (.int (sc i.toNatClampNeg) :: st) μ) : TL X b L sc pc lv (.int i :: .ref 118 :: st) μ := fun hG hs H locs ls hP hS hl => by
  show W _ _ _ _ _ _ _ _ _ _ _ _ _ _ _ (F0 (xm X) pc ls (.int i :: .ref (xad X 118) :: st.map (cz (xad X))))
  rw [hs.2.2.2]
  exact va_sld hG.1 hG.2.1 hs.1 hs.2.1 hs.2.2.1 hS hi hd (h hG hs H locs ls hP hS hl)
theorem TL_goto {X : mCx} {b L : Nat} {sc : Nat → Int32} {pc : Nat} {lv : List (Nat × Value)} {st : List Value} {μ : mMem} {off : Int} (t : Nat) (hd : decode code pc = .ok (.goto off, 3)) (htg : (pc : Int) + off = (t : Int)) (h : TL X b L sc t lv st μ) : TL X b L sc pc lv st μ := fun hG hs H locs ls hP hS hl => lv_goto (tgt := t) hG.1 hG.2.1 hd htg (h hG hs H locs ls hP hS hl)
theorem TL_gt {X : mCx} {b L : Nat} {sc : Nat → Int32} {pc : Nat} {lv : List (Nat × Value)} {st : List Value} {μ : mMem} {x y : Int32} {off : Int} (t : Nat) (hd : decode code pc = .ok (.if_icmp .gt off, 3)) (htg : (pc : Int) + off = (t : Int)) (h1 : y < x → TL X b L sc t lv st μ) (h2 : ¬ y < x → TL X b L sc (pc + 3) lv st μ) : TL X b L sc pc lv (.int y :: .int x :: st) μ := fun hG hs H locs ls hP hS hl => lv_icmp_gt (tgt := t) hG.1 hG.2.1 hd htg (fun hc => h1 hc hG hs H locs ls hP hS hl) (fun hc => h2 hc hG hs H locs ls hP hS hl)
theorem TL_eq {X : mCx} {b L : Nat} {sc : Nat → Int32} {pc : Nat} {lv : List (Nat × Value)} {st : List Value} {μ : mMem} {x : Int32} {off : Int} (t : Nat) (hd : decode code pc = .ok (.if_icmp .eq off, 3)) (htg : (pc : Int) + off = (t : Int)) (h : TL X b L sc t lv st μ) : TL X b L sc pc lv (.int x :: .int x :: st) μ := fun hG hs H locs ls hP hS hl => lv_icmp_eq (tgt := t) hG.1 hG.2.1 hd htg (fun _ => (h hG hs H locs ls hP hS hl)) (fun hc => absurd rfl hc)
theorem TL_eq0 {X : mCx} {b L : Nat} {sc : Nat → Int32} {pc : Nat} {lv : List (Nat × Value)} {st : List Value} {μ : mMem} {x : Int64} {off : Int} (t : Nat) (hd : decode code pc = .ok (.ifCond .eq off, 3)) (htg : (pc : Int) + off = (t : Int)) (h : TL X b L sc t lv st μ) : TL X b L sc pc lv (.int (lg_cmp x x) :: st) μ := fun hG hs H locs ls hP hS hl => lv_if_eq (tgt := t) hG.1 hG.2.1 hd htg (fun _ => (h hG hs H locs ls hP hS hl)) (fun hc => absurd (by unfold lg_cmp; simp) hc)
theorem TL_iinc {X : mCx} {b L : Nat} {sc : Nat → Int32} {pc : Nat} {lv : List (Nat × Value)} {st : List Value} {μ : mMem} {lv' : List (Nat × Value)} {i : Nat} {n : Int} {x : Int32} (k : Nat) (z : Int32) (hk : lv[k]? = some (i, .int x)) (hz : Int32.ofInt n = z) (hn : i < 4) (hv : (i, Value.int (x + z)) :: lv.filter (fun q => !(q.1 == i) && !(q.1 + 1 == i && q.2.category == 2)) = lv') (hd : decode code pc = .ok (.iinc i n, 3)) (h : TL X b L sc (pc + 3) lv' st μ) : TL X b L sc pc lv st μ :=
  fun hG hs H locs ls hP hS hl => lv_iinc (v := x + z) hG.1 hG.2.1 hd hl (lv_gm hk) (by rw [hz]) hn (by
    show (i, cz (xad X) (Value.int (x + z))) :: _ = _
    rw [lv_fm (xad X) (fun a c => !(a == i) && !(a + 1 == i && c == 2)) lv, ← hv]; rfl) (fun ls' hl' => h hG hs H locs ls' hP hS hl')
theorem TL_sub {X : mCx} {b L : Nat} {sc : Nat → Int32} {pc : Nat} {lv : List (Nat × Value)} {st : List Value} {μ : mMem} {lv' : List (Nat × Value)} (ks : List Nat) (hl : lv_pick lv ks = lv') (h : TL X b L sc pc lv' st μ) : TL X b L sc pc lv st μ :=
  fun hG hs H locs ls hP hS hlv => h hG hs H locs ls hP hS (lv_sub hlv ks (by rw [lv_pm, hl]))
theorem TL_tsIn {X : mCx} {b L : Nat} {sc : Nat → Int32} {pc : Nat} {lv : List (Nat × Value)} {st : List Value} {μ : mMem} {x : Int32} {dflt lo hi : Int} {offs : Array Int} {len : Nat} {off : Int} (z : Int32) (t : Nat) (hx : x = z) (hd : decode code pc = .ok (.tableswitch dflt lo hi offs, len)) (h1 : ¬ z.toInt < lo) (h2 : ¬ hi < z.toInt) (ho : offs[(z.toInt - lo).toNat]? = some off) (htg : (pc : Int) + off = (t : Int)) (h : TL X b L sc t lv st μ) : TL X b L sc pc lv (.int x :: st) μ := by
  subst hx
  exact fun hG hs H locs ls hP hS hl => lv_tableIn hG.1 hG.2.1 hd h1 h2 ho htg (h hG hs H locs ls hP hS hl)
theorem TL_tsOut {X : mCx} {b L : Nat} {sc : Nat → Int32} {pc : Nat} {lv : List (Nat × Value)} {st : List Value} {μ : mMem} {x : Int32} {dflt lo hi : Int} {offs : Array Int} {len : Nat} (t : Nat) (hx : x.toInt < lo ∨ hi < x.toInt) (hd : decode code pc = .ok (.tableswitch dflt lo hi offs, len)) (htg : (pc : Int) + dflt = (t : Int)) (h : TL X b L sc t lv st μ) : TL X b L sc pc lv (.int x :: st) μ := fun hG hs H locs ls hP hS hl => lv_tableOut hG.1 hG.2.1 hd hx htg (h hG hs H locs ls hP hS hl)
theorem callB_L {q2 : mMI} {X : mCx} {n index : Nat} (hG : Good qL X) (hm : mok q2 n) (hl : Cond.methodLink RL index q2.1 ∈ gdL) (hdp : q2.2.2.2.2 ≤ 100) : CallB room_1 (xs X) (xa X) RL index q2.1 q2.2.1 q2.2.2.1 q2.2.2.2.1 (wsM q2) (rmOf q2.2.2.2.2) 0 0 n :=
  callB_of n hG.2.2.2.2.2.2.1 (gdM hm.2.2) rfl rfl rfl (hG.2.2.2.2.2.2.1 _ hm.2.1) (hG.2.2.2.2.2.2.1 _ hl) hm.1.1 ⟨by show q2.2.2.2.2 + 1 ≤ 2048; omega, by
    have := hm.1.2
    show 8 + (q2.2.2.1 + 11) + 100 * q2.2.2.2.2 ≤ 84000
    omega⟩
theorem callbL {p : Program} {l : Launch} {e : Env} {R : Room} {s : State} {m : MethodId} {args : Array Value} {below : List Frame} {meth : Method} {c : Code} {H : Heap} {locs : List Loc} {Q : State → Prop} {pc cells slots : Nat} {ls : Array Slot} {st0 rest : List Value} {ad : Nat → Nat} {cA : Nat → ClassId} {D : va_G} {A0 A1 : Nat → Prop} {free : Addr → Prop} {H0 : Heap} {v0 : Option Value} {μ2 : mMem} {aa : Array Value}
    (hr : va_Run p l e R s m args below meth c H locs cells slots 0 0 (F0 m pc ls st0) rest (Qb ad cA D A1 v0 μ2 aa) free) (hS : va_S A0 H0 H locs) (hA : ∀ q, q < H.size → A1 q → A0 q) (hf : ∀ q, free q → A0 q)
    (kk : ∀ (H1 : Heap) (locs1 : List Loc), va_P D vwCl (wsOf ad cA μ2) H1 → va_S A0 H0 H1 locs1 → W p l e R s m args below meth c H1 locs1 cells slots Q (F0 m (pc + 3) ls ((v0.map (cz ad)).toList ++ rest))) : W p l e R s m args below meth c H locs cells slots Q (F0 m pc ls st0) := by
  intro T hT X
  obtain ⟨v, st₀, t, T', L, h0, X', hL, e1, e2, ⟨hv, hPt, hz, hk⟩, st⟩ := hr T hT X
  have hv' : v = v0.map (cz ad) := by injection hv
  subst hv'
  rw [h0] at hz hk
  obtain ⟨t2, a1, b1⟩ := kk T'.heap (locs ++ L) (by rw [e1]; exact hPt)
    ⟨Nat.le_trans hS.1 (by rw [e1]; exact hz), fun q h1 h2 => by rw [e1, hk q (Nat.lt_of_lt_of_le h1 hS.1) (fun z => h2 (hA q (Nat.lt_of_lt_of_le h1 hS.1) z))]; exact hS.2.1 q h1 h2, fun q hq => by
      rcases List.mem_append.mp hq with h | h
      · exact hS.2.2 q h
      · exact hf _ (hL q h)⟩ T' rfl X'
  exact ⟨t2, st t2 a1, b1⟩
theorem TL_call {q2 : mMI} {X : mCx} {b L : Nat} {sc : Nat → Int32} {pc : Nat} {lv : List (Nat × Value)} {μ μ2 : mMem} {v2 : Option Value} {z c n index N : Nat} {TT : u_T} (As rest : List Value) (hm : mokV q2 n) (hlk : Cond.methodLink RL index q2.1 ∈ gdL) (hb : kd z = (c, 0)) (hc : vwCl[c]? = some (q2.1.cls, TT, N)) (hn : As.length = n) (hdp : q2.2.2.2.2 ≤ 100) (hcat : (rest.map fun v => v.category).sum ≤ 8) (hd : decode code pc = .ok (.invokevirtual index, 3)) (hB : BS (xl X) q2 (.ref z :: As) μ (some (v2, μ2))) (h : TL X b L sc (pc + 3) lv (v2.toList ++ rest) μ2) : TL X b L sc pc lv (As.reverse ++ .ref z :: rest) μ := fun hG hs H locs ls hP hS hl => by
  have hb0 := kd_lt hb (by have := vw_lt hc; omega)
  have hM := hB v2 μ2 rfl (xD X) (xad X) (xcA X) H.size
  have hrv := va_recv hG.2.2.2.2.2.2.2.1 hP hc (q0 := z) (a := xad X z) (fs := fsOf (xad X) c z (μ.1 z)) (by rw [ws_at hb0, cell_obj hb (vw_lt hc)])
  have hr := va_runV (own := RL) (As := As.map (cz (xad X))) (rest := rest.map (cz (xad X))) (g := F0 (xm X) pc ls ((As.reverse ++ .ref z :: rest).map (cz (xad X)))) (locs := locs) (cells := nC) (slots := nS) (below := xb X) (e := xe X) (meth := xM X) (H := H) ⟨hG.1, hG.2.1, hG.2.2.1, hG.2.2.2.2.2.1, hG.2.2.2.2.2.2.1⟩ hM ⟨callB_L hG hm.1 hlk hdp, hG.2.2.2.2.2.2.1 _ hm.2.1, hG.2.2.2.2.2.2.1 _ hm.2.2⟩ ⟨blind, hrv, fun U hU hW => ⟨rfl, preH hG hP hS hU hW⟩⟩ rfl (by rw [List.length_map]; exact hn) hl.1 (by simp [cz]) (lv_room (by rw [cz_sum]; exact hcat)) hd ⟨by decide, by decide⟩
  refine callbL hr hS (fun z _ hz => AA_in hG hS z hz) (AA_in hG hS) (fun H1 locs1 hP1 hS1 => ?_)
  have := h hG hs H1 locs1 ls hP1 hS1 hl
  rw [List.map_append] at this
  cases v2 <;> exact this
/-- the law's end -/
theorem TL_ret {X : mCx} {b L : Nat} {sc : Nat → Int32} {pc : Nat} {lv : List (Nat × Value)} {μ : mMem} (hargs : xa X = #[Value.ref b]) (hA : ∀ z, xA X z → (xs X).heap.size ≤ z) (hd : decode code pc = .ok (.ireturn, 1)) : TL X b L sc pc lv [.int 1] μ := fun hG hs H locs ls hP hS hl => by
  refine W.widen (k := 600000) (n := 7302250) (by decide) (by decide) ?_
  rw [hargs]
  refine va_forget (fun q hq => hA _ (hS.2.2 q hq)) ?_
  exact lw_ret hG.1 hG.2.1 hG.2.2.2.1 hG.2.2.2.2.1 hd
def okI (Inv : mMem → Prop) (fx fm : mMem → mR) : Prop := ∀ μ, Inv μ → ∃ r μ1 μ2, fx μ = some (some (.int r), μ1) ∧ fm μ1 = some (some (.int r), μ2) ∧ Inv μ2
def okL (Inv : mMem → Prop) (fx fm : mMem → mR) : Prop := ∀ μ, Inv μ → ∃ r μ1 μ2, fx μ = some (some (.long r), μ1) ∧ fm μ1 = some (some (.long r), μ2) ∧ Inv μ2
