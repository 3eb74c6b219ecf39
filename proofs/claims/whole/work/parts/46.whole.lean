theorem LN {p : Program} {l : Launch} {e : Env} {s : State} {m : MethodId} {args : Array Value} {below : List Frame} {meth : Method} {c : Code} {H : Heap} {locs : List Loc} {Q : State → Prop} {pc cells slots mc ms k z index : Nat} {ls : Array Slot} {rest : List Value} {q2 : mMI} {fs0 : List Value} {Wc : (Nat → ClassId) → Nat → (Nat → Nat) → va_W} {D : va_G} {cA : Nat → ClassId} {A : Nat → Prop} (w0 : va_W) (hx : p.tables.exec = Jvm.exec) (hb : c.code = code) (hml : c.maxLocals = 4) (hown : s.vm.findClass RL = some m.cls) (hts : ∀ w ∈ gdL, w.before args s = true) (hK : va_K D vwCl (tysOf cA) s) (hN : NC s) (hA : ∀ q, s.heap.size ≤ q → A q)
    (hm : mok q2 0) (hi : Cond.instanceMethod q2.1 ∈ gdL) (hnm : q2.1.name = "<init>") (hret : q2.2.2.2.1 = none) (hlk : Cond.methodLink RL index q2.1 ∈ gdL) (hfr : q2.2.2.2.2 ≤ 100) (hcl : cells + mc ≤ 600000) (hsl : slots + ms ≤ 7302250) (hls : ls.size = 4) (hcat : (rest.map fun v => v.category).sum ≤ 8) (hP : va_P D vwCl (w0 ++ [(z, .inr (k, fs0))]) H) (hD : va_D A (w0 ++ [(z, .inr (k, fs0))])) (hS : va_S A s.heap H locs) (hd : decode code pc = .ok (.invokespecial index, 3)) (hC : CN l q2 mc ms k fs0 Wc)
    (h : ∀ (a : Nat → Nat) (H1 : Heap) (locs1 : List Loc), va_P D vwCl (w0 ++ Wc cA z a) H1 → va_D A (w0 ++ Wc cA z a) → va_S A s.heap H1 locs1 → W p l e room_1 s m args below meth c H1 locs1 (cells + mc) (slots + ms) Q (F0 m (pc + 3) ls rest)) : W p l e room_1 s m args below meth c H locs cells slots Q (F0 m pc ls (.ref z :: rest)) := by
  have hM := hC D cA z H.size
  have hb1 : va_P D vwCl [(z, .inr (k, fs0))] H := hP.sub [w0.length] (by simp)
  have hFc := va_free (wc := [(z, .inr (k, fs0))]) hD hS hA [w0.length] app_C
  have hcb := callB_of (own := RL) (index := index) (rm := rmC q2.2.2.2.2 mc ms) (R := room_1) (mc := mc) (ms := ms) 0 hts (gdM hm.2.2) rfl rfl rfl (hts _ hm.2.1) (hts _ hlk) hm.1.1 ⟨by show q2.2.2.2.2 + 1 ≤ 2048; omega, by
    have := hm.1.2
    show 8 + (q2.2.2.1 + 11) + 100 * q2.2.2.2.2 ≤ 84000
    omega⟩
  rw [hret] at hcb
  have hr := va_runI (own := RL) (As := []) (rest := rest) (g := F0 m pc ls (.ref z :: rest)) (locs := locs) (cells := cells) (slots := slots) (below := below) (e := e) (meth := meth) (H := H) ⟨hx, hb, hml, hown, hts⟩ hM ⟨hcb, hnm, hts _ hi⟩ ⟨blindC, fun U hU hW => ⟨rfl, by rw [hU], by rw [hU]; exact hb1, va_K.moved hW.alike hK, NC.warm hW hN⟩⟩ rfl rfl hls rfl (lv_room hcat) hd ⟨hcl, hsl⟩
  intro T hT Xs
  obtain ⟨v, st₀, t, T', L, h0, X', hL, e1, e2, ⟨hv, ⟨a, hPt, hDt⟩, hz, hk⟩, st⟩ := hr T hT Xs
  have hv' : v = none := by injection hv
  subst hv'
  rw [h0] at hz hk
  have hk' : ∀ y : Nat, y < H.size → ¬ va_A [(z, .inr (k, fs0))] H.size y → T'.heap[y]? = H[y]? := fun y h1 h2 => by rw [e1]; exact hk y h1 h2
  obtain ⟨hP2, hD2⟩ := va_join (wr := w0) (w1 := Wc cA z a) hP hD [w0.length] (List.range w0.length) app_C app_at (nd_of _ List.nodup_range) (fun i hi => by simp at hi ⊢; omega) hk' hFc (by rw [e1]; exact hPt) hDt
  obtain ⟨t2, a1, b1⟩ := h a T'.heap (locs ++ L) hP2 hD2 ⟨Nat.le_trans hS.1 (by rw [e1]; exact hz), fun y h1 h2 => by rw [hk' y (Nat.lt_of_lt_of_le h1 hS.1) (fun u => h2 (hFc y u))]; exact hS.2.1 y h1 h2, fun y hq => by
      rcases List.mem_append.mp hq with h | h
      · exact hS.2.2 y h
      · exact hFc _ (hL y h)⟩ T' rfl X'
  exact ⟨t2, st t2 a1, b1⟩
theorem lmI_9 : Cond.methodLink RL 9 yX7_init ∈ gdL := gd_mem 70 (by decide +kernel) (by decide +kernel)
theorem lmI_12 : Cond.methodLink RL 12 yX8_init ∈ gdL := gd_mem 880 (by decide +kernel) (by decide +kernel)
set_option maxRecDepth 100000 in
set_option maxHeartbeats 4000000 in
theorem whole_start_open {Inv : mMem → Prop} (hp : PureOK Inv) (h0 : Inv mu0) {p : Program} {e : Env} {s : State} {m : MethodId} {below : List Frame} {meth : Method} {c : Code} (l : Launch) {b L : Nat} {xs : Nat → Int32} (hL : L ≤ 2560) (C0 : lw_At p s m meth c b L xs) : W p l e room_1 s m #[Value.ref b] below meth c s.heap [] 0 0 (lw_Z below #[Value.ref b] s) (entryFrame m ([Value.ref b] : List Value).toArray 4) := by
  obtain ⟨hx, hb, hr, hml, hown, hts, hX, hbl, hlocks, hgv⟩ := id C0
  have hg : ∀ w ∈ gdL, w.before #[Value.ref b] s = true := fun w hw => hts w (List.mem_filter.mp hw).1
  have hA : ∀ q : Nat, s.heap.size ≤ q → (fun q : Nat => s.heap.size ≤ q) q := fun _ h => h
  have hnA : ∀ a : Nat, a < s.heap.size → ¬ (fun q : Nat => s.heap.size ≤ q) a := fun a h => Nat.not_le.mpr h
  obtain ⟨c0, i0, k0⟩ := u_known (C := RX0) (T := TX0) (N := 2) (n := 2) hg inG0 (hts (.instantiable RX0 2) (List.mem_of_getElem? (i := 234) (by decide +kernel)))
  obtain ⟨c1, i1, k1⟩ := u_known (C := RX1) (T := TX1) (N := 2) (n := 2) hg inG1 (hts (.instantiable RX1 2) (List.mem_of_getElem? (i := 192) (by decide +kernel)))
  obtain ⟨c2, i2, k2⟩ := u_known (C := RX2) (T := TX2) (N := 7) (n := 7) hg inG2 (hts (.instantiable RX2 7) (List.mem_of_getElem? (i := 248) (by decide +kernel)))
  obtain ⟨c3, i3, k3⟩ := u_known (C := RX3) (T := TX3) (N := 6) (n := 6) hg inG3 (hts (.instantiable RX3 6) (List.mem_of_getElem? (i := 206) (by decide +kernel)))
  obtain ⟨c4, i4, k4⟩ := u_known (C := RX4) (T := TX4) (N := 12) (n := 12) hg inG4 (hts (.instantiable RX4 12) (List.mem_of_getElem? (i := 118) (by decide +kernel)))
  obtain ⟨c5, i5, k5⟩ := u_known (C := RX5) (T := TX5) (N := 3) (n := 3) hg inG5 (hts (.instantiable RX5 3) (List.mem_of_getElem? (i := 283) (by decide +kernel)))
  obtain ⟨c6, i6, k6⟩ := u_known (C := RX6) (T := TX6) (N := 10) (n := 10) hg inG6 (hts (.instantiable RX6 10) (List.mem_of_getElem? (i := 77) (by decide +kernel)))
  obtain ⟨c7, i7, k7⟩ := u_known (C := RX7) (T := TX7) (N := 11) (n := 11) hg inG7 (hts (.instantiable RX7 11) (List.mem_of_getElem? (i := 69) (by decide +kernel)))
  obtain ⟨c8, i8, k8⟩ := u_known (C := RX8) (T := TX8) (N := 35) (n := 35) hg inG8 (hts (.instantiable RX8 35) (List.mem_of_getElem? (i := 879) (by decide +kernel)))
  obtain ⟨D, hKc⟩ : ∃ D : va_G, ∀ (k : Nat) (q : vw_C), vwCl[k]? = some q → u_Kn s q.1 q.2.1 q.2.2 (D.1 k) (D.2 k) := by
    refine ⟨(fun k => if k = 0 then c0 else if k = 1 then c1 else if k = 2 then c2 else if k = 3 then c3 else if k = 4 then c4 else if k = 5 then c5 else if k = 6 then c6 else if k = 7 then c7 else c8, fun k => if k = 0 then i0 else if k = 1 then i1 else if k = 2 then i2 else if k = 3 then i3 else if k = 4 then i4 else if k = 5 then i5 else if k = 6 then i6 else if k = 7 then i7 else i8), fun k q hq => ?_⟩
    match k, hq with
    | 0, hq => cases hq; exact k0
    | 1, hq => cases hq; exact k1
    | 2, hq => cases hq; exact k2
    | 3, hq => cases hq; exact k3
    | 4, hq => cases hq; exact k4
    | 5, hq => cases hq; exact k5
    | 6, hq => cases hq; exact k6
    | 7, hq => cases hq; exact k7
    | 8, hq => cases hq; exact k8
    | k + 9, hq => simp [vwCl] at hq
  obtain ⟨cA, hcA⟩ := start_cA hts
  have hK : va_K D vwCl (tysOf cA) s := ⟨hKc, hcA⟩
  have hN : NC s := start_NC hts
  have hS : va_S (fun q : Nat => s.heap.size ≤ q) s.heap s.heap [] := va_S.rf
  have hP : va_P D vwCl [] s.heap := fun k q h => by simp at h
  have hD : va_D (fun q : Nat => s.heap.size ≤ q) [] := ⟨fun i j p q h => by simp at h, fun k q h => by simp at h⟩
  have hl := lv_entry ([.ref b]) (n := 4) (Nat.le_of_ble_eq_true rfl)
  rw [lg_entry_eq]
  generalize (lg_sl ([.ref b]) ++ List.replicate (4 - (lg_sl ([.ref b])).length) Slot.unset).toArray = ls at hl ⊢
  have hl : lv_has ls 4 [(0, .ref b)] := hl
  obtain ⟨ty7, t71, t72⟩ := ty_G (c := 7) (C := RX7) (TT := TX7) (N := 11) rfl
  obtain ⟨ty8, t81, t82⟩ := ty_G (c := 8) (C := RX8) (TT := TX8) (N := 35) rfl
  refine va_new (ci := 7) (fs := fz7) (C := RX7) (T := TX7) (N := 11) hx hb hg inG7 ty7 t71 hown (hts (.classLink R_law 7 RX7) (List.mem_of_getElem? (i := 68) (by decide +kernel))) (hts (.instantiable RX7 11) (List.mem_of_getElem? (i := 69) (by decide +kernel))) (hts (.initialized RX7) (List.mem_of_getElem? (i := 51) (by decide +kernel))) hK hP hD hS hA rfl (df7 ty7 t71) (Nat.le_of_ble_eq_true rfl) (Nat.le_of_ble_eq_true rfl) dL_law_0 (fun q7 H hP hD hS => ?_)
  refine lv_dup hx hb dL_law_3 rfl ?_
  refine LN (k := 7) (fs0 := fz7) (rest := [.ref q7]) [] hx hb hml hown hg hK hN hA mkX7_init imX7_init rfl rfl lmI_9 (by decide) (Nat.le_of_ble_eq_true rfl) (Nat.le_of_ble_eq_true rfl) hl.1 (Nat.le_of_ble_eq_true rfl) hP hD hS dL_law_4 (cnX7_init l) (fun a7 H locs hP hD hS => ?_)
  refine lv_astore_n (lv' := [(1, .ref q7), (0, .ref b)]) hx hb dL_law_7 rfl hl (by decide) rfl (fun ls hl => ?_)
  refine va_new (ci := 8) (fs := fz8) (C := RX8) (T := TX8) (N := 35) hx hb hg inG8 ty8 t81 hown (hts (.classLink R_law 10 RX8) (List.mem_of_getElem? (i := 878) (by decide +kernel))) (hts (.instantiable RX8 35) (List.mem_of_getElem? (i := 879) (by decide +kernel))) (hts (.initialized RX8) (List.mem_of_getElem? (i := 59) (by decide +kernel))) hK hP hD hS hA rfl (df8 ty8 t81) (Nat.le_of_ble_eq_true rfl) (Nat.le_of_ble_eq_true rfl) dL_law_8 (fun q8 H hP hD hS => ?_)
  refine lv_dup hx hb dL_law_11 rfl ?_
  refine LN (k := 8) (fs0 := fz8) (rest := [.ref q8]) ([] ++ wcX7_init cA q7 a7) hx hb hml hown hg hK hN hA mkX8_init imX8_init rfl rfl lmI_12 (by decide) (Nat.le_of_ble_eq_true rfl) (Nat.le_of_ble_eq_true rfl) hl.1 (Nat.le_of_ble_eq_true rfl) hP hD hS dL_law_12 (cnX8_init l) (fun a8 H locs hP hD hS => ?_)
  rw [List.nil_append] at hP hD
  refine lv_astore_n (lv' := [(2, .ref q8), (1, .ref q7), (0, .ref b)]) hx hb dL_law_15 rfl hl (by decide) rfl (fun ls hl => ?_)
  refine lv_iconst (v := 0) hx hb dL_law_16 (by decide) ?_
  refine lv_istore_n (lv' := [(3, .int 0), (2, .ref q8), (1, .ref q7), (0, .ref b)]) hx hb dL_law_17 rfl hl (by decide) rfl (fun ls hl => ?_)
  have h7 : va_P D vwCl (wcX7_init cA q7 a7) H := fun k x hx => hP k x (by rw [List.getElem?_append_left (List.getElem?_eq_some_iff.mp hx).1]; exact hx)
  have h8 : va_P D vwCl (wcX8_init cA q8 a8) H := fun k x hx => hP (81 + k) x (by
    rw [List.getElem?_append_right (show (wcX7_init cA q7 a7).length ≤ 81 + k from Nat.le_add_right 81 k)]
    rw [show 81 + k - (wcX7_init cA q7 a7).length = k from Nat.add_sub_cancel_left 81 k]
    exact hx)
  obtain ⟨f, hf, hZ⟩ := start_ZS (A := fun q : Nat => s.heap.size ≤ q) hts (flat_of_before _ hgv) hnA b
  obtain ⟨hj, hAd⟩ := ws_inj (f := f) hD
  have e118 : adF q7 q8 a7 a8 f 118 = b := hf
  have hl9 := lv_sub hl [3, 2, 1, 0] rfl
  refine W.widen (k := nC) (n := nS) (Nat.le_of_ble_eq_true rfl) (Nat.le_of_ble_eq_true rfl) ?_
  refine law_loop_open hp (X := (p, l, e, s, m, #[Value.ref b], below, meth, c, adF q7 q8 a7 a8 f, cA, D, fun q : Nat => s.heap.size ≤ q)) hL rfl (fun z h => h) (L + 1) 0 (by omega) (by decide) mu0 h0 ⟨hx, hb, hml, hr, hlocks, hown, hg, hK, hj, hAd, fun z h => h, hZ _ (fun i hi => if_neg (by omega))⟩ ⟨hX, hbl, hnA b hbl, e118⟩ H locs ls (ws_cells h7 h8) hS ?_
  show lv_has ls 4 [(0, .ref (adF q7 q8 a7 a8 f 118)), (1, .ref q7), (2, .ref q8), (3, .int 0)]
  rw [e118]
  exact hl9
