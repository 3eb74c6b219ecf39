def va_AOA (t : FieldType) (U : State) : Prop := (Cond.arrayOver (.array t)).before #[] U = true
theorem va_AOA.use {C : FieldType} {A : Array Value} {U : State} (h : va_AOA C U) : (Cond.arrayOver (.array C)).before A U = true := h
/-! ===== BEGIN new T[n][m]: the outer array a place, the inner ones among the pooled ===== -/
/-- f, but v at every address of l -/
def vr_up {α : Type} (f : Nat → α) (l : List Nat) (v : α) : Nat → α := fun a => if a ∈ l then v else f a
theorem vr_up_in {α : Type} {f : Nat → α} {l : List Nat} {v : α} {a : Nat} (h : a ∈ l) : vr_up f l v a = v := if_pos h
theorem vr_up_ne {α : Type} {f : Nat → α} {l : List Nat} {v : α} {a : Nat} (h : a ∉ l) : vr_up f l v a = f a := if_neg h
theorem vr_rows {L l : List Nat} {f : Nat → va_E} {e : va_E} (h : ∀ a, a ∈ l → a ∉ L) : va_pl L f ++ l.map (fun a => (a, e)) = va_pl (L ++ l) (vr_up f l e) := by
  unfold va_pl
  rw [List.map_append]
  congr 1
  · apply List.map_congr_left
    intro a ha
    rw [vr_up_ne (fun q => h a q ha)]
  · apply List.map_congr_left
    intro a ha
    rw [vr_up_in ha]
theorem vr_lay {X rows : va_W} {x : Nat × va_E} {pl : va_W} {D : va_G} {cl : List vw_C} {H : Heap} (hP : va_P D cl (((X ++ pl) ++ [x]) ++ rows) H) : va_P D cl ((X ++ [x]) ++ (pl ++ rows)) H := by
  rw [List.append_assoc (X ++ pl)] at hP
  have h := va_P.swap hP
  rw [← List.append_assoc X] at h
  have h2 := va_P.swap h
  rw [List.append_assoc (X ++ [x])] at h2
  exact h2
theorem vr_layD {X rows : va_W} {x : Nat × va_E} {pl : va_W} {A : Nat → Prop} (hD : va_D A (((X ++ pl) ++ [x]) ++ rows)) : va_D A ((X ++ [x]) ++ (pl ++ rows)) := by
  rw [List.append_assoc (X ++ pl)] at hD
  have h := va_D.swap hD
  rw [← List.append_assoc X] at h
  have h2 := va_D.swap h
  rw [List.append_assoc (X ++ [x])] at h2
  exact h2
theorem vr_outer (c : ClassId) (N h0 : Nat) : ∀ i : Nat, Jvm.Free.Multi.outerC c N h0 i = arrV c N (fun j => va_rf (if j < i then some (h0 + 1 + j) else none))
  | 0 => by
    show ({ cls := c, slots := Array.replicate N .null, vm := .none } : Cell) = _
    rw [arrV_new]
    refine congrArg (arrV c N) (funext fun j => ?_)
    simp [va_rf]
  | i + 1 => by
    show (Jvm.Free.Multi.outerC c N h0 i).setSlot i (.ref (h0 + 1 + i)) = _
    rw [vr_outer c N h0 i, arrV_store]
    refine congrArg (arrV c N) (funext fun j => ?_)
    by_cases e : j = i
    · subst e
      simp [updV, va_rf]
    · by_cases h : j < i
      · simp [updV, e, h, Nat.lt_succ_of_lt h]
      · simp [updV, e, h, show ¬ j < i + 1 by omega]
section VGM
variable {p : Program} {l : Launch} {e : Env} {R : Room} {s : State} {m : MethodId} {args : Array Value} {below : List Frame} {meth : Method} {c : Code} {H : Heap} {locs : List Loc} {cells slots : Nat} {Q : State → Prop}
variable {cc : ByteArray} {pc : Nat} {ls : Array Slot} {rest : List Value} {D : va_G} {cl : List vw_C} {A : Nat → Prop} {a : Nat} {tys : List (ClassId × FieldType)} {ws : va_W} {H0 : Heap}
theorem va_mna {X : va_W} {L : List Nat} {f : Nat → va_E} {cc : ByteArray} (hexec : p.tables.exec = Jvm.exec) (hb : c.code = cc) {own : String} {index : Nat} {ty : FieldType} {cy : ClassId} (hown : s.vm.findClass own = some m.cls) (hclink : (Cond.classLink own index ("[" ++ (FieldType.array ty).toString)).before args s = true) (hover : va_AOA ty s) (harr : (Cond.arrayClass ty).before args s = true) (hcy : s.vm.findClass (FieldType.array ty).toString = some cy)
    (hK : va_K D cl tys s) (hP : va_P D cl (X ++ va_pl L f) H) (hD : va_D A (X ++ va_pl L f)) (hS : va_S A H0 H locs) (hA : ∀ q, H0.size ≤ q → A q) {n k : Int32} {N' K' : Nat} {z : vp_A} (hn : ¬ n < 0) (hk : ¬ k < 0) (hN : n.toNatClampNeg = N') (hM : k.toNatClampNeg = K')
    (hb1 : N' * 4 ≤ 536870912) (hb2 : K' * componentBytes ty ≤ 536870912) (hb3 : K' ≤ 536870912) (hdf : fits ty (defaultValue ty) = true) (hdd : (defaultValue ty).isDefault = true) (hcells : cells + (1 + N') ≤ R.cells) (hslots : slots + (N' + N' * K') ≤ R.slots) (hz : ∀ c : ClassId, Jvm.Free.Multi.innerC c K' (defaultValue ty) = vp_cell c z) (hdg : decode cc pc = .ok (.multianewarray index 2, 4))
    (kk : ∀ (q : Nat) (r : Nat → Nat) (cA : ClassId) (H1 : Heap), (∀ i j : Nat, i < N' → j < N' → r i = r j → i = j) → (∀ i : Nat, i < N' → r i ∉ L) → va_K D cl (tys ++ [(cA, .array ty)]) s →
      va_P D cl ((X ++ [(q, .inl (cA, N', .inr (.inr (.inr (.inr (fun i => if i < N' then some (r i) else none))))))]) ++ va_pl (L ++ (List.range N').map r) (vr_up f ((List.range N').map r) (.inl (cy, z)))) H1 → va_D A ((X ++ [(q, .inl (cA, N', .inr (.inr (.inr (.inr (fun i => if i < N' then some (r i) else none))))))]) ++ va_pl (L ++ (List.range N').map r) (vr_up f ((List.range N').map r) (.inl (cy, z)))) → va_S A H0 H1 locs →
      W p l e R s m args below meth c H1 locs (cells + 1 + N') (slots + N' + N' * K') Q (F0 m (pc + 4) ls (.ref q :: rest))) : W p l e R s m args below meth c H locs cells slots Q (F0 m pc ls (.int k :: .int n :: rest)) := by
  subst hN
  subst hM
  intro T hT Xs
  obtain ⟨vm₁, cA, comp, -, fA, fC, hO, -, X', step⟩ := Xs.multianewarray2F hexec hown hclink (va_AOA.use hover) harr (g := F0 m pc ls (.int k :: .int n :: rest)) rfl (by rw [hb]; exact hdg) rfl hn hk hb1 hb2 hb3 hdf hdd hcells hslots
  have ec : some cy = some comp := hcy.symm.trans fC
  cases ec
  generalize hF : Jvm.Free.Multi.fill (T.setVm vm₁) cA cy n.toNatClampNeg k.toNatClampNeg (defaultValue ty) n.toNatClampNeg = F at X' step
  have hTh : (T.setVm vm₁).heap = H := hT
  obtain ⟨f1, f2, -, -⟩ := Jvm.Free.Multi.fill_facts (T.setVm vm₁) cA cy n.toNatClampNeg k.toNatClampNeg (defaultValue ty) n.toNatClampNeg
  rw [hF, hTh] at f1 f2
  have hold : ∀ x : Nat, x < H.size → F.heap[x]? = H[x]? := fun x hx => by
    have := Jvm.Free.Multi.fill_old (T.setVm vm₁) cA cy n.toNatClampNeg k.toNatClampNeg (defaultValue ty) (a := x) (by rw [hTh]; exact hx) n.toNatClampNeg
    rw [hF, hTh] at this
    exact this
  have hrow : ∀ j : Nat, j < n.toNatClampNeg → F.heap[H.size + 1 + j]? = some (vp_cell cy z) := fun j hj => by
    have := Jvm.Free.Multi.fill_inner (T.setVm vm₁) cA cy n.toNatClampNeg k.toNatClampNeg (defaultValue ty) n.toNatClampNeg j hj
    rw [hF, hTh, hz] at this
    exact this
  have hout : Jvm.Free.Multi.outerC cA n.toNatClampNeg H.size n.toNatClampNeg = vp_cell cA (n.toNatClampNeg, .inr (.inr (.inr (.inr (fun i => if i < n.toNatClampNeg then some (H.size + 1 + i) else none))))) := by
    rw [vp_cell_q]
    exact vr_outer cA n.toNatClampNeg H.size n.toNatClampNeg
  rw [hout] at f2
  have hlt : ∀ a, a ∈ L → a < H.size := fun a ha => by
    obtain ⟨k9, hk9⟩ := va_pl_get (X := X) (f := f) ha
    exact (hP k9 _ hk9).lt
  have hnl : ∀ i : Nat, i < n.toNatClampNeg → H.size + 1 + i ∉ L := fun i _ h => by
    have := hlt _ h
    omega
  have hnm : ∀ a, a ∈ (List.range n.toNatClampNeg).map (fun i => H.size + 1 + i) → a ∉ L := fun a ha h => by
    obtain ⟨i, -, rfl⟩ := List.mem_map.mp ha
    have := hlt _ h
    omega
  have hP0 : va_P D cl (X ++ va_pl L f) F.heap := hP.kept (fun k9 x hx => hold x.1 ((hP k9 x hx).lt))
  have hP1 : va_P D cl ((X ++ va_pl L f) ++ [(H.size, .inl (cA, n.toNatClampNeg, .inr (.inr (.inr (.inr (fun i => if i < n.toNatClampNeg then some (H.size + 1 + i) else none))))))]) F.heap := hP0.app (fun k9 x hx => by
    have h0 : k9 < 1 := (List.getElem?_eq_some_iff.mp hx).1
    rw [show k9 = 0 by omega] at hx
    cases hx
    exact f2)
  have hP2 : va_P D cl (((X ++ va_pl L f) ++ [(H.size, .inl (cA, n.toNatClampNeg, .inr (.inr (.inr (.inr (fun i => if i < n.toNatClampNeg then some (H.size + 1 + i) else none))))))]) ++ ((List.range n.toNatClampNeg).map (fun i => H.size + 1 + i)).map (fun a => (a, .inl (cy, z)))) F.heap := hP1.app (fun k9 x hx => by
    obtain ⟨a, ha, rfl⟩ := List.mem_map.mp (List.mem_of_getElem? hx)
    obtain ⟨i, hi, rfl⟩ := List.mem_map.mp ha
    exact hrow i (List.mem_range.mp hi))
  have hD2 : va_D A (((X ++ va_pl L f) ++ [(H.size, .inl (cA, n.toNatClampNeg, .inr (.inr (.inr (.inr (fun i => if i < n.toNatClampNeg then some (H.size + 1 + i) else none))))))]) ++ ((List.range n.toNatClampNeg).map (fun i => H.size + 1 + i)).map (fun a => (a, .inl (cy, z)))) := by
    have hD1 := hD.push (e := .inl (cA, n.toNatClampNeg, .inr (.inr (.inr (.inr (fun i => if i < n.toNatClampNeg then some (H.size + 1 + i) else none)))))) hP rfl (hA _ hS.1)
    generalize hW1 : (X ++ va_pl L f) ++ [(H.size, .inl (cA, n.toNatClampNeg, .inr (.inr (.inr (.inr (fun i => if i < n.toNatClampNeg then some (H.size + 1 + i) else none))))))] = W1 at hD1 hP1 ⊢
    have hle : ∀ (k9 : Nat) (x : Nat × va_E), W1[k9]? = some x → x.1 ≤ H.size := fun k9 x hx => by
      rw [← hW1] at hx
      by_cases hl : k9 < (X ++ va_pl L f).length
      · rw [List.getElem?_append_left hl] at hx
        exact Nat.le_of_lt ((hP k9 x hx).lt)
      · rw [List.getElem?_append_right (by omega)] at hx
        have h0 : k9 - (X ++ va_pl L f).length < 1 := (List.getElem?_eq_some_iff.mp hx).1
        rw [show k9 - (X ++ va_pl L f).length = 0 by omega] at hx
        cases hx
        exact Nat.le_refl _
    have hr : ∀ (k9 : Nat) (x : Nat × va_E), (((List.range n.toNatClampNeg).map (fun i => H.size + 1 + i)).map (fun a => ((a, .inl (cy, z)) : Nat × va_E)))[k9]? = some x → x.1 = H.size + 1 + k9 := fun k9 x hx => by
      rw [List.getElem?_map, List.getElem?_map] at hx
      by_cases h9 : k9 < n.toNatClampNeg
      · rw [List.getElem?_range h9] at hx
        cases hx
        rfl
      · have hn0 : (List.range n.toNatClampNeg)[k9]? = none := List.getElem?_eq_none (by rw [List.length_range]; omega)
        rw [hn0] at hx
        cases hx
    refine ⟨fun i j x y hi hj hxy => ?_, fun k9 x hx => ?_⟩
    · by_cases h1 : i < W1.length <;> by_cases h2 : j < W1.length
      · rw [List.getElem?_append_left h1] at hi
        rw [List.getElem?_append_left h2] at hj
        exact hD1.1 i j x y hi hj hxy
      · rw [List.getElem?_append_left h1] at hi
        rw [List.getElem?_append_right (by omega)] at hj
        have := hle _ _ hi
        have := hr _ _ hj
        omega
      · rw [List.getElem?_append_right (by omega)] at hi
        rw [List.getElem?_append_left h2] at hj
        have := hle _ _ hj
        have := hr _ _ hi
        omega
      · rw [List.getElem?_append_right (by omega)] at hi hj
        have := hr _ _ hi
        have := hr _ _ hj
        omega
    · by_cases h1 : k9 < W1.length
      · rw [List.getElem?_append_left h1] at hx
        exact hD1.2 k9 x hx
      · rw [List.getElem?_append_right (by omega)] at hx
        have := hr _ _ hx
        exact hA _ (by have := hS.1; omega)
  have hAr : ArrOfT s cA (.array ty) := fun N9 z9 => by
    obtain ⟨-, k9, hk9, cm9, hkk9⟩ := (hO 0 0 0).1
    exact ⟨(fun q hq => by cases hq), k9, hk9, cm9, hkk9⟩
  have hK2 : va_K D cl (tys ++ [(cA, .array ty)]) s := ⟨hK.1, fun k9 x hx => by
    by_cases hl : k9 < tys.length
    · rw [List.getElem?_append_left hl] at hx
      exact hK.2 k9 x hx
    · rw [List.getElem?_append_right (by omega)] at hx
      have h0 : k9 - tys.length < 1 := (List.getElem?_eq_some_iff.mp hx).1
      rw [show k9 - tys.length = 0 by omega] at hx
      cases hx
      exact ⟨hAr, fA⟩⟩
  obtain ⟨t, a1, b1⟩ := kk H.size (fun i => H.size + 1 + i) cA F.heap (fun i j _ _ h => by have h9 : H.size + 1 + i = H.size + 1 + j := h; omega) hnl hK2 (by rw [← vr_rows hnm]; exact vr_lay hP2) (by rw [← vr_rows hnm]; exact vr_layD hD2) ⟨by rw [f1]; have := hS.1; omega, fun x h1 h2 => (hold x (Nat.lt_of_lt_of_le h1 hS.1)).trans (hS.2.1 x h1 h2), hS.2.2⟩ F rfl X'
  refine ⟨t, step t ?_, b1⟩
  have e : T.heap.size = H.size := by rw [hT]
  rw [e]
  exact a1
end VGM
/-! ===== END ===== -/
def nestL : List (String × Nat × MethodName) := [(RX7, 9, yX6_init), (RX7, 18, yX4_init), (RX7, 36, yX1_init), (RX7, 43, yX3_init), (RX7, 50, yX0_init), (RX7, 57, yX2_init), (RX2, 27, yX4_init), (RX7, 72, yX5_init)]
def NC (U : State) : Prop := va_AO RX4 U ∧ va_AO RX5 U ∧ va_AOA .int U ∧ ∀ q ∈ nestL, va_Nw (.methodLinkNest q.1 q.2.1 q.2.2 "RankStairs") U
theorem va_AOA_moved {t : FieldType} {u U : State} (hvm : u.vm.Alike U.vm) (h : va_AOA t u) : va_AOA t U := Jvm.Stand.arrayOver_alikeB hvm h
theorem NC.same {s U : State} (hv : U.vm = s.vm) (h : NC s) : NC U := by
  have ha : s.vm.Alike U.vm := by rw [hv]; exact Vm.Alike.refl _
  exact ⟨va_AO.moved ha h.1, va_AO.moved ha h.2.1, va_AOA_moved ha h.2.2.1, fun q hq => va_Nw.same rfl hv.symm (h.2.2.2 q hq)⟩
theorem NC.warm {s U : State} (hW : s.WarmedH U.vm) (h : NC s) : NC U := ⟨va_AO.moved hW.alike h.1, va_AO.moved hW.alike h.2.1, va_AOA_moved hW.alike h.2.2.1, fun q hq => va_Nw.warmM hW (h.2.2.2 q hq)⟩
def GoodC (q : mMI) (X : mCx) : Prop :=
  (xp X).tables.exec = Jvm.exec ∧ (xc X).code = q.2.1 ∧ (xc X).maxLocals = q.2.2.1 ∧ (xM X).sig.returnType = q.2.2.2.1 ∧ (xM X).locks = false ∧ (xs X).vm.findClass q.1.cls = some (xm X).cls ∧ (∀ w ∈ gdL, w.before (xa X) (xs X) = true) ∧ va_K (xD X) vwCl (tysOf (xcA X)) (xs X) ∧ (∀ z, (xs X).heap.size ≤ z → xA X z) ∧ (xM X).name = "<init>" ∧ NC (xs X)
def TC (q : mMI) (X : mCx) (R : Room) (Q : State → Prop) (pc : Nat) (lv : List (Nat × Value)) (st : List Value) (w : va_W) (cells slots : Nat) : Prop :=
  GoodC q X → ∀ (H : Heap) (locs : List Loc) (ls : Array Slot), va_P (xD X) vwCl w H → va_D (xA X) w → va_S (xA X) (xs X).heap H locs → lv_has ls q.2.2.1 lv →
    W (xp X) (xl X) (xe X) R (xs X) (xm X) (xa X) (xb X) (xM X) (xc X) H locs cells slots Q (F0 (xm X) pc ls st)
def rmC (d mc ms : Nat) : Room := { frames := d, cells := mc, slots := ms, locals := 100 * d }
def lf (L : List Int32) : Nat → Int32 := fun j => L.getD j 0
theorem TC_w {q : mMI} {X : mCx} {R : Room} {Q : State → Prop} {pc : Nat} {lv : List (Nat × Value)} {st : List Value} {w : va_W} {cells slots : Nat} {w' : va_W} (hw : w = w') (h : TC q X R Q pc lv st w' cells slots) : TC q X R Q pc lv st w cells slots := hw ▸ h
theorem TC_n {q : mMI} {X : mCx} {R : Room} {Q : State → Prop} {pc : Nat} {lv : List (Nat × Value)} {st : List Value} {w : va_W} {cells slots : Nat} {c2 s2 : Nat} (hc : cells = c2) (hs : slots = s2) (h : TC q X R Q pc lv st w c2 s2) : TC q X R Q pc lv st w cells slots := by subst hc; subst hs; exact h
theorem TC_aload_n {q : mMI} {X : mCx} {R : Room} {Q : State → Prop} {pc : Nat} {lv : List (Nat × Value)} {st : List Value} {w : va_W} {cells slots : Nat} {f : Fin 4} {i x : Nat} (k : Nat) (hi : (f : Nat) = i) (hk : lv[k]? = some (i, .ref x)) (hd : decode q.2.1 pc = .ok (.aload_n f, 1)) (h : TC q X R Q (pc + 1) lv (.ref x :: st) w cells slots) : TC q X R Q pc lv st w cells slots := fun hG H locs ls hP hD hS hl => lv_aload_n hG.1 hG.2.1 hd hi (lv_at hl k hk) (h hG H locs ls hP hD hS hl)
theorem TC_iload_n {q : mMI} {X : mCx} {R : Room} {Q : State → Prop} {pc : Nat} {lv : List (Nat × Value)} {st : List Value} {w : va_W} {cells slots : Nat} {f : Fin 4} {i : Nat} {x : Int32} (k : Nat) (hi : (f : Nat) = i) (hk : lv[k]? = some (i, .int x)) (hd : decode q.2.1 pc = .ok (.iload_n f, 1)) (h : TC q X R Q (pc + 1) lv (.int x :: st) w cells slots) : TC q X R Q pc lv st w cells slots := fun hG H locs ls hP hD hS hl => lv_iload_n hG.1 hG.2.1 hd hi (lv_at hl k hk) (h hG H locs ls hP hD hS hl)
theorem TC_istore_n {q : mMI} {X : mCx} {R : Room} {Q : State → Prop} {pc : Nat} {lv : List (Nat × Value)} {st : List Value} {w : va_W} {cells slots : Nat} {lv' : List (Nat × Value)} {f : Fin 4} {i : Nat} {x : Int32} (hi : (f : Nat) = i) (hn : i < q.2.2.1) (hv : (i, Value.int x) :: lv.filter (fun q => !(q.1 == i) && !(q.1 + 1 == i && q.2.category == 2)) = lv') (hd : decode q.2.1 pc = .ok (.istore_n f, 1)) (h : TC q X R Q (pc + 1) lv' st w cells slots) : TC q X R Q pc lv (.int x :: st) w cells slots := fun hG H locs ls hP hD hS hl => lv_istore_n hG.1 hG.2.1 hd hi hl hn hv (fun ls' hl' => h hG H locs ls' hP hD hS hl')
theorem TC_iinc {q : mMI} {X : mCx} {R : Room} {Q : State → Prop} {pc : Nat} {lv : List (Nat × Value)} {st : List Value} {w : va_W} {cells slots : Nat} {lv' : List (Nat × Value)} {i : Nat} {n : Int} {x : Int32} (k : Nat) (z : Int32) (hk : lv[k]? = some (i, .int x)) (hz : x + Int32.ofInt n = z) (hn : i < q.2.2.1) (hv : (i, Value.int z) :: lv.filter (fun q => !(q.1 == i) && !(q.1 + 1 == i && q.2.category == 2)) = lv') (hd : decode q.2.1 pc = .ok (.iinc i n, 3)) (h : TC q X R Q (pc + 3) lv' st w cells slots) : TC q X R Q pc lv st w cells slots := fun hG H locs ls hP hD hS hl => lv_iinc hG.1 hG.2.1 hd hl hk hz hn hv (fun ls' hl' => h hG H locs ls' hP hD hS hl')
theorem TC_dup {q : mMI} {X : mCx} {R : Room} {Q : State → Prop} {pc : Nat} {lv : List (Nat × Value)} {st : List Value} {w : va_W} {cells slots : Nat} {x : Value} (hc : x.category = 1) (hd : decode q.2.1 pc = .ok (.dup, 1)) (h : TC q X R Q (pc + 1) lv (x :: x :: st) w cells slots) : TC q X R Q pc lv (x :: st) w cells slots := fun hG H locs ls hP hD hS hl => lv_dup hG.1 hG.2.1 hd hc (h hG H locs ls hP hD hS hl)
theorem TC_iconst {q : mMI} {X : mCx} {R : Room} {Q : State → Prop} {pc : Nat} {lv : List (Nat × Value)} {st : List Value} {w : va_W} {cells slots : Nat} {n : Int} (z : Int32) (hv : Int32.ofInt n = z) (hd : decode q.2.1 pc = .ok (.iconst n, 1)) (h : TC q X R Q (pc + 1) lv (.int z :: st) w cells slots) : TC q X R Q pc lv st w cells slots := fun hG H locs ls hP hD hS hl => lv_iconst hG.1 hG.2.1 hd hv (h hG H locs ls hP hD hS hl)
theorem TC_bipush {q : mMI} {X : mCx} {R : Room} {Q : State → Prop} {pc : Nat} {lv : List (Nat × Value)} {st : List Value} {w : va_W} {cells slots : Nat} {n : Int} (z : Int32) (hv : (Int8.ofInt n).toInt32 = z) (hd : decode q.2.1 pc = .ok (.bipush n, 2)) (h : TC q X R Q (pc + 2) lv (.int z :: st) w cells slots) : TC q X R Q pc lv st w cells slots := fun hG H locs ls hP hD hS hl => lv_bipush hG.1 hG.2.1 hd hv (h hG H locs ls hP hD hS hl)
theorem TC_sipush {q : mMI} {X : mCx} {R : Room} {Q : State → Prop} {pc : Nat} {lv : List (Nat × Value)} {st : List Value} {w : va_W} {cells slots : Nat} {n : Int} (z : Int32) (hv : (Int16.ofInt n).toInt32 = z) (hd : decode q.2.1 pc = .ok (.sipush n, 3)) (h : TC q X R Q (pc + 3) lv (.int z :: st) w cells slots) : TC q X R Q pc lv st w cells slots := fun hG H locs ls hP hD hS hl => lv_sipush hG.1 hG.2.1 hd hv (h hG H locs ls hP hD hS hl)
theorem TC_goto {q : mMI} {X : mCx} {R : Room} {Q : State → Prop} {pc : Nat} {lv : List (Nat × Value)} {st : List Value} {w : va_W} {cells slots : Nat} {off : Int} (t : Nat) (hd : decode q.2.1 pc = .ok (.goto off, 3)) (htg : (pc : Int) + off = (t : Int)) (h : TC q X R Q t lv st w cells slots) : TC q X R Q pc lv st w cells slots := fun hG H locs ls hP hD hS hl => lv_goto (tgt := t) hG.1 hG.2.1 hd htg (h hG H locs ls hP hD hS hl)
theorem TC_geT {q : mMI} {X : mCx} {R : Room} {Q : State → Prop} {pc : Nat} {lv : List (Nat × Value)} {st : List Value} {w : va_W} {cells slots : Nat} {x y : Int32} {off : Int} (t : Nat) (hc : y ≤ x) (hd : decode q.2.1 pc = .ok (.if_icmp .ge off, 3)) (htg : (pc : Int) + off = (t : Int)) (h : TC q X R Q t lv st w cells slots) : TC q X R Q pc lv (.int y :: .int x :: st) w cells slots := fun hG H locs ls hP hD hS hl => lv_icmp_ge (tgt := t) hG.1 hG.2.1 hd htg (fun _ => (h hG H locs ls hP hD hS hl)) (fun z => absurd hc z)
theorem TC_geF {q : mMI} {X : mCx} {R : Room} {Q : State → Prop} {pc : Nat} {lv : List (Nat × Value)} {st : List Value} {w : va_W} {cells slots : Nat} {x y : Int32} {off : Int} (t : Nat) (hc : ¬ y ≤ x) (hd : decode q.2.1 pc = .ok (.if_icmp .ge off, 3)) (htg : (pc : Int) + off = (t : Int)) (h : TC q X R Q (pc + 3) lv st w cells slots) : TC q X R Q pc lv (.int y :: .int x :: st) w cells slots := fun hG H locs ls hP hD hS hl => lv_icmp_ge (tgt := t) hG.1 hG.2.1 hd htg (fun z => absurd z hc) (fun _ => (h hG H locs ls hP hD hS hl))
theorem lk_obj : Cond.instanceMethod Lib.objectInit ∈ gdL ∧ Cond.code Lib.objectInit ⟨#[0xb1]⟩ 1 none ∈ gdL := ⟨gd_mem 74 (by decide +kernel) (by decide +kernel), gd_mem 75 (by decide +kernel) (by decide +kernel)⟩
theorem TC_obj {q : mMI} {X : mCx} {R : Room} {Q : State → Prop} {pc : Nat} {lv : List (Nat × Value)} {st : List Value} {w : va_W} {cells slots : Nat} {a idx : Nat} (hlk : Cond.methodLink q.1.cls idx Lib.objectInit ∈ gdL) (hf : 1 ≤ R.frames) (hloc : (st.map fun v => v.category).sum + 12 ≤ R.locals) (hd : decode q.2.1 pc = .ok (.invokespecial idx, 3)) (h : TC q X R Q (pc + 3) lv st w cells slots) : TC q X R Q pc lv (.ref a :: st) w cells slots := fun hG H locs ls hP hD hS hl => by
  have hts := hG.2.2.2.2.2.2.1
  refine W.objInit hG.1 hG.2.1 hG.2.2.2.2.2.1 (hts _ hlk) (hts _ lk_obj.1) (hts _ lk_obj.2) rfl (by rw [hG.2.2.1]; exact hl.1) rfl hd hf (by show 2 * 0 + _ + 12 ≤ _; omega) ?_
  exact W.eq (g2 := F0 (xm X) (pc + 3) ls st) rfl (h hG H locs ls hP hD hS hl)
theorem TC_put {q : mMI} {X : mCx} {R : Room} {Q : State → Prop} {pc : Nat} {lv : List (Nat × Value)} {st : List Value} {w : va_W} {cells slots : Nat} {a c k i index N : Nat} {C ref nm ds : String} {TT : u_T} {ty : FieldType} {v : Value} {fs : List Value} {w' : va_W} (hc : vwCl[c]? = some (C, TT, N)) (hk : k < N) (hT : TT k = (ref, nm, ds, false)) (hw : Cond.fieldLink q.1.cls index ref nm ds ∈ gdL) (hty : parseFieldDescriptor ds = some ty) (hn : narrow ty v = v) (hfit : fits ty v = true) (he : w[i]? = some (a, .inr (c, fs))) (hl0 : k < fs.length) (hw' : w.set i (a, .inr (c, fs.set k v)) = w') (hd : decode q.2.1 pc = .ok (.putfield index, 3)) (h : TC q X R Q (pc + 3) lv st w' cells slots) : TC q X R Q pc lv (v :: .ref a :: st) w cells slots := fun hG H locs ls hP hD hS hl => by
  have e : (TT k).2.1 = nm ∧ (TT k).2.2.1 = ds ∧ (TT k).1 = ref ∧ (TT k).2.2.2 = false := by rw [hT]; exact ⟨rfl, rfl, rfl, rfl⟩
  obtain ⟨ty0, t1, t2⟩ := ty_G hc
  subst hw'
  exact va_put (ref := ref) (ty := ty) hG.1 hG.2.1 hG.2.2.2.2.2.2.1 (inG hc) ty0 t1 t2 hG.2.2.2.2.2.1 hG.2.2.2.2.2.2.2.1 hP hD hS i he hc k hk (by rw [e.1, e.2.1]; exact hG.2.2.2.2.2.2.1 _ hw) (fun y hy => by rw [e.2.2.1] at hy; exact hy) e.2.2.2 (by rw [e.2.1]; exact hty) hn hfit hl0 hd (fun H1 locs1 hP1 hD1 hS1 => h hG H1 locs1 ls hP1 hD1 hS1 hl)
theorem TC_putF {q : mMI} {X : mCx} {R : Room} {Q : State → Prop} {pc : Nat} {lv : List (Nat × Value)} {st : List Value} {w : va_W} {cells slots : Nat} {a c k i index N : Nat} {C ref nm ds : String} {TT : u_T} {ty : FieldType} {v : Value} {fs : List Value} {w' : va_W} (hc : vwCl[c]? = some (C, TT, N)) (hk : k < N) (hT : TT k = (ref, nm, ds, true)) (hown : ref = q.1.cls) (hw : Cond.fieldLink q.1.cls index ref nm ds ∈ gdL) (hty : parseFieldDescriptor ds = some ty) (hn : narrow ty v = v) (hfit : fits ty v = true) (he : w[i]? = some (a, .inr (c, fs))) (hl0 : k < fs.length) (hw' : w.set i (a, .inr (c, fs.set k v)) = w') (hd : decode q.2.1 pc = .ok (.putfield index, 3)) (h : TC q X R Q (pc + 3) lv st w' cells slots) : TC q X R Q pc lv (v :: .ref a :: st) w cells slots := fun hG H locs ls hP hD hS hl => by
  have e : (TT k).2.1 = nm ∧ (TT k).2.2.1 = ds ∧ (TT k).1 = ref ∧ (TT k).2.2.2 = true := by rw [hT]; exact ⟨rfl, rfl, rfl, rfl⟩
  obtain ⟨ty0, t1, t2⟩ := ty_G hc
  subst hw'
  exact va_putF (ref := ref) (ty := ty) hG.1 hG.2.1 hG.2.2.2.2.2.2.1 (inG hc) ty0 t1 t2 hG.2.2.2.2.2.1 hG.2.2.2.2.2.2.2.1 hP hD hS i he hc k hk (by rw [e.1, e.2.1]; exact hG.2.2.2.2.2.2.1 _ hw) (fun y hy => by rw [e.2.2.1] at hy; exact hy) e.2.2.2 hG.2.2.2.2.2.2.2.2.2.1 (e.2.2.1.trans hown) (by rw [e.2.1]; exact hty) hn hfit hl0 hd (fun H1 locs1 hP1 hD1 hS1 => h hG H1 locs1 ls hP1 hD1 hS1 hl)
theorem TC_new {q : mMI} {X : mCx} {R : Room} {Q : State → Prop} {pc : Nat} {lv : List (Nat × Value)} {st : List Value} {w : va_W} {cells slots : Nat} {c index N : Nat} {C : String} {TT : u_T} {fs : List Value} (hc : vwCl[c]? = some (C, TT, N)) (hfs : ∀ ty0 : Nat → FieldType, (∀ k, k < N → parseFieldDescriptor (TT k).2.2.1 = some (ty0 k)) → ∀ j, j < N → defaultValue (ty0 j) = vp_V fs j) (hw1 : Cond.classLink q.1.cls index C ∈ gdL) (hw2 : Cond.instantiable C N ∈ gdL) (hw3 : Cond.initialized C ∈ gdL) (hcl : cells + 1 ≤ R.cells) (hsl : slots + N ≤ R.slots) (hd : decode q.2.1 pc = .ok (.new index, 3)) (h : ∀ z : Nat, TC q X R Q (pc + 3) lv (.ref z :: st) (w ++ [(z, .inr (c, fs))]) (cells + 1) (slots + N)) : TC q X R Q pc lv st w cells slots := fun hG H locs ls hP hD hS hl => by
  have hts := hG.2.2.2.2.2.2.1
  obtain ⟨ty0, t1, t2⟩ := ty_G hc
  exact va_new hG.1 hG.2.1 hts (inG hc) ty0 t1 hG.2.2.2.2.2.1 (hts _ hw1) (hts _ hw2) (hts _ hw3) hG.2.2.2.2.2.2.2.1 hP hD hS hG.2.2.2.2.2.2.2.2.1 hc (hfs ty0 t1) hcl hsl hd (fun z H1 hP1 hD1 hS1 => h z hG H1 locs ls hP1 hD1 hS1 hl)
theorem acI : Cond.arrayClass (newarray.typeOf .int) ∈ gdL := gd_mem 116 (by decide +kernel) (by decide +kernel)
theorem TC_naI {q : mMI} {X : mCx} {R : Room} {Q : State → Prop} {pc : Nat} {lv : List (Nat × Value)} {st : List Value} {w : va_W} {cells slots : Nat} {n : Int32} (N' : Nat) (hn : ¬ n < 0) (hN : n.toNatClampNeg = N') (hby : N' * componentBytes .int ≤ 536870912) (hcl : cells + 1 ≤ R.cells) (hsl : slots + N' ≤ R.slots) (hd : decode q.2.1 pc = .ok (.newarray .int, 2)) (h : ∀ z : Nat, TC q X R Q (pc + 2) lv (.ref z :: st) (w ++ [(z, .inl (xcA X 10, N', .inl (lf [])))]) (cells + 1) (slots + N')) : TC q X R Q pc lv (.int n :: st) w cells slots := fun hG H locs ls hP hD hS hl => by
  have hts := hG.2.2.2.2.2.2.1
  have hK := hG.2.2.2.2.2.2.2.1
  refine va_newa (ty := .int) (a0 := (N', .inl (lf []))) hG.1 hG.2.1 (hts _ acI) rfl hK hP hD hS hG.2.2.2.2.2.2.2.2.1 (fun _ => rfl) hn hN hby hcl hsl hd (fun z cA H1 hK1 hP1 hD1 hS1 => ?_)
  have e1 : (xs X).vm.findClass ("[" ++ (.int : FieldType).toString) = some cA := (hK1.2 7 (cA, .int) rfl).2
  have e2 : (xs X).vm.findClass ("[" ++ (.int : FieldType).toString) = some (xcA X 10) := (hK.2 1 (xcA X 10, .int) rfl).2
  have e3 : cA = xcA X 10 := Option.some.inj (e1.symm.trans e2)
  subst e3
  exact h z hG H1 locs ls hP1 hD1 hS1 hl
theorem acJ : Cond.arrayClass (newarray.typeOf .long) ∈ gdL := gd_mem 246 (by decide +kernel) (by decide +kernel)
theorem TC_naJ {q : mMI} {X : mCx} {R : Room} {Q : State → Prop} {pc : Nat} {lv : List (Nat × Value)} {st : List Value} {w : va_W} {cells slots : Nat} {n : Int32} (N' : Nat) (hn : ¬ n < 0) (hN : n.toNatClampNeg = N') (hby : N' * componentBytes .long ≤ 536870912) (hcl : cells + 1 ≤ R.cells) (hsl : slots + N' ≤ R.slots) (hd : decode q.2.1 pc = .ok (.newarray .long, 2)) (h : ∀ z : Nat, TC q X R Q (pc + 2) lv (.ref z :: st) (w ++ [(z, .inl (xcA X 11, N', .inr (.inl (fun _ => 0))))]) (cells + 1) (slots + N')) : TC q X R Q pc lv (.int n :: st) w cells slots := fun hG H locs ls hP hD hS hl => by
  have hts := hG.2.2.2.2.2.2.1
  have hK := hG.2.2.2.2.2.2.2.1
  refine va_newa (ty := .long) (a0 := (N', .inr (.inl (fun _ => 0)))) hG.1 hG.2.1 (hts _ acJ) rfl hK hP hD hS hG.2.2.2.2.2.2.2.2.1 (fun _ => rfl) hn hN hby hcl hsl hd (fun z cA H1 hK1 hP1 hD1 hS1 => ?_)
  have e1 : (xs X).vm.findClass ("[" ++ (.long : FieldType).toString) = some cA := (hK1.2 7 (cA, .long) rfl).2
  have e2 : (xs X).vm.findClass ("[" ++ (.long : FieldType).toString) = some (xcA X 11) := (hK.2 2 (xcA X 11, .long) rfl).2
  have e3 : cA = xcA X 11 := Option.some.inj (e1.symm.trans e2)
  subst e3
  exact h z hG H1 locs ls hP1 hD1 hS1 hl
theorem acB : Cond.arrayClass (newarray.typeOf .byte) ∈ gdL := gd_mem 115 (by decide +kernel) (by decide +kernel)
theorem TC_naB {q : mMI} {X : mCx} {R : Room} {Q : State → Prop} {pc : Nat} {lv : List (Nat × Value)} {st : List Value} {w : va_W} {cells slots : Nat} {n : Int32} (N' : Nat) (hn : ¬ n < 0) (hN : n.toNatClampNeg = N') (hby : N' * componentBytes .byte ≤ 536870912) (hcl : cells + 1 ≤ R.cells) (hsl : slots + N' ≤ R.slots) (hd : decode q.2.1 pc = .ok (.newarray .byte, 2)) (h : ∀ z : Nat, TC q X R Q (pc + 2) lv (.ref z :: st) (w ++ [(z, .inl (xcA X 9, N', .inl (lf [])))]) (cells + 1) (slots + N')) : TC q X R Q pc lv (.int n :: st) w cells slots := fun hG H locs ls hP hD hS hl => by
  have hts := hG.2.2.2.2.2.2.1
  have hK := hG.2.2.2.2.2.2.2.1
  refine va_newa (ty := .byte) (a0 := (N', .inl (lf []))) hG.1 hG.2.1 (hts _ acB) rfl hK hP hD hS hG.2.2.2.2.2.2.2.2.1 (fun _ => rfl) hn hN hby hcl hsl hd (fun z cA H1 hK1 hP1 hD1 hS1 => ?_)
  have e1 : (xs X).vm.findClass ("[" ++ (.byte : FieldType).toString) = some cA := (hK1.2 7 (cA, .byte) rfl).2
  have e2 : (xs X).vm.findClass ("[" ++ (.byte : FieldType).toString) = some (xcA X 9) := (hK.2 0 (xcA X 9, .byte) rfl).2
  have e3 : cA = xcA X 9 := Option.some.inj (e1.symm.trans e2)
  subst e3
  exact h z hG H1 locs ls hP1 hD1 hS1 hl
theorem acZ : Cond.arrayClass (newarray.typeOf .boolean) ∈ gdL := gd_mem 204 (by decide +kernel) (by decide +kernel)
theorem TC_naZ {q : mMI} {X : mCx} {R : Room} {Q : State → Prop} {pc : Nat} {lv : List (Nat × Value)} {st : List Value} {w : va_W} {cells slots : Nat} {n : Int32} (N' : Nat) (hn : ¬ n < 0) (hN : n.toNatClampNeg = N') (hby : N' * componentBytes .boolean ≤ 536870912) (hcl : cells + 1 ≤ R.cells) (hsl : slots + N' ≤ R.slots) (hd : decode q.2.1 pc = .ok (.newarray .boolean, 2)) (h : ∀ z : Nat, TC q X R Q (pc + 2) lv (.ref z :: st) (w ++ [(z, .inl (xcA X 12, N', .inl (lf [])))]) (cells + 1) (slots + N')) : TC q X R Q pc lv (.int n :: st) w cells slots := fun hG H locs ls hP hD hS hl => by
  have hts := hG.2.2.2.2.2.2.1
  have hK := hG.2.2.2.2.2.2.2.1
  refine va_newa (ty := .boolean) (a0 := (N', .inl (lf []))) hG.1 hG.2.1 (hts _ acZ) rfl hK hP hD hS hG.2.2.2.2.2.2.2.2.1 (fun _ => rfl) hn hN hby hcl hsl hd (fun z cA H1 hK1 hP1 hD1 hS1 => ?_)
  have e1 : (xs X).vm.findClass ("[" ++ (.boolean : FieldType).toString) = some cA := (hK1.2 7 (cA, .boolean) rfl).2
  have e2 : (xs X).vm.findClass ("[" ++ (.boolean : FieldType).toString) = some (xcA X 12) := (hK.2 3 (xcA X 12, .boolean) rfl).2
  have e3 : cA = xcA X 12 := Option.some.inj (e1.symm.trans e2)
  subst e3
  exact h z hG H1 locs ls hP1 hD1 hS1 hl
theorem TC_nqH {q : mMI} {X : mCx} {R : Room} {Q : State → Prop} {pc : Nat} {lv : List (Nat × Value)} {st : List Value} {w : va_W} {cells slots : Nat} {n : Int32} {index : Nat} (N' : Nat) (hn : ¬ n < 0) (hN : n.toNatClampNeg = N') (hby : N' * 4 ≤ 536870912) (hw1 : Cond.classLink q.1.cls index RX4 ∈ gdL) (hcl : cells + 1 ≤ R.cells) (hsl : slots + N' ≤ R.slots) (hd : decode q.2.1 pc = .ok (.anewarray index, 3)) (h : ∀ z : Nat, TC q X R Q (pc + 3) lv (.ref z :: st) (w ++ [(z, .inl (xcA X 13, N', .inr (.inr (.inr (.inr (fun _ => none))))))]) (cells + 1) (slots + N')) : TC q X R Q pc lv (.int n :: st) w cells slots := fun hG H locs ls hP hD hS hl => by
  have hts := hG.2.2.2.2.2.2.1
  have hK := hG.2.2.2.2.2.2.2.1
  refine va_newq hG.1 hG.2.1 hG.2.2.2.2.2.1 (hts _ hw1) hG.2.2.2.2.2.2.2.2.2.2.1 hK hP hD hS hG.2.2.2.2.2.2.2.2.1 hn hN hby hcl hsl hd (fun z cA H1 hK1 hP1 hD1 hS1 => ?_)
  obtain ⟨_, _, _, _, _, e1⟩ := (hK1.2 7 (cA, .object RX4) rfl).2
  obtain ⟨_, _, _, _, _, e2⟩ := (hK.2 4 (xcA X 13, .object RX4) rfl).2
  have e3 : cA = xcA X 13 := Option.some.inj (e1.symm.trans e2)
  subst e3
  exact h z hG H1 locs ls hP1 hD1 hS1 hl
theorem TC_nqS {q : mMI} {X : mCx} {R : Room} {Q : State → Prop} {pc : Nat} {lv : List (Nat × Value)} {st : List Value} {w : va_W} {cells slots : Nat} {n : Int32} {index : Nat} (N' : Nat) (hn : ¬ n < 0) (hN : n.toNatClampNeg = N') (hby : N' * 4 ≤ 536870912) (hw1 : Cond.classLink q.1.cls index RX5 ∈ gdL) (hcl : cells + 1 ≤ R.cells) (hsl : slots + N' ≤ R.slots) (hd : decode q.2.1 pc = .ok (.anewarray index, 3)) (h : ∀ z : Nat, TC q X R Q (pc + 3) lv (.ref z :: st) (w ++ [(z, .inl (xcA X 14, N', .inr (.inr (.inr (.inr (fun _ => none))))))]) (cells + 1) (slots + N')) : TC q X R Q pc lv (.int n :: st) w cells slots := fun hG H locs ls hP hD hS hl => by
  have hts := hG.2.2.2.2.2.2.1
  have hK := hG.2.2.2.2.2.2.2.1
  refine va_newq hG.1 hG.2.1 hG.2.2.2.2.2.1 (hts _ hw1) hG.2.2.2.2.2.2.2.2.2.2.2.1 hK hP hD hS hG.2.2.2.2.2.2.2.2.1 hn hN hby hcl hsl hd (fun z cA H1 hK1 hP1 hD1 hS1 => ?_)
  obtain ⟨_, _, _, _, _, e1⟩ := (hK1.2 7 (cA, .object RX5) rfl).2
  obtain ⟨_, _, _, _, _, e2⟩ := (hK.2 5 (xcA X 14, .object RX5) rfl).2
  have e3 : cA = xcA X 14 := Option.some.inj (e1.symm.trans e2)
  subst e3
  exact h z hG H1 locs ls hP1 hD1 hS1 hl
def gq (L : List Nat) : Nat → Option Nat := fun i => L[i]?
theorem gq_mna (r : Nat → Nat) (n : Nat) : (fun i => if i < n then some (r i) else none) = gq ((List.range n).map r) := by
  funext i
  unfold gq
  rw [List.getElem?_map]
  by_cases h : i < n
  · rw [if_pos h, List.getElem?_range h]; rfl
  · rw [if_neg h, List.getElem?_eq_none (by rw [List.length_range]; omega)]; rfl
theorem TC_mna {q : mMI} {X : mCx} {R : Room} {Q : State → Prop} {pc : Nat} {lv : List (Nat × Value)} {st : List Value} {w : va_W} {cells slots : Nat} {n k : Int32} {index : Nat} (N' K' : Nat) (hn : ¬ n < 0) (hk : ¬ k < 0) (hN : n.toNatClampNeg = N') (hM : k.toNatClampNeg = K') (hb1 : N' * 4 ≤ 536870912) (hb2 : K' * componentBytes .int ≤ 536870912) (hb3 : K' ≤ 536870912) (hw1 : Cond.classLink q.1.cls index "[[I" ∈ gdL) (hcl : cells + (1 + N') ≤ R.cells) (hsl : slots + (N' + N' * K') ≤ R.slots) (hd : decode q.2.1 pc = .ok (.multianewarray index 2, 4)) (h : ∀ (z : Nat) (r : Nat → Nat), TC q X R Q (pc + 4) lv (.ref z :: st) ((w ++ [(z, .inl (xcA X 15, N', .inr (.inr (.inr (.inr (gq ((List.range N').map r)))))))]) ++ (List.range N').map (fun i => (r i, .inl (xcA X 10, K', .inl (lf []))))) (cells + 1 + N') (slots + N' + N' * K')) : TC q X R Q pc lv (.int k :: .int n :: st) w cells slots := fun hG H locs ls hP hD hS hl => by
  have hts := hG.2.2.2.2.2.2.1
  have hK := hG.2.2.2.2.2.2.2.1
  have e2 : (xs X).vm.findClass ("[" ++ (FieldType.int).toString) = some (xcA X 10) := (hK.2 1 (xcA X 10, .int) rfl).2
  have hP0 : va_P (xD X) vwCl (w ++ va_pl [] (fun _ => .inr (0, []))) H := by rw [show va_pl [] (fun _ => (.inr (0, []) : va_E)) = [] from rfl, List.append_nil]; exact hP
  have hD0 : va_D (xA X) (w ++ va_pl [] (fun _ => .inr (0, []))) := by rw [show va_pl [] (fun _ => (.inr (0, []) : va_E)) = [] from rfl, List.append_nil]; exact hD
  refine va_mna (ty := .int) (cy := xcA X 10) (z := (K', .inl (lf []))) hG.1 hG.2.1 hG.2.2.2.2.2.1 (hts _ hw1) hG.2.2.2.2.2.2.2.2.2.2.2.2.1 (hts _ acI) e2 hK hP0 hD0 hS hG.2.2.2.2.2.2.2.2.1 hn hk hN hM hb1 hb2 hb3 rfl rfl hcl hsl (fun c => ?_) hd (fun z r cA H1 hr hrL hK1 hP1 hD1 hS1 => ?_)
  · show ({ cls := c, slots := Array.replicate K' (.int 0), vm := .none } : Cell) = arrV c K' (fun _ => .int 0)
    rw [arrV_new]
  · have e1 : (xs X).vm.findClass ("[" ++ (FieldType.array .int).toString) = some cA := (hK1.2 7 (cA, .array .int) rfl).2
    have e3 : cA = xcA X 15 := Option.some.inj (e1.symm.trans (hK.2 6 (xcA X 15, .array .int) rfl).2)
    subst e3
    have ew : va_pl (([] : List Nat) ++ (List.range N').map r) (vr_up (fun _ => .inr (0, [])) ((List.range N').map r) (.inl (xcA X 10, K', .inl (lf [])))) = (List.range N').map (fun i => (r i, .inl (xcA X 10, K', .inl (lf [])))) := by
      unfold va_pl
      rw [List.nil_append, List.map_map]
      apply List.map_congr_left
      intro i hi
      show (r i, vr_up _ _ _ (r i)) = _
      rw [vr_up_in (List.mem_map.mpr ⟨i, hi, rfl⟩)]
    rw [ew, gq_mna] at hP1 hD1
    exact h z r hG H1 locs ls hP1 hD1 hS1 hl
theorem upd_app (L : List Int32) (x : Int32) : upd (lf L) L.length x = lf (L ++ [x]) := by
  funext j
  unfold upd lf
  by_cases h : j = L.length
  · subst h
    simp
  · rw [if_neg h]
    rcases Nat.lt_or_ge j L.length with q | q
    · simp [List.getD, List.getElem?_append_left q]
    · simp [List.getD, List.getElem?_eq_none q, List.getElem?_eq_none (show (L ++ [x]).length ≤ j by simp; omega)]
theorem TC_iast {q : mMI} {X : mCx} {R : Room} {Q : State → Prop} {pc : Nat} {lv : List (Nat × Value)} {st : List Value} {w : va_W} {cells slots : Nat} {a i n : Nat} {k x : Int32} {L : List Int32} {w' : va_W} (he : w[i]? = some (a, .inl (xcA X 10, n, .inl (lf L)))) (hk : k.toNatClampNeg = L.length) (hin : vp_in k n) (hw' : w.set i (a, .inl (xcA X 10, n, .inl (lf (L ++ [x])))) = w') (hd : decode q.2.1 pc = .ok (.iastore, 1)) (h : TC q X R Q (pc + 1) lv st w' cells slots) : TC q X R Q pc lv (.int x :: .int k :: .ref a :: st) w cells slots := fun hG H locs ls hP hD hS hl => by
  subst hw'
  refine va_iast hG.1 hG.2.1 hG.2.2.2.2.2.2.2.1 hP hD hS i 1 he rfl hin hd (fun H1 locs1 hP1 hD1 hS1 => ?_)
  rw [hk, upd_app] at hP1 hD1
  exact h hG H1 locs1 ls hP1 hD1 hS1 hl
theorem TC_getR {q : mMI} {X : mCx} {R : Room} {Q : State → Prop} {pc : Nat} {lv : List (Nat × Value)} {st : List Value} {w : va_W} {cells slots : Nat} {a c k i index N : Nat} {C ref nm ds : String} {TT : u_T} {fn : Bool} {v : Value} {fs : List Value} (hc : vwCl[c]? = some (C, TT, N)) (hk : k < N) (hT : TT k = (ref, nm, ds, fn)) (hw : Cond.fieldLink q.1.cls index ref nm ds ∈ gdL) (he : w[i]? = some (a, .inr (c, fs))) (hv : fs[k]? = some v) (hd : decode q.2.1 pc = .ok (.getfield index, 3)) (h : TC q X R Q (pc + 3) lv (v :: st) w cells slots) : TC q X R Q pc lv (.ref a :: st) w cells slots := fun hG H locs ls hP hD hS hl => by
  have e : (TT k).2.1 = nm ∧ (TT k).2.2.1 = ds ∧ (TT k).1 = ref := by rw [hT]; exact ⟨rfl, rfl, rfl⟩
  exact va_get (ref := ref) hG.1 hG.2.1 hG.2.2.2.2.2.2.1 (inG hc) hG.2.2.2.2.2.1 hG.2.2.2.2.2.2.2.1 hP i he hc k hk (by rw [e.1, e.2.1]; exact hG.2.2.2.2.2.2.1 _ hw) (fun y hy => by rw [e.2.2] at hy; exact hy) hv hd (h hG H locs ls hP hD hS hl)
theorem TC_aast {q : mMI} {X : mCx} {R : Room} {Q : State → Prop} {pc : Nat} {lv : List (Nat × Value)} {st : List Value} {w : va_W} {cells slots : Nat} {a i j c n v : Nat} {k : Int32} {r : vw_C} {f : Nat → Option Nat} {fs : List Value} {w' : va_W} (ti : Nat) (co : Nat) (ht : (tysOf (xcA X))[ti]? = some (xcA X co, .object r.1)) (he : w[i]? = some (a, .inl (xcA X co, n, .inr (.inr (.inr (.inr f)))))) (hv : w[j]? = some (v, .inr (c, fs))) (hc : vwCl[c]? = some r) (hin : vp_in k n) (hw' : w.set i (a, .inl (xcA X co, n, .inr (.inr (.inr (.inr (va_up f k.toNatClampNeg (some v))))))) = w') (hd : decode q.2.1 pc = .ok (.aastore, 1)) (h : TC q X R Q (pc + 1) lv st w' cells slots) : TC q X R Q pc lv (.ref v :: .int k :: .ref a :: st) w cells slots := fun hG H locs ls hP hD hS hl => by
  subst hw'
  exact va_astq hG.1 hG.2.1 hG.2.2.2.2.2.2.2.1 hP hD hS i ti j c he ht hv hc hin hd (fun H1 locs1 hP1 hD1 hS1 => h hG H1 locs1 ls hP1 hD1 hS1 hl)
/-- the contract of a constructor: the object's own cell, then the cells that it made, at addresses a 0, a 1 .. -/
def Qn (D : va_G) (A : Nat → Prop) (Wc : (Nat → Nat) → va_W) : Array Value → State → Outcome → State → Prop := fun _ st oc t => oc = .returned none ∧ (∃ a : Nat → Nat, va_P D vwCl (Wc a) t.heap ∧ va_D A (Wc a)) ∧ va_F A st t
def PreC (D : va_G) (cA : Nat → ClassId) (w : va_W) (sz : Nat) (U : State) : Prop := U.heap.size = sz ∧ va_P D vwCl w U.heap ∧ va_K D vwCl (tysOf cA) U ∧ NC U
def CN (l : Launch) (q : mMI) (mc ms c : Nat) (fs0 : List Value) (Wc : (Nat → ClassId) → Nat → (Nat → Nat) → va_W) : Prop :=
  ∀ (D : va_G) (cA : Nat → ClassId) (b sz : Nat), Met l q.1 (wsM q) (rmC q.2.2.2.2 mc ms) (va_Pc [.ref b] (PreC D cA [(b, .inr (c, fs0))] sz)) (Qn D (va_A [(b, .inr (c, fs0))] sz) (Wc cA b)) mc ms (va_A [(b, .inr (c, fs0))] sz)
theorem one_D {b sz : Nat} {E : va_E} : va_D (va_A [(b, E)] sz) [(b, E)] := by
  refine ⟨fun i j x y hi hj _ => ?_, fun k x hx => va_A.in hx⟩
  have h1 := (List.getElem?_eq_some_iff.mp hi).1
  have h2 := (List.getElem?_eq_some_iff.mp hj).1
  simp at h1 h2
  omega
theorem CN_of {l : Launch} {q : mMI} {mc ms c : Nat} {fs0 : List Value} {Wc : (Nat → ClassId) → Nat → (Nat → Nat) → va_W} (hpl : plainName q.1.cls = true) (hnm : q.1.name = "<init>") (hln : 1 ≤ q.2.2.1) (h : ∀ (X : mCx) (b : Nat), xl X = l → TC q X (rmC q.2.2.2.2 mc ms) (MQ (xb X) (Qn (xD X) (xA X) (Wc (xcA X) b)) (xa X) (xs X) mc ms (xA X)) 0 [(0, .ref b)] [] [(b, .inr (c, fs0))] 0 0) : CN l q mc ms c fs0 Wc := by
  intro D cA b sz
  refine Met.ofW (cc := q.2.1) (maxL := q.2.2.1) (ret := q.2.2.2.1) hpl rfl ?_
  intro p e s m args below meth c0 s₁ B hml hv
  obtain ⟨rfl, hsz, hP, hK, hN⟩ := hv
  subst hsz
  have hl := lv_entry ([.ref b]) (n := q.2.2.1) hln
  rw [lg_entry_eq]
  exact h (p, l, e, s, m, ([.ref b] : List Value).toArray, below, meth, c0, (fun _ => 0), cA, D, va_A [(b, .inr (c, fs0))] s.heap.size) b rfl ⟨B.exec, B.bytes, hml, B.returns, B.notSynchronized, findClass_of_methodNamed B.named, fun w hw => atoms_spec (ws := wsM q) B.pre w (List.mem_cons_of_mem _ hw), hK, fun z hz => Or.inr hz, by rw [(name_of_methodNamed B.named B.method).1]; exact hnm, hN⟩ s.heap [] _ hP one_D va_S.rf hl
theorem TC_ret {q : mMI} {X : mCx} {R : Room} {pc : Nat} {lv : List (Nat × Value)} {w : va_W} {cells slots : Nat} {Wc : (Nat → Nat) → va_W} (a : Nat → Nat) (is : List Nat) (hr : q.2.2.2.1 = none) (hnd : va_nd is = true) (hs : is.map (fun i => w[i]?) = (Wc a).map some) (hs2 : is.filterMap (fun i => w[i]?) = Wc a) (hd : decode q.2.1 pc = .ok (.return_, 1)) : TC q X R (MQ (xb X) (Qn (xD X) (xA X) Wc) (xa X) (xs X) cells slots (xA X)) pc lv [] w cells slots := fun hG H locs ls hP hD hS hl => by
  exact W.vret hG.1 hG.2.1 (hG.2.2.2.1.trans hr) (fun t ht _ => ⟨rfl, ⟨a, by rw [ht]; exact hP.sub is hs2, hD.sub is hnd hs⟩, hS.F ht⟩) hS.2.2 hd (hlocks := hG.2.2.2.2.1)
theorem nd_of : ∀ (l : List Nat), l.Nodup → va_nd l = true
  | [], _ => rfl
  | a :: l, h => by
    rw [List.nodup_cons] at h
    unfold va_nd
    rw [nd_of l h.2]
    simp [h.1]
theorem app_at {w0 : va_W} {x : Nat × va_E} : (List.range w0.length).map (fun i => (w0 ++ [x])[i]?) = w0.map some := by
  apply List.ext_getElem?
  intro j
  rw [List.getElem?_map, List.getElem?_map]
  by_cases h : j < w0.length
  · rw [List.getElem?_range h]
    simp [List.getElem?_append_left h, List.getElem?_eq_getElem h]
  · rw [List.getElem?_eq_none (by rw [List.length_range]; omega), List.getElem?_eq_none (by omega)]
    rfl
theorem app_C {w0 : va_W} {x : Nat × va_E} : [w0.length].map (fun i => (w0 ++ [x])[i]?) = [x].map some := by simp
theorem blindC {av : List Value} {cA : Nat → ClassId} {D : va_G} {w : va_W} {sz : Nat} : FrameBlind (va_Pc av (PreC D cA w sz)) := fun a U g mk h => by
  obtain ⟨h0, h1, h2, h3, h4⟩ := h
  exact ⟨h0, h1, h2, va_K.moved (u := U) (U := U.calling g mk a) (Vm.Alike.refl U.vm) h3, NC.same (s := U) rfl h4⟩
theorem TC_callN {q q2 : mMI} {X : mCx} {R : Room} {Q : State → Prop} {pc : Nat} {lv : List (Nat × Value)} {cells slots mc ms c b index : Nat} {fs0 : List Value} {Wc : (Nat → ClassId) → Nat → (Nat → Nat) → va_W} {w : va_W} (w0 : va_W) (rest : List Value) (hw : w = w0 ++ [(b, .inr (c, fs0))]) (hm : mok q2 0) (hi : Cond.instanceMethod q2.1 ∈ gdL) (hnm : q2.1.name = "<init>") (hret : q2.2.2.2.1 = none) (hlk : (q.1.cls, index, q2.1) ∈ nestL) (hfr : q2.2.2.2.2 + 1 ≤ R.frames) (hlo : 100 * q2.2.2.2.2 + 79 ≤ R.locals) (hcat : (rest.map fun v => v.category).sum ≤ 8) (hcl : cells + mc ≤ R.cells) (hsl : slots + ms ≤ R.slots) (hd : decode q.2.1 pc = .ok (.invokespecial index, 3)) (hC : CN (xl X) q2 mc ms c fs0 Wc) (h : ∀ a : Nat → Nat, TC q X R Q (pc + 3) lv rest (w0 ++ Wc (xcA X) b a) (cells + mc) (slots + ms)) : TC q X R Q pc lv (.ref b :: rest) w cells slots := fun hG H locs ls hP hD hS hl => by
  subst hw
  have hts := hG.2.2.2.2.2.2.1
  have hK := hG.2.2.2.2.2.2.2.1
  have hM := hC (xD X) (xcA X) b H.size
  have hb1 : va_P (xD X) vwCl [(b, .inr (c, fs0))] H := hP.sub [w0.length] (by simp)
  have hFc := va_free (wc := [(b, .inr (c, fs0))]) hD hS hG.2.2.2.2.2.2.2.2.1 [w0.length] app_C
  have hcn := va_cnB (own := q.1.cls) (host := "RankStairs") (index := index) (rm := rmC q2.2.2.2.2 mc ms) (R := R) (mc := mc) (ms := ms) 0 hts (gdM hm.2.2) rfl rfl rfl (hG.2.2.2.2.2.2.2.2.2.2.2.2.2 _ hlk) (hts _ hm.2.1) hm.1.1 ⟨hfr, by
    have := hm.1.2
    show 8 + (q2.2.2.1 + 11) + 100 * q2.2.2.2.2 ≤ R.locals
    omega⟩
  rw [hret] at hcn
  have hr := va_runIN (As := []) (rest := rest) (g := F0 (xm X) pc ls (.ref b :: rest)) (locs := locs) (cells := cells) (slots := slots) (below := xb X) (e := xe X) (meth := xM X) (H := H) ⟨hG.1, hG.2.1, hG.2.2.1, hG.2.2.2.2.2.1, hts⟩ hM ⟨hcn, hnm, hts _ hi⟩ ⟨blindC, fun U hU hW => ⟨rfl, by rw [hU], by rw [hU]; exact hb1, va_K.moved hW.alike hK, NC.warm hW hG.2.2.2.2.2.2.2.2.2.2⟩⟩ rfl rfl hl.1 rfl (lv_room hcat) hd ⟨hcl, hsl⟩
  intro T hT Xs
  obtain ⟨v, st₀, t, T', L, h0, X', hL, e1, e2, ⟨hv, ⟨a, hPt, hDt⟩, hz, hk⟩, st⟩ := hr T hT Xs
  have hv' : v = none := by injection hv
  subst hv'
  rw [h0] at hz hk
  have hk' : ∀ z : Nat, z < H.size → ¬ va_A [(b, .inr (c, fs0))] H.size z → T'.heap[z]? = H[z]? := fun z h1 h2 => by rw [e1]; exact hk z h1 h2
  obtain ⟨hP2, hD2⟩ := va_join (wr := w0) (w1 := Wc (xcA X) b a) hP hD [w0.length] (List.range w0.length) app_C app_at (nd_of _ List.nodup_range) (fun i hi => by simp at hi ⊢; omega) hk' hFc (by rw [e1]; exact hPt) hDt
  obtain ⟨t2, a1, b1⟩ := h a hG T'.heap (locs ++ L) ls hP2 hD2 ⟨Nat.le_trans hS.1 (by rw [e1]; exact hz), fun z h1 h2 => by rw [hk' z (Nat.lt_of_lt_of_le h1 hS.1) (fun y => h2 (hFc z y))]; exact hS.2.1 z h1 h2, fun z hq => by
      rcases List.mem_append.mp hq with h | h
      · exact hS.2.2 z h
      · exact hFc _ (hL z h)⟩ hl T' rfl X'
  exact ⟨t2, st t2 a1, b1⟩
