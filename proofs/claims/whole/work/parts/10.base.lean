/-! THE ABSTRACT MACHINE. Cells have numbers (0 .. 99): 0, 8, 16, 24, 32 the Houses now, trial, image 0, image 1, the dust's (each with its seven rows behind it); 40, 42, 44, 46 the Sheets (a row behind each); 48 RankStairs; 49 Tape .. ; 81 RankStairsModel .. (wip/gen_base.py has the list). -/
abbrev mMem : Type := (Nat → Nat → Int32) × (Nat → Nat → Int64)
abbrev mR : Type := Option (Option Value × mMem)
/-- a method: name, code, number of locals, type of the answer, depth of its calls -/
abbrev mMI : Type := MethodName × ByteArray × Nat × Option FieldType × Nat
abbrev mCx : Type := Program × Launch × Env × State × MethodId × Array Value × List Frame × Method × Code × (Nat → Nat) × (Nat → ClassId) × va_G × (Nat → Prop)
abbrev xp (X : mCx) : Program := X.1
abbrev xl (X : mCx) : Launch := X.2.1
abbrev xe (X : mCx) : Env := X.2.2.1
abbrev xs (X : mCx) : State := X.2.2.2.1
abbrev xm (X : mCx) : MethodId := X.2.2.2.2.1
abbrev xa (X : mCx) : Array Value := X.2.2.2.2.2.1
abbrev xb (X : mCx) : List Frame := X.2.2.2.2.2.2.1
abbrev xM (X : mCx) : Method := X.2.2.2.2.2.2.2.1
abbrev xc (X : mCx) : Code := X.2.2.2.2.2.2.2.2.1
abbrev xad (X : mCx) : Nat → Nat := X.2.2.2.2.2.2.2.2.2.1
abbrev xcA (X : mCx) : Nat → ClassId := X.2.2.2.2.2.2.2.2.2.2.1
abbrev xD (X : mCx) : va_G := X.2.2.2.2.2.2.2.2.2.2.2.1
abbrev xA (X : mCx) : Nat → Prop := X.2.2.2.2.2.2.2.2.2.2.2.2
def kdL : List (Nat × Nat) := [(4, 0), (10, 10), (10, 10), (10, 10), (10, 4), (10, 4), (10, 4), (10, 4), (4, 0), (10, 10), (10, 10), (10, 10), (10, 4), (10, 4), (10, 4), (10, 4), (4, 0), (10, 10), (10, 10), (10, 10), (10, 4), (10, 4), (10, 4), (10, 4), (4, 0), (10, 10), (10, 10), (10, 10), (10, 4), (10, 4), (10, 4), (10, 4), (4, 0), (10, 10), (10, 10), (10, 10), (10, 4), (10, 4), (10, 4), (10, 4), (5, 0), (10, 40), (5, 0), (10, 40), (5, 0), (10, 40), (5, 0), (10, 40), (7, 0), (6, 0), (9, 160), (10, 4), (13, 2), (12, 2), (1, 0), (10, 10), (10, 10), (3, 0), (10, 4), (10, 4), (10, 10), (10, 16), (0, 0), (11, 16), (11, 16), (2, 0), (10, 4), (10, 6), (10, 6), (15, 5), (10, 10), (10, 10), (10, 10), (10, 10), (10, 10), (15, 4), (10, 10), (10, 10), (10, 10), (10, 10), (14, 4), (8, 0), (10, 210), (10, 10), (10, 4), (10, 35), (10, 10), (10, 4), (10, 160), (10, 8), (10, 33), (10, 11), (10, 10), (10, 11), (10, 4), (10, 12), (12, 2), (10, 4), (10, 4), (10, 160)]
def kd (i : Nat) : Nat × Nat := kdL.getD i (99, 0)
def rfL : List (List Nat) := [[0, 0, 0, 0, 0, 1, 2, 3, 4, 5, 6, 7], [], [], [], [], [], [], [], [0, 0, 0, 0, 0, 9, 10, 11, 12, 13, 14, 15], [], [], [], [], [], [], [], [0, 0, 0, 0, 0, 17, 18, 19, 20, 21, 22, 23], [], [], [], [], [], [], [], [0, 0, 0, 0, 0, 25, 26, 27, 28, 29, 30, 31], [], [], [], [], [], [], [], [0, 0, 0, 0, 0, 33, 34, 35, 36, 37, 38, 39], [], [], [], [], [], [], [], [0, 41, 0], [], [0, 43, 0], [], [0, 45, 0], [], [0, 47, 0], [], [49, 0, 8, 52, 53, 54, 57, 62, 65, 80, 0], [0, 0, 0, 50, 51], [], [], [16, 24], [], [55, 56], [], [], [0, 0, 58, 59, 60, 61], [], [], [], [], [63, 64], [], [], [0, 66, 67, 68, 32, 69, 75], [], [], [], [70, 71, 72, 73, 74], [], [], [], [], [], [76, 77, 78, 79], [], [], [], [], [40, 42, 44, 46], [82, 83, 0, 84, 0, 0, 85, 86, 87, 0, 0, 0, 0, 88, 0, 0, 0, 0, 0, 0, 0, 0, 89, 90, 91, 92, 93, 94, 95, 0, 96, 97, 98, 99, 0], [], [], [], [], [], [], [], [], [], [], [], [], [], [], [], [], [], []]
def rf (i k : Nat) : Nat := (rfL.getD i []).getD k 0
def ftL : List (List Nat) := [[2, 2], [2, 2], [0, 2, 2, 2, 2, 2, 2], [0, 0, 2, 2, 2, 2], [0, 0, 0, 0, 0, 2, 2, 2, 2, 2, 2, 2], [0, 2, 0], [0, 0, 0, 2, 2, 0, 0, 0, 1, 1], [2, 2, 2, 2, 2, 2, 2, 2, 2, 2, 0], [2, 2, 0, 2, 0, 0, 2, 2, 2, 0, 0, 0, 0, 2, 0, 0, 0, 0, 0, 0, 0, 0, 2, 2, 2, 2, 2, 2, 2, 0, 2, 2, 2, 2, 0]]
def ft (c k : Nat) : Nat := (ftL.getD c []).getD k 0
def nfc (c : Nat) : Nat := match vwCl[c]? with
  | some r => r.2.2
  | none => 0
def fv (ad : Nat → Nat) (c i k : Nat) (x : Nat → Int32) : Value := if ft c k = 2 then .ref (ad (rf i k)) else .int (x k)
def fsOf (ad : Nat → Nat) (c i : Nat) (x : Nat → Int32) : List Value := (List.range (nfc c)).map (fun k => fv ad c i k x)
def cellOf (ad : Nat → Nat) (cA : Nat → ClassId) (i : Nat) (x : Nat → Int32) (y : Nat → Int64) : va_E :=
  if (kd i).1 < 9 then .inr ((kd i).1, fsOf ad (kd i).1 i x)
  else if (kd i).1 = 11 then .inl (cA 11, (kd i).2, .inr (.inl y))
  else if 13 ≤ (kd i).1 then .inl (cA (kd i).1, (kd i).2, .inr (.inr (.inr (.inr (fun j => some (ad (rf i j)))))))
  else .inl (cA (kd i).1, (kd i).2, .inl x)
def wsOf (ad : Nat → Nat) (cA : Nat → ClassId) (μ : mMem) : va_W := (List.range 100).map (fun i => (ad i, cellOf ad cA i (μ.1 i) (μ.2 i)))
def tysOf (cA : Nat → ClassId) : List (ClassId × FieldType) := [(cA 9, .byte), (cA 10, .int), (cA 11, .long), (cA 12, .boolean), (cA 13, .object RX4), (cA 14, .object RX5), (cA 15, .array .int)]
def cz (ad : Nat → Nat) (v : Value) : Value := match v with
  | .ref a => .ref (ad a)
  | v => v
def czl (ad : Nat → Nat) (q : Nat × Value) : Nat × Value := (q.1, cz ad q.2)
def rmOf (d : Nat) : Room := { frames := d, cells := 0, slots := 0, locals := 100 * d }
def gdL : List Cond := lw_tbl.filter goodWord
theorem gd_mem {w : Cond} (i : Nat) (h : lw_tbl[i]? = some w) (hg : goodWord w = true) : w ∈ gdL := List.mem_filter.mpr ⟨List.mem_of_getElem? h, hg⟩
theorem gd_good {w : Cond} (h : w ∈ gdL) : (w.onTables && w.keeps) = true ∨ ∃ ty, w = .arrayClass ty := good_of_word (List.mem_filter.mp h).2
def wsM (q : mMI) : List Cond := .code q.1 q.2.1 q.2.2.1 q.2.2.2.1 :: gdL
def tNum (l : List Int32) (j : Nat) : Value := .int (l.getD j 0)
def tb114 : List Int32 := [2, 2, 2, 2, 4, 1, 1]
def tb115 : List Int32 := [0, 0, 0, 0, 0, 0, 0, 0, 0, 0, 0, 0, 0, 0, 0, 0, 1, 0, 0, 0, 0, 0, 0, 0, 1, 0, 0, 0]
def tb116 : List Int32 := [60, 99, 0, 0, 60, 99, 0, 0, 60, 99, 0, 0, 60, 99, 0, 0, 4, 3, 9, 9, 3, 0, 0, 0, 99, 0, 0, 0]
def sIdx : List Nat := [134, 136, 138, 140, 142, 144, 146]
def sTx : List String := ["wood", "stone", "iron", "landing", "lodger", "gap", "hold"]
def sLen : List Nat := [4, 5, 4, 7, 6, 3, 4]
def sByt : List (List Int32) := [[119, 111, 111, 100], [115, 116, 111, 110, 101], [105, 114, 111, 110], [108, 97, 110, 100, 105, 110, 103], [108, 111, 100, 103, 101, 114], [103, 97, 112], [104, 111, 108, 100]]
def ZT (ad : Nat → Nat) (A : Nat → Prop) (U : State) (H : Heap) (z N : Nat) (nm : String) (tb : List Int32) : Prop := va_Z "RankStairs$Tape" nm "[I" (.ref (ad z)) A U H ∧ va_T .int (ad z) N (fun j => .int (tb.getD j 0)) A U H
def ZQ (ad : Nat → Nat) (A : Nat → Prop) (U : State) (H : Heap) : Prop := va_Z "jdk/internal/util/Preconditions" "SIOOBE_FORMATTER" "Ljava/util/function/BiFunction;" .null A U H ∨ va_Z "jdk/internal/util/Preconditions" "SIOOBE_FORMATTER" "Ljava/util/function/BiFunction;" (.ref (ad 117)) A U H
theorem ZQ.moved {ad : Nat → Nat} {A : Nat → Prop} {s U : State} {H : Heap} (hW : s.vm.Alike U.vm) (h : ZQ ad A s H) : ZQ ad A U H := h.imp (va_Z.moved hW) (va_Z.moved hW)
theorem ZQ.kept {ad : Nat → Nat} {A : Nat → Prop} {U : State} {H H1 : Heap} (h : ZQ ad A U H) (hq : ∀ a : Nat, a < H.size → ¬ A a → H1[a]? = H[a]?) : ZQ ad A U H1 := h.imp (fun h => h.kept hq) (fun h => h.kept hq)
theorem ZQ.narrow {ad : Nat → Nat} {A B : Nat → Prop} {U : State} {H : Heap} (h : ZQ ad A U H) (hAB : ∀ q, B q → A q) : ZQ ad B U H := h.imp (fun h => h.narrow hAB) (fun h => h.narrow hAB)
/-- static arrays (cells 114 to 116) and String constants (cells 100 to 106, their bytes 107 to 113), which nobody writes -/
def ZS (ad : Nat → Nat) (A : Nat → Prop) (U : State) (H : Heap) : Prop :=
  ZT ad A U H 114 7 "NUMBERS" tb114 ∧ ZT ad A U H 115 28 "LEAST" tb115 ∧ ZT ad A U H 116 28 "MOST" tb116 ∧ va_Z "java/lang/String" "COMPACT_STRINGS" "Z" (.int 1) A U H ∧ ZQ ad A U H ∧ vk_S 7 sLen sByt (fun i => ad (100 + i)) (fun i => ad (107 + i)) A U H ∧ ∀ i, i < 7 → vk_R "RankStairs$Tape" (sIdx.getD i 0) (sTx.getD i "") (ad (100 + i)) U
theorem ZT.moved {ad : Nat → Nat} {A : Nat → Prop} {s U : State} {H : Heap} {z N : Nat} {nm : String} {tb : List Int32} (hW : s.vm.Alike U.vm) (h : ZT ad A s H z N nm tb) : ZT ad A U H z N nm tb := ⟨va_Z.moved hW h.1, va_T.moved hW h.2⟩
theorem ZT.kept {ad : Nat → Nat} {A : Nat → Prop} {U : State} {H H1 : Heap} {z N : Nat} {nm : String} {tb : List Int32} (h : ZT ad A U H z N nm tb) (hq : ∀ a : Nat, a < H.size → ¬ A a → H1[a]? = H[a]?) : ZT ad A U H1 z N nm tb := ⟨h.1.kept hq, h.2.kept hq⟩
theorem ZT.narrow {ad : Nat → Nat} {A B : Nat → Prop} {U : State} {H : Heap} {z N : Nat} {nm : String} {tb : List Int32} (h : ZT ad A U H z N nm tb) (hAB : ∀ q, B q → A q) : ZT ad B U H z N nm tb := ⟨h.1.narrow hAB, h.2.narrow hAB⟩
theorem ZS.warm {ad : Nat → Nat} {A : Nat → Prop} {s U : State} {H : Heap} (hW : s.WarmedH U.vm) (h : ZS ad A s H) : ZS ad A U H := ⟨h.1.moved hW.alike, h.2.1.moved hW.alike, h.2.2.1.moved hW.alike, va_Z.moved hW.alike h.2.2.2.1, ZQ.moved hW.alike h.2.2.2.2.1, vk_S.moved hW.alike h.2.2.2.2.2.1, fun i hi => vk_R.warm hW (h.2.2.2.2.2.2 i hi)⟩
theorem ZS.same {ad : Nat → Nat} {A : Nat → Prop} {s U : State} {H : Heap} (hW : U.vm = s.vm) (h : ZS ad A s H) : ZS ad A U H := by
  have hv : s.vm.Alike U.vm := by rw [hW]; exact Vm.Alike.refl _
  exact ⟨h.1.moved hv, h.2.1.moved hv, h.2.2.1.moved hv, va_Z.moved hv h.2.2.2.1, ZQ.moved hv h.2.2.2.2.1, vk_S.moved hv h.2.2.2.2.2.1, fun i hi => vk_R.same hW (h.2.2.2.2.2.2 i hi)⟩
theorem ZS.kept {ad : Nat → Nat} {A : Nat → Prop} {U : State} {H H1 : Heap} (h : ZS ad A U H) (hq : ∀ a : Nat, a < H.size → ¬ A a → H1[a]? = H[a]?) : ZS ad A U H1 := ⟨h.1.kept hq, h.2.1.kept hq, h.2.2.1.kept hq, h.2.2.2.1.kept hq, h.2.2.2.2.1.kept hq, h.2.2.2.2.2.1.kept hq, h.2.2.2.2.2.2⟩
theorem ZS.narrow {ad : Nat → Nat} {A B : Nat → Prop} {U : State} {H : Heap} (h : ZS ad A U H) (hAB : ∀ q, B q → A q) : ZS ad B U H := ⟨h.1.narrow hAB, h.2.1.narrow hAB, h.2.2.1.narrow hAB, h.2.2.2.1.narrow hAB, h.2.2.2.2.1.narrow hAB, h.2.2.2.2.2.1.narrow hAB, h.2.2.2.2.2.2⟩
def mInj (ad : Nat → Nat) : Prop := ∀ i j, i < 100 → j < 100 → ad i = ad j → i = j
def Good (q : mMI) (X : mCx) : Prop :=
  (xp X).tables.exec = Jvm.exec ∧ (xc X).code = q.2.1 ∧ (xc X).maxLocals = q.2.2.1 ∧ (xM X).sig.returnType = q.2.2.2.1 ∧ (xM X).locks = false ∧ (xs X).vm.findClass q.1.cls = some (xm X).cls ∧ (∀ w ∈ gdL, w.before (xa X) (xs X) = true) ∧ va_K (xD X) vwCl (tysOf (xcA X)) (xs X) ∧ mInj (xad X) ∧ (∀ i, i < 100 → xA X (xad X i)) ∧ (∀ z, (xs X).heap.size ≤ z → xA X z) ∧ ZS (xad X) (xA X) (xs X) (xs X).heap
def Qb (ad : Nat → Nat) (cA : Nat → ClassId) (D : va_G) (A : Nat → Prop) (v : Option Value) (μ' : mMem) : Array Value → State → Outcome → State → Prop := fun _ st oc t => oc = .returned (v.map (cz ad)) ∧ va_P D vwCl (wsOf ad cA μ') t.heap ∧ va_F A st t
/-- from here the method comes to its end with the answer and the memory of tgt (if that is some) -/
def T (q : mMI) (X : mCx) (tgt : mR) (pc : Nat) (lv : List (Nat × Value)) (st : List Value) (μ : mMem) : Prop :=
  Good q X → ∀ (v : Option Value) (μ' : mMem), tgt = some (v, μ') → ∀ (H : Heap) (locs : List Loc) (ls : Array Slot), va_P (xD X) vwCl (wsOf (xad X) (xcA X) μ) H → va_S (xA X) (xs X).heap H locs → lv_has ls q.2.2.1 (lv.map (czl (xad X))) →
    W (xp X) (xl X) (xe X) (rmOf q.2.2.2.2) (xs X) (xm X) (xa X) (xb X) (xM X) (xc X) H locs 0 0 (MQ (xb X) (Qb (xad X) (xcA X) (xD X) (xA X) v μ') (xa X) (xs X) 0 0 (xA X)) (F0 (xm X) pc ls (st.map (cz (xad X))))
def AA (ad : Nat → Nat) (sz : Nat) (z : Nat) : Prop := (∃ i, i < 100 ∧ ad i = z) ∨ sz ≤ z
def PreW (ad : Nat → Nat) (cA : Nat → ClassId) (D : va_G) (μ : mMem) (sz : Nat) (U : State) : Prop := U.heap.size = sz ∧ va_P D vwCl (wsOf ad cA μ) U.heap ∧ va_K D vwCl (tysOf cA) U ∧ mInj ad ∧ ZS ad (AA ad sz) U U.heap
/-- the contract: with these arguments and this memory the method comes to the answer and the memory of tgt -/
def BS (l : Launch) (q : mMI) (av : List Value) (μ : mMem) (tgt : mR) : Prop :=
  ∀ (v : Option Value) (μ' : mMem), tgt = some (v, μ') → ∀ (D : va_G) (ad : Nat → Nat) (cA : Nat → ClassId) (sz : Nat),
    Met l q.1 (wsM q) (rmOf q.2.2.2.2) (va_Pc (av.map (cz ad)) (PreW ad cA D μ sz)) (Qb ad cA D (AA ad sz) v μ') 0 0 (AA ad sz)

theorem kd_lt {i c n : Nat} (h : kd i = (c, n)) (hc : c < 99) : i < 100 := by
  rcases Nat.lt_or_ge i 100 with q | q
  · exact q
  · exfalso
    have h1 : kd i = (99, 0) := by
      unfold kd
      have h2 : kdL[i]? = none := List.getElem?_eq_none (by show kdL.length ≤ i; exact q)
      simp [List.getD, h2]
    rw [h1] at h
    have h3 : (99 : Nat) = c := congrArg Prod.fst h
    omega
theorem ws_at {ad : Nat → Nat} {cA : Nat → ClassId} {μ : mMem} {i : Nat} (h : i < 100) : (wsOf ad cA μ)[i]? = some (ad i, cellOf ad cA i (μ.1 i) (μ.2 i)) := by
  unfold wsOf
  rw [List.getElem?_map, List.getElem?_range h]
  rfl
theorem ws_len {ad : Nat → Nat} {cA : Nat → ClassId} {μ : mMem} : (wsOf ad cA μ).length = 100 := by
  unfold wsOf
  rw [List.length_map, List.length_range]
theorem ws_get {ad : Nat → Nat} {cA : Nat → ClassId} {μ : mMem} {i : Nat} {x : Nat × va_E} (h : (wsOf ad cA μ)[i]? = some x) : i < 100 ∧ x = (ad i, cellOf ad cA i (μ.1 i) (μ.2 i)) := by
  have hi : i < 100 := by
    have := (List.getElem?_eq_some_iff.mp h).1
    rw [ws_len] at this
    exact this
  rw [ws_at hi] at h
  exact ⟨hi, (Option.some.inj h).symm⟩
theorem ws_D {ad : Nat → Nat} {cA : Nat → ClassId} {μ : mMem} {A : Nat → Prop} (hj : mInj ad) (hA : ∀ i, i < 100 → A (ad i)) : va_D A (wsOf ad cA μ) := by
  refine ⟨fun i j x y hi hj' hxy => ?_, fun k x hx => ?_⟩
  · obtain ⟨h1, rfl⟩ := ws_get hi
    obtain ⟨h2, rfl⟩ := ws_get hj'
    exact hj i j h1 h2 hxy
  · obtain ⟨h1, rfl⟩ := ws_get hx
    exact hA k h1
theorem ws_set {ad : Nat → Nat} {cA : Nat → ClassId} {μ μ' : mMem} {i : Nat} {E : va_E} (hi : i < 100) (hE : cellOf ad cA i (μ'.1 i) (μ'.2 i) = E) (ho : ∀ j, j ≠ i → μ'.1 j = μ.1 j ∧ μ'.2 j = μ.2 j) : (wsOf ad cA μ).set i (ad i, E) = wsOf ad cA μ' := by
  apply List.ext_getElem?
  intro j
  rw [List.getElem?_set]
  by_cases hj : i = j
  · subst hj
    rw [if_pos rfl, ws_len, if_pos hi, ws_at hi, hE]
  · rw [if_neg hj]
    by_cases h : j < 100
    · rw [ws_at h, ws_at h, (ho j (fun q => hj q.symm)).1, (ho j (fun q => hj q.symm)).2]
    · rw [List.getElem?_eq_none (by rw [ws_len]; omega), List.getElem?_eq_none (by rw [ws_len]; omega)]
/-- memory, written -/
def si (μ : mMem) (b k : Nat) (x : Int32) : mMem := (fun i => if i = b then upd (μ.1 i) k x else μ.1 i, μ.2)
def sl (μ : mMem) (b k : Nat) (x : Int64) : mMem := (μ.1, fun i => if i = b then vp_updL (μ.2 i) k x else μ.2 i)
def ci (μ : mMem) (a b sp dp n : Nat) : mMem := (fun i => if i = b then va_cpy (μ.1 a) (μ.1 i) sp dp n else μ.1 i, μ.2)
def cl (μ : mMem) (a b sp dp n : Nat) : mMem := (μ.1, fun i => if i = b then va_cpy (μ.2 a) (μ.2 i) sp dp n else μ.2 i)
theorem cell_obj {ad : Nat → Nat} {cA : Nat → ClassId} {i c n : Nat} {x : Nat → Int32} {y : Nat → Int64} (h : kd i = (c, n)) (hc : c < 9) : cellOf ad cA i x y = .inr (c, fsOf ad c i x) := by
  unfold cellOf
  rw [h, if_pos hc]
theorem cell_int {ad : Nat → Nat} {cA : Nat → ClassId} {i c n : Nat} {x : Nat → Int32} {y : Nat → Int64} (h : kd i = (c, n)) (hc : c = 9 ∨ c = 10 ∨ c = 12) : cellOf ad cA i x y = .inl (cA c, n, .inl x) := by
  unfold cellOf
  rw [h]
  rcases hc with rfl | rfl | rfl <;> rfl
theorem cell_long {ad : Nat → Nat} {cA : Nat → ClassId} {i n : Nat} {x : Nat → Int32} {y : Nat → Int64} (h : kd i = (11, n)) : cellOf ad cA i x y = .inl (cA 11, n, .inr (.inl y)) := by
  unfold cellOf
  rw [h]
  rfl
theorem cell_ref {ad : Nat → Nat} {cA : Nat → ClassId} {i c n : Nat} {x : Nat → Int32} {y : Nat → Int64} (h : kd i = (c, n)) (hc : 13 ≤ c) : cellOf ad cA i x y = .inl (cA c, n, .inr (.inr (.inr (.inr (fun j => some (ad (rf i j))))))) := by
  unfold cellOf
  rw [h, if_neg (by show ¬ c < 9; omega), if_neg (by show ¬ c = 11; omega), if_pos hc]
theorem cz_cat (ad : Nat → Nat) (v : Value) : (cz ad v).category = v.category := by
  cases v <;> rfl
theorem lv_fm (ad : Nat → Nat) (P : Nat → Nat → Bool) (lv : List (Nat × Value)) : (lv.map (czl ad)).filter (fun q => P q.1 q.2.category) = (lv.filter (fun q => P q.1 q.2.category)).map (czl ad) := by
  induction lv with
  | nil => rfl
  | cons a t ih =>
    simp only [List.map_cons, List.filter_cons]
    have e : P (czl ad a).1 (czl ad a).2.category = P a.1 a.2.category := by
      show P a.1 (cz ad a.2).category = _
      rw [cz_cat]
    rw [e]
    cases P a.1 a.2.category
    · simpa using ih
    · simpa using ih
theorem lv_gm {ad : Nat → Nat} {lv : List (Nat × Value)} {k i : Nat} {v : Value} (h : lv[k]? = some (i, v)) : (lv.map (czl ad))[k]? = some (i, cz ad v) := by
  rw [List.getElem?_map, h]
  rfl
theorem lv_pm (ad : Nat → Nat) (lv : List (Nat × Value)) (ks : List Nat) : lv_pick (lv.map (czl ad)) ks = (lv_pick lv ks).map (czl ad) := by
  unfold lv_pick
  induction ks with
  | nil => rfl
  | cons k t ih =>
    simp only [List.filterMap_cons, List.getElem?_map]
    cases lv[k]? with
    | none => simpa [List.getElem?_map] using ih
    | some a => simpa [List.getElem?_map] using ih
theorem lv_am (ad : Nat → Nat) (vs : List Value) : ∀ i, lv_args i (vs.map (cz ad)) = (lv_args i vs).map (czl ad) := by
  induction vs with
  | nil => intro i; rfl
  | cons v t ih =>
    intro i
    simp only [List.map_cons, lv_args]
    rw [cz_cat, ih]
    rfl
theorem ls_am (ad : Nat → Nat) (vs : List Value) : (lg_sl (vs.map (cz ad))).length = (lg_sl vs).length := by
  unfold lg_sl
  induction vs with
  | nil => rfl
  | cons v t ih =>
    simp only [List.map_cons, List.flatMap_cons, List.length_append, ih, cz_cat]
    by_cases h : v.category = 2 <;> simp [h]
theorem T_none {q : mMI} {X : mCx} {pc : Nat} {lv : List (Nat × Value)} {st : List Value} {μ : mMem} : T q X none pc lv st μ := fun _ _ _ h => by cases h
theorem T_sub {q : mMI} {X : mCx} {tgt : mR} {pc : Nat} {lv lv' : List (Nat × Value)} {st : List Value} {μ : mMem} (ks : List Nat) (hl : lv_pick lv ks = lv') (h : T q X tgt pc lv' st μ) : T q X tgt pc lv st μ :=
  fun hG v μ' ht H locs ls hP hS hlv => h hG v μ' ht H locs ls hP hS (lv_sub hlv ks (by rw [lv_pm, hl]))
theorem T_ite {q : mMI} {X : mCx} {a b : mR} {pc : Nat} {lv : List (Nat × Value)} {st : List Value} {μ : mMem} {c : Prop} {dc : Decidable c} (h1 : c → T q X a pc lv st μ) (h2 : ¬ c → T q X b pc lv st μ) : T q X (@ite mR c dc a b) pc lv st μ := by
  by_cases h : c
  · rw [if_pos h]
    exact h1 h
  · rw [if_neg h]
    exact h2 h
/-- a guard -/
def gd (c : Prop) (r : mR) (dc : Decidable c) : mR := @ite mR c dc r none
/-- loops: k is the way back to the head -/
def lp {σ : Type} (body : (σ → mR) → σ → mR) : Nat → σ → mR
  | 0, _ => none
  | n + 1, s => body (lp body n) s
theorem T_lp {σ : Type} {body : (σ → mR) → σ → mR} {q : mMI} {X : mCx} {pc : Nat} {lv : σ → List (Nat × Value)} {st : σ → List Value} {μ : σ → mMem} (h : ∀ k : σ → mR, (∀ s, T q X (k s) pc (lv s) (st s) (μ s)) → ∀ s, T q X (body k s) pc (lv s) (st s) (μ s)) : ∀ (n : Nat) (s : σ), T q X (lp body n s) pc (lv s) (st s) (μ s)
  | 0, _ => T_none
  | n + 1, s => h (lp body n) (T_lp h n) s

theorem T_iadd {q : mMI} {X : mCx} {tgt : mR} {pc : Nat} {lv : List (Nat × Value)} {st : List Value} {μ : mMem} {x y : Int32} (hd : decode q.2.1 pc = .ok (.iadd, 1)) (h : T q X tgt (pc + 1) lv (.int (x + y) :: st) μ) : T q X tgt pc lv (.int y :: .int x :: st) μ :=
  fun hG v μ' ht H locs ls hP hS hl => lv_iadd hG.1 hG.2.1 hd (h hG v μ' ht H locs ls hP hS hl)
theorem T_isub {q : mMI} {X : mCx} {tgt : mR} {pc : Nat} {lv : List (Nat × Value)} {st : List Value} {μ : mMem} {x y : Int32} (hd : decode q.2.1 pc = .ok (.isub, 1)) (h : T q X tgt (pc + 1) lv (.int (x - y) :: st) μ) : T q X tgt pc lv (.int y :: .int x :: st) μ :=
  fun hG v μ' ht H locs ls hP hS hl => lv_isub hG.1 hG.2.1 hd (h hG v μ' ht H locs ls hP hS hl)
theorem T_imul {q : mMI} {X : mCx} {tgt : mR} {pc : Nat} {lv : List (Nat × Value)} {st : List Value} {μ : mMem} {x y : Int32} (hd : decode q.2.1 pc = .ok (.imul, 1)) (h : T q X tgt (pc + 1) lv (.int (x * y) :: st) μ) : T q X tgt pc lv (.int y :: .int x :: st) μ :=
  fun hG v μ' ht H locs ls hP hS hl => lv_imul hG.1 hG.2.1 hd (h hG v μ' ht H locs ls hP hS hl)
theorem T_iand {q : mMI} {X : mCx} {tgt : mR} {pc : Nat} {lv : List (Nat × Value)} {st : List Value} {μ : mMem} {x y : Int32} (hd : decode q.2.1 pc = .ok (.iand, 1)) (h : T q X tgt (pc + 1) lv (.int (x &&& y) :: st) μ) : T q X tgt pc lv (.int y :: .int x :: st) μ :=
  fun hG v μ' ht H locs ls hP hS hl => lv_iand hG.1 hG.2.1 hd (h hG v μ' ht H locs ls hP hS hl)
theorem T_ior {q : mMI} {X : mCx} {tgt : mR} {pc : Nat} {lv : List (Nat × Value)} {st : List Value} {μ : mMem} {x y : Int32} (hd : decode q.2.1 pc = .ok (.ior, 1)) (h : T q X tgt (pc + 1) lv (.int (x ||| y) :: st) μ) : T q X tgt pc lv (.int y :: .int x :: st) μ :=
  fun hG v μ' ht H locs ls hP hS hl => lv_ior hG.1 hG.2.1 hd (h hG v μ' ht H locs ls hP hS hl)
theorem T_ixor {q : mMI} {X : mCx} {tgt : mR} {pc : Nat} {lv : List (Nat × Value)} {st : List Value} {μ : mMem} {x y : Int32} (hd : decode q.2.1 pc = .ok (.ixor, 1)) (h : T q X tgt (pc + 1) lv (.int (x ^^^ y) :: st) μ) : T q X tgt pc lv (.int y :: .int x :: st) μ :=
  fun hG v μ' ht H locs ls hP hS hl => lv_ixor hG.1 hG.2.1 hd (h hG v μ' ht H locs ls hP hS hl)
theorem T_ishl {q : mMI} {X : mCx} {tgt : mR} {pc : Nat} {lv : List (Nat × Value)} {st : List Value} {μ : mMem} {x y : Int32} (hd : decode q.2.1 pc = .ok (.ishl, 1)) (h : T q X tgt (pc + 1) lv (.int (x <<< (y &&& 31)) :: st) μ) : T q X tgt pc lv (.int y :: .int x :: st) μ :=
  fun hG v μ' ht H locs ls hP hS hl => lv_ishl hG.1 hG.2.1 hd (h hG v μ' ht H locs ls hP hS hl)
theorem T_ishr {q : mMI} {X : mCx} {tgt : mR} {pc : Nat} {lv : List (Nat × Value)} {st : List Value} {μ : mMem} {x y : Int32} (hd : decode q.2.1 pc = .ok (.ishr, 1)) (h : T q X tgt (pc + 1) lv (.int (x >>> (y &&& 31)) :: st) μ) : T q X tgt pc lv (.int y :: .int x :: st) μ :=
  fun hG v μ' ht H locs ls hP hS hl => lv_ishr hG.1 hG.2.1 hd (h hG v μ' ht H locs ls hP hS hl)
theorem T_iushr {q : mMI} {X : mCx} {tgt : mR} {pc : Nat} {lv : List (Nat × Value)} {st : List Value} {μ : mMem} {x y : Int32} (hd : decode q.2.1 pc = .ok (.iushr, 1)) (h : T q X tgt (pc + 1) lv (.int ((x.toUInt32 >>> (y.toUInt32 &&& Int32.toUInt32 31)).toInt32) :: st) μ) : T q X tgt pc lv (.int y :: .int x :: st) μ :=
  fun hG v μ' ht H locs ls hP hS hl => lv_iushr hG.1 hG.2.1 hd rfl (h hG v μ' ht H locs ls hP hS hl)
theorem T_ineg {q : mMI} {X : mCx} {tgt : mR} {pc : Nat} {lv : List (Nat × Value)} {st : List Value} {μ : mMem} {x : Int32} (hd : decode q.2.1 pc = .ok (.ineg, 1)) (h : T q X tgt (pc + 1) lv (.int (-x) :: st) μ) : T q X tgt pc lv (.int x :: st) μ :=
  fun hG v μ' ht H locs ls hP hS hl => lv_ineg hG.1 hG.2.1 hd (h hG v μ' ht H locs ls hP hS hl)
theorem T_ladd {q : mMI} {X : mCx} {tgt : mR} {pc : Nat} {lv : List (Nat × Value)} {st : List Value} {μ : mMem} {x y : Int64} (hd : decode q.2.1 pc = .ok (.ladd, 1)) (h : T q X tgt (pc + 1) lv (.long (x + y) :: st) μ) : T q X tgt pc lv (.long y :: .long x :: st) μ :=
  fun hG v μ' ht H locs ls hP hS hl => lv_ladd hG.1 hG.2.1 hd (h hG v μ' ht H locs ls hP hS hl)
theorem T_lsub {q : mMI} {X : mCx} {tgt : mR} {pc : Nat} {lv : List (Nat × Value)} {st : List Value} {μ : mMem} {x y : Int64} (hd : decode q.2.1 pc = .ok (.lsub, 1)) (h : T q X tgt (pc + 1) lv (.long (x - y) :: st) μ) : T q X tgt pc lv (.long y :: .long x :: st) μ :=
  fun hG v μ' ht H locs ls hP hS hl => lv_lsub hG.1 hG.2.1 hd (h hG v μ' ht H locs ls hP hS hl)
theorem T_lmul {q : mMI} {X : mCx} {tgt : mR} {pc : Nat} {lv : List (Nat × Value)} {st : List Value} {μ : mMem} {x y : Int64} (hd : decode q.2.1 pc = .ok (.lmul, 1)) (h : T q X tgt (pc + 1) lv (.long (x * y) :: st) μ) : T q X tgt pc lv (.long y :: .long x :: st) μ :=
  fun hG v μ' ht H locs ls hP hS hl => lv_lmul hG.1 hG.2.1 hd (h hG v μ' ht H locs ls hP hS hl)
theorem T_lcmp {q : mMI} {X : mCx} {tgt : mR} {pc : Nat} {lv : List (Nat × Value)} {st : List Value} {μ : mMem} {x y : Int64} (hd : decode q.2.1 pc = .ok (.lcmp, 1)) (h : T q X tgt (pc + 1) lv (.int (lg_cmp x y) :: st) μ) : T q X tgt pc lv (.long y :: .long x :: st) μ :=
  fun hG v μ' ht H locs ls hP hS hl => W.lcmp hG.1 hG.2.1 hd (h hG v μ' ht H locs ls hP hS hl)
theorem T_i2l {q : mMI} {X : mCx} {tgt : mR} {pc : Nat} {lv : List (Nat × Value)} {st : List Value} {μ : mMem} {x : Int32} (hd : decode q.2.1 pc = .ok (.i2l, 1)) (h : T q X tgt (pc + 1) lv (.long x.toInt64 :: st) μ) : T q X tgt pc lv (.int x :: st) μ :=
  fun hG v μ' ht H locs ls hP hS hl => lv_i2l hG.1 hG.2.1 hd rfl (h hG v μ' ht H locs ls hP hS hl)
theorem T_i2b {q : mMI} {X : mCx} {tgt : mR} {pc : Nat} {lv : List (Nat × Value)} {st : List Value} {μ : mMem} {x : Int32} (hd : decode q.2.1 pc = .ok (.i2b, 1)) (h : T q X tgt (pc + 1) lv (.int x.toInt8.toInt32 :: st) μ) : T q X tgt pc lv (.int x :: st) μ :=
  fun hG v μ' ht H locs ls hP hS hl => lv_i2b hG.1 hG.2.1 hd rfl (h hG v μ' ht H locs ls hP hS hl)
theorem T_i2s {q : mMI} {X : mCx} {tgt : mR} {pc : Nat} {lv : List (Nat × Value)} {st : List Value} {μ : mMem} {x : Int32} (hd : decode q.2.1 pc = .ok (.i2s, 1)) (h : T q X tgt (pc + 1) lv (.int x.toInt16.toInt32 :: st) μ) : T q X tgt pc lv (.int x :: st) μ :=
  fun hG v μ' ht H locs ls hP hS hl => lv_i2s hG.1 hG.2.1 hd rfl (h hG v μ' ht H locs ls hP hS hl)
theorem T_dup {q : mMI} {X : mCx} {tgt : mR} {pc : Nat} {lv : List (Nat × Value)} {st : List Value} {μ : mMem} {x : Value} (hc : x.category = 1) (hd : decode q.2.1 pc = .ok (.dup, 1)) (h : T q X tgt (pc + 1) lv (x :: x :: st) μ) : T q X tgt pc lv (x :: st) μ :=
  fun hG v μ' ht H locs ls hP hS hl => lv_dup hG.1 hG.2.1 hd (by rw [cz_cat]; exact hc) (h hG v μ' ht H locs ls hP hS hl)
theorem T_pop {q : mMI} {X : mCx} {tgt : mR} {pc : Nat} {lv : List (Nat × Value)} {st : List Value} {μ : mMem} {x : Value} (hc : x.category = 1) (hd : decode q.2.1 pc = .ok (.pop, 1)) (h : T q X tgt (pc + 1) lv (st) μ) : T q X tgt pc lv (x :: st) μ :=
  fun hG v μ' ht H locs ls hP hS hl => lv_pop hG.1 hG.2.1 hd (by rw [cz_cat]; exact hc) (h hG v μ' ht H locs ls hP hS hl)
theorem T_idiv {q : mMI} {X : mCx} {tgt : mR} {pc : Nat} {lv : List (Nat × Value)} {st : List Value} {μ : mMem} {x y : Int32} (hd : decode q.2.1 pc = .ok (.idiv, 1)) {dc : Decidable (¬ y = 0)} (h : T q X tgt (pc + 1) lv (.int (x / y) :: st) μ) : T q X (gd (¬ y = 0) tgt dc) pc lv (.int y :: .int x :: st) μ := by
  unfold gd
  refine T_ite (fun hc => ?_) (fun _ => T_none)
  exact fun hG v μ' ht H locs ls hP hS hl => lv_idiv hG.1 hG.2.1 hd hc (h hG v μ' ht H locs ls hP hS hl)
theorem T_irem {q : mMI} {X : mCx} {tgt : mR} {pc : Nat} {lv : List (Nat × Value)} {st : List Value} {μ : mMem} {x y : Int32} (hd : decode q.2.1 pc = .ok (.irem, 1)) {dc : Decidable (¬ y = 0)} (h : T q X tgt (pc + 1) lv (.int (x - x / y * y) :: st) μ) : T q X (gd (¬ y = 0) tgt dc) pc lv (.int y :: .int x :: st) μ := by
  unfold gd
  refine T_ite (fun hc => ?_) (fun _ => T_none)
  exact fun hG v μ' ht H locs ls hP hS hl => lv_irem hG.1 hG.2.1 hd hc (h hG v μ' ht H locs ls hP hS hl)
theorem T_ldiv {q : mMI} {X : mCx} {tgt : mR} {pc : Nat} {lv : List (Nat × Value)} {st : List Value} {μ : mMem} {x y : Int64} (hd : decode q.2.1 pc = .ok (.ldiv, 1)) {dc : Decidable (¬ y = 0)} (h : T q X tgt (pc + 1) lv (.long (x / y) :: st) μ) : T q X (gd (¬ y = 0) tgt dc) pc lv (.long y :: .long x :: st) μ := by
  unfold gd
  refine T_ite (fun hc => ?_) (fun _ => T_none)
  exact fun hG v μ' ht H locs ls hP hS hl => lv_ldiv hG.1 hG.2.1 hd hc (h hG v μ' ht H locs ls hP hS hl)
theorem T_lrem {q : mMI} {X : mCx} {tgt : mR} {pc : Nat} {lv : List (Nat × Value)} {st : List Value} {μ : mMem} {x y : Int64} (hd : decode q.2.1 pc = .ok (.lrem, 1)) {dc : Decidable (¬ y = 0)} (h : T q X tgt (pc + 1) lv (.long (x - x / y * y) :: st) μ) : T q X (gd (¬ y = 0) tgt dc) pc lv (.long y :: .long x :: st) μ := by
  unfold gd
  refine T_ite (fun hc => ?_) (fun _ => T_none)
  exact fun hG v μ' ht H locs ls hP hS hl => lv_lrem hG.1 hG.2.1 hd hc (h hG v μ' ht H locs ls hP hS hl)
theorem T_iconst {q : mMI} {X : mCx} {tgt : mR} {pc : Nat} {lv : List (Nat × Value)} {st : List Value} {μ : mMem} {n : Int} (z : Int32) (hv : Int32.ofInt n = z) (hd : decode q.2.1 pc = .ok (.iconst n, 1)) (h : T q X tgt (pc + 1) lv (.int z :: st) μ) : T q X tgt pc lv (st) μ :=
  fun hG v μ' ht H locs ls hP hS hl => lv_iconst hG.1 hG.2.1 hd hv (h hG v μ' ht H locs ls hP hS hl)
theorem T_bipush {q : mMI} {X : mCx} {tgt : mR} {pc : Nat} {lv : List (Nat × Value)} {st : List Value} {μ : mMem} {n : Int} (z : Int32) (hv : (Int8.ofInt n).toInt32 = z) (hd : decode q.2.1 pc = .ok (.bipush n, 2)) (h : T q X tgt (pc + 2) lv (.int z :: st) μ) : T q X tgt pc lv (st) μ :=
  fun hG v μ' ht H locs ls hP hS hl => lv_bipush hG.1 hG.2.1 hd hv (h hG v μ' ht H locs ls hP hS hl)
theorem T_sipush {q : mMI} {X : mCx} {tgt : mR} {pc : Nat} {lv : List (Nat × Value)} {st : List Value} {μ : mMem} {n : Int} (z : Int32) (hv : (Int16.ofInt n).toInt32 = z) (hd : decode q.2.1 pc = .ok (.sipush n, 3)) (h : T q X tgt (pc + 3) lv (.int z :: st) μ) : T q X tgt pc lv (st) μ :=
  fun hG v μ' ht H locs ls hP hS hl => lv_sipush hG.1 hG.2.1 hd hv (h hG v μ' ht H locs ls hP hS hl)
theorem T_lconst {q : mMI} {X : mCx} {tgt : mR} {pc : Nat} {lv : List (Nat × Value)} {st : List Value} {μ : mMem} {n : Fin 2} (z : Int64) (hv : Int64.ofNat (n : Nat) = z) (hd : decode q.2.1 pc = .ok (.lconst n, 1)) (h : T q X tgt (pc + 1) lv (.long z :: st) μ) : T q X tgt pc lv (st) μ :=
  fun hG v μ' ht H locs ls hP hS hl => lv_lconst hG.1 hG.2.1 hd hv (h hG v μ' ht H locs ls hP hS hl)
theorem T_ldc2 {q : mMI} {X : mCx} {tgt : mR} {pc : Nat} {lv : List (Nat × Value)} {st : List Value} {μ : mMem} {index : Nat} {z : Int64} (hw : Cond.constantLong q.1.cls index z ∈ gdL) (hd : decode q.2.1 pc = .ok (.ldc2_w index, 3)) (h : T q X tgt (pc + 3) lv (.long z :: st) μ) : T q X tgt pc lv st μ :=
  fun hG v μ' ht H locs ls hP hS hl => lv_ldc2 hG.1 hG.2.1 hG.2.2.2.2.2.1 (hG.2.2.2.2.2.2.1 _ hw) hd (h hG v μ' ht H locs ls hP hS hl)
theorem T_ldc {q : mMI} {X : mCx} {tgt : mR} {pc : Nat} {lv : List (Nat × Value)} {st : List Value} {μ : mMem} {index : Nat} {z : Int32} (hw : Cond.constant q.1.cls index z ∈ gdL) (hd : decode q.2.1 pc = .ok (.ldc index, 2)) (h : T q X tgt (pc + 2) lv (.int z :: st) μ) : T q X tgt pc lv st μ :=
  fun hG v μ' ht H locs ls hP hS hl => lv_ldc hG.1 hG.2.1 hG.2.2.2.2.2.1 (hG.2.2.2.2.2.2.1 _ hw) hd (h hG v μ' ht H locs ls hP hS hl)
theorem T_ldcw {q : mMI} {X : mCx} {tgt : mR} {pc : Nat} {lv : List (Nat × Value)} {st : List Value} {μ : mMem} {index : Nat} {z : Int32} (hw : Cond.constant q.1.cls index z ∈ gdL) (hd : decode q.2.1 pc = .ok (.ldc_w index, 3)) (h : T q X tgt (pc + 3) lv (.int z :: st) μ) : T q X tgt pc lv st μ :=
  fun hG v μ' ht H locs ls hP hS hl => lv_ldcw hG.1 hG.2.1 hG.2.2.2.2.2.1 (hG.2.2.2.2.2.2.1 _ hw) hd (h hG v μ' ht H locs ls hP hS hl)
theorem T_iload_n {q : mMI} {X : mCx} {tgt : mR} {pc : Nat} {lv : List (Nat × Value)} {st : List Value} {μ : mMem} {f : Fin 4} {i : Nat} {x : Int32} (k : Nat) (hi : (f : Nat) = i) (hk : lv[k]? = some (i, .int x)) (hd : decode q.2.1 pc = .ok (.iload_n f, 1)) (h : T q X tgt (pc + 1) lv (.int x :: st) μ) : T q X tgt pc lv (st) μ :=
  fun hG v μ' ht H locs ls hP hS hl => lv_iload_n hG.1 hG.2.1 hd hi (lv_at hl k (lv_gm hk)) (h hG v μ' ht H locs ls hP hS hl)
theorem T_iload {q : mMI} {X : mCx} {tgt : mR} {pc : Nat} {lv : List (Nat × Value)} {st : List Value} {μ : mMem} {i : Nat} {x : Int32} (k : Nat) (hk : lv[k]? = some (i, .int x)) (hd : decode q.2.1 pc = .ok (.iload i, 2)) (h : T q X tgt (pc + 2) lv (.int x :: st) μ) : T q X tgt pc lv (st) μ :=
  fun hG v μ' ht H locs ls hP hS hl => lv_iload hG.1 hG.2.1 hd (lv_at hl k (lv_gm hk)) (h hG v μ' ht H locs ls hP hS hl)
theorem T_lload_n {q : mMI} {X : mCx} {tgt : mR} {pc : Nat} {lv : List (Nat × Value)} {st : List Value} {μ : mMem} {f : Fin 4} {i : Nat} {x : Int64} (k : Nat) (hi : (f : Nat) = i) (hk : lv[k]? = some (i, .long x)) (hd : decode q.2.1 pc = .ok (.lload_n f, 1)) (h : T q X tgt (pc + 1) lv (.long x :: st) μ) : T q X tgt pc lv (st) μ :=
  fun hG v μ' ht H locs ls hP hS hl => lv_lload_n hG.1 hG.2.1 hd hi (lv_at hl k (lv_gm hk)) (h hG v μ' ht H locs ls hP hS hl)
theorem T_lload {q : mMI} {X : mCx} {tgt : mR} {pc : Nat} {lv : List (Nat × Value)} {st : List Value} {μ : mMem} {i : Nat} {x : Int64} (k : Nat) (hk : lv[k]? = some (i, .long x)) (hd : decode q.2.1 pc = .ok (.lload i, 2)) (h : T q X tgt (pc + 2) lv (.long x :: st) μ) : T q X tgt pc lv (st) μ :=
  fun hG v μ' ht H locs ls hP hS hl => lv_lload hG.1 hG.2.1 hd (lv_at hl k (lv_gm hk)) (h hG v μ' ht H locs ls hP hS hl)
theorem T_aload_n {q : mMI} {X : mCx} {tgt : mR} {pc : Nat} {lv : List (Nat × Value)} {st : List Value} {μ : mMem} {f : Fin 4} {i : Nat} {x : Nat} (k : Nat) (hi : (f : Nat) = i) (hk : lv[k]? = some (i, .ref x)) (hd : decode q.2.1 pc = .ok (.aload_n f, 1)) (h : T q X tgt (pc + 1) lv (.ref x :: st) μ) : T q X tgt pc lv (st) μ :=
  fun hG v μ' ht H locs ls hP hS hl => lv_aload_n hG.1 hG.2.1 hd hi (lv_at hl k (lv_gm hk)) (h hG v μ' ht H locs ls hP hS hl)
theorem T_aload {q : mMI} {X : mCx} {tgt : mR} {pc : Nat} {lv : List (Nat × Value)} {st : List Value} {μ : mMem} {i : Nat} {x : Nat} (k : Nat) (hk : lv[k]? = some (i, .ref x)) (hd : decode q.2.1 pc = .ok (.aload i, 2)) (h : T q X tgt (pc + 2) lv (.ref x :: st) μ) : T q X tgt pc lv (st) μ :=
  fun hG v μ' ht H locs ls hP hS hl => lv_aload hG.1 hG.2.1 hd (lv_at hl k (lv_gm hk)) (h hG v μ' ht H locs ls hP hS hl)
theorem T_istore_n {q : mMI} {X : mCx} {tgt : mR} {pc : Nat} {lv : List (Nat × Value)} {st : List Value} {μ : mMem} {lv' : List (Nat × Value)} {f : Fin 4} {i : Nat} {x : Int32} (hi : (f : Nat) = i) (hn : i < q.2.2.1) (hv : (i, Value.int x) :: lv.filter (fun q => !(q.1 == i) && !(q.1 + 1 == i && q.2.category == 2)) = lv') (hd : decode q.2.1 pc = .ok (.istore_n f, 1)) (h : T q X tgt (pc + 1) lv' st μ) : T q X tgt pc lv (.int x :: st) μ :=
  fun hG v μ' ht H locs ls hP hS hl => lv_istore_n hG.1 hG.2.1 hd hi hl hn (by
    show (i, cz (xad X) (Value.int x)) :: _ = _
    rw [lv_fm (xad X) (fun a c => !(a == i) && !(a + 1 == i && c == 2)) lv, ← hv]; rfl) (fun ls' hl' => h hG v μ' ht H locs ls' hP hS hl')
theorem T_istore {q : mMI} {X : mCx} {tgt : mR} {pc : Nat} {lv : List (Nat × Value)} {st : List Value} {μ : mMem} {lv' : List (Nat × Value)} {i : Nat} {x : Int32} (hn : i < q.2.2.1) (hv : (i, Value.int x) :: lv.filter (fun q => !(q.1 == i) && !(q.1 + 1 == i && q.2.category == 2)) = lv') (hd : decode q.2.1 pc = .ok (.istore i, 2)) (h : T q X tgt (pc + 2) lv' st μ) : T q X tgt pc lv (.int x :: st) μ :=
  fun hG v μ' ht H locs ls hP hS hl => lv_istore hG.1 hG.2.1 hd hl hn (by
    show (i, cz (xad X) (Value.int x)) :: _ = _
    rw [lv_fm (xad X) (fun a c => !(a == i) && !(a + 1 == i && c == 2)) lv, ← hv]; rfl) (fun ls' hl' => h hG v μ' ht H locs ls' hP hS hl')
theorem T_lstore_n {q : mMI} {X : mCx} {tgt : mR} {pc : Nat} {lv : List (Nat × Value)} {st : List Value} {μ : mMem} {lv' : List (Nat × Value)} {f : Fin 4} {i : Nat} {x : Int64} (hi : (f : Nat) = i) (hn : i + 1 < q.2.2.1) (hv : (i, Value.long x) :: lv.filter (fun q => !(q.1 == i) && (!(q.1 == i + 1) && !(q.1 + 1 == i && q.2.category == 2))) = lv') (hd : decode q.2.1 pc = .ok (.lstore_n f, 1)) (h : T q X tgt (pc + 1) lv' st μ) : T q X tgt pc lv (.long x :: st) μ :=
  fun hG v μ' ht H locs ls hP hS hl => lv_lstore_n hG.1 hG.2.1 hd hi hl hn (by
    show (i, cz (xad X) (Value.long x)) :: _ = _
    rw [lv_fm (xad X) (fun a c => !(a == i) && (!(a == i + 1) && !(a + 1 == i && c == 2))) lv, ← hv]; rfl) (fun ls' hl' => h hG v μ' ht H locs ls' hP hS hl')
theorem T_lstore {q : mMI} {X : mCx} {tgt : mR} {pc : Nat} {lv : List (Nat × Value)} {st : List Value} {μ : mMem} {lv' : List (Nat × Value)} {i : Nat} {x : Int64} (hn : i + 1 < q.2.2.1) (hv : (i, Value.long x) :: lv.filter (fun q => !(q.1 == i) && (!(q.1 == i + 1) && !(q.1 + 1 == i && q.2.category == 2))) = lv') (hd : decode q.2.1 pc = .ok (.lstore i, 2)) (h : T q X tgt (pc + 2) lv' st μ) : T q X tgt pc lv (.long x :: st) μ :=
  fun hG v μ' ht H locs ls hP hS hl => lv_lstore hG.1 hG.2.1 hd hl hn (by
    show (i, cz (xad X) (Value.long x)) :: _ = _
    rw [lv_fm (xad X) (fun a c => !(a == i) && (!(a == i + 1) && !(a + 1 == i && c == 2))) lv, ← hv]; rfl) (fun ls' hl' => h hG v μ' ht H locs ls' hP hS hl')
theorem T_astore_n {q : mMI} {X : mCx} {tgt : mR} {pc : Nat} {lv : List (Nat × Value)} {st : List Value} {μ : mMem} {lv' : List (Nat × Value)} {f : Fin 4} {i : Nat} {x : Nat} (hi : (f : Nat) = i) (hn : i < q.2.2.1) (hv : (i, Value.ref x) :: lv.filter (fun q => !(q.1 == i) && !(q.1 + 1 == i && q.2.category == 2)) = lv') (hd : decode q.2.1 pc = .ok (.astore_n f, 1)) (h : T q X tgt (pc + 1) lv' st μ) : T q X tgt pc lv (.ref x :: st) μ :=
  fun hG v μ' ht H locs ls hP hS hl => lv_astore_n hG.1 hG.2.1 hd hi hl hn (by
    show (i, cz (xad X) (Value.ref x)) :: _ = _
    rw [lv_fm (xad X) (fun a c => !(a == i) && !(a + 1 == i && c == 2)) lv, ← hv]; rfl) (fun ls' hl' => h hG v μ' ht H locs ls' hP hS hl')
theorem T_astore {q : mMI} {X : mCx} {tgt : mR} {pc : Nat} {lv : List (Nat × Value)} {st : List Value} {μ : mMem} {lv' : List (Nat × Value)} {i : Nat} {x : Nat} (hn : i < q.2.2.1) (hv : (i, Value.ref x) :: lv.filter (fun q => !(q.1 == i) && !(q.1 + 1 == i && q.2.category == 2)) = lv') (hd : decode q.2.1 pc = .ok (.astore i, 2)) (h : T q X tgt (pc + 2) lv' st μ) : T q X tgt pc lv (.ref x :: st) μ :=
  fun hG v μ' ht H locs ls hP hS hl => lv_astore hG.1 hG.2.1 hd hl hn (by
    show (i, cz (xad X) (Value.ref x)) :: _ = _
    rw [lv_fm (xad X) (fun a c => !(a == i) && !(a + 1 == i && c == 2)) lv, ← hv]; rfl) (fun ls' hl' => h hG v μ' ht H locs ls' hP hS hl')
theorem T_iinc {q : mMI} {X : mCx} {tgt : mR} {pc : Nat} {lv : List (Nat × Value)} {st : List Value} {μ : mMem} {lv' : List (Nat × Value)} {i : Nat} {n : Int} {x : Int32} (k : Nat) (z : Int32) (hk : lv[k]? = some (i, .int x)) (hz : Int32.ofInt n = z) (hn : i < q.2.2.1) (hv : (i, Value.int (x + z)) :: lv.filter (fun q => !(q.1 == i) && !(q.1 + 1 == i && q.2.category == 2)) = lv') (hd : decode q.2.1 pc = .ok (.iinc i n, 3)) (h : T q X tgt (pc + 3) lv' st μ) : T q X tgt pc lv st μ :=
  fun hG v μ' ht H locs ls hP hS hl => lv_iinc (v := x + z) hG.1 hG.2.1 hd hl (lv_gm hk) (by rw [hz]) hn (by
    show (i, cz (xad X) (Value.int (x + z))) :: _ = _
    rw [lv_fm (xad X) (fun a c => !(a == i) && !(a + 1 == i && c == 2)) lv, ← hv]; rfl) (fun ls' hl' => h hG v μ' ht H locs ls' hP hS hl')
theorem T_if_eq {q : mMI} {X : mCx} {r1 r2 : mR} {pc : Nat} {lv : List (Nat × Value)} {st : List Value} {μ : mMem} {x : Int32} {off : Int} {dc : Decidable (x = 0)} (t : Nat) (hd : decode q.2.1 pc = .ok (.ifCond .eq off, 3)) (htg : (pc : Int) + off = (t : Int)) (h1 : x = 0 → T q X r1 (t) lv st μ) (h2 : ¬ x = 0 → T q X r2 (pc + 3) lv st μ) : T q X (@ite mR (x = 0) dc r1 r2) pc lv (.int x :: st) μ :=
  fun hG v μ' ht H locs ls hP hS hl => lv_if_eq (tgt := t) hG.1 hG.2.1 hd htg (fun hc => h1 hc hG v μ' (by rw [if_pos hc] at ht; exact ht) H locs ls hP hS hl) (fun hc => h2 hc hG v μ' (by rw [if_neg hc] at ht; exact ht) H locs ls hP hS hl)
theorem T_icmp_eq {q : mMI} {X : mCx} {r1 r2 : mR} {pc : Nat} {lv : List (Nat × Value)} {st : List Value} {μ : mMem} {x y : Int32} {off : Int} {dc : Decidable (x = y)} (t : Nat) (hd : decode q.2.1 pc = .ok (.if_icmp .eq off, 3)) (htg : (pc : Int) + off = (t : Int)) (h1 : x = y → T q X r1 (t) lv st μ) (h2 : ¬ x = y → T q X r2 (pc + 3) lv st μ) : T q X (@ite mR (x = y) dc r1 r2) pc lv (.int y :: .int x :: st) μ :=
  fun hG v μ' ht H locs ls hP hS hl => lv_icmp_eq (tgt := t) hG.1 hG.2.1 hd htg (fun hc => h1 hc hG v μ' (by rw [if_pos hc] at ht; exact ht) H locs ls hP hS hl) (fun hc => h2 hc hG v μ' (by rw [if_neg hc] at ht; exact ht) H locs ls hP hS hl)
theorem T_if_lt {q : mMI} {X : mCx} {r1 r2 : mR} {pc : Nat} {lv : List (Nat × Value)} {st : List Value} {μ : mMem} {x : Int32} {off : Int} {dc : Decidable (x < 0)} (t : Nat) (hd : decode q.2.1 pc = .ok (.ifCond .lt off, 3)) (htg : (pc : Int) + off = (t : Int)) (h1 : x < 0 → T q X r1 (t) lv st μ) (h2 : ¬ x < 0 → T q X r2 (pc + 3) lv st μ) : T q X (@ite mR (x < 0) dc r1 r2) pc lv (.int x :: st) μ :=
  fun hG v μ' ht H locs ls hP hS hl => lv_if_lt (tgt := t) hG.1 hG.2.1 hd htg (fun hc => h1 hc hG v μ' (by rw [if_pos hc] at ht; exact ht) H locs ls hP hS hl) (fun hc => h2 hc hG v μ' (by rw [if_neg hc] at ht; exact ht) H locs ls hP hS hl)
theorem T_icmp_lt {q : mMI} {X : mCx} {r1 r2 : mR} {pc : Nat} {lv : List (Nat × Value)} {st : List Value} {μ : mMem} {x y : Int32} {off : Int} {dc : Decidable (x < y)} (t : Nat) (hd : decode q.2.1 pc = .ok (.if_icmp .lt off, 3)) (htg : (pc : Int) + off = (t : Int)) (h1 : x < y → T q X r1 (t) lv st μ) (h2 : ¬ x < y → T q X r2 (pc + 3) lv st μ) : T q X (@ite mR (x < y) dc r1 r2) pc lv (.int y :: .int x :: st) μ :=
  fun hG v μ' ht H locs ls hP hS hl => lv_icmp_lt (tgt := t) hG.1 hG.2.1 hd htg (fun hc => h1 hc hG v μ' (by rw [if_pos hc] at ht; exact ht) H locs ls hP hS hl) (fun hc => h2 hc hG v μ' (by rw [if_neg hc] at ht; exact ht) H locs ls hP hS hl)
theorem T_if_ge {q : mMI} {X : mCx} {r1 r2 : mR} {pc : Nat} {lv : List (Nat × Value)} {st : List Value} {μ : mMem} {x : Int32} {off : Int} {dc : Decidable (0 ≤ x)} (t : Nat) (hd : decode q.2.1 pc = .ok (.ifCond .ge off, 3)) (htg : (pc : Int) + off = (t : Int)) (h1 : 0 ≤ x → T q X r1 (t) lv st μ) (h2 : ¬ 0 ≤ x → T q X r2 (pc + 3) lv st μ) : T q X (@ite mR (0 ≤ x) dc r1 r2) pc lv (.int x :: st) μ :=
  fun hG v μ' ht H locs ls hP hS hl => lv_if_ge (tgt := t) hG.1 hG.2.1 hd htg (fun hc => h1 hc hG v μ' (by rw [if_pos hc] at ht; exact ht) H locs ls hP hS hl) (fun hc => h2 hc hG v μ' (by rw [if_neg hc] at ht; exact ht) H locs ls hP hS hl)
theorem T_icmp_ge {q : mMI} {X : mCx} {r1 r2 : mR} {pc : Nat} {lv : List (Nat × Value)} {st : List Value} {μ : mMem} {x y : Int32} {off : Int} {dc : Decidable (y ≤ x)} (t : Nat) (hd : decode q.2.1 pc = .ok (.if_icmp .ge off, 3)) (htg : (pc : Int) + off = (t : Int)) (h1 : y ≤ x → T q X r1 (t) lv st μ) (h2 : ¬ y ≤ x → T q X r2 (pc + 3) lv st μ) : T q X (@ite mR (y ≤ x) dc r1 r2) pc lv (.int y :: .int x :: st) μ :=
  fun hG v μ' ht H locs ls hP hS hl => lv_icmp_ge (tgt := t) hG.1 hG.2.1 hd htg (fun hc => h1 hc hG v μ' (by rw [if_pos hc] at ht; exact ht) H locs ls hP hS hl) (fun hc => h2 hc hG v μ' (by rw [if_neg hc] at ht; exact ht) H locs ls hP hS hl)
theorem T_if_gt {q : mMI} {X : mCx} {r1 r2 : mR} {pc : Nat} {lv : List (Nat × Value)} {st : List Value} {μ : mMem} {x : Int32} {off : Int} {dc : Decidable (0 < x)} (t : Nat) (hd : decode q.2.1 pc = .ok (.ifCond .gt off, 3)) (htg : (pc : Int) + off = (t : Int)) (h1 : 0 < x → T q X r1 (t) lv st μ) (h2 : ¬ 0 < x → T q X r2 (pc + 3) lv st μ) : T q X (@ite mR (0 < x) dc r1 r2) pc lv (.int x :: st) μ :=
  fun hG v μ' ht H locs ls hP hS hl => lv_if_gt (tgt := t) hG.1 hG.2.1 hd htg (fun hc => h1 hc hG v μ' (by rw [if_pos hc] at ht; exact ht) H locs ls hP hS hl) (fun hc => h2 hc hG v μ' (by rw [if_neg hc] at ht; exact ht) H locs ls hP hS hl)
theorem T_icmp_gt {q : mMI} {X : mCx} {r1 r2 : mR} {pc : Nat} {lv : List (Nat × Value)} {st : List Value} {μ : mMem} {x y : Int32} {off : Int} {dc : Decidable (y < x)} (t : Nat) (hd : decode q.2.1 pc = .ok (.if_icmp .gt off, 3)) (htg : (pc : Int) + off = (t : Int)) (h1 : y < x → T q X r1 (t) lv st μ) (h2 : ¬ y < x → T q X r2 (pc + 3) lv st μ) : T q X (@ite mR (y < x) dc r1 r2) pc lv (.int y :: .int x :: st) μ :=
  fun hG v μ' ht H locs ls hP hS hl => lv_icmp_gt (tgt := t) hG.1 hG.2.1 hd htg (fun hc => h1 hc hG v μ' (by rw [if_pos hc] at ht; exact ht) H locs ls hP hS hl) (fun hc => h2 hc hG v μ' (by rw [if_neg hc] at ht; exact ht) H locs ls hP hS hl)
theorem T_if_le {q : mMI} {X : mCx} {r1 r2 : mR} {pc : Nat} {lv : List (Nat × Value)} {st : List Value} {μ : mMem} {x : Int32} {off : Int} {dc : Decidable (x ≤ 0)} (t : Nat) (hd : decode q.2.1 pc = .ok (.ifCond .le off, 3)) (htg : (pc : Int) + off = (t : Int)) (h1 : x ≤ 0 → T q X r1 (t) lv st μ) (h2 : ¬ x ≤ 0 → T q X r2 (pc + 3) lv st μ) : T q X (@ite mR (x ≤ 0) dc r1 r2) pc lv (.int x :: st) μ :=
  fun hG v μ' ht H locs ls hP hS hl => lv_if_le (tgt := t) hG.1 hG.2.1 hd htg (fun hc => h1 hc hG v μ' (by rw [if_pos hc] at ht; exact ht) H locs ls hP hS hl) (fun hc => h2 hc hG v μ' (by rw [if_neg hc] at ht; exact ht) H locs ls hP hS hl)
theorem T_icmp_le {q : mMI} {X : mCx} {r1 r2 : mR} {pc : Nat} {lv : List (Nat × Value)} {st : List Value} {μ : mMem} {x y : Int32} {off : Int} {dc : Decidable (x ≤ y)} (t : Nat) (hd : decode q.2.1 pc = .ok (.if_icmp .le off, 3)) (htg : (pc : Int) + off = (t : Int)) (h1 : x ≤ y → T q X r1 (t) lv st μ) (h2 : ¬ x ≤ y → T q X r2 (pc + 3) lv st μ) : T q X (@ite mR (x ≤ y) dc r1 r2) pc lv (.int y :: .int x :: st) μ :=
  fun hG v μ' ht H locs ls hP hS hl => lv_icmp_le (tgt := t) hG.1 hG.2.1 hd htg (fun hc => h1 hc hG v μ' (by rw [if_pos hc] at ht; exact ht) H locs ls hP hS hl) (fun hc => h2 hc hG v μ' (by rw [if_neg hc] at ht; exact ht) H locs ls hP hS hl)
theorem T_if_ne {q : mMI} {X : mCx} {r1 r2 : mR} {pc : Nat} {lv : List (Nat × Value)} {st : List Value} {μ : mMem} {x : Int32} {off : Int} {dc : Decidable (x = 0)} (t : Nat) (hd : decode q.2.1 pc = .ok (.ifCond .ne off, 3)) (htg : (pc : Int) + off = (t : Int)) (h1 : x = 0 → T q X r1 (pc + 3) lv st μ) (h2 : ¬ x = 0 → T q X r2 (t) lv st μ) : T q X (@ite mR (x = 0) dc r1 r2) pc lv (.int x :: st) μ :=
  fun hG v μ' ht H locs ls hP hS hl => lv_if_ne (tgt := t) hG.1 hG.2.1 hd htg (fun hc => h2 hc hG v μ' (by rw [if_neg hc] at ht; exact ht) H locs ls hP hS hl) (fun hc => h1 hc hG v μ' (by rw [if_pos hc] at ht; exact ht) H locs ls hP hS hl)
theorem T_icmp_ne {q : mMI} {X : mCx} {r1 r2 : mR} {pc : Nat} {lv : List (Nat × Value)} {st : List Value} {μ : mMem} {x y : Int32} {off : Int} {dc : Decidable (x = y)} (t : Nat) (hd : decode q.2.1 pc = .ok (.if_icmp .ne off, 3)) (htg : (pc : Int) + off = (t : Int)) (h1 : x = y → T q X r1 (pc + 3) lv st μ) (h2 : ¬ x = y → T q X r2 (t) lv st μ) : T q X (@ite mR (x = y) dc r1 r2) pc lv (.int y :: .int x :: st) μ :=
  fun hG v μ' ht H locs ls hP hS hl => lv_icmp_ne (tgt := t) hG.1 hG.2.1 hd htg (fun hc => h2 hc hG v μ' (by rw [if_neg hc] at ht; exact ht) H locs ls hP hS hl) (fun hc => h1 hc hG v μ' (by rw [if_pos hc] at ht; exact ht) H locs ls hP hS hl)
theorem T_goto {q : mMI} {X : mCx} {tgt : mR} {pc : Nat} {lv : List (Nat × Value)} {st : List Value} {μ : mMem} {off : Int} (t : Nat) (hd : decode q.2.1 pc = .ok (.goto off, 3)) (htg : (pc : Int) + off = (t : Int)) (h : T q X tgt t lv st μ) : T q X tgt pc lv st μ :=
  fun hG v μ' ht H locs ls hP hS hl => lv_goto (tgt := t) hG.1 hG.2.1 hd htg (h hG v μ' ht H locs ls hP hS hl)
