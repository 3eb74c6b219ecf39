def mu0L : List (List Int32) := [[0, 0, 1, 30], [], [], [], [], [], [], [], [0, 0, 1, 30], [], [], [], [], [], [], [], [0, 0, 1, 30], [], [], [], [], [], [], [], [0, 0, 1, 30], [], [], [], [], [], [], [], [0, 0, 1, 30], [], [], [], [], [], [], [], [0, 0, -1], [], [0, 0, -1], [], [0, 0, -1], [], [0, 0, -1], [], [], [], [], [], [], [], [], [], [], [], [], [], [], [], [], [], [], [], [], [], [], [], [], [], [], [], [], [], [], [], [], [], [], [], [], [], [], [], [], [], [], [0, 4, 9, 13, 20, 26, 29, 33], [119, 111, 111, 100, 115, 116, 111, 110, 101, 105, 114, 111, 110, 108, 97, 110, 100, 105, 110, 103, 108, 111, 100, 103, 101, 114, 103, 97, 112, 104, 111, 108, 100], [], [], [], [], [], [], [-4, -4, -4, -4], [], []]
def mu0 : mMem := (fun i => lf (mu0L.getD i []), fun _ _ => 0)
def adL (q7 q8 : Nat) (a7 a8 : Nat → Nat) : List Nat := [(a7 3), (a7 4), (a7 5), (a7 6), (a7 7), (a7 8), (a7 9), (a7 10), (a7 11), (a7 12), (a7 13), (a7 14), (a7 15), (a7 16), (a7 17), (a7 18), (a7 56), (a7 57), (a7 58), (a7 59), (a7 60), (a7 61), (a7 62), (a7 63), (a7 64), (a7 65), (a7 66), (a7 67), (a7 68), (a7 69), (a7 70), (a7 71), (a7 36), (a7 37), (a7 38), (a7 39), (a7 40), (a7 41), (a7 42), (a7 43), (a7 72), (a7 73), (a7 74), (a7 75), (a7 76), (a7 77), (a7 78), (a7 79), q7, (a7 0), (a7 1), (a7 2), (a7 19), (a7 20), (a7 21), (a7 22), (a7 23), (a7 24), (a7 25), (a7 26), (a7 27), (a7 28), (a7 29), (a7 30), (a7 31), (a7 32), (a7 33), (a7 34), (a7 35), (a7 44), (a7 45), (a7 46), (a7 47), (a7 48), (a7 49), (a7 50), (a7 51), (a7 52), (a7 53), (a7 54), (a7 55), q8, (a8 0), (a8 1), (a8 2), (a8 3), (a8 4), (a8 5), (a8 6), (a8 7), (a8 8), (a8 9), (a8 10), (a8 11), (a8 12), (a8 13), (a8 14), (a8 15), (a8 16), (a8 17)]
def adF (q7 q8 : Nat) (a7 a8 f : Nat → Nat) : Nat → Nat := fun i => if i < 100 then (adL q7 q8 a7 a8).getD i 0 else f i
def posL : List Nat := [4, 5, 6, 7, 8, 9, 10, 11, 12, 13, 14, 15, 16, 17, 18, 19, 57, 58, 59, 60, 61, 62, 63, 64, 65, 66, 67, 68, 69, 70, 71, 72, 37, 38, 39, 40, 41, 42, 43, 44, 73, 74, 75, 76, 77, 78, 79, 80, 0, 1, 2, 3, 20, 21, 22, 23, 24, 25, 26, 27, 28, 29, 30, 31, 32, 33, 34, 35, 36, 45, 46, 47, 48, 49, 50, 51, 52, 53, 54, 55, 56, 81, 82, 83, 84, 85, 86, 87, 88, 89, 90, 91, 92, 93, 94, 95, 96, 97, 98, 99]
theorem posL_inj : ∀ i, i < 100 → ∀ j, j < 100 → posL.getD i 0 = posL.getD j 0 → i = j := by decide +kernel
theorem vq_congr {c : ClassId} {n : Nat} {f g : Nat → Option Nat} (h : ∀ j, j < n → f j = g j) : vp_cell c (n, .inr (.inr (.inr (.inr f)))) = vp_cell c (n, .inr (.inr (.inr (.inr g)))) := by
  rw [vp_cell_q, vp_cell_q]
  unfold arrV
  congr 1
  apply Array.ext
  · simp
  · intro i h1 h2
    simp at h1 ⊢
    rw [h i h1]

set_option maxRecDepth 100000 in
theorem ws_addr {cA : Nat → ClassId} {q7 q8 : Nat} {a7 a8 f : Nat → Nat} : ∀ i, i < 100 → ∃ E, (wcX7_init cA q7 a7 ++ wcX8_init cA q8 a8)[posL.getD i 0]? = some (adF q7 q8 a7 a8 f i, E) := by
  intro i hi
  match i, hi with
  | 0, _ => exact ⟨_, rfl⟩
  | 1, _ => exact ⟨_, rfl⟩
  | 2, _ => exact ⟨_, rfl⟩
  | 3, _ => exact ⟨_, rfl⟩
  | 4, _ => exact ⟨_, rfl⟩
  | 5, _ => exact ⟨_, rfl⟩
  | 6, _ => exact ⟨_, rfl⟩
  | 7, _ => exact ⟨_, rfl⟩
  | 8, _ => exact ⟨_, rfl⟩
  | 9, _ => exact ⟨_, rfl⟩
  | 10, _ => exact ⟨_, rfl⟩
  | 11, _ => exact ⟨_, rfl⟩
  | 12, _ => exact ⟨_, rfl⟩
  | 13, _ => exact ⟨_, rfl⟩
  | 14, _ => exact ⟨_, rfl⟩
  | 15, _ => exact ⟨_, rfl⟩
  | 16, _ => exact ⟨_, rfl⟩
  | 17, _ => exact ⟨_, rfl⟩
  | 18, _ => exact ⟨_, rfl⟩
  | 19, _ => exact ⟨_, rfl⟩
  | 20, _ => exact ⟨_, rfl⟩
  | 21, _ => exact ⟨_, rfl⟩
  | 22, _ => exact ⟨_, rfl⟩
  | 23, _ => exact ⟨_, rfl⟩
  | 24, _ => exact ⟨_, rfl⟩
  | 25, _ => exact ⟨_, rfl⟩
  | 26, _ => exact ⟨_, rfl⟩
  | 27, _ => exact ⟨_, rfl⟩
  | 28, _ => exact ⟨_, rfl⟩
  | 29, _ => exact ⟨_, rfl⟩
  | 30, _ => exact ⟨_, rfl⟩
  | 31, _ => exact ⟨_, rfl⟩
  | 32, _ => exact ⟨_, rfl⟩
  | 33, _ => exact ⟨_, rfl⟩
  | 34, _ => exact ⟨_, rfl⟩
  | 35, _ => exact ⟨_, rfl⟩
  | 36, _ => exact ⟨_, rfl⟩
  | 37, _ => exact ⟨_, rfl⟩
  | 38, _ => exact ⟨_, rfl⟩
  | 39, _ => exact ⟨_, rfl⟩
  | 40, _ => exact ⟨_, rfl⟩
  | 41, _ => exact ⟨_, rfl⟩
  | 42, _ => exact ⟨_, rfl⟩
  | 43, _ => exact ⟨_, rfl⟩
  | 44, _ => exact ⟨_, rfl⟩
  | 45, _ => exact ⟨_, rfl⟩
  | 46, _ => exact ⟨_, rfl⟩
  | 47, _ => exact ⟨_, rfl⟩
  | 48, _ => exact ⟨_, rfl⟩
  | 49, _ => exact ⟨_, rfl⟩
  | 50, _ => exact ⟨_, rfl⟩
  | 51, _ => exact ⟨_, rfl⟩
  | 52, _ => exact ⟨_, rfl⟩
  | 53, _ => exact ⟨_, rfl⟩
  | 54, _ => exact ⟨_, rfl⟩
  | 55, _ => exact ⟨_, rfl⟩
  | 56, _ => exact ⟨_, rfl⟩
  | 57, _ => exact ⟨_, rfl⟩
  | 58, _ => exact ⟨_, rfl⟩
  | 59, _ => exact ⟨_, rfl⟩
  | 60, _ => exact ⟨_, rfl⟩
  | 61, _ => exact ⟨_, rfl⟩
  | 62, _ => exact ⟨_, rfl⟩
  | 63, _ => exact ⟨_, rfl⟩
  | 64, _ => exact ⟨_, rfl⟩
  | 65, _ => exact ⟨_, rfl⟩
  | 66, _ => exact ⟨_, rfl⟩
  | 67, _ => exact ⟨_, rfl⟩
  | 68, _ => exact ⟨_, rfl⟩
  | 69, _ => exact ⟨_, rfl⟩
  | 70, _ => exact ⟨_, rfl⟩
  | 71, _ => exact ⟨_, rfl⟩
  | 72, _ => exact ⟨_, rfl⟩
  | 73, _ => exact ⟨_, rfl⟩
  | 74, _ => exact ⟨_, rfl⟩
  | 75, _ => exact ⟨_, rfl⟩
  | 76, _ => exact ⟨_, rfl⟩
  | 77, _ => exact ⟨_, rfl⟩
  | 78, _ => exact ⟨_, rfl⟩
  | 79, _ => exact ⟨_, rfl⟩
  | 80, _ => exact ⟨_, rfl⟩
  | 81, _ => exact ⟨_, rfl⟩
  | 82, _ => exact ⟨_, rfl⟩
  | 83, _ => exact ⟨_, rfl⟩
  | 84, _ => exact ⟨_, rfl⟩
  | 85, _ => exact ⟨_, rfl⟩
  | 86, _ => exact ⟨_, rfl⟩
  | 87, _ => exact ⟨_, rfl⟩
  | 88, _ => exact ⟨_, rfl⟩
  | 89, _ => exact ⟨_, rfl⟩
  | 90, _ => exact ⟨_, rfl⟩
  | 91, _ => exact ⟨_, rfl⟩
  | 92, _ => exact ⟨_, rfl⟩
  | 93, _ => exact ⟨_, rfl⟩
  | 94, _ => exact ⟨_, rfl⟩
  | 95, _ => exact ⟨_, rfl⟩
  | 96, _ => exact ⟨_, rfl⟩
  | 97, _ => exact ⟨_, rfl⟩
  | 98, _ => exact ⟨_, rfl⟩
  | 99, _ => exact ⟨_, rfl⟩
  | i + 100, hi => exact absurd hi (by omega)
theorem ws_inj {A : Nat → Prop} {cA : Nat → ClassId} {q7 q8 : Nat} {a7 a8 f : Nat → Nat} (hD : va_D A (wcX7_init cA q7 a7 ++ wcX8_init cA q8 a8)) : mInj (adF q7 q8 a7 a8 f) ∧ ∀ i, i < 100 → A (adF q7 q8 a7 a8 f i) := by
  refine ⟨fun i j hi hj e => ?_, fun i hi => ?_⟩
  · obtain ⟨E1, h1⟩ := ws_addr (cA := cA) (f := f) i hi
    obtain ⟨E2, h2⟩ := ws_addr (cA := cA) (f := f) j hj
    exact posL_inj i hi j hj (hD.1 _ _ _ _ h1 h2 e)
  · obtain ⟨E1, h1⟩ := ws_addr (cA := cA) (f := f) i hi
    exact hD.2 _ _ h1
set_option maxRecDepth 100000 in
set_option maxHeartbeats 4000000 in
theorem ws_cells {D : va_G} {H : Heap} {cA : Nat → ClassId} {q7 q8 : Nat} {a7 a8 f : Nat → Nat} (h7 : va_P D vwCl (wcX7_init cA q7 a7) H) (h8 : va_P D vwCl (wcX8_init cA q8 a8) H) : va_P D vwCl (wsOf (adF q7 q8 a7 a8 f) cA mu0) H := by
  intro k x hx
  obtain ⟨hk, rfl⟩ := ws_get hx
  match k, hk with
  | 0, _ => exact h7 4 _ rfl
  | 1, _ => exact h7 5 _ rfl
  | 2, _ => exact h7 6 _ rfl
  | 3, _ => exact h7 7 _ rfl
  | 4, _ => exact h7 8 _ rfl
  | 5, _ => exact h7 9 _ rfl
  | 6, _ => exact h7 10 _ rfl
  | 7, _ => exact h7 11 _ rfl
  | 8, _ => exact h7 12 _ rfl
  | 9, _ => exact h7 13 _ rfl
  | 10, _ => exact h7 14 _ rfl
  | 11, _ => exact h7 15 _ rfl
  | 12, _ => exact h7 16 _ rfl
  | 13, _ => exact h7 17 _ rfl
  | 14, _ => exact h7 18 _ rfl
  | 15, _ => exact h7 19 _ rfl
  | 16, _ => exact h7 57 _ rfl
  | 17, _ => exact h7 58 _ rfl
  | 18, _ => exact h7 59 _ rfl
  | 19, _ => exact h7 60 _ rfl
  | 20, _ => exact h7 61 _ rfl
  | 21, _ => exact h7 62 _ rfl
  | 22, _ => exact h7 63 _ rfl
  | 23, _ => exact h7 64 _ rfl
  | 24, _ => exact h7 65 _ rfl
  | 25, _ => exact h7 66 _ rfl
  | 26, _ => exact h7 67 _ rfl
  | 27, _ => exact h7 68 _ rfl
  | 28, _ => exact h7 69 _ rfl
  | 29, _ => exact h7 70 _ rfl
  | 30, _ => exact h7 71 _ rfl
  | 31, _ => exact h7 72 _ rfl
  | 32, _ => exact h7 37 _ rfl
  | 33, _ => exact h7 38 _ rfl
  | 34, _ => exact h7 39 _ rfl
  | 35, _ => exact h7 40 _ rfl
  | 36, _ => exact h7 41 _ rfl
  | 37, _ => exact h7 42 _ rfl
  | 38, _ => exact h7 43 _ rfl
  | 39, _ => exact h7 44 _ rfl
  | 40, _ => exact h7 73 _ rfl
  | 41, _ => exact h7 74 _ rfl
  | 42, _ => exact h7 75 _ rfl
  | 43, _ => exact h7 76 _ rfl
  | 44, _ => exact h7 77 _ rfl
  | 45, _ => exact h7 78 _ rfl
  | 46, _ => exact h7 79 _ rfl
  | 47, _ => exact h7 80 _ rfl
  | 48, _ => exact h7 0 _ rfl
  | 49, _ => exact h7 1 _ rfl
  | 50, _ => exact h7 2 _ rfl
  | 51, _ => exact h7 3 _ rfl
  | 52, _ =>
    have h := h7 20 _ rfl
    show H[_]? = some (vp_cell _ _)
    refine Eq.trans h (congrArg some (vq_congr (fun j hj => ?_)))
    match j, hj with
    | 0, _ => rfl
    | 1, _ => rfl
    | j + 2, hj => exact absurd hj (by omega)
  | 53, _ => exact h7 21 _ rfl
  | 54, _ => exact h7 22 _ rfl
  | 55, _ => exact h7 23 _ rfl
  | 56, _ => exact h7 24 _ rfl
  | 57, _ => exact h7 25 _ rfl
  | 58, _ => exact h7 26 _ rfl
  | 59, _ => exact h7 27 _ rfl
  | 60, _ => exact h7 28 _ rfl
  | 61, _ => exact h7 29 _ rfl
  | 62, _ => exact h7 30 _ rfl
  | 63, _ => exact h7 31 _ rfl
  | 64, _ => exact h7 32 _ rfl
  | 65, _ => exact h7 33 _ rfl
  | 66, _ => exact h7 34 _ rfl
  | 67, _ => exact h7 35 _ rfl
  | 68, _ => exact h7 36 _ rfl
  | 69, _ =>
    have h := h7 45 _ rfl
    show H[_]? = some (vp_cell _ _)
    refine Eq.trans h (congrArg some (vq_congr (fun j hj => ?_)))
    match j, hj with
    | 0, _ => rfl
    | 1, _ => rfl
    | 2, _ => rfl
    | 3, _ => rfl
    | 4, _ => rfl
    | j + 5, hj => exact absurd hj (by omega)
  | 70, _ => exact h7 46 _ rfl
  | 71, _ => exact h7 47 _ rfl
  | 72, _ => exact h7 48 _ rfl
  | 73, _ => exact h7 49 _ rfl
  | 74, _ => exact h7 50 _ rfl
  | 75, _ =>
    have h := h7 51 _ rfl
    show H[_]? = some (vp_cell _ _)
    refine Eq.trans h (congrArg some (vq_congr (fun j hj => ?_)))
    match j, hj with
    | 0, _ => rfl
    | 1, _ => rfl
    | 2, _ => rfl
    | 3, _ => rfl
    | j + 4, hj => exact absurd hj (by omega)
  | 76, _ => exact h7 52 _ rfl
  | 77, _ => exact h7 53 _ rfl
  | 78, _ => exact h7 54 _ rfl
  | 79, _ => exact h7 55 _ rfl
  | 80, _ =>
    have h := h7 56 _ rfl
    show H[_]? = some (vp_cell _ _)
    refine Eq.trans h (congrArg some (vq_congr (fun j hj => ?_)))
    match j, hj with
    | 0, _ => rfl
    | 1, _ => rfl
    | 2, _ => rfl
    | 3, _ => rfl
    | j + 4, hj => exact absurd hj (by omega)
  | 81, _ => exact h8 0 _ rfl
  | 82, _ => exact h8 1 _ rfl
  | 83, _ => exact h8 2 _ rfl
  | 84, _ => exact h8 3 _ rfl
  | 85, _ => exact h8 4 _ rfl
  | 86, _ => exact h8 5 _ rfl
  | 87, _ => exact h8 6 _ rfl
  | 88, _ => exact h8 7 _ rfl
  | 89, _ => exact h8 8 _ rfl
  | 90, _ => exact h8 9 _ rfl
  | 91, _ => exact h8 10 _ rfl
  | 92, _ => exact h8 11 _ rfl
  | 93, _ => exact h8 12 _ rfl
  | 94, _ => exact h8 13 _ rfl
  | 95, _ => exact h8 14 _ rfl
  | 96, _ => exact h8 15 _ rfl
  | 97, _ => exact h8 16 _ rfl
  | 98, _ => exact h8 17 _ rfl
  | 99, _ => exact h8 18 _ rfl
  | k + 100, hk => exact absurd hk (by omega)
theorem start_cA {s : State} {args : Array Value} (hts : ∀ w ∈ lw_tbl, w.before args s = true) : ∃ cA : Nat → ClassId, ∀ (k : Nat) (q : ClassId × FieldType), (tysOf cA)[k]? = some q → ArrOfT s q.1 q.2 ∧ va_RA s q.1 q.2 := by
  obtain ⟨c9, k9, o9, f9, g9, h9⟩ := Cond.arrayClass_spec (hts (.arrayClass .byte) (List.mem_of_getElem? (i := 115) (by decide +kernel)))
  obtain ⟨c10, k10, o10, f10, g10, h10⟩ := Cond.arrayClass_spec (hts (.arrayClass .int) (List.mem_of_getElem? (i := 116) (by decide +kernel)))
  obtain ⟨c11, k11, o11, f11, g11, h11⟩ := Cond.arrayClass_spec (hts (.arrayClass .long) (List.mem_of_getElem? (i := 246) (by decide +kernel)))
  obtain ⟨c12, k12, o12, f12, g12, h12⟩ := Cond.arrayClass_spec (hts (.arrayClass .boolean) (List.mem_of_getElem? (i := 204) (by decide +kernel)))
  obtain ⟨o13, c13, k13, e13, -, g13, h13, f13⟩ := Cond.arrayOver_spec (hts (.arrayOver (.object RX4)) (List.mem_of_getElem? (i := 190) (by decide +kernel)))
  obtain ⟨o14, c14, k14, e14, -, g14, h14, f14⟩ := Cond.arrayOver_spec (hts (.arrayOver (.object RX5)) (List.mem_of_getElem? (i := 282) (by decide +kernel)))
  obtain ⟨o15, c15, k15, e15, -, g15, h15, f15⟩ := Jvm.Stand.arrayOver_specB (hts (.arrayOver (.array .int)) (List.mem_of_getElem? (i := 256) (by decide +kernel)))
  refine ⟨fun n => if n = 9 then c9 else if n = 10 then c10 else if n = 11 then c11 else if n = 12 then c12 else if n = 13 then c13 else if n = 14 then c14 else c15, fun k q hq => ?_⟩
  match k, hq with
  | 0, hq => cases hq; exact ⟨fun n z => ⟨fun k h => (by cases h), k9, g9, o9, h9⟩, f9⟩
  | 1, hq => cases hq; exact ⟨fun n z => ⟨fun k h => (by cases h), k10, g10, o10, h10⟩, f10⟩
  | 2, hq => cases hq; exact ⟨fun n z => ⟨fun k h => (by cases h), k11, g11, o11, h11⟩, f11⟩
  | 3, hq => cases hq; exact ⟨fun n z => ⟨fun k h => (by cases h), k12, g12, o12, h12⟩, f12⟩
  | 4, hq => cases hq; exact ⟨fun n z => ⟨fun k h => (by cases h), k13, g13, o13, h13⟩, k13, o13, g13, h13, e13, f13⟩
  | 5, hq => cases hq; exact ⟨fun n z => ⟨fun k h => (by cases h), k14, g14, o14, h14⟩, k14, o14, g14, h14, e14, f14⟩
  | 6, hq => cases hq; exact ⟨fun n z => ⟨fun k h => (by cases h), k15, g15, o15, h15⟩, f15⟩
  | k + 7, hq => simp [tysOf] at hq
theorem nest_in : ∀ q ∈ nestL, Cond.methodLinkNest q.1 q.2.1 q.2.2 "RankStairs" ∈ lw_tbl := by decide +kernel
theorem start_NC {s : State} {args : Array Value} (hts : ∀ w ∈ lw_tbl, w.before args s = true) : NC s := ⟨va_AO.of (hts (.arrayOver (.object RX4)) (List.mem_of_getElem? (i := 190) (by decide +kernel))), va_AO.of (hts (.arrayOver (.object RX5)) (List.mem_of_getElem? (i := 282) (by decide +kernel))), hts (.arrayOver (.array .int)) (List.mem_of_getElem? (i := 256) (by decide +kernel)), fun q hq => va_Nw.of rfl (hts _ (nest_in q hq))⟩
abbrev flt : List Cond := flatC (Jvm.Cond.and given_1 narrow_1)
theorem fl114 : ∀ j, j < 7 → Cond.eq (.elem (Term.static "RankStairs$Tape" "NUMBERS" "[I") (.int (Int32.ofNat j))) (.int (tb114.getD j 0)) ∈ flt := by decide +kernel
theorem st114 {s : State} {args : Array Value} {A : Nat → Prop} (hts : ∀ w ∈ lw_tbl, w.before args s = true) (hs : ∀ c ∈ flt, c.before args s = true) (hA : ∀ a : Nat, a < s.heap.size → ¬ A a) : ∃ t : Nat, va_Z "RankStairs$Tape" "NUMBERS" "[I" (.ref t) A s s.heap ∧ va_T .int t 7 (fun j => .int (tb114.getD j 0)) A s s.heap := by
  obtain ⟨t, h1, h2⟩ := va_Tof (tm := (Term.static "RankStairs$Tape" "NUMBERS" "[I")) (ty := .int) (N := 7) (f := fun j => .int (tb114.getD j 0)) (A := A) (by decide) (hs (Cond.arrayOf (Term.static "RankStairs$Tape" "NUMBERS" "[I") .int) (by decide +kernel)) (va_eqt (hs (Cond.eq (.length (Term.static "RankStairs$Tape" "NUMBERS" "[I")) (.int 7)) (by decide +kernel))) (fun j hj => va_eqt (hs _ (fl114 j hj))) hA
  exact ⟨t, va_Zref (hts (.laysStatic "RankStairs$Tape" "NUMBERS" "[I") (List.mem_of_getElem? (i := 447) (by decide +kernel))) (hts (.initialized "RankStairs$Tape") (List.mem_of_getElem? (i := 52) (by decide +kernel))) h1 hA, h2⟩
theorem fl115 : ∀ j, j < 28 → Cond.eq (.elem (Term.static "RankStairs$Tape" "LEAST" "[I") (.int (Int32.ofNat j))) (.int (tb115.getD j 0)) ∈ flt := by decide +kernel
theorem st115 {s : State} {args : Array Value} {A : Nat → Prop} (hts : ∀ w ∈ lw_tbl, w.before args s = true) (hs : ∀ c ∈ flt, c.before args s = true) (hA : ∀ a : Nat, a < s.heap.size → ¬ A a) : ∃ t : Nat, va_Z "RankStairs$Tape" "LEAST" "[I" (.ref t) A s s.heap ∧ va_T .int t 28 (fun j => .int (tb115.getD j 0)) A s s.heap := by
  obtain ⟨t, h1, h2⟩ := va_Tof (tm := (Term.static "RankStairs$Tape" "LEAST" "[I")) (ty := .int) (N := 28) (f := fun j => .int (tb115.getD j 0)) (A := A) (by decide) (hs (Cond.arrayOf (Term.static "RankStairs$Tape" "LEAST" "[I") .int) (by decide +kernel)) (va_eqt (hs (Cond.eq (.length (Term.static "RankStairs$Tape" "LEAST" "[I")) (.int 28)) (by decide +kernel))) (fun j hj => va_eqt (hs _ (fl115 j hj))) hA
  exact ⟨t, va_Zref (hts (.laysStatic "RankStairs$Tape" "LEAST" "[I") (List.mem_of_getElem? (i := 453) (by decide +kernel))) (hts (.initialized "RankStairs$Tape") (List.mem_of_getElem? (i := 52) (by decide +kernel))) h1 hA, h2⟩
theorem fl116 : ∀ j, j < 28 → Cond.eq (.elem (Term.static "RankStairs$Tape" "MOST" "[I") (.int (Int32.ofNat j))) (.int (tb116.getD j 0)) ∈ flt := by decide +kernel
theorem st116 {s : State} {args : Array Value} {A : Nat → Prop} (hts : ∀ w ∈ lw_tbl, w.before args s = true) (hs : ∀ c ∈ flt, c.before args s = true) (hA : ∀ a : Nat, a < s.heap.size → ¬ A a) : ∃ t : Nat, va_Z "RankStairs$Tape" "MOST" "[I" (.ref t) A s s.heap ∧ va_T .int t 28 (fun j => .int (tb116.getD j 0)) A s s.heap := by
  obtain ⟨t, h1, h2⟩ := va_Tof (tm := (Term.static "RankStairs$Tape" "MOST" "[I")) (ty := .int) (N := 28) (f := fun j => .int (tb116.getD j 0)) (A := A) (by decide) (hs (Cond.arrayOf (Term.static "RankStairs$Tape" "MOST" "[I") .int) (by decide +kernel)) (va_eqt (hs (Cond.eq (.length (Term.static "RankStairs$Tape" "MOST" "[I")) (.int 28)) (by decide +kernel))) (fun j hj => va_eqt (hs _ (fl116 j hj))) hA
  exact ⟨t, va_Zref (hts (.laysStatic "RankStairs$Tape" "MOST" "[I") (List.mem_of_getElem? (i := 455) (by decide +kernel))) (hts (.initialized "RankStairs$Tape") (List.mem_of_getElem? (i := 52) (by decide +kernel))) h1 hA, h2⟩
def tmS (i : Nat) : Term := .string "RankStairs$Tape" (sIdx.getD i 0)
theorem fs1 : ∀ i, i < 7 → sLen.getD i 0 < 2 ^ 31 ∧ Cond.exactly (tmS i) "java/lang/String" ∈ flt ∧ Cond.eq (.field (tmS i) "java/lang/String" "coder" "B") (.int 0) ∈ flt ∧ Cond.arrayOf (.field (tmS i) "java/lang/String" "value" "[B") .byte ∈ flt ∧ Cond.eq (.length (.field (tmS i) "java/lang/String" "value" "[B")) (.int (Int32.ofNat (sLen.getD i 0))) ∈ flt ∧ Cond.stringRef "RankStairs$Tape" (sIdx.getD i 0) (sTx.getD i "") ∈ lw_tbl := by decide +kernel
theorem fs2 : ∀ i, i < 7 → ∀ j, j < sLen.getD i 0 → Cond.eq (.elem (.field (tmS i) "java/lang/String" "value" "[B") (.int (Int32.ofNat j))) (.int ((sByt.getD i []).getD j 0)) ∈ flt := by decide +kernel
theorem fs3 : ∀ i, i < 7 → ∀ j, j < 7 → i ≠ j → Cond.not (Cond.eq (tmS i) (tmS j)) ∈ flt ∨ Cond.not (Cond.eq (tmS j) (tmS i)) ∈ flt := by decide +kernel
theorem start_ZS {s : State} {args : Array Value} {A : Nat → Prop} (hts : ∀ w ∈ lw_tbl, w.before args s = true) (hs : ∀ c ∈ flt, c.before args s = true) (hA : ∀ a : Nat, a < s.heap.size → ¬ A a) (b : Nat) : ∃ f : Nat → Nat, f 118 = b ∧ ∀ ad : Nat → Nat, (∀ i, 100 ≤ i → ad i = f i) → ZS ad A s s.heap := by
  obtain ⟨t114, z114⟩ := st114 (A := A) hts hs hA
  obtain ⟨t115, z115⟩ := st115 (A := A) hts hs hA
  obtain ⟨t116, z116⟩ := st116 (A := A) hts hs hA
  obtain ⟨adK, adV, hk, hv⟩ := vk_Sof (N := 7) (tm := tmS) (len := sLen) (byt := sByt) (A := A) (args := args) (s := s) (fun i hi => (fs1 i hi).1) (fun i hi => hs _ (fs1 i hi).2.1) (fun i hi => hs _ (fs1 i hi).2.2.1) (fun i hi => hs _ (fs1 i hi).2.2.2.1) (fun i hi => hs _ (fs1 i hi).2.2.2.2.1) (fun i hi j hj => hs _ (fs2 i hi j hj)) (fun i j hi hj hne => (fs3 i hi j hj hne).imp (hs _) (hs _)) hA
  have hc := va_Zof (A := A) (hts (.laysStatic "java/lang/String" "COMPACT_STRINGS" "Z") (List.mem_of_getElem? (i := 403) (by decide +kernel))) (hts (.initialized "java/lang/String") (List.mem_of_getElem? (i := 60) (by decide +kernel))) (va_eqi (hs (Cond.eq (.static "java/lang/String" "COMPACT_STRINGS" "Z") (.int 1)) (by decide +kernel))) hA
  have hq := va_Zqof (A := A) (hts (.laysStatic "jdk/internal/util/Preconditions" "SIOOBE_FORMATTER" "Ljava/util/function/BiFunction;") (List.mem_of_getElem? (i := 419) (by decide +kernel))) (hts (.initialized "jdk/internal/util/Preconditions") (List.mem_of_getElem? (i := 62) (by decide +kernel))) (hs (Cond.isRef (.static "jdk/internal/util/Preconditions" "SIOOBE_FORMATTER" "Ljava/util/function/BiFunction;")) (by decide +kernel)) hA
  obtain ⟨t117, hq⟩ : ∃ t : Nat, va_Z "jdk/internal/util/Preconditions" "SIOOBE_FORMATTER" "Ljava/util/function/BiFunction;" .null A s s.heap ∨ va_Z "jdk/internal/util/Preconditions" "SIOOBE_FORMATTER" "Ljava/util/function/BiFunction;" (.ref t) A s s.heap := by
    rcases hq with h | ⟨t, h⟩
    · exact ⟨0, Or.inl h⟩
    · exact ⟨t, Or.inr h⟩
  refine ⟨fun i => if i < 107 then adK (i - 100) else if i < 114 then adV (i - 107) else if i = 114 then t114 else if i = 115 then t115 else if i = 116 then t116 else if i = 117 then t117 else b, rfl, fun ad had => ?_⟩
  have e14 : ad 114 = t114 := had 114 (by decide)
  have e15 : ad 115 = t115 := had 115 (by decide)
  have e16 : ad 116 = t116 := had 116 (by decide)
  have e17 : ad 117 = t117 := had 117 (by decide)
  have eK : ∀ i, i < 7 → ad (100 + i) = adK i := fun i hi => by
    rw [had _ (by omega)]
    show (if 100 + i < 107 then adK (100 + i - 100) else _) = adK i
    rw [if_pos (by omega), Nat.add_sub_cancel_left]
  have eV : ∀ i, i < 7 → ad (107 + i) = adV i := fun i hi => by
    rw [had _ (by omega)]
    show (if 107 + i < 107 then _ else if 107 + i < 114 then adV (107 + i - 107) else _) = adV i
    rw [if_neg (by omega), if_pos (by omega), Nat.add_sub_cancel_left]
  refine ⟨⟨by rw [e14]; exact z114.1, by rw [e14]; exact z114.2⟩, ⟨by rw [e15]; exact z115.1, by rw [e15]; exact z115.2⟩, ⟨by rw [e16]; exact z116.1, by rw [e16]; exact z116.2⟩, hc, by unfold ZQ; rw [e17]; exact hq, ?_, fun i hi => ?_⟩
  · refine ⟨fun i hi => ?_, fun i j hi hj e => ?_⟩
    · dsimp only
      rw [eK i hi, eV i hi]
      exact hk.1 i hi
    · dsimp only at e
      rw [eK i hi, eK j hj] at e
      exact hk.2 i j hi hj e
  · rw [eK i hi]
    exact vk_R.of (hts _ (fs1 i hi).2.2.2.2.2) (hv i hi)
