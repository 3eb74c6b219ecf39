/-! PURE FACTS: smooth -/
theorem shN_0 (a b : Nat) : shN a b = 0 ↔ a = 0 ∧ b = 0 := by
  unfold shN
  by_cases h0 : a = 0
  · rw [if_pos h0]
    exact ⟨fun h => ⟨h0, h⟩, fun h => h.2⟩
  · rw [if_neg h0]
    by_cases h1 : b = 0
    · rw [if_pos h1]
      exact ⟨fun h => absurd h h0, fun h => absurd h.1 h0⟩
    · rw [if_neg h1]
      constructor
      · intro h
        exfalso
        split at h
        · exact h0 h
        · split at h
          · exact h1 h
          · split at h
            · exact h1 h
            · exact h0 h
      · exact fun h => absurd h.1 h0
theorem shF_0 : ∀ (r : Nat) (L : List Nat), shF r L = 0 ↔ ∀ k, k < r → k < L.length → L.getD k 0 = 0
  | 0, _ => ⟨fun _ k hk => absurd hk (Nat.not_lt_zero _), fun _ => rfl⟩
  | _ + 1, [] => ⟨fun _ k _ hk => absurd hk (Nat.not_lt_zero _), fun _ => rfl⟩
  | r + 1, x :: L => by
    show shN (shF r L) x = 0 ↔ _
    rw [shN_0, shF_0 r L]
    constructor
    · rintro ⟨h1, h2⟩ k hk hl
      cases k with
      | zero => exact h2
      | succ k => exact h1 k (by omega) (by simpa using hl)
    · intro h
      exact ⟨fun k hk hl => h (k + 1) (by omega) (by simpa using hl), h 0 (by omega) (by simp)⟩
theorem pvS_rec (t r i : Nat) : pvS t r i ≠ 0 ↔ t.testBit i = true ∧ (i < r ∨ ∃ j, j < i ∧ i ≤ j + r ∧ pvS t r j ≠ 0) := by
  have hs : shF r (pR t r i) = 0 ↔ ¬ ∃ j, j < i ∧ i ≤ j + r ∧ pvS t r j ≠ 0 := by
    rw [shF_0]
    constructor
    · rintro h ⟨j, h1, h2, h3⟩
      have := h (i - 1 - j) (by omega) (by rw [pR_len]; omega)
      rw [pR_at t r i _ (by omega), show i - 1 - (i - 1 - j) = j by omega] at this
      exact h3 this
    · intro h k hk hl
      rw [pR_len] at hl
      rw [pR_at t r i k hl]
      exact Classical.byContradiction (fun q => h ⟨i - 1 - k, by omega, by omega, q⟩)
  unfold pvS at hs ⊢
  unfold pvR
  by_cases ht : t.testBit i = true
  · rw [if_pos ht]
    by_cases hr : i < r
    · rw [if_pos hr]
      have : 0 < 2 ^ i := Nat.two_pow_pos i
      exact ⟨fun _ => ⟨ht, Or.inl hr⟩, fun _ => by omega⟩
    · rw [if_neg hr, fc_eq]
      by_cases hz : shF r (pR t r i) = 0
      · rw [if_pos hz]
        constructor
        · intro h; exact absurd rfl h
        · rintro ⟨-, h | h⟩
          · exact absurd h hr
          · exact absurd h (hs.mp hz)
      · rw [if_neg hz]
        constructor
        · intro _
          exact ⟨ht, Or.inr (Classical.byContradiction (fun q => hz (hs.mpr q)))⟩
        · intro _ h
          have : shF r (pR t r i) ||| 2 ^ i ≥ 2 ^ i := Nat.right_le_or
          have h2 : 0 < 2 ^ i := Nat.two_pow_pos i
          omega
  · rw [if_neg ht]
    exact ⟨fun h => absurd rfl h, fun h => absurd h.1 ht⟩
/-- the least over the r newest and b -/
def swM : Nat → List Nat → Nat → Nat
  | 0, _, b => b
  | _ + 1, [], b => b
  | r + 1, x :: L, b => min (swM r L b) x
theorem swM_at : ∀ (r : Nat) (L : List Nat) (b : Nat), swM r L b = swM (min r L.length) L b
  | 0, _, _ => by simp
  | r + 1, [], _ => by simp; rfl
  | r + 1, x :: L, b => by
    have e : min (r + 1) (x :: L).length = min r L.length + 1 := by simp
    rw [e]
    show min (swM r L b) x = min (swM (min r L.length) L b) x
    rw [← swM_at r L]
theorem swM_le : ∀ (r : Nat) (L : List Nat) (b w : Nat), swM r L b ≤ w ↔ b ≤ w ∨ ∃ k, k < r ∧ k < L.length ∧ L.getD k 0 ≤ w
  | 0, _, b, w => ⟨fun h => Or.inl h, fun h => by
      rcases h with h | ⟨k, h, -⟩
      · exact h
      · exact absurd h (Nat.not_lt_zero _)⟩
  | _ + 1, [], b, w => ⟨fun h => Or.inl h, fun h => by
      rcases h with h | ⟨k, -, h, -⟩
      · exact h
      · exact absurd h (Nat.not_lt_zero _)⟩
  | r + 1, x :: L, b, w => by
    show min (swM r L b) x ≤ w ↔ _
    rw [show min (swM r L b) x ≤ w ↔ (swM r L b ≤ w ∨ x ≤ w) by omega, swM_le r L b w]
    constructor
    · rintro ((h | ⟨k, h1, h2, h3⟩) | h)
      · exact Or.inl h
      · exact Or.inr ⟨k + 1, by omega, by simpa using h2, h3⟩
      · exact Or.inr ⟨0, by omega, by simp, h⟩
    · rintro (h | ⟨k, h1, h2, h3⟩)
      · exact Or.inl (Or.inl h)
      · cases k with
        | zero => exact Or.inr h3
        | succ k => exact Or.inl (Or.inr ⟨k, by omega, by simpa using h2, h3⟩)
theorem swM_b : ∀ (r : Nat) (L : List Nat) (b : Nat), swM r L b ≤ b
  | 0, _, _ => Nat.le_refl _
  | _ + 1, [], _ => Nat.le_refl _
  | r + 1, x :: L, b => Nat.le_trans (Nat.min_le_left _ _) (swM_b r L b)
def swV (t r : Nat) (g : Nat → Nat) (i : Nat) (L : List Nat) : Nat := if t.testBit i then max (swM r L (if i < r then 0 else 100)) (g i) else 100
def swR (t r : Nat) (g : Nat → Nat) : Nat → List Nat
  | 0 => []
  | i + 1 => swV t r g i (swR t r g i) :: swR t r g i
def swS (t r : Nat) (g : Nat → Nat) (i : Nat) : Nat := swV t r g i (swR t r g i)
theorem swR_len (t r : Nat) (g : Nat → Nat) : ∀ n, (swR t r g n).length = n
  | 0 => rfl
  | n + 1 => by show (swR t r g n).length + 1 = _; rw [swR_len t r g n]
theorem swR_at (t r : Nat) (g : Nat → Nat) : ∀ n k, k < n → (swR t r g n).getD k 0 = swS t r g (n - 1 - k)
  | 0, _, h => absurd h (Nat.not_lt_zero _)
  | n + 1, 0, _ => rfl
  | n + 1, k + 1, h => by
    show (swR t r g n).getD k 0 = _
    rw [swR_at t r g n k (by omega)]
    congr 1
    omega
theorem swS_le {t r i w : Nat} {g : Nat → Nat} (hw : w < 100) : swS t r g i ≤ w ↔ (t.testBit i = true ∧ g i ≤ w) ∧ (i < r ∨ ∃ j, j < i ∧ i ≤ j + r ∧ swS t r g j ≤ w) := by
  have hs : (∃ k, k < r ∧ k < (swR t r g i).length ∧ (swR t r g i).getD k 0 ≤ w) ↔ ∃ j, j < i ∧ i ≤ j + r ∧ swS t r g j ≤ w := by
    constructor
    · rintro ⟨k, h1, h2, h3⟩
      rw [swR_len] at h2
      rw [swR_at t r g i k h2] at h3
      exact ⟨i - 1 - k, by omega, by omega, h3⟩
    · rintro ⟨j, h1, h2, h3⟩
      refine ⟨i - 1 - j, by omega, by rw [swR_len]; omega, ?_⟩
      rw [swR_at t r g i _ (by omega), show i - 1 - (i - 1 - j) = j by omega]
      exact h3
  have e : swS t r g i = if t.testBit i then max (swM r (swR t r g i) (if i < r then 0 else 100)) (g i) else 100 := rfl
  rw [e]
  by_cases ht : t.testBit i = true
  · rw [if_pos ht, Nat.max_le, swM_le, ← hs]
    by_cases hr : i < r
    · rw [if_pos hr]
      constructor
      · rintro ⟨-, h⟩; exact ⟨⟨ht, h⟩, Or.inl hr⟩
      · rintro ⟨⟨-, h⟩, -⟩; exact ⟨Or.inl (Nat.zero_le _), h⟩
    · rw [if_neg hr]
      constructor
      · rintro ⟨h1 | h1, h2⟩
        · omega
        · exact ⟨⟨ht, h2⟩, Or.inr h1⟩
      · rintro ⟨⟨-, h2⟩, h1 | h1⟩
        · exact absurd h1 hr
        · exact ⟨Or.inr h1, h2⟩
  · rw [if_neg ht]
    constructor
    · intro h; omega
    · rintro ⟨⟨h, -⟩, -⟩; exact absurd h ht
theorem sw_pv {t r w : Nat} {g : Nat → Nat} {T : Nat} (hw : w < 100) (hT : ∀ i, T.testBit i = true ↔ (t.testBit i = true ∧ g i ≤ w)) : ∀ i, swS t r g i ≤ w ↔ pvS T r i ≠ 0 := by
  intro i
  induction i using Nat.strongRecOn with
  | ind i ih =>
    rw [swS_le hw, pvS_rec, hT]
    constructor
    · rintro ⟨h1, h2 | ⟨j, a, b, c⟩⟩
      · exact ⟨h1, Or.inl h2⟩
      · exact ⟨h1, Or.inr ⟨j, a, b, (ih j a).mp c⟩⟩
    · rintro ⟨h1, h2 | ⟨j, a, b, c⟩⟩
      · exact ⟨h1, Or.inl h2⟩
      · exact ⟨h1, Or.inr ⟨j, a, b, (ih j a).mpr c⟩⟩
theorem swS_100 {t r : Nat} {g : Nat → Nat} {i : Nat} (hg : t.testBit i = true → g i ≤ 100) : swS t r g i ≤ 100 := by
  unfold swS swV
  by_cases ht : t.testBit i = true
  · rw [if_pos ht]
    refine Nat.max_le.mpr ⟨Nat.le_trans (swM_b _ _ _) ?_, hg ht⟩
    split <;> omega
  · rw [if_neg ht]
    exact Nat.le_refl _
/-! ## the class -/
theorem imn2 {a b : Nat} (ha : a < 2 ^ 31) (hb : b < 2 ^ 31) : imin (nI a) (nI b) = nI (min a b) := by
  unfold imin
  by_cases h : b < a
  · rw [if_pos (nI_lt h ha), Nat.min_eq_right (by omega)]
  · rw [if_neg (nI_nlt (by omega) hb), Nat.min_eq_left (by omega)]
theorem lw_in {m : mMem} {t r i x b : Nat} {g : Nat → Nat} {X3 X4 X5 : Int32} (hi : i < 10) (hx : x ≤ 100) (hgi : g i ≤ 99) (hS : ∀ j, j < i → swS t r g j ≤ 100) (hm : ∀ j, j < i → m.1 56 j = nI (swS t r g j)) (hg : m.1 (b + 3) i = nI (g i)) (k24 : Int32 × mMem → mR) : lp (bX1_leastWorst_75 k24 b X3 X4 X5 (nI i)) FU (nI x, nI (i - r), m) = k24 (nI (i + 1), si m 56 i (nI (max (swM r (swR t r g i) x) (g i)))) := by
  have hlen := swR_len t r g i
  have hat := swR_at t r g i
  generalize hL : swR t r g i = L at hlen hat
  have h0 : (nI x, nI (i - r), m) = (fun k => (nI (swM k (L.drop (min r i - k)) x), nI (i - r + k), m)) 0 := rfl
  have hM : ∀ k L', swM k L' x ≤ 100 := fun k L' => Nat.le_trans (swM_b _ _ _) hx
  rw [h0]
  refine lp_0 (fun k => (nI (swM k (L.drop (min r i - k)) x), nI (i - r + k), m)) (min r i) _ (by omega) (fun k => ?_) (fun k hk kk => ?_)
  · unfold bX1_leastWorst_75
    dsimp only [li, lt]
    have := hM (min r i) (L.drop 0)
    rw [if_pos (nI_le (by omega) (by omega)), ga_nI hi (by decide), nI_tn (by omega), Nat.sub_self, hg, imx2 (by omega) (by omega), show nI i + 1 = nI (i + 1) from nI_1 _, swM_at r L, hlen]
    exact ga_nI hi (by decide)
  · have e : m.1 56 (i - r + k) = nI (L.getD (min r i - 1 - k) 0) := by
      rw [hm _ (by omega), hat _ (by omega)]
      congr 2
      omega
    have hd : L.drop (min r i - (k + 1)) = L.getD (min r i - 1 - k) 0 :: L.drop (min r i - k) := by
      rw [show min r i - (k + 1) = min r i - 1 - k by omega, List.drop_eq_getElem_cons (show min r i - 1 - k < L.length by omega), gd_at (show min r i - 1 - k < L.length by omega)]
      congr 2
      omega
    have h1 := hM k (L.drop (min r i - k))
    have h2 : L.getD (min r i - 1 - k) 0 ≤ 100 := by rw [hat _ (by omega)]; exact hS _ (by omega)
    unfold bX1_leastWorst_75
    dsimp only [li, lt]
    rw [if_neg (nI_ge (by omega) (by omega)), ga_nI (by omega) (by decide), nI_tn (by omega), e, imn2 (by omega) (by omega), show nI (i - r + k) + 1 = nI (i - r + (k + 1)) from nI_1 _, hd]
    rfl
theorem fX1_leastWorst_eq {m : mMem} {b p : Nat} {v : Nat → Nat} (hb5 : b + 8 ≤ 56) (h : HC m b v) (ho : OK v) (hp : p < v 1) : ∃ m', fX1_leastWorst b (nI p) m = some (some (.int (nI (swS (tdS v p) (rcS v p) (fun i => v (30 + i)) (v (52 + p))))), m') ∧ SM [56] m m' := by
  have hb := ho.1
  have hq := ho.2.2 p hp
  have hl := h.2.2 p hp
  have hr := rcS_b ho hp
  have ht : tdS v p < 1024 := bt_lt hb.1
  have htb : fX4_treadBits b (nI p) m = some (some (.int (nI (tdS v p))), m) := fX4_treadBits_eq h ho hp
  have hS : ∀ j, j < v 0 → swS (tdS v p) (rcS v p) (fun i => v (30 + i)) j ≤ 100 := fun j hj => swS_100 (fun _ => by have := (ho.2.1 j hj).2.2; show v (30 + j) ≤ 100; omega)
  unfold fX1_leastWorst
  rw [htb]
  dsimp only [bI]
  rw [fX4_reachOf_eq h ho hp]
  dsimp only [li]
  rw [ga_nI (by omega) (by decide), nI_tn (by omega), hl.2.2.2]
  refine lp_rel0 (fun i s => ∃ m', s = (nI i, m') ∧ SM [56] m m' ∧ ∀ j, j < i → m'.1 56 j = nI (swS (tdS v p) (rcS v p) (fun i => v (30 + i)) j)) (v (52 + p) + 1) (fun res => ∃ m', res = some (some (.int (nI (swS (tdS v p) (rcS v p) (fun i => v (30 + i)) (v (52 + p))))), m') ∧ SM [56] m m') _ (by omega) ⟨m, rfl, SM.rf, fun j hj => absurd hj (Nat.not_lt_zero _)⟩ (fun s k => ?_) (fun i s hi => ?_)
  · rintro ⟨m', rfl, h1, h2⟩
    unfold bX1_leastWorst_24
    dsimp only
    rw [if_pos (nI_lt (by omega) (by omega)), ga_nI (by omega) (by decide), nI_tn (by omega), h2 _ (by omega)]
    exact ⟨m', rfl, h1⟩
  · rintro ⟨m', rfl, h1, h2⟩
    have hlow : ∀ j, j < i → (si m' 56 i (100 : Int32)).1 56 j = nI (swS (tdS v p) (rcS v p) (fun i => v (30 + i)) j) := fun j hj => by rw [si_ne _ _ (Or.inr (by omega))]; exact h2 j hj
    have hwi := ho.2.1 i (by omega)
    have hg : (si m' 56 i (100 : Int32)).1 (b + 3) i = nI (v (30 + i)) := by
      rw [si_ne _ _ (Or.inl (by omega)), (h1 (b + 3) (by simp; omega)).1]
      exact (h.2.1 i (by omega)).2.2
    by_cases hbt : (tdS v p).testBit i = false
    · have e : swS (tdS v p) (rcS v p) (fun i => v (30 + i)) i = 100 := by unfold swS swV; rw [hbt]; rfl
      refine ⟨(nI (i + 1), si m' 56 i 100), ⟨_, rfl, h1.tr (SM_si (by simp)), fun j hj => ?_⟩, fun k => ?_⟩
      · by_cases ej : j = i
        · subst ej
          rw [si_same, e]
          rfl
        · exact hlow j (by omega)
      · unfold bX1_leastWorst_24
        dsimp only [li, lt]
        rw [if_neg (nI_nlt (by omega) (by omega)), ga_nI (by omega) (by decide), nI_tn (by omega), if_pos ((bit0 (by omega) (by omega)).mpr hbt), show nI i + 1 = nI (i + 1) from nI_1 _]
    · have hbt' : (tdS v p).testBit i = true := by simpa using hbt
      have e : swS (tdS v p) (rcS v p) (fun i => v (30 + i)) i = max (swM (rcS v p) (swR (tdS v p) (rcS v p) (fun i => v (30 + i)) i) (if i < rcS v p then 0 else 100)) (v (30 + i)) := by unfold swS swV; rw [hbt', if_pos rfl]
      refine ⟨(nI (i + 1), si (si m' 56 i 100) 56 i (nI (swS (tdS v p) (rcS v p) (fun i => v (30 + i)) i))), ⟨_, rfl, (h1.tr (SM_si (by simp))).tr (SM_si (by simp)), fun j hj => ?_⟩, fun k => ?_⟩
      · by_cases ej : j = i
        · subst ej
          rw [si_same]
        · rw [si_ne _ _ (Or.inr ej)]
          exact hlow j (by omega)
      · unfold bX1_leastWorst_24 jX1_leastWorst_62
        dsimp only [li, lt]
        rw [if_neg (nI_nlt (by omega) (by omega)), ga_nI (by omega) (by decide), nI_tn (by omega), if_neg (fun z => hbt ((bit0 (by omega) (by omega)).mp z)), imx_eq i (by omega) _ hr.2, e]
        by_cases hir : i < rcS v p
        · rw [if_neg (nI_ge hir (by omega)), if_pos hir]
          exact lw_in (x := 0) (g := fun i => v (30 + i)) (by omega) (by omega) hwi.2.2 (fun j hj => hS j (by omega)) hlow hg k
        · rw [if_pos (nI_le (by omega) (by omega)), if_neg hir]
          exact lw_in (x := 100) (g := fun i => v (30 + i)) (by omega) (by omega) hwi.2.2 (fun j hj => hS j (by omega)) hlow hg k
/-- the steps worn over w -/
def woS (v : Nat → Nat) (w n : Nat) : Nat := bitsN (fun i => decide (w < v (30 + i))) n
theorem fw_step {t B i : Nat} (ht : t < 1024) (hi : i < 10) : (t &&& (B ^^^ 1023)) &&& (2 ^ i ^^^ 1023) = t &&& ((B ||| 2 ^ i) ^^^ 1023) := by
  apply Nat.eq_of_testBit_eq
  intro j
  rw [Nat.testBit_and, Nat.testBit_and, Nat.testBit_and, Nat.testBit_xor, Nat.testBit_xor, Nat.testBit_xor, Nat.testBit_or]
  by_cases hj : j < 10
  · rw [b1023 j hj]
    cases t.testBit j <;> cases B.testBit j <;> cases (2 ^ i).testBit j <;> rfl
  · have : t.testBit j = false := Nat.testBit_lt_two_pow (Nat.lt_of_lt_of_le ht (Nat.pow_le_pow_right (n := 2) (i := 10) (by decide) (by omega)))
    rw [this]
    simp
theorem fX1_fewestWithin_eq {m : mMem} {p w : Nat} {v : Nat → Nat} (h : HC m 0 v) (ho : OK v) (hp : p < v 1) (hw : w ≤ 100) : ∃ m', fX1_fewestWithin 0 (nI p) (nI w) m = some (some (.int (nI (popc (phO v (woS v w (v 0)) p)))), m') ∧ SM [55] m m' := by
  have hb := ho.1
  have hq := ho.2.2 p hp
  have hl := h.2.2 p hp
  have hr := rcS_b ho hp
  have ht : tdS v p < 1024 := bt_lt hb.1
  have htb : fX4_treadBits 0 (nI p) m = some (some (.int (nI (tdS v p))), m) := fX4_treadBits_eq h ho hp
  have hto : tdS v p &&& (woS v w (v 0) ^^^ 1023) = toS v (woS v w (v 0)) p := (toS_clr _ p hb.1).symm
  have htl : toS v (woS v w (v 0)) p < 1024 := bt_lt hb.1
  refine ⟨pM 55 (toS v (woS v w (v 0)) p) (rcS v p) m (v (52 + p) + 1), ?_, pM_SM _ _ _ _ _⟩
  unfold fX1_fewestWithin
  rw [htb]
  dsimp only [bI, li]
  rw [ga_nI (by omega) (by decide), nI_tn (by omega), hl.2.2.2]
  have h0 : nI (tdS v p) = nI (tdS v p &&& (woS v w 0 ^^^ 1023)) := by
    congr 1
    show _ = tdS v p &&& (0 ^^^ 1023)
    rw [Nat.zero_xor]
    exact (Nat.and_two_pow_sub_one_of_lt_two_pow (n := 10) ht).symm
  rw [h0]
  refine lp_0 (fun i => (nI (tdS v p &&& (woS v w i ^^^ 1023)), nI i, m)) (v 0) _ (by omega) (fun k => ?_) (fun i hi k => ?_)
  · unfold bX1_fewestWithin_18
    dsimp only
    rw [h.1.1, if_pos (nI_le (Nat.le_refl _) (by omega)), fX4_reachOf_eq h ho hp]
    dsimp only [bI]
    rw [hto, fX1_findPaths_eq htl hr.1 hr.2 (by omega)]
    dsimp only [bV]
    rw [ga_nI (by omega) (by decide), nI_tn (by omega), pM_at _ _ _ _ _ _ (by omega), fJ6_bitCount_eq _ (pvS_lt hr.1 hr.2 (by omega))]
    rfl
  · have hwi := (ho.2.1 i hi).2.2
    have hlt : tdS v p &&& (woS v w i ^^^ 1023) < 1024 := Nat.lt_of_le_of_lt Nat.and_le_left ht
    unfold bX1_fewestWithin_18
    dsimp only [li]
    rw [h.1.1, if_neg (nI_ge hi (by omega)), ga_nI (by omega) (by decide), nI_tn (by omega), (h.2.1 i hi).2.2, show nI i + 1 = nI (i + 1) from nI_1 _, nI_shl1 i (by omega), nI_clr _ hlt, fw_step ht (by omega)]
    have e : woS v w (i + 1) = if decide (w < v (30 + i)) then woS v w i ||| 2 ^ i else woS v w i := rfl
    rw [e]
    by_cases hz : v (30 + i) ≤ w
    · rw [if_pos (nI_le hz (by omega)), if_neg (by simp; exact hz)]
    · rw [if_neg (nI_ge (by omega) (by omega)), if_pos (by simp; omega)]
/-! ## the reference -/
theorem fX8_wornOver_eq {m : mMem} {o w : Nat} {v : Nat → Nat} (h : HO m 0 o v) (hw : w ≤ 100) : fX8_wornOver (nI w) m = some (some (.int (nI (woS v w (v 0)))), m) := by
  have ho := h.2.1
  have hb := ho.1
  unfold fX8_wornOver
  refine lp_0 (fun i => (nI (woS v w i), nI i, m)) (v 0) _ (by omega) (fun k => ?_) (fun i hi k => ?_)
  · unfold bX8_wornOver_4
    dsimp only
    rw [h.1.1.1, if_pos (nI_le (Nat.le_refl _) (by omega))]
  · have hwi := (ho.2.1 i hi).2.2
    have hm := (h.1.2.1 i hi).2.2
    rw [Nat.zero_add] at hm
    unfold bX8_wornOver_4
    dsimp only [li]
    rw [h.1.1.1, if_neg (nI_ge hi (by omega)), i21, ga_nI (by omega) (by decide), nI_tn (by omega), hm, show nI i + 1 = nI (i + 1) from nI_1 _, nI_shl1 i (by omega), nI_or, show nI (woS v w i) ||| (0 : Int32) = nI (woS v w i ||| 0) from nI_or _ 0, Nat.or_zero]
    have e : woS v w (i + 1) = if decide (w < v (30 + i)) then woS v w i ||| 2 ^ i else woS v w i := rfl
    rw [e]
    by_cases hz : v (30 + i) ≤ w
    · rw [if_pos (nI_le hz (by omega)), if_neg (by simp; exact hz)]
    · rw [if_neg (nI_ge (by omega) (by omega)), if_pos (by simp; omega)]
/-- nothing but scratch and out -/
def FO (m m' : mMem) : Prop := (∀ z, z ≠ 81 → z ∉ SCR → m'.1 z = m.1 z) ∧ (∀ j, j ≠ 5 → m'.1 81 j = m.1 81 j) ∧ m'.1 82 = m.1 82
theorem FO_end {m m' : mMem} (h : FO m m') (h5 : m.1 81 5 = 0) : FR m (si m' 81 5 0) := by
  refine ⟨fun z hz => ?_, fun q hq => ?_⟩
  · by_cases e : z = 81
    · subst e
      funext j
      by_cases f : j = 5
      · subst f
        rw [si_same]
        exact h5.symm
      · rw [si_ne _ _ (Or.inr f)]
        exact h.2.1 j f
    · rw [si_c _ e]
      exact h.1 z e hz
  · rw [si_c _ (by decide), h.2.2]
theorem FO_HO {m m' : mMem} {o : Nat} {v : Nat → Nat} (h : FO m m') (h0 : HO m 0 0 v) (h5 : o < 1024) : HO (si m' 81 5 (nI o)) 0 o v := by
  have hb := h0.2.1.1
  refine ⟨HM_fr h0.1 hb.1 hb.2.1 ?_ ?_ ?_ ?_ (fun q _ _ => ?_), h0.2.1, by decide, si_same _ _ _ _, h5⟩
  · rw [si_ne _ _ (Or.inr (by decide))]; exact h.2.1 2 (by decide)
  · rw [si_ne _ _ (Or.inr (by decide))]; exact h.2.1 4 (by decide)
  · rw [si_c _ (by decide)]; exact h.1 83 (by decide) (by decide)
  · rw [si_c _ (by decide)]; exact h.1 84 (by decide) (by decide)
  · rw [si_c _ (by decide), h.2.2]
theorem FO_si {m m' : mMem} {x : Int32} (h : FO m m') : FO m (si m' 81 5 x) := ⟨fun z h1 h2 => by rw [si_c _ h1]; exact h.1 z h1 h2, fun j hj => by rw [si_ne _ _ (Or.inr hj)]; exact h.2.1 j hj, by rw [si_c _ (by decide)]; exact h.2.2⟩
theorem FO_91 {m m1 m2 : mMem} (h : FO m m1) (s : SM [91] m1 m2) : FO m m2 := ⟨fun z h1 h2 => by rw [(s z (fun q => h2 (by simp at q; subst q; decide))).1]; exact h.1 z h1 h2, fun j hj => by rw [(s 81 (by decide)).1]; exact h.2.1 j hj, by rw [(s 82 (by decide)).1]; exact h.2.2⟩
theorem ok_smooth (u0 u1 : Int32) : okI Inv (fX7_smooth u0 u1) (fX8_smooth u0 u1) := by
  rintro m ⟨v, hV⟩
  have ho := hV.1.2.2.1
  have hb := ho.1
  have c := IV_c hV
  have d := IV_m hV
  rcases lodger_cases hb.2.1 u0 with ⟨p, hp, rfl, e7, e8⟩ | ⟨e7, e8⟩
  · rcases rng_cases u1 0 1 (a := 0) (b := 1) (A := 0) (B := 1) rfl rfl rfl rfl (by decide) (by decide) with ⟨n, -, hn, hu, f7, f8⟩ | ⟨f7, f8⟩
    · have hq := ho.2.2 p hp
      have hr := rcS_b ho hp
      have hg := gh7 hV.1.1 ho hp
      have ht : ∀ w i, (toS v (woS v w (v 0)) p).testBit i = true ↔ ((tdS v p).testBit i = true ∧ (fun i => v (30 + i)) i ≤ w) := fun w i => by
        rw [toS_clr _ p hb.1, Nat.testBit_and, Nat.testBit_xor]
        by_cases hi : i < v 0
        · rw [b1023 i (by omega), woS, bitsN_bit, decide_eq_true hi, Bool.true_and]
          by_cases hz : v (30 + i) ≤ w
          · simp [hz]
          · simp [hz, Nat.lt_of_not_le hz]
        · have : (tdS v p).testBit i = false := by unfold tdS; rw [bitsN_bit]; simp [hi]
          rw [this]
          simp
      have key : ∀ w, w < 100 → (swS (tdS v p) (rcS v p) (fun i => v (30 + i)) (v (52 + p)) ≤ w ↔ phO v (woS v w (v 0)) p ≠ 0) := fun w hw => sw_pv hw (ht w) _
      have h99 : phO v (woS v 99 (v 0)) p = phO v 0 p := by
        have : woS v 99 (v 0) = 0 := by
          unfold woS
          apply Nat.eq_of_testBit_eq
          intro i
          rw [bitsN_bit, Nat.zero_testBit]
          by_cases hi : i < v 0
          · have := (ho.2.1 i hi).2.2
            simp; intro _; omega
          · simp [hi]
        rw [this]
      obtain ⟨W, hW⟩ : ∃ W, W = swS (tdS v p) (rcS v p) (fun i => v (30 + i)) (v (52 + p)) := ⟨_, rfl⟩
      rw [← hW] at key
      have hwo : ∀ w, woS v w (v 0) < 1024 := fun w => bt_lt hb.1
      by_cases hz : phO v 0 p = 0
      · -- no climb at all
        have hnone : ∀ w, w < 100 → phO v (woS v w (v 0)) p = 0 := fun w hw => Classical.byContradiction (fun q => by
          have h1 := (key w hw).mpr q
          have h2 := (key 99 (by decide)).mp (by omega)
          rw [h99] at h2
          exact h2 hz)
        have L8 : ∃ md, lp (bX8_smooth_26 (nI p) u1) FU ((-4 : Int32), (0 : Int32), m) = some (some (.int (-4 : Int32)), md) ∧ FR m md := by
          refine lp_rel0 (body := bX8_smooth_26 (nI p) u1) (fun i s => ∃ m', s = ((-4 : Int32), nI i, m') ∧ FO m m' ∧ ∃ o, HO m' 0 o v) 100 (fun r => ∃ md, r = some (some (.int (-4 : Int32)), md) ∧ FR m md) _ (by decide) ⟨m, rfl, ⟨fun _ _ _ => rfl, fun _ _ => rfl, rfl⟩, 0, IV_HO hV⟩ (fun s k => ?_) (fun i s hi => ?_)
          · rintro ⟨m', rfl, h1, h2⟩
            unfold bX8_smooth_26
            dsimp only [lt]
            rw [if_pos (by decide)]
            exact ⟨_, rfl, FO_end h1 hV.1.2.2.2.2.2⟩
          · rintro ⟨m', rfl, h1, o, h2⟩
            have hwv := fX8_wornOver_eq (w := i) h2 (by omega)
            have h3 := FO_HO (o := woS v i (v 0)) h1 (IV_HO hV) (hwo i)
            obtain ⟨m2, e, b1, b2⟩ := fX8_hasClimb_eq h3 hp
            have e' : fX8_hasClimb (0 : Int32) (nI p) (si m' 81 5 (nI (woS v i (v 0)))) = _ := e
            refine ⟨((-4 : Int32), nI (i + 1), m2), ⟨m2, rfl, FO_91 (FO_si h1) b1, _, HO_sm h3 b1 (by decide)⟩, fun k => ?_⟩
            unfold bX8_smooth_26
            dsimp only [li, lt]
            rw [if_neg (show ¬ (99 : Int32) < nI i from nI_nlt (a := 99) (by omega) (by decide)), if_pos rfl, hwv]
            dsimp only [bI]
            rw [e']
            dsimp only
            rw [if_pos (hnone i hi), if_pos rfl, show nI i + 1 = nI (i + 1) from nI_1 _]
        obtain ⟨md, l8, fr8⟩ := L8
        refine ⟨-4, m, md, ?_, ?_, ⟨v, IV_FR hV fr8⟩⟩
        · unfold fX7_smooth
          rw [e7 m c.1.2.1]
          dsimp only [bI]
          rw [if_neg (by decide), f7]
          dsimp only
          rw [if_neg (by decide), hg]
          dsimp only
          rw [if_pos hz, if_pos rfl]
        · unfold fX8_smooth
          rw [e8 m d.1.2.1]
          dsimp only [bI]
          rw [if_neg (by decide), f8]
          dsimp only
          rw [if_neg (by decide)]
          exact l8
      · have hW99 : W ≤ 99 := (key 99 (by decide)).mpr (by rw [h99]; exact hz)
        obtain ⟨ma, ea, a1⟩ := fX1_leastWorst_eq (by decide) hV.1.1 ho hp
        rw [← hW] at ea
        have hCa : HC ma 0 v := HC_sm hV.1.1 a1 (by decide)
        obtain ⟨mx, ex, x1⟩ := fX1_fewestWithin_eq (w := W) hCa ho hp (by omega)
        obtain ⟨ans, hans⟩ : ∃ ans : Int32, ans = if u1 = (0 : Int32) then nI W else nI (popc (phO v (woS v W (v 0)) p)) := ⟨_, rfl⟩
        have hne4 : ¬ ans = -4 := by
          have h4 : ∀ n, n ≤ 100 → ¬ nI n = (-4 : Int32) := by decide +kernel
          have := popc_le (phO v (woS v W (v 0)) p)
          rw [hans]
          split
          · exact h4 _ (by omega)
          · exact h4 _ (by omega)
        obtain ⟨mb, l7, FR1⟩ : ∃ mb, fX7_smooth (nI p) u1 m = some (some (.int ans), mb) ∧ FR m mb := by
          by_cases h0 : u1 = 0
          · rw [if_pos h0] at hans
            refine ⟨ma, ?_, FR_sm a1 (by decide)⟩
            unfold fX7_smooth
            rw [e7 m c.1.2.1]
            dsimp only [bI]
            rw [if_neg (by decide), f7]
            dsimp only
            rw [if_neg (by decide), hg]
            dsimp only
            rw [if_neg hz, if_neg (by decide), ea]
            dsimp only
            rw [if_pos h0, hans]
          · rw [if_neg h0] at hans
            refine ⟨mx, ?_, (FR_sm a1 (by decide)).tr (FR_sm x1 (by decide))⟩
            unfold fX7_smooth
            rw [e7 m c.1.2.1]
            dsimp only [bI]
            rw [if_neg (by decide), f7]
            dsimp only
            rw [if_neg (by decide), hg]
            dsimp only
            rw [if_neg hz, if_neg (by decide), ea]
            dsimp only
            rw [if_neg h0, ex, hans]
        have hOb := HO_fr (IV_HO hV) FR1 (by decide)
        have L8 : ∃ md, lp (bX8_smooth_26 (nI p) u1) FU ((-4 : Int32), (0 : Int32), mb) = some (some (.int ans), md) ∧ FR mb md := by
          refine lp_rel0 (body := bX8_smooth_26 (nI p) u1) (fun i s => ∃ m', s = ((if i = W + 1 then ans else (-4 : Int32)), nI i, m') ∧ FO mb m' ∧ ∃ o, HO m' 0 o v) (W + 1) (fun r => ∃ md, r = some (some (.int ans), md) ∧ FR mb md) _ (by omega) ⟨mb, by rw [if_neg (by omega)]; rfl, ⟨fun _ _ _ => rfl, fun _ _ => rfl, rfl⟩, 0, hOb⟩ (fun s k => ?_) (fun i s hi => ?_)
          · rintro ⟨m', rfl, h1, h2⟩
            unfold bX8_smooth_26
            dsimp only [lt]
            rw [if_pos rfl, if_neg hne4]
            have := FO_end h1 hOb.2.2.2.1
            split <;> exact ⟨_, rfl, this⟩
          · rintro ⟨m', rfl, h1, o, h2⟩
            have hwv := fX8_wornOver_eq (w := i) h2 (by omega)
            have h3 := FO_HO (o := woS v i (v 0)) h1 hOb (hwo i)
            obtain ⟨m2, e, b1, b2⟩ := fX8_hasClimb_eq h3 hp
            have e' : fX8_hasClimb (0 : Int32) (nI p) (si m' 81 5 (nI (woS v i (v 0)))) = _ := e
            have hb3 : ∃ o, HO m2 0 o v := ⟨_, HO_sm h3 b1 (by decide)⟩
            rw [if_neg (show ¬ i = W + 1 by omega)]
            by_cases hiW : i = W
            · subst hiW
              have hn0 := (key i (by omega)).mp (Nat.le_refl _)
              refine ⟨(ans, nI (i + 1), m2), ⟨m2, by rw [if_pos rfl], FO_91 (FO_si h1) b1, hb3⟩, fun k => ?_⟩
              unfold bX8_smooth_26
              dsimp only [li, lt]
              rw [if_neg (show ¬ (99 : Int32) < nI i from nI_nlt (a := 99) (by omega) (by decide)), if_pos rfl, hwv]
              dsimp only [bI]
              rw [e']
              dsimp only
              rw [if_neg hn0, if_neg (by decide), show nI i + 1 = nI (i + 1) from nI_1 _]
              by_cases h0 : u1 = 0
              · rw [if_pos h0, hans, if_pos h0]
              · rw [if_neg h0, hans, if_neg h0, show ∀ r : mR, ga (0 : Int32) 11 r = r from fun r => ga_nI (i := 0) (by decide) (by decide), show ((0 : Int32)).toNatClampNeg = 0 from rfl, b2 hn0]
            · have hn0 : phO v (woS v i (v 0)) p = 0 := Classical.byContradiction (fun q => by
                have := (key i (by omega)).mpr q
                omega)
              refine ⟨((-4 : Int32), nI (i + 1), m2), ⟨m2, by rw [if_neg (by omega)], FO_91 (FO_si h1) b1, hb3⟩, fun k => ?_⟩
              unfold bX8_smooth_26
              dsimp only [li, lt]
              rw [if_neg (show ¬ (99 : Int32) < nI i from nI_nlt (a := 99) (by omega) (by decide)), if_pos rfl, hwv]
              dsimp only [bI]
              rw [e']
              dsimp only
              rw [if_pos hn0, if_pos rfl, show nI i + 1 = nI (i + 1) from nI_1 _]
        obtain ⟨md, l8, fr8⟩ := L8
        refine ⟨ans, mb, md, l7, ?_, ⟨v, IV_FR hV (FR1.tr fr8)⟩⟩
        unfold fX8_smooth
        rw [e8 mb (by rw [FR1.1 81 (by decide)]; exact d.1.2.1)]
        dsimp only [bI]
        rw [if_neg (by decide), f8]
        dsimp only
        rw [if_neg (by decide)]
        exact l8
    · refine ⟨-1, m, m, ?_, ?_, ⟨v, hV⟩⟩
      · unfold fX7_smooth
        rw [e7 m c.1.2.1]
        dsimp only [bI]
        rw [if_neg (by decide), f7]
        rfl
      · unfold fX8_smooth
        rw [e8 m d.1.2.1]
        dsimp only [bI]
        rw [if_neg (by decide), f8]
        rfl
  · refine ⟨-1, m, m, ?_, ?_, ⟨v, hV⟩⟩
    · unfold fX7_smooth
      rw [e7 m c.1.2.1]
      rfl
    · unfold fX8_smooth
      rw [e8 m d.1.2.1]
      rfl
