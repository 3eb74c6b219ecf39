/-! PURE FACTS: the class's days -/
theorem HC_sm {m m' : mMem} {b : Nat} {v : Nat → Nat} {C : List Nat} (h : HC m b v) (hs : SM C m m') (hc : ∀ j, j < 8 → b + j ∉ C) : HC m' b v := by
  have e : ∀ j, j < 8 → m'.1 (b + j) = m.1 (b + j) := fun j hj => (hs _ (hc j hj)).1
  have e0 : m'.1 b = m.1 b := e 0 (by decide)
  unfold HC
  rw [e0, e 1 (by decide), e 2 (by decide), e 3 (by decide), e 4 (by decide), e 5 (by decide), e 6 (by decide), e 7 (by decide)]
  exact h
/-- wear of a step behind a lodger's way over it -/
def wrN (k w x : Nat) : Nat := min (w + 2 - k + x) 99
/-- the house behind a lodger p's way by the bits of a path -/
def wrS (v : Nat → Nat) (p path : Nat) : Nat → Nat := fun j => if 30 ≤ j ∧ j < 30 + v 0 ∧ path.testBit (j - 30) = true ∧ v (j - 20) ≠ 3 then wrN (v (j - 20)) (v j) (if 5 ≤ v (48 + p) then 1 else 0) else v j
theorem wrS_o {v : Nat → Nat} {p path j : Nat} (h : j < 30 ∨ 40 ≤ j) (ho : OK v) : wrS v p path j = v j := by
  have hb := ho.1
  unfold wrS
  rw [if_neg]
  rintro ⟨h1, h2, -⟩
  omega
theorem wrS_w {v : Nat → Nat} {p path i : Nat} (hi : i < v 0) : wrS v p path (30 + i) = if path.testBit i = true ∧ v (10 + i) ≠ 3 then wrN (v (10 + i)) (v (30 + i)) (if 5 ≤ v (48 + p) then 1 else 0) else v (30 + i) := by
  unfold wrS
  rw [show 30 + i - 30 = i by omega, show 30 + i - 20 = 10 + i by omega]
  by_cases h : path.testBit i = true ∧ v (10 + i) ≠ 3
  · rw [if_pos h, if_pos ⟨by omega, by omega, h.1, h.2⟩]
  · rw [if_neg h, if_neg (fun q => h ⟨q.2.2.1, q.2.2.2⟩)]
theorem wrS_OK {v : Nat → Nat} {p path : Nat} (ho : OK v) : OK (wrS v p path) := by
  have hb := ho.1
  have e : ∀ j, j < 30 ∨ 40 ≤ j → wrS v p path j = v j := fun j hj => wrS_o hj ho
  unfold OK
  rw [e 0 (by omega), e 1 (by omega), e 2 (by omega), e 3 (by omega), e 4 (by omega)]
  refine ⟨hb, fun i hi => ?_, fun q hq => ?_⟩
  · have h := ho.2.1 i hi
    rw [e (10 + i) (by omega), e (20 + i) (by omega), wrS_w hi]
    refine ⟨h.1, h.2.1, ?_⟩
    split
    · exact Nat.min_le_right _ _
    · exact h.2.2
  · rw [e (40 + q) (by omega), e (44 + q) (by omega), e (48 + q) (by omega), e (52 + q) (by omega)]
    exact ho.2.2 q hq
theorem wr_eq : ∀ k, k ≤ 2 → ∀ w, w ≤ 99 → ∀ x, x ≤ 1 → imin (((nI w + 2) - nI k) + nI x) 99 = nI (wrN k w x) := by decide +kernel
/-- memory behind i turns of wearBy -/
def wM (b x path : Nat) (v : Nat → Nat) (m : mMem) : Nat → mMem
  | 0 => m
  | i + 1 => if path.testBit i = true ∧ v (10 + i) ≠ 3 then si (wM b x path v m i) (b + 3) i (nI (wrN (v (10 + i)) (v (30 + i)) x)) else wM b x path v m i
theorem wM_SM (b x path : Nat) (v : Nat → Nat) (m : mMem) : ∀ i, SM [b + 3] m (wM b x path v m i)
  | 0 => SM.rf
  | i + 1 => by
    unfold wM
    split
    · exact (wM_SM b x path v m i).tr (SM_si (by simp))
    · exact wM_SM b x path v m i
theorem wM_at (b x path : Nat) (v : Nat → Nat) (m : mMem) : ∀ i j, (wM b x path v m i).1 (b + 3) j = if j < i ∧ path.testBit j = true ∧ v (10 + j) ≠ 3 then nI (wrN (v (10 + j)) (v (30 + j)) x) else m.1 (b + 3) j
  | 0, j => by
    rw [if_neg (by omega)]
    rfl
  | i + 1, j => by
    have ih := wM_at b x path v m i j
    have hs : wM b x path v m (i + 1) = if path.testBit i = true ∧ v (10 + i) ≠ 3 then si (wM b x path v m i) (b + 3) i (nI (wrN (v (10 + i)) (v (30 + i)) x)) else wM b x path v m i := rfl
    rw [hs]
    by_cases hc : path.testBit i = true ∧ v (10 + i) ≠ 3
    · rw [if_pos hc, si_1]
      by_cases e : j = i
      · subst e
        rw [if_pos ⟨rfl, rfl⟩, if_pos ⟨by omega, hc⟩]
      · rw [if_neg (fun q => e q.2), ih]
        by_cases hz : j < i ∧ path.testBit j = true ∧ v (10 + j) ≠ 3
        · rw [if_pos hz, if_pos ⟨by omega, hz.2⟩]
        · rw [if_neg hz, if_neg (fun q => hz ⟨by omega, q.2⟩)]
    · rw [if_neg hc, ih]
      by_cases hz : j < i ∧ path.testBit j = true ∧ v (10 + j) ≠ 3
      · rw [if_pos hz, if_pos ⟨by omega, hz.2⟩]
      · rw [if_neg hz, if_neg]
        rintro ⟨h1, h2⟩
        by_cases e : j = i
        · subst e
          exact hc h2
        · exact hz ⟨by omega, h2⟩
theorem wearLoop_eq {m : mMem} {b path x : Nat} {v : Nat → Nat} (h : HC m b v) (ho : OK v) (hpa : path < 1024) (hx : x ≤ 1) : jX4_wearBy_13 b (nI path) (nI x) m = some (none, wM b x path v m (v 0)) := by
  have hb := ho.1
  unfold jX4_wearBy_13
  refine lp_0 (fun i => (nI i, wM b x path v m i)) (v 0) _ (by omega) (fun k => ?_) (fun i hi k => ?_)
  · unfold bX4_wearBy_17
    dsimp only
    rw [(wM_SM b x path v m (v 0) b (by simp)).1, h.1.1, if_pos (nI_le (Nat.le_refl _) (by omega))]
  · have hm := h.2.1 i hi
    have hc := ho.2.1 i hi
    have e0 := (wM_SM b x path v m i b (by simp)).1
    have e1 := (wM_SM b x path v m i (b + 1) (by simp)).1
    have e3 : (wM b x path v m i).1 (b + 3) i = nI (v (30 + i)) := by rw [wM_at, if_neg (by omega)]; exact hm.2.2
    unfold bX4_wearBy_17
    dsimp only [li, lt]
    rw [e0, e1, h.1.1, if_neg (nI_ge hi (by omega)), ga_nI (by omega) (by decide), ga_nI (by omega) (by decide), ga_nI (by omega) (by decide), ga_nI (by omega) (by decide), nI_tn (by omega), hm.1, e3, show nI i + 1 = nI (i + 1) from nI_1 i]
    have hs : wM b x path v m (i + 1) = if path.testBit i = true ∧ v (10 + i) ≠ 3 then si (wM b x path v m i) (b + 3) i (nI (wrN (v (10 + i)) (v (30 + i)) x)) else wM b x path v m i := rfl
    rw [hs]
    by_cases hz : path.testBit i = false
    · rw [if_pos ((bit0 (by omega) (by omega)).mpr hz), if_neg (fun q => by rw [hz] at q; exact absurd q.1 (by decide))]
    · rw [if_neg (fun q => hz ((bit0 (by omega) (by omega)).mp q))]
      have hz' : path.testBit i = true := by simpa using hz
      by_cases h3 : v (10 + i) = 3
      · rw [if_pos (by rw [h3]; rfl), if_neg (fun q => q.2 h3)]
      · rw [if_neg (by rw [show (3 : Int32) = nI 3 from rfl, nI_eq (by omega) (by decide)]; exact h3), if_pos ⟨hz', h3⟩, wr_eq _ (by omega) _ hc.2.2 _ hx]
theorem fX4_wearBy_eq {m : mMem} {b p path : Nat} {v : Nat → Nat} (h : HC m b v) (ho : OK v) (hp : p < v 1) (hpa : path < 1024) : ∃ m', fX4_wearBy b (nI p) (nI path) m = some (none, m') ∧ HC m' b (wrS v p path) ∧ SM [b + 3] m m' ∧ m'.2 = m.2 := by
  have hb := ho.1
  have key : ∀ x, x = (if 5 ≤ v (48 + p) then 1 else 0) → HC (wM b x path v m (v 0)) b (wrS v p path) := fun x hx => by
    have hs := wM_SM b x path v m (v 0)
    have e : ∀ j, j < 30 ∨ 40 ≤ j → wrS v p path j = v j := fun j hj => wrS_o hj ho
    have c : ∀ z, z ≠ b + 3 → (wM b x path v m (v 0)).1 z = m.1 z := fun z hz => (hs z (by simpa using hz)).1
    unfold HC
    rw [e 0 (by omega), e 1 (by omega), e 2 (by omega), e 3 (by omega), e 4 (by omega), c b (by omega), c (b + 1) (by omega), c (b + 2) (by omega), c (b + 4) (by omega), c (b + 5) (by omega), c (b + 6) (by omega), c (b + 7) (by omega)]
    refine ⟨h.1, fun i hi => ?_, fun q hq => ?_⟩
    · have hm := h.2.1 i hi
      rw [e (10 + i) (by omega), e (20 + i) (by omega), wrS_w hi, wM_at, ← hx]
      refine ⟨hm.1, hm.2.1, ?_⟩
      by_cases hz : path.testBit i = true ∧ v (10 + i) ≠ 3
      · rw [if_pos ⟨hi, hz⟩, if_pos hz]
      · rw [if_neg (fun q => hz q.2), if_neg hz]
        exact hm.2.2
    · rw [e (40 + q) (by omega), e (44 + q) (by omega), e (48 + q) (by omega), e (52 + q) (by omega)]
      exact h.2.2 q hq
  have k2 : ∀ x i, (wM b x path v m i).2 = m.2 := fun x i => by
    induction i with
    | zero => rfl
    | succ i ih =>
      unfold wM
      split
      · exact ih
      · exact ih
  unfold fX4_wearBy
  rw [fX4_isHeavy_eq h ho hp]
  dsimp only [bI]
  by_cases hz : 5 ≤ v (48 + p)
  · rw [if_pos hz, if_neg (by decide)]
    exact ⟨_, wearLoop_eq (x := 1) h ho hpa (by decide), key 1 (by rw [if_pos hz]), wM_SM _ _ _ _ _ _, k2 _ _⟩
  · rw [if_neg hz, if_pos rfl]
    exact ⟨_, wearLoop_eq (x := 0) h ho hpa (by decide), key 0 (by rw [if_neg hz]), wM_SM _ _ _ _ _ _, k2 _ _⟩
/-- a lodger goes -/
def goS (v : Nat → Nat) (p : Nat) : Nat → Nat := wrS v p (phS v p)
theorem phS_lt {v : Nat → Nat} {p : Nat} (ho : OK v) (hp : p < v 1) : phS v p < 1024 := pvS_lt (rcS_b ho hp).1 (rcS_b ho hp).2 (by have := (ho.2.2 p hp).2.2.2.2; have := ho.1.1; omega)
theorem fX1_goes_eq {m : mMem} {b p : Nat} {v : Nat → Nat} (hb5 : b + 8 ≤ 55) (h : HC m b v) (ho : OK v) (hp : p < v 1) : ∃ m', fX1_goes b (nI p) m = some (some (.int (if phS v p = 0 then 0 else 1)), m') ∧ HC m' b (goS v p) ∧ SM [55, b + 3] m m' ∧ m'.2 = m.2 := by
  have hlt := phS_lt ho hp
  unfold fX1_goes
  rw [fX1_shortest_eq h ho hp]
  dsimp only [bI]
  have hs := pM_SM 55 (tdS v p) (rcS v p) m (v (52 + p) + 1)
  obtain ⟨m', e, h2, h3, h4⟩ := fX4_wearBy_eq (m := pM 55 (tdS v p) (rcS v p) m (v (52 + p) + 1)) (b := b) (p := p) (path := phS v p) (HC_sm h hs (fun j hj => by simp; omega)) ho hp hlt
  rw [e]
  dsimp only [bV]
  refine ⟨m', ?_, h2, (hs.mono (by simp)).tr (h3.mono (by simp)), by rw [h4, pM_2]⟩
  by_cases hz : phS v p = 0
  · rw [if_pos ((nI_0iff (by omega)).mpr hz), if_pos hz]
  · rw [if_neg (fun q => hz ((nI_0iff (by omega)).mp q)), if_neg hz]
