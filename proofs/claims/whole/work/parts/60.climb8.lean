/-! PURE FACTS: the reference's hasClimb and climbOn -/
def phO (v : Nat → Nat) (o p : Nat) : Nat := pvS (toS v o p) (rcS v p) (v (52 + p))
theorem phO_0 (v : Nat → Nat) (p : Nat) : phO v 0 p = phS v p := rfl
theorem FW_all {m : mMem} {t r top : Nat} (h : FW m top (fwL t r top (top + 1))) {k : Nat} (hk : k ≤ top + 1) : m.1 91 k = nI ((fwL t r top (top + 1)).getD k 0) := by
  have := h k (by rw [fwL_len]; omega)
  rw [fwL_len, show top + 2 - (top + 1 + 1) + k = k by omega] at this
  exact this
theorem fX8_hasClimb_eq {m0 : mMem} {P o p : Nat} {v : Nat → Nat} (h0 : HO m0 P o v) (hp : p < v 1) : ∃ m', fX8_hasClimb (nI P) (nI p) m0 = some (some (.int (if phO v o p = 0 then 0 else 1)), m') ∧ SM [91] m0 m' ∧ (phO v o p ≠ 0 → m'.1 91 0 = nI (popc (phO v o p))) := by
  have ho := h0.2.1
  have hb := ho.1
  have hq := ho.2.2 p hp
  have hr := rcS_b ho hp
  obtain ⟨m', e, h1, h2⟩ := fX8_layFewest_eq h0 hp
  obtain ⟨f, L, hF, g1, g2, g3, g4, g5, g6, g7⟩ := brute (t := toS v o p) hr.1 hr.2 (show v (52 + p) < 10 by omega)
  have hf0 := FW_all h2 (k := 0) (by omega)
  rw [hF] at hf0
  have hf1 : m'.1 91 0 = nI f := hf0
  have hfl : f ≤ 100 := by
    have := fw_getD (toS v o p) (rcS v p) (v (52 + p)) (v (52 + p) + 1) 0
    rw [hF] at this
    exact this
  unfold fX8_hasClimb
  rw [e]
  dsimp only [bV]
  rw [show (0 : Int32) = nI 0 from rfl, ga_nI (by decide) (by decide), nI_tn (by decide), hf1, show (100 : Int32) = nI 100 from rfl]
  unfold phO
  by_cases hz : 100 ≤ f
  · refine ⟨m', ?_, h1, fun q => absurd (g2 hz) q⟩
    rw [if_pos (nI_le hz (by omega)), if_pos (g2 hz)]
  · obtain ⟨a1, a2, a3⟩ := g1 (by omega)
    refine ⟨m', ?_, h1, fun _ => by rw [hf1, a2]⟩
    rw [if_neg (nI_ge (by omega) (by omega)), if_neg a3]
/-- the places of the greedy way -/
def grP (t : Nat) : List Nat → Nat → Nat → List Nat
  | [], _, _ => []
  | x :: L, pos, need => if t.testBit pos && x + 1 == need then (if need = 1 then [pos] else pos :: grP t L (pos + 1) (need - 1)) else grP t L (pos + 1) need
theorem grP_ge (t : Nat) : ∀ (L : List Nat) (pos need i : Nat), i ∈ grP t L pos need → pos ≤ i ∧ i < pos + L.length
  | [], _, _, _, h => by cases h
  | x :: L, pos, need, i, h => by
    unfold grP at h
    simp only [List.length_cons]
    split at h
    · split at h
      · have := List.mem_singleton.mp h
        omega
      · rcases List.mem_cons.mp h with e | h
        · omega
        · have := grP_ge t L (pos + 1) (need - 1) i h
          omega
    · have := grP_ge t L (pos + 1) need i h
      omega
theorem grP_bit (t : Nat) : ∀ (L : List Nat) (pos need i : Nat), (grF t L pos need).testBit i = decide (i ∈ grP t L pos need)
  | [], _, _, i => by simp [grF, grP]
  | x :: L, pos, need, i => by
    unfold grF grP
    by_cases hc : (t.testBit pos && x + 1 == need) = true
    · rw [if_pos hc, if_pos hc]
      by_cases hn : need = 1
      · rw [if_pos hn, if_pos hn, Nat.testBit_two_pow]
        by_cases e : pos = i
        · simp [e]
        · simp [e, Ne.symm e]
      · rw [if_neg hn, if_neg hn, fc_eq, Nat.testBit_or, Nat.testBit_two_pow, grP_bit t L (pos + 1) (need - 1) i]
        by_cases e : pos = i
        · simp [e]
        · simp [e, Ne.symm e]
    · rw [if_neg hc, if_neg hc]
      exact grP_bit t L (pos + 1) need i
/-- skipping k places that don't do -/
theorem grP_skip (t : Nat) : ∀ (k : Nat) (L : List Nat) (pos need : Nat), k < L.length → (∀ i, i < k → (t.testBit (pos + i) && L.getD i 0 + 1 == need) = false) → (t.testBit (pos + k) && L.getD k 0 + 1 == need) = true → grP t L pos need = (if need = 1 then [pos + k] else (pos + k) :: grP t (L.drop (k + 1)) (pos + k + 1) (need - 1))
  | 0, x :: L, pos, need, _, _, h => by
    have h' : (t.testBit pos && x + 1 == need) = true := h
    show (if (t.testBit pos && x + 1 == need) = true then _ else _) = _
    rw [if_pos h']
    rfl
  | k + 1, x :: L, pos, need, hk, hs, h => by
    have h0 : (t.testBit pos && x + 1 == need) = false := hs 0 (by omega)
    show (if (t.testBit pos && x + 1 == need) = true then _ else _) = _
    rw [if_neg (by rw [h0]; decide)]
    have ih := grP_skip t k L (pos + 1) need (by simpa using hk) (fun i hi => by
      have := hs (i + 1) (by omega)
      rw [show pos + (i + 1) = pos + 1 + i by omega] at this
      exact this) (by
      rw [show pos + (k + 1) = pos + 1 + k by omega] at h
      exact h)
    rw [ih, show pos + (k + 1) = pos + 1 + k by omega]
    rfl
  | _, [], _, _, hk, _, _ => absurd hk (Nat.not_lt_zero _)
theorem mnF_find (t : Nat) : ∀ (r pos : Nat) (L : List Nat) (b : Nat), mnF t r pos L b = b ∨ mnF t r pos L b = 100 ∨ ∃ k, k < L.length ∧ t.testBit (pos + k) = true ∧ 1 + L.getD k 0 = mnF t r pos L b
  | 0, _, _, _ => Or.inl rfl
  | _ + 1, _, [], _ => Or.inl rfl
  | r + 1, pos, x :: L, b => by
    have e : mnF t (r + 1) pos (x :: L) b = mnF t r (pos + 1) L (if (if t.testBit pos then 1 + x else 100) < b then (if t.testBit pos then 1 + x else 100) else b) := rfl
    rw [e]
    rcases mnF_find t r (pos + 1) L (if (if t.testBit pos then 1 + x else 100) < b then (if t.testBit pos then 1 + x else 100) else b) with h | h | ⟨k, h1, h2, h3⟩
    · rw [h]
      by_cases hb : t.testBit pos = true
      · rw [if_pos hb]
        by_cases hz : 1 + x < b
        · rw [if_pos hz]
          exact Or.inr (Or.inr ⟨0, by simp, hb, rfl⟩)
        · rw [if_neg hz]
          exact Or.inl rfl
      · rw [if_neg hb]
        by_cases hz : 100 < b
        · rw [if_pos hz]
          exact Or.inr (Or.inl rfl)
        · rw [if_neg hz]
          exact Or.inl rfl
    · exact Or.inr (Or.inl h)
    · exact Or.inr (Or.inr ⟨k + 1, by simpa using h1, by rw [show pos + (k + 1) = pos + 1 + k by omega]; exact h2, h3⟩)
theorem least {p : Nat → Bool} : ∀ k, p k = true → ∃ j, j ≤ k ∧ p j = true ∧ ∀ i, i < j → p i = false := by
  intro k
  induction k using Nat.strongRecOn with
  | ind k ih =>
    intro h
    by_cases hz : ∃ i, i < k ∧ p i = true
    · obtain ⟨i, h1, h2⟩ := hz
      obtain ⟨j, a, b, c⟩ := ih i h1 h2
      exact ⟨j, by omega, b, c⟩
    · refine ⟨k, Nat.le_refl _, h, fun i hi => ?_⟩
      cases hp : p i
      · rfl
      · exact absurd ⟨i, hi, hp⟩ hz
theorem fwL_drop (t r top : Nat) : ∀ j k, k ≤ j → (fwL t r top j).drop k = fwL t r top (j - k)
  | j, 0, _ => rfl
  | j + 1, k + 1, h => by
    show (fwL t r top j).drop k = _
    rw [fwL_drop t r top j k (by omega)]
    congr 1
    omega
/-- from a place with a climb the next one is found -/
theorem fw_next {t r top j x : Nat} (hj : j ≤ top) (hx : (fwL t r top (j + 1)).getD 0 0 = x) (h100 : x < 100) : 1 ≤ x ∧ ∃ k, k ≤ j ∧ (∀ i, i < k → (t.testBit (top - j + i) && (fwL t r top j).getD i 0 + 1 == x) = false) ∧ (t.testBit (top - j + k) && (fwL t r top j).getD k 0 + 1 == x) = true ∧ (fwL t r top (j - k)).getD 0 0 = x - 1 := by
  have hx' : mnF t r (top - j) (fwL t r top j) 100 = x := hx
  rcases mnF_find t r (top - j) (fwL t r top j) 100 with h | h | ⟨k, h1, h2, h3⟩
  · omega
  · omega
  · rw [hx'] at h3
    obtain ⟨q, a, b, c⟩ := least (p := fun i => t.testBit (top - j + i) && (fwL t r top j).getD i 0 + 1 == x) k (by
      rw [Bool.and_eq_true]
      exact ⟨h2, by rw [beq_iff_eq]; omega⟩)
    rw [fwL_len] at h1
    refine ⟨by omega, q, by omega, c, b, ?_⟩
    have hq : (fwL t r top j).getD q 0 + 1 = x := by
      have := b
      simp only [Bool.and_eq_true, beq_iff_eq] at this
      exact this.2
    have e := fwL_drop t r top j q (by omega)
    rw [← e]
    have : ((fwL t r top j).drop q).getD 0 0 = (fwL t r top j).getD q 0 := by simp [List.getD]
    rw [this]
    omega
