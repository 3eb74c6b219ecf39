/-! PURE FACTS: the reference's days, copies, bits -/
theorem HM_day {m : mMem} {P d : Nat} {u : Nat → Nat} (h : HM m P u) (h0 : u 0 ≤ 10) (h1 : u 1 ≤ 4) : HM (si m 82 (P + 34) (nI d)) P (fun j => if j = 4 then d else u j) := by
  have c : ∀ z, z ≠ 82 → (si m 82 (P + 34) (nI d)).1 z = m.1 z := fun z hz => (si_o m 82 _ _ z hz).1
  have e : ∀ j, j ≠ 4 → (fun j => if j = 4 then d else u j) j = u j := fun j hj => if_neg hj
  unfold HM
  rw [c 81 (by decide), c 83 (by decide), c 84 (by decide), e 0 (by decide), e 1 (by decide), e 2 (by decide), e 3 (by decide)]
  refine ⟨⟨h.1.1, h.1.2.1, ?_, ?_, ?_⟩, fun k hk => ⟨?_, ?_, ?_⟩, fun p hp => ⟨?_, ?_, ?_, ?_⟩⟩
  · rw [si_ne _ _ (Or.inr (by omega))]; exact h.1.2.2.1
  · rw [si_ne _ _ (Or.inr (by omega))]; exact h.1.2.2.2.1
  · rw [si_same]; rfl
  · rw [e (10 + k) (by omega)]; exact (h.2.1 k hk).1
  · rw [e (20 + k) (by omega), si_ne _ _ (Or.inr (by omega))]; exact (h.2.1 k hk).2.1
  · rw [e (30 + k) (by omega), si_ne _ _ (Or.inr (by omega))]; exact (h.2.1 k hk).2.2
  · rw [e (40 + p) (by omega)]; exact (h.2.2 p hp).1
  · rw [e (44 + p) (by omega), si_ne _ _ (Or.inr (by omega))]; exact (h.2.2 p hp).2.1
  · rw [e (48 + p) (by omega), si_ne _ _ (Or.inr (by omega))]; exact (h.2.2 p hp).2.2.1
  · rw [e (52 + p) (by omega), si_ne _ _ (Or.inr (by omega))]; exact (h.2.2 p hp).2.2.2
theorem day_in {m0 : mMem} {P c d n : Nat} {v : Nat → Nat} (h0 : HO m0 P 0 v) (h4 : v 4 < 2000) : ∃ u : Int32 × Int32 × mMem, (∃ m', u = (nI (c + cS v (v 1)), nI (d + 1), m') ∧ HO m' P 0 (dyS v) ∧ SM [82, 91, 92] m0 m' ∧ PG P m0 m') ∧ ∀ k5, lp (bX8_daysOn_14 k5 (nI P) (nI n) (nI d)) FU (nI c, nI 0, m0) = k5 u := by
  have ho := h0.2.1
  have hb := ho.1
  have hP := h0.2.2.1
  refine lp_relK0 (body := fun k5 => bX8_daysOn_14 k5 (nI P) (nI n) (nI d)) (fun i s => ∃ m', s = (nI (c + cS v i), nI i, m') ∧ HO m' P 0 (gS v i) ∧ SM [82, 91, 92] m0 m' ∧ PG P m0 m') (v 1) (fun u => ∃ m', u = (nI (c + cS v (v 1)), nI (d + 1), m') ∧ HO m' P 0 (dyS v) ∧ SM [82, 91, 92] m0 m' ∧ PG P m0 m') (nI c, nI 0, m0) (by omega) ⟨m0, rfl, h0, SM.rf, PG.rf⟩ (fun s => ?_) (fun i s hi => ?_)
  · rintro ⟨m', rfl, a1, a2, a3⟩
    obtain ⟨g1, g2⟩ := gS_OK ho (v 1)
    refine ⟨(nI (c + cS v (v 1)), nI (d + 1), si m' 82 (P + 34) (nI (v 4 + 1))), ⟨_, rfl, ⟨HM_day a1.1 g1.1.1 g1.1.2.1, (dyS_OK ho h4).1, hP, by rw [si_ne _ _ (Or.inl (by decide))]; exact a1.2.2.2.1, by decide⟩, a2.tr (SM_si (by simp)), fun q hq => by rw [si_ne _ _ (Or.inr (by omega))]; exact a3 q hq⟩, fun ko k => ?_⟩
    unfold bX8_daysOn_14
    dsimp only [li, lt]
    rw [a1.1.1.2.1, g2 1 (by omega), if_pos (nI_le (Nat.le_refl _) (by omega)), show nI P + (34 : Int32) = nI (P + 34) from nI_add P 34, ga_nI (by omega) (by decide), ga_nI (by omega) (by decide), nI_tn (by omega), a1.1.1.2.2.2.2, g2 4 (by omega), show nI (v 4) + 1 = nI (v 4 + 1) from nI_1 _, show nI d + 1 = nI (d + 1) from nI_1 _]
  · rintro ⟨m', rfl, a1, a2, a3⟩
    obtain ⟨g1, g2⟩ := gS_OK ho i
    obtain ⟨m2, e, b1, b2, b3⟩ := fX8_goes_eq (p := i) a1 (by rw [g2 1 (by omega)]; exact hi)
    refine ⟨(nI (c + cS v (i + 1)), nI (i + 1), m2), ⟨m2, rfl, b1, a2.tr b2, a3.tr b3⟩, fun ko k => ?_⟩
    unfold bX8_daysOn_14
    dsimp only [li]
    rw [a1.1.1.2.1, g2 1 (by omega), if_neg (nI_ge hi (by omega)), e]
    dsimp only [bI]
    have hc : cS v (i + 1) = cS v i + (if phS (gS v i) i = 0 then 0 else 1) := rfl
    rw [show nI i + 1 = nI (i + 1) from nI_1 _, show nI (c + cS v i) + 1 = nI (c + cS v i + 1) from nI_1 _, hc]
    by_cases hz : phS (gS v i) i = 0
    · rw [if_pos hz, if_pos rfl, if_pos hz, Int32.add_zero]
      rfl
    · rw [if_neg hz, if_neg (by decide), if_neg hz]
      rfl
theorem fX8_daysOn_eq {m0 : mMem} {P n : Nat} {v : Nat → Nat} (h0 : HO m0 P 0 v) (h4 : v 4 + n ≤ 2000) : ∃ m', fX8_daysOn (nI P) (nI n) m0 = some (some (.int (nI (dcS v n))), m') ∧ HO m' P 0 (dsS v n) ∧ SM [82, 91, 92] m0 m' ∧ PG P m0 m' := by
  have ho := h0.2.1
  have hb := ho.1
  unfold fX8_daysOn
  refine lp_rel0 (fun i s => ∃ m', s = (nI (dcS v i), nI i, m') ∧ HO m' P 0 (dsS v i) ∧ SM [82, 91, 92] m0 m' ∧ PG P m0 m') n (fun r => ∃ m', r = some (some (.int (nI (dcS v n))), m') ∧ HO m' P 0 (dsS v n) ∧ SM [82, 91, 92] m0 m' ∧ PG P m0 m') _ (by omega) ⟨m0, rfl, h0, SM.rf, PG.rf⟩ (fun s k => ?_) (fun i s hi => ?_)
  · rintro ⟨m', rfl, a1, a2, a3⟩
    unfold bX8_daysOn_5
    dsimp only
    rw [if_pos (nI_le (Nat.le_refl _) (by omega))]
    exact ⟨m', rfl, a1, a2, a3⟩
  · rintro ⟨m', rfl, a1, a2, a3⟩
    obtain ⟨g1, g2, g3⟩ := dsS_OK ho i (by omega)
    obtain ⟨u, ⟨m2, rfl, b1, b2, b3⟩, hk⟩ := day_in (c := dcS v i) (d := i) (n := n) a1 (by omega)
    refine ⟨(nI (dcS v (i + 1)), nI (i + 1), m2), ⟨m2, rfl, b1, a2.tr b2, a3.tr b3⟩, fun k => ?_⟩
    unfold bX8_daysOn_5
    dsimp only
    rw [if_neg (nI_ge hi (by omega))]
    have := hk k
    rw [g3 1 (by decide) (by omega)] at this
    exact this
/-- memory behind i turns of copies -/
def kM (A B : Nat) (m : mMem) : Nat → mMem
  | 0 => m
  | i + 1 => si (kM A B m i) 82 (B + i) ((kM A B m i).1 82 (A + i))
theorem kM_SM (A B : Nat) (m : mMem) : ∀ i, SM [82] m (kM A B m i)
  | 0 => SM.rf
  | i + 1 => (kM_SM A B m i).tr (SM_si (by simp))
theorem kM_at {A B : Nat} (m : mMem) (hAB : A + 35 ≤ B ∨ B + 35 ≤ A) : ∀ i, i ≤ 35 → ∀ q, (kM A B m i).1 82 q = if B ≤ q ∧ q < B + i then m.1 82 (A + (q - B)) else m.1 82 q
  | 0, _, q => by
    rw [if_neg (by omega)]
    rfl
  | i + 1, hi, q => by
    show (si (kM A B m i) 82 (B + i) ((kM A B m i).1 82 (A + i))).1 82 q = _
    rw [si_1]
    by_cases e : q = B + i
    · subst e
      rw [if_pos ⟨rfl, rfl⟩, kM_at m hAB i (by omega), if_neg (by omega), if_pos (by omega), Nat.add_sub_cancel_left]
    · rw [if_neg (fun z => e z.2), kM_at m hAB i (by omega)]
      by_cases hz : B ≤ q ∧ q < B + i
      · rw [if_pos hz, if_pos (by omega)]
      · rw [if_neg hz, if_neg (by omega)]
theorem fX8_copies_eq {m : mMem} {A B o : Nat} {v : Nat → Nat} (hA : A ≤ 175) (hB : B ≤ 175) (hAB : A + 35 ≤ B ∨ B + 35 ≤ A) : fX8_copies (nI A) (nI B) m = some (none, kM A B m 35) := by
  unfold fX8_copies
  refine lp_0 (fun i => (nI i, kM A B m i)) 35 _ (by decide) (fun k => ?_) (fun i hi k => ?_)
  · unfold bX8_copies_2
    dsimp only
    rw [if_pos (by decide)]
  · unfold bX8_copies_2
    dsimp only [li, lt]
    rw [show (35 : Int32) = nI 35 from rfl, if_neg (nI_ge hi (by decide)), nI_add, nI_add, ga_nI (by omega) (by decide), ga_nI (by omega) (by decide), nI_tn (by omega), nI_tn (by omega), show nI i + 1 = nI (i + 1) from nI_1 _]
    rfl
theorem kM_HM {m : mMem} {A B : Nat} {v : Nat → Nat} (hAB : A + 35 ≤ B ∨ B + 35 ≤ A) (h : HM m A v) (ho : OK v) : HM (kM A B m 35) B v := by
  have hb := ho.1
  have hs := kM_SM A B m 35
  have c : ∀ z, z ≠ 82 → (kM A B m 35).1 z = m.1 z := fun z hz => (hs z (by simpa using hz)).1
  have e : ∀ k, k < 35 → (kM A B m 35).1 82 (B + k) = m.1 82 (A + k) := fun k hk => by rw [kM_at m hAB 35 (Nat.le_refl _), if_pos (by omega), Nat.add_sub_cancel_left]
  unfold HM
  rw [c 81 (by decide), c 83 (by decide), c 84 (by decide), e 32 (by decide), e 33 (by decide), e 34 (by decide)]
  refine ⟨h.1, fun k hk => ⟨(h.2.1 k hk).1, ?_, ?_⟩, fun p hp => ⟨(h.2.2 p hp).1, ?_, ?_, ?_⟩⟩
  · rw [e (2 * k) (by omega)]; exact (h.2.1 k hk).2.1
  · rw [Nat.add_assoc, e (2 * k + 1) (by omega)]; exact (h.2.1 k hk).2.2
  · rw [Nat.add_assoc, e (20 + 3 * p) (by omega), ← Nat.add_assoc]; exact (h.2.2 p hp).2.1
  · rw [show B + 20 + 3 * p + 1 = B + (20 + 3 * p + 1) by omega, e (20 + 3 * p + 1) (by omega), show A + (20 + 3 * p + 1) = A + 20 + 3 * p + 1 by omega]; exact (h.2.2 p hp).2.2.1
  · rw [show B + 20 + 3 * p + 2 = B + (20 + 3 * p + 2) by omega, e (20 + 3 * p + 2) (by omega), show A + (20 + 3 * p + 2) = A + 20 + 3 * p + 2 by omega]; exact (h.2.2 p hp).2.2.2
theorem kM_PG {m : mMem} {A B : Nat} (hAB : A + 35 ≤ B ∨ B + 35 ≤ A) : PG B m (kM A B m 35) := fun q hq => by rw [kM_at m hAB 35 (Nat.le_refl _), if_neg (by omega)]
theorem fX8_brokenOn_eq {m : mMem} {P o : Nat} {v : Nat → Nat} (h : HO m P o v) : fX8_brokenOn (nI P) m = some (some (.int (nI (bitsN (obS v o) (v 0)))), m) := by
  have hb := h.2.1.1
  unfold fX8_brokenOn
  refine lp_0 (fun i => (nI (bitsN (obS v o) i), nI i, m)) (v 0) _ (by omega) (fun k => ?_) (fun i hi k => ?_)
  · unfold bX8_brokenOn_4
    dsimp only
    rw [h.1.1.1, if_pos (nI_le (Nat.le_refl _) (by omega))]
  · unfold bX8_brokenOn_4
    dsimp only [li]
    rw [h.1.1.1, if_neg (nI_ge hi (by omega)), fX8_isBroken_eq h hi]
    dsimp only [bI]
    rw [nI_setbit (by omega), show nI i + 1 = nI (i + 1) from nI_1 i, show nI (bitsN (obS v o) i) ||| (0 : Int32) = nI (bitsN (obS v o) i ||| 0) from nI_or _ 0, Nat.or_zero]
    rw [show bitsN (obS v o) (i + 1) = if obS v o i then bitsN (obS v o) i ||| 2 ^ i else bitsN (obS v o) i from rfl]
    cases hz : obS v o i <;> simp
theorem fX8_homesOn_eq {m0 : mMem} {P o : Nat} {v : Nat → Nat} (h0 : HO m0 P o v) : ∃ m', fX8_homesOn (nI P) m0 = some (some (.int (nI (bitsN (fun p => phO v o p != 0) (v 1)))), m') ∧ SM [91] m0 m' := by
  have hb := h0.2.1.1
  unfold fX8_homesOn
  refine lp_rel0 (fun i s => ∃ m', s = (nI (bitsN (fun p => phO v o p != 0) i), nI i, m') ∧ SM [91] m0 m') (v 1) (fun r => ∃ m', r = some (some (.int (nI (bitsN (fun p => phO v o p != 0) (v 1)))), m') ∧ SM [91] m0 m') _ (by omega) ⟨m0, rfl, SM.rf⟩ (fun s k => ?_) (fun i s hi => ?_)
  · rintro ⟨m', rfl, a1⟩
    unfold bX8_homesOn_4
    dsimp only
    rw [(a1 81 (by decide)).1, h0.1.1.2.1, if_pos (nI_le (Nat.le_refl _) (by omega))]
    exact ⟨m', rfl, a1⟩
  · rintro ⟨m', rfl, a1⟩
    obtain ⟨m2, e, b1, -⟩ := fX8_hasClimb_eq (p := i) (HO_sm h0 a1 (by decide)) hi
    refine ⟨(nI (bitsN (fun p => phO v o p != 0) (i + 1)), nI (i + 1), m2), ⟨m2, rfl, a1.tr b1⟩, fun k => ?_⟩
    unfold bX8_homesOn_4
    dsimp only [li]
    rw [(a1 81 (by decide)).1, h0.1.1.2.1, if_neg (nI_ge hi (by omega)), e]
    dsimp only [bI]
    rw [nI_setbit (by omega), show nI i + 1 = nI (i + 1) from nI_1 i, show nI (bitsN (fun p => phO v o p != 0) i) ||| (0 : Int32) = nI (bitsN (fun p => phO v o p != 0) i ||| 0) from nI_or _ 0, Nat.or_zero]
    rw [show bitsN (fun p => phO v o p != 0) (i + 1) = if (phO v o i != 0) = true then bitsN (fun p => phO v o p != 0) i ||| 2 ^ i else bitsN (fun p => phO v o p != 0) i from rfl]
    by_cases hz : phO v o i = 0 <;> simp [hz]
theorem fX4_homeBits_eq {m : mMem} {b : Nat} {v : Nat → Nat} (h : HC m b v) (ho : OK v) : fX4_homeBits b m = some (some (.int (nI (bitsN (fun p => phO v 0 p != 0) (v 1)))), m) := by
  have hb := ho.1
  unfold fX4_homeBits
  refine lp_0 (fun i => (nI (bitsN (fun p => phO v 0 p != 0) i), nI i, m)) (v 1) _ (by omega) (fun k => ?_) (fun i hi k => ?_)
  · unfold bX4_homeBits_4
    dsimp only
    rw [h.1.2.1, if_pos (nI_le (Nat.le_refl _) (by omega))]
  · have hr := rcS_b ho hi
    have hq := ho.2.2 i hi
    obtain ⟨f, L, hF, g1, g2, g3, -⟩ := brute (t := bitsN (trS v 0 i) (v 0)) hr.1 hr.2 (show v (52 + i) < 10 by omega)
    unfold bX4_homeBits_4
    dsimp only [li]
    rw [h.1.2.1, if_neg (nI_ge hi (by omega)), fX4_getsHome_eq h ho hi, g3]
    dsimp only [bI]
    rw [nI_setbit (by omega), show nI i + 1 = nI (i + 1) from nI_1 i]
    rw [show bitsN (fun p => phO v 0 p != 0) (i + 1) = if (phO v 0 i != 0) = true then bitsN (fun p => phO v 0 p != 0) i ||| 2 ^ i else bitsN (fun p => phO v 0 p != 0) i from rfl]
    have hph : phO v 0 i = pvS (bitsN (trS v 0 i) (v 0)) (rcS v i) (v (52 + i)) := rfl
    rw [← hph]
    by_cases hz : phO v 0 i = 0 <;> simp [hz]
