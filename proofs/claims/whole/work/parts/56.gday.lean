/-! PURE FACTS: days of the class -/
theorem lp_rel {σ : Type} {body : (σ → mR) → σ → mR} (P : Nat → σ → Prop) (N : Nat) (R : mR → Prop) (hend : ∀ s k, P N s → R (body k s)) (hstep : ∀ i s, i < N → P i s → ∃ s', P (i + 1) s' ∧ ∀ k, body k s = k s') : ∀ (r i F : Nat) (s : σ), i + r = N → r < F → P i s → R (lp body F s)
  | 0, i, F + 1, s, h, _, hp => by
    have e : i = N := by omega
    subst e
    exact hend s _ hp
  | r + 1, i, F + 1, s, h, hF, hp => by
    obtain ⟨s', hp', he⟩ := hstep i s (by omega) hp
    show R (body (lp body F) s)
    rw [he]
    exact lp_rel P N R hend hstep r (i + 1) F s' (by omega) (by omega) hp'
  | _, _, 0, _, _, hF, _ => absurd hF (Nat.not_lt_zero _)
theorem lp_rel0 {σ : Type} {body : (σ → mR) → σ → mR} (P : Nat → σ → Prop) (N : Nat) (R : mR → Prop) (s : σ) (hN : N < 20000) (h0 : P 0 s) (hend : ∀ s k, P N s → R (body k s)) (hstep : ∀ i s, i < N → P i s → ∃ s', P (i + 1) s' ∧ ∀ k, body k s = k s') : R (lp body FU s) := lp_rel P N R hend hstep N 0 FU s (by omega) hN h0
def gS (v : Nat → Nat) : Nat → Nat → Nat
  | 0 => v
  | p + 1 => goS (gS v p) p
def cS (v : Nat → Nat) : Nat → Nat
  | 0 => 0
  | p + 1 => cS v p + (if phS (gS v p) p = 0 then 0 else 1)
theorem goS_o {v : Nat → Nat} {p j : Nat} (h : j < 30 ∨ 40 ≤ j) (ho : OK v) : goS v p j = v j := wrS_o h ho
theorem gS_OK {v : Nat → Nat} (ho : OK v) : ∀ p, OK (gS v p) ∧ ∀ j, j < 30 ∨ 40 ≤ j → gS v p j = v j
  | 0 => ⟨ho, fun _ _ => rfl⟩
  | p + 1 => by
    obtain ⟨h1, h2⟩ := gS_OK ho p
    exact ⟨wrS_OK h1, fun j hj => (goS_o hj h1).trans (h2 j hj)⟩
theorem cS_le (v : Nat → Nat) : ∀ p, cS v p ≤ p
  | 0 => Nat.le_refl _
  | p + 1 => by
    have := cS_le v p
    show cS v p + _ ≤ _
    split <;> omega
/-- a day -/
def dyS (v : Nat → Nat) : Nat → Nat := fun j => if j = 4 then v 4 + 1 else gS v (v 1) j
theorem dyS_4 (v : Nat → Nat) : dyS v 4 = v 4 + 1 := rfl
theorem dyS_o {v : Nat → Nat} {j : Nat} (h : j ≠ 4) : dyS v j = gS v (v 1) j := if_neg h
theorem dyS_OK {v : Nat → Nat} (ho : OK v) (h4 : v 4 < 2000) : OK (dyS v) ∧ ∀ j, j ≠ 4 → (j < 30 ∨ 40 ≤ j) → dyS v j = v j := by
  obtain ⟨h1, h2⟩ := gS_OK ho (v 1)
  have e : ∀ j, j ≠ 4 → dyS v j = gS v (v 1) j := fun j hj => dyS_o hj
  refine ⟨?_, fun j hj h => (dyS_o hj).trans (h2 j h)⟩
  have g1 := h1.1
  unfold OK
  rw [e 0 (by decide), e 1 (by decide), e 2 (by decide), e 3 (by decide), dyS_4]
  refine ⟨⟨g1.1, g1.2.1, g1.2.2.1, g1.2.2.2.1, g1.2.2.2.2.1, by omega⟩, fun i hi => ?_, fun q hq => ?_⟩
  · rw [e (10 + i) (by omega), e (20 + i) (by omega), e (30 + i) (by omega)]
    exact h1.2.1 i hi
  · rw [e (40 + q) (by omega), e (44 + q) (by omega), e (48 + q) (by omega), e (52 + q) (by omega)]
    exact h1.2.2 q hq
theorem HC_day {m : mMem} {b d : Nat} {v : Nat → Nat} (h : HC m b v) : HC (si m b 4 (nI d)) b (fun j => if j = 4 then d else v j) := by
  have c : ∀ z, z ≠ b → (si m b 4 (nI d)).1 z = m.1 z := fun z hz => (si_o m b 4 _ z hz).1
  have e : ∀ j, j ≠ 4 → (fun j => if j = 4 then d else v j) j = v j := fun j hj => if_neg hj
  unfold HC
  rw [c (b + 1) (by omega), c (b + 2) (by omega), c (b + 3) (by omega), c (b + 4) (by omega), c (b + 5) (by omega), c (b + 6) (by omega), c (b + 7) (by omega)]
  refine ⟨⟨?_, ?_, ?_, ?_, ?_⟩, fun i hi => ?_, fun q hq => ?_⟩
  · rw [si_ne _ _ (Or.inr (by decide))]; exact h.1.1
  · rw [si_ne _ _ (Or.inr (by decide))]; exact h.1.2.1
  · rw [si_ne _ _ (Or.inr (by decide))]; exact h.1.2.2.1
  · rw [si_ne _ _ (Or.inr (by decide))]; exact h.1.2.2.2.1
  · rw [si_same]; rfl
  · rw [e (10 + i) (by omega), e (20 + i) (by omega), e (30 + i) (by omega)]
    exact h.2.1 i hi
  · rw [e (40 + q) (by omega), e (44 + q) (by omega), e (48 + q) (by omega), e (52 + q) (by omega)]
    exact h.2.2 q hq
/-- a loop that goes on, at its end, with what comes behind it -/
theorem lp_relK {σ τ : Type} {body : (τ → mR) → (σ → mR) → σ → mR} (P : Nat → σ → Prop) (N : Nat) (F : τ → Prop) (hend : ∀ s, P N s → ∃ u, F u ∧ ∀ ko k, body ko k s = ko u) (hstep : ∀ i s, i < N → P i s → ∃ s', P (i + 1) s' ∧ ∀ ko k, body ko k s = k s') : ∀ (r i n : Nat) (s : σ), i + r = N → r < n → P i s → ∃ u, F u ∧ ∀ ko, lp (body ko) n s = ko u
  | 0, i, n + 1, s, h, _, hp => by
    have e : i = N := by omega
    subst e
    obtain ⟨u, hu, he⟩ := hend s hp
    exact ⟨u, hu, fun ko => he ko _⟩
  | r + 1, i, n + 1, s, h, hF, hp => by
    obtain ⟨s', hp', he⟩ := hstep i s (by omega) hp
    obtain ⟨u, hu, hk⟩ := lp_relK P N F hend hstep r (i + 1) n s' (by omega) (by omega) hp'
    exact ⟨u, hu, fun ko => (he ko _).trans (hk ko)⟩
  | _, _, 0, _, _, hF, _ => absurd hF (Nat.not_lt_zero _)
theorem lp_relK0 {σ τ : Type} {body : (τ → mR) → (σ → mR) → σ → mR} (P : Nat → σ → Prop) (N : Nat) (F : τ → Prop) (s : σ) (hN : N < 20000) (h0 : P 0 s) (hend : ∀ s, P N s → ∃ u, F u ∧ ∀ ko k, body ko k s = ko u) (hstep : ∀ i s, i < N → P i s → ∃ s', P (i + 1) s' ∧ ∀ ko k, body ko k s = k s') : ∃ u, F u ∧ ∀ ko, lp (body ko) FU s = ko u := lp_relK P N F hend hstep N 0 FU s (by omega) hN h0
/-- the class's inner loop: a day -/
theorem goDays_day {m : mMem} {b : Nat} {v : Nat → Nat} (x2 : Int32) (C d : Nat) (hb5 : b + 8 ≤ 55) (h : HC m b v) (ho : OK v) (h4 : v 4 < 2000) : ∃ m', (HC m' b (dyS v) ∧ SM [55, b, b + 3] m m' ∧ m'.2 = m.2) ∧ ∀ ko, lp (bX1_goDays_14 ko b x2 (nI d)) FU (nI C, (0 : Int32), m) = ko (nI (C + cS v (v 1)), nI (d + 1), m') := by
  have hb := ho.1
  obtain ⟨u, ⟨m', rfl, g⟩, e⟩ := lp_relK0 (body := fun ko => bX1_goDays_14 ko b x2 (nI d)) (fun i s => ∃ m', s = (nI (C + cS v i), nI i, m') ∧ HC m' b (gS v i) ∧ SM [55, b, b + 3] m m' ∧ m'.2 = m.2) (v 1) (fun u => ∃ m', u = (nI (C + cS v (v 1)), nI (d + 1), m') ∧ HC m' b (dyS v) ∧ SM [55, b, b + 3] m m' ∧ m'.2 = m.2) (nI C, (0 : Int32), m) (by omega) ⟨m, rfl, h, SM.rf, rfl⟩ (fun s => by
    rintro ⟨m', rfl, h1, h2, h3⟩
    obtain ⟨g1, g2⟩ := gS_OK ho (v 1)
    refine ⟨_, ⟨si m' b 4 (nI (v 4 + 1)), rfl, HC_day h1, h2.tr (SM_si (by simp)), h3⟩, fun ko k => ?_⟩
    unfold bX1_goDays_14
    dsimp only [lt, li]
    rw [h1.1.2.1, g2 1 (by omega), if_pos (nI_le (Nat.le_refl _) (by omega)), h1.1.2.2.2.2, g2 4 (by omega), show nI (v 4) + 1 = nI (v 4 + 1) from nI_1 _, show nI d + 1 = nI (d + 1) from nI_1 _]) (fun i s hi => by
    rintro ⟨m', rfl, h1, h2, h3⟩
    obtain ⟨g1, g2⟩ := gS_OK ho i
    obtain ⟨m2, e, a1, a2, a3⟩ := fX1_goes_eq (p := i) hb5 h1 g1 (by rw [g2 1 (by omega)]; exact hi)
    refine ⟨(nI (C + cS v (i + 1)), nI (i + 1), m2), ⟨m2, rfl, a1, h2.tr (a2.mono (by simp)), a3.trans h3⟩, fun ko k => ?_⟩
    unfold bX1_goDays_14
    dsimp only [li]
    rw [h1.1.2.1, g2 1 (by omega), if_neg (nI_ge hi (by omega)), e]
    dsimp only [bI]
    have hc : cS v (i + 1) = cS v i + (if phS (gS v i) i = 0 then 0 else 1) := rfl
    rw [show nI i + 1 = nI (i + 1) from nI_1 _, show nI (C + cS v i) + 1 = nI (C + cS v i + 1) from nI_1 _, hc]
    by_cases hz : phS (gS v i) i = 0
    · rw [if_pos hz, if_pos rfl, if_pos hz]
      all_goals rfl
    · rw [if_neg hz, if_neg (by decide), if_neg hz]
      all_goals rfl)
  exact ⟨m', g, e⟩
def dsS (v : Nat → Nat) : Nat → Nat → Nat
  | 0 => v
  | d + 1 => dyS (dsS v d)
def dcS (v : Nat → Nat) : Nat → Nat
  | 0 => 0
  | d + 1 => dcS v d + cS (dsS v d) (v 1)
theorem dsS_OK {v : Nat → Nat} (ho : OK v) : ∀ d, v 4 + d ≤ 2000 → OK (dsS v d) ∧ dsS v d 4 = v 4 + d ∧ ∀ j, j ≠ 4 → (j < 30 ∨ 40 ≤ j) → dsS v d j = v j
  | 0, _ => ⟨ho, rfl, fun _ _ _ => rfl⟩
  | d + 1, hd => by
    obtain ⟨h1, h2, h3⟩ := dsS_OK ho d (by omega)
    obtain ⟨a1, a2⟩ := dyS_OK h1 (by omega)
    exact ⟨a1, by show dsS v d 4 + 1 = _; omega, fun j hj h => (a2 j hj h).trans (h3 j hj h)⟩
theorem dcS_le {v : Nat → Nat} : ∀ d, dcS v d ≤ d * v 1
  | 0 => by show 0 ≤ _; omega
  | d + 1 => by
    have h1 := dcS_le (v := v) d
    have h2 := cS_le (dsS v d) (v 1)
    show dcS v d + cS (dsS v d) (v 1) ≤ _
    rw [Nat.succ_mul]
    omega
theorem fX1_goDays_eq {m : mMem} {b n : Nat} {v : Nat → Nat} (hb5 : b + 8 ≤ 55) (h : HC m b v) (ho : OK v) (h4 : v 4 + n ≤ 2000) : ∃ m', fX1_goDays b (nI n) m = some (some (.int (nI (dcS v n))), m') ∧ HC m' b (dsS v n) ∧ SM [55, b, b + 3] m m' ∧ m'.2 = m.2 := by
  have hb := ho.1
  unfold fX1_goDays
  refine lp_rel0 (fun i s => ∃ m', s = (nI (dcS v i), nI i, m') ∧ HC m' b (dsS v i) ∧ SM [55, b, b + 3] m m' ∧ m'.2 = m.2) n (fun r => ∃ m', r = some (some (.int (nI (dcS v n))), m') ∧ HC m' b (dsS v n) ∧ SM [55, b, b + 3] m m' ∧ m'.2 = m.2) _ (by omega) ⟨m, rfl, h, SM.rf, rfl⟩ (fun s k => ?_) (fun i s hi => ?_)
  · rintro ⟨m', rfl, h1, h2, h3⟩
    unfold bX1_goDays_5
    dsimp only
    rw [if_pos (nI_le (Nat.le_refl _) (by omega))]
    exact ⟨m', rfl, h1, h2, h3⟩
  · rintro ⟨m', rfl, h1, h2, h3⟩
    obtain ⟨g1, g2, g3⟩ := dsS_OK ho i (by omega)
    obtain ⟨m2, ⟨a1, a2, a3⟩, e⟩ := goDays_day (nI n) (dcS v i) i hb5 h1 g1 (by omega)
    refine ⟨(nI (dcS v (i + 1)), nI (i + 1), m2), ⟨m2, rfl, a1, h2.tr a2, a3.trans h3⟩, fun k => ?_⟩
    unfold bX1_goDays_5
    dsimp only
    rw [if_neg (nI_ge hi (by omega)), e, g3 1 (by decide) (by omega)]
    rfl
theorem fX1_goDay_eq {m : mMem} {b : Nat} {v : Nat → Nat} (hb5 : b + 8 ≤ 55) (h : HC m b v) (ho : OK v) (h4 : v 4 < 2000) : ∃ m', fX1_goDays b (1 : Int32) m = some (some (.int (nI (dcS v 1))), m') ∧ HC m' b (dyS v) ∧ SM [55, b, b + 3] m m' ∧ m'.2 = m.2 := fX1_goDays_eq (n := 1) hb5 h ho (by omega)
