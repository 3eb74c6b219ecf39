/-! PURE FACTS: year, day, count -/
def yrS (v : Nat → Nat) : Nat → Nat → Nat
  | 0 => v
  | i + 1 => uv (yrS v i) (20 + i) (min (v (20 + i) + 1) 60)
def ycS (v : Nat → Nat) : Nat → Nat
  | 0 => 0
  | i + 1 => ycS v i + (if rkS (v (10 + i)) (min (v (20 + i) + 1) 60) = rkS (v (10 + i)) (v (20 + i)) then 0 else 1)
theorem yrS_o (v : Nat → Nat) : ∀ i q, q < 20 ∨ 20 + i ≤ q → yrS v i q = v q
  | 0, _, _ => rfl
  | i + 1, q, h => by
    show uv (yrS v i) (20 + i) _ q = _
    rw [uv_n (by omega)]
    exact yrS_o v i q (by omega)
theorem yrS_OK {v : Nat → Nat} (ho : OK v) : ∀ i, i ≤ 10 → OK (yrS v i)
  | 0, _ => ho
  | i + 1, h => by
    refine OK_set (yrS_OK ho i (by omega)) ?_
    unfold RB
    have := Nat.min_le_right (v (20 + i) + 1) 60
    omega
theorem yr_eq : ∀ y, y ≤ 60 → imin (nI y + 1) 60 = nI (min (y + 1) 60) ∧ (if (60 : Int32) ≤ nI y then nI y + (0 : Int32) else nI y + (1 : Int32)) = nI (min (y + 1) 60) := by decide +kernel
theorem fX7_year_eq {m : mMem} {v : Nat → Nat} (h : HC m 0 v) (ho : OK v) : ∃ m', fX7_year m = some (some (.int (nI (ycS v (v 0)))), m') ∧ HC m' 0 (yrS v (v 0)) ∧ SM [2] m m' := by
  have hb := ho.1
  unfold fX7_year
  refine lp_rel0 (fun i s => ∃ m', s = (nI (ycS v i), nI i, m') ∧ HC m' 0 (yrS v i) ∧ SM [2] m m') (v 0) (fun r => ∃ m', r = some (some (.int (nI (ycS v (v 0)))), m') ∧ HC m' 0 (yrS v (v 0)) ∧ SM [2] m m') _ (by omega) ⟨m, rfl, h, SM.rf⟩ (fun s k => ?_) (fun i s hi => ?_)
  · rintro ⟨m', rfl, h1, h2⟩
    unfold bX7_year_4
    dsimp only
    rw [h1.1.1, yrS_o v _ 0 (by omega), if_pos (nI_le (Nat.le_refl _) (by omega))]
    exact ⟨m', rfl, h1, h2⟩
  · rintro ⟨m', rfl, h1, h2⟩
    have hi' : i < yrS v i 0 := by rw [yrS_o v _ 0 (by omega)]; exact hi
    have hc := ho.2.1 i hi
    have h3 : HC (si m' 2 i (nI (min (v (20 + i) + 1) 60))) 0 (yrS v (i + 1)) := HC_set (c := 2) (x := min (v (20 + i) + 1) 60) h1 (by rw [yrS_o v _ 0 (by omega)]; exact hb.1) (by rw [yrS_o v _ 1 (by omega)]; exact hb.2.1) (by unfold RC; omega)
    have r1 := fX4_rankOfStep_eq h1 (yrS_OK ho i (by omega)) hi'
    have r2 := fX4_rankOfStep_eq (i := i) h3 (yrS_OK ho (i + 1) (by omega)) (by rw [yrS_o v _ 0 (by omega)]; exact hi)
    rw [yrS_o v i (10 + i) (by omega), yrS_o v i (20 + i) (by omega)] at r1
    rw [yrS_o v (i + 1) (10 + i) (by omega), show yrS v (i + 1) (20 + i) = min (v (20 + i) + 1) 60 from uv_s _ _ _] at r2
    have e2 : m'.1 2 i = nI (v (20 + i)) := by
      have := (h1.2.1 i hi').2.1
      rw [yrS_o v i (20 + i) (by omega)] at this
      exact this
    refine ⟨(nI (ycS v (i + 1)), nI (i + 1), si m' 2 i (nI (min (v (20 + i) + 1) 60))), ⟨_, rfl, h3, h2.tr (SM_si (by simp))⟩, fun k => ?_⟩
    unfold bX7_year_4
    dsimp only [li, lt]
    rw [h1.1.1, yrS_o v _ 0 (by omega), if_neg (nI_ge hi (by omega)), r1]
    dsimp only [bI]
    rw [ga_nI (by omega) (by decide), ga_nI (by omega) (by decide), nI_tn (by omega), e2, (yr_eq _ hc.2.1).1, r2]
    dsimp only
    have hc1 : ycS v (i + 1) = ycS v i + (if rkS (v (10 + i)) (min (v (20 + i) + 1) 60) = rkS (v (10 + i)) (v (20 + i)) then 0 else 1) := rfl
    have k1 := rkS_le (v (10 + i)) (v (20 + i))
    have k2 := rkS_le (v (10 + i)) (min (v (20 + i) + 1) 60)
    rw [show nI i + 1 = nI (i + 1) from nI_1 _, show nI (ycS v i) + 1 = nI (ycS v i + 1) from nI_1 _, hc1]
    by_cases hz : rkS (v (10 + i)) (min (v (20 + i) + 1) 60) = rkS (v (10 + i)) (v (20 + i))
    · rw [if_pos hz, if_pos (by rw [hz])]
      rfl
    · rw [if_neg hz, if_neg (by rw [nI_eq (by omega) (by omega)]; exact hz)]
theorem fX8_year_eq {m : mMem} {v : Nat → Nat} (h : HO m 0 0 v) : ∃ m', fX8_year m = some (some (.int (nI (ycS v (v 0)))), m') ∧ HM m' 0 (yrS v (v 0)) ∧ SM [82] m m' ∧ PG 0 m m' := by
  have ho := h.2.1
  have hb := ho.1
  unfold fX8_year
  refine lp_rel0 (fun i s => ∃ m', s = (nI (ycS v i), nI i, m') ∧ HM m' 0 (yrS v i) ∧ SM [82] m m' ∧ PG 0 m m') (v 0) (fun r => ∃ m', r = some (some (.int (nI (ycS v (v 0)))), m') ∧ HM m' 0 (yrS v (v 0)) ∧ SM [82] m m' ∧ PG 0 m m') _ (by omega) ⟨m, rfl, h.1, SM.rf, PG.rf⟩ (fun s k => ?_) (fun i s hi => ?_)
  · rintro ⟨m', rfl, h1, h2, h2'⟩
    unfold bX8_year_4
    dsimp only
    rw [h1.1.1, yrS_o v _ 0 (by omega), if_pos (nI_le (Nat.le_refl _) (by omega))]
    exact ⟨m', rfl, h1, h2, h2'⟩
  · rintro ⟨m', rfl, h1, h2, h2'⟩
    have hi' : i < yrS v i 0 := by rw [yrS_o v _ 0 (by omega)]; exact hi
    have hc := ho.2.1 i hi
    have h3 : HM (si m' 82 (2 * i) (nI (min (v (20 + i) + 1) 60))) 0 (yrS v (i + 1)) := by
      have := HM_set (q := 2 * i) (j := 20 + i) (x := min (v (20 + i) + 1) 60) h1 (by rw [yrS_o v _ 0 (by omega)]; exact hb.1) (by rw [yrS_o v _ 1 (by omega)]; exact hb.2.1) (by unfold RM; omega)
      rw [Nat.zero_add] at this
      exact this
    have e5 : m'.1 81 5 = nI 0 := by rw [(h2 81 (by decide)).1]; exact h.2.2.2.1
    have r1 : fX8_rankOn (0 : Int32) (nI i) m' = _ := fX8_rankOn_eq (P := 0) (o := 0) ⟨h1, yrS_OK ho i (by omega), by decide, e5, by decide⟩ hi'
    have r2 : fX8_rankOn (0 : Int32) (nI i) (si m' 82 (2 * i) (nI (min (v (20 + i) + 1) 60))) = _ := fX8_rankOn_eq (i := i) (P := 0) (o := 0) ⟨h3, yrS_OK ho (i + 1) (by omega), by decide, by rw [si_c _ (by decide)]; exact e5, by decide⟩ (by rw [yrS_o v _ 0 (by omega)]; exact hi)
    rw [yrS_o v i (10 + i) (by omega), yrS_o v i (20 + i) (by omega)] at r1
    rw [yrS_o v (i + 1) (10 + i) (by omega), show yrS v (i + 1) (20 + i) = min (v (20 + i) + 1) 60 from uv_s _ _ _] at r2
    have e2 : m'.1 82 (2 * i) = nI (v (20 + i)) := by
      have := (h1.2.1 i hi').2.1
      rw [yrS_o v i (20 + i) (by omega), Nat.zero_add] at this
      exact this
    refine ⟨(nI (ycS v (i + 1)), nI (i + 1), si m' 82 (2 * i) (nI (min (v (20 + i) + 1) 60))), ⟨_, rfl, h3, h2.tr (SM_si (by simp)), fun q hq => by rw [si_ne _ _ (Or.inr (by omega))]; exact h2' q hq⟩, fun k => ?_⟩
    have hj : ∀ w, w = nI (min (v (20 + i) + 1) 60) → (ga (nI (2 * i)) 210 (lt (si m' 82 (2 * i) w) (fun m4 => bI (fX8_rankOn (0 : Int32) (nI i) m4) (fun z6 m5 => if z6 = nI (rkS (v (10 + i)) (v (20 + i))) then li (nI (ycS v i) + (0 : Int32)) (fun y8 => li (nI i + (1 : Int32)) (fun y9 => k (y8, y9, m5))) else li (nI (ycS v i) + (1 : Int32)) (fun y10 => li (nI i + (1 : Int32)) (fun y11 => k (y10, y11, m5)))))) : mR) = k (nI (ycS v (i + 1)), nI (i + 1), si m' 82 (2 * i) (nI (min (v (20 + i) + 1) 60))) := fun w hw => by
      subst hw
      dsimp only [li, lt]
      rw [ga_nI (by omega) (by decide), r2]
      dsimp only [bI]
      have hc1 : ycS v (i + 1) = ycS v i + (if rkS (v (10 + i)) (min (v (20 + i) + 1) 60) = rkS (v (10 + i)) (v (20 + i)) then 0 else 1) := rfl
      have k1 := rkS_le (v (10 + i)) (v (20 + i))
      have k2 := rkS_le (v (10 + i)) (min (v (20 + i) + 1) 60)
      rw [show nI i + 1 = nI (i + 1) from nI_1 _, show nI (ycS v i) + 1 = nI (ycS v i + 1) from nI_1 _, hc1]
      by_cases hz : rkS (v (10 + i)) (min (v (20 + i) + 1) 60) = rkS (v (10 + i)) (v (20 + i))
      · rw [if_pos hz, if_pos (by rw [hz]), Int32.add_zero]
        rfl
      · rw [if_neg hz, if_neg (by rw [nI_eq (by omega) (by omega)]; exact hz)]
    unfold bX8_year_4 jX8_year_46
    dsimp only
    rw [h1.1.1, yrS_o v _ 0 (by omega), if_neg (nI_ge hi (by omega)), r1]
    dsimp only [bI]
    rw [i2, ga_nI (by omega) (by decide), ga_nI (by omega) (by decide), nI_tn (by omega), e2]
    have hy := (yr_eq _ hc.2.1).2
    by_cases h60 : (60 : Int32) ≤ nI (v (20 + i))
    · rw [if_pos h60] at hy
      rw [if_pos h60]
      exact hj _ hy
    · rw [if_neg h60] at hy
      rw [if_neg h60]
      exact hj _ hy
theorem ok_year : okI Inv (fX7_year) (fX8_year) := by
  rintro m ⟨v, hV⟩
  have ho := hV.1.2.2.1
  have hb := ho.1
  obtain ⟨m1, e7, a1, a2⟩ := fX7_year_eq hV.1.1 ho
  have hM : HM m1 0 v := HM_fr hV.1.2.1 hb.1 hb.2.1 (by rw [(a2 81 (by decide)).1]) (by rw [(a2 81 (by decide)).1]) (a2 83 (by decide)).1 (a2 84 (by decide)).1 (fun q _ _ => by rw [(a2 82 (by decide)).1])
  have h5 : m1.1 81 5 = nI 0 := by rw [(a2 81 (by decide)).1]; exact hV.1.2.2.2.2.2
  obtain ⟨m2, e8, b1, b2, b3⟩ := fX8_year_eq (m := m1) (v := v) ⟨hM, ho, by decide, h5, by decide⟩
  refine ⟨_, m1, m2, e7, e8, ⟨yrS v (v 0), IV_FH hV ((FH_sm a2 (by decide)).tr (FH_pg b2 (by decide) b3)) ⟨HC_fr a1 (fun c _ hc => (b2 c (by simp; omega)).1), b1, yrS_OK ho _ hb.1, ?_, ?_, ?_⟩ (yrS_o v _ 0 (by omega))⟩⟩
  · rw [yrS_o v _ 3 (by omega)]; exact hV.1.2.2.2.1
  · rw [yrS_o v _ 4 (by omega)]; exact hV.1.2.2.2.2.1
  · rw [(b2 81 (by decide)).1]; exact h5
theorem ok_day (u0 : Int32) : okI Inv (fX7_day u0) (fX8_day u0) := by
  rintro m ⟨v, hV⟩
  have ho := hV.1.2.2.1
  have hb := ho.1
  have c := IV_c hV
  have d := IV_m hV
  have h999 := hV.1.2.2.2.2.1
  rcases rng_cases u0 0 60 (a := 0) (b := 60) (A := 0) (B := 60) rfl rfl rfl rfl (by decide) (by decide) with ⟨n, -, hn, rfl, f7, f8⟩ | ⟨f7, f8⟩
  · by_cases hz : v 4 + n < 1000
    · obtain ⟨m1, e7, a1, a2, a3⟩ := fX1_goDays_eq (n := n) (b := 0) (by decide) hV.1.1 ho (by omega)
      have hM : HM m1 0 v := HM_fr hV.1.2.1 hb.1 hb.2.1 (by rw [(a2 81 (by decide)).1]) (by rw [(a2 81 (by decide)).1]) (a2 83 (by decide)).1 (a2 84 (by decide)).1 (fun q _ _ => by rw [(a2 82 (by decide)).1])
      have h5 : m1.1 81 5 = nI 0 := by rw [(a2 81 (by decide)).1]; exact hV.1.2.2.2.2.2
      obtain ⟨m2, e8, b1, b2, b3⟩ := fX8_daysOn_eq (m0 := m1) (P := 0) (n := n) (v := v) ⟨hM, ho, by decide, h5, by decide⟩ (by omega)
      have e8' : fX8_daysOn (0 : Int32) (nI n) m1 = _ := e8
      obtain ⟨g1, g2, g3⟩ := dsS_OK ho n (by omega)
      refine ⟨nI (dcS v n), m1, m2, ?_, ?_, ⟨dsS v n, IV_FH hV ((FH_sm a2 (by decide)).tr (FH_pg b2 (by decide) b3)) ⟨HC_fr a1 (fun c _ hc => (b2 c (by simp; omega)).1), b1.1, g1, ?_, ?_, b1.2.2.2.1⟩ (g3 0 (by decide) (by omega))⟩⟩
      · unfold fX7_day
        rw [f7]
        dsimp only [bI]
        rw [if_neg (by decide), c.1.2.2.2.2, nI_add, show (1000 : Int32) = nI 1000 from rfl, if_pos (nI_lt hz (by decide)), e7]
      · unfold fX8_day
        rw [f8]
        dsimp only [bI]
        rw [if_neg (by decide), show (34 : Int32) = nI 34 from rfl, ga_nI (by decide) (by decide), nI_tn (by decide), (a2 82 (by decide)).1, d.1.2.2.2.2, nI_add, show (999 : Int32) = nI 999 from rfl, if_pos (nI_le (by omega) (by decide)), e8']
      · rw [g3 3 (by decide) (by omega)]; exact hV.1.2.2.2.1
      · rw [g2]; omega
    · refine ⟨-3, m, m, ?_, ?_, ⟨v, hV⟩⟩
      · unfold fX7_day
        rw [f7]
        dsimp only [bI]
        rw [if_neg (by decide), c.1.2.2.2.2, nI_add, show (1000 : Int32) = nI 1000 from rfl, if_neg (nI_nlt (by omega) (by omega))]
      · unfold fX8_day
        rw [f8]
        dsimp only [bI]
        rw [if_neg (by decide), show (34 : Int32) = nI 34 from rfl, ga_nI (by decide) (by decide), nI_tn (by decide), d.1.2.2.2.2, nI_add, show (999 : Int32) = nI 999 from rfl, if_neg (nI_ge (by omega) (by omega))]
  · refine ⟨-1, m, m, ?_, ?_, ⟨v, hV⟩⟩
    · unfold fX7_day
      rw [f7]
      rfl
    · unfold fX8_day
      rw [f8]
      rfl
