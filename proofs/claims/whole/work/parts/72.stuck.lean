/-! PURE FACTS: stuck, gap, legs -/
theorem fb_lt {q : Bool} (h : ¬ q = true) : q = false := by cases q <;> simp_all
theorem ok_stuck (u0 : Int32) : okI Inv (fX7_stuck u0) (fX8_stuck u0) := by
  rintro m ⟨v, hV⟩
  have ho := hV.1.2.2.1
  have hb := ho.1
  have c := IV_c hV
  have d := IV_m hV
  have h999 := hV.1.2.2.2.2.1
  rcases lodger_cases hb.2.1 u0 with ⟨p, hp, rfl, e7, e8⟩ | ⟨e7, e8⟩
  · obtain ⟨ma, ea, a1, a2⟩ := cp7 hV.1.1 ho
    obtain ⟨q, hq⟩ : ∃ q : Nat → Bool, q = fun i => phO (dsS v i) 0 p == 0 := ⟨_, rfl⟩
    obtain ⟨ans, hans⟩ : ∃ ans : Int32, ans = if fdF q 61 0 = 61 then -4 else nI (fdF q 61 0) := ⟨_, rfl⟩
    have hit : ∀ i, i < 61 → q i = true → (∀ j, j < i → q j = false) → ans = nI i := fun i h1 h2 h3 => by
      have := fdF_hit 61 0 i (by omega) (by omega) h2 (fun j _ h => h3 j h)
      rw [hans, this, if_neg (by omega)]
    have non : (∀ j, j < 61 → q j = false) → ans = -4 := fun h3 => by
      have := fdF_none 61 0 (fun j _ h => h3 j (by omega))
      rw [hans, this, if_pos rfl]
    have L7 : ∃ mb, lp (bX7_stuck_23 (nI p)) FU ((0 : Int32), ma) = some (some (.int ans), mb) ∧ FR ma mb := by
      refine lp_or0 (body := bX7_stuck_23 (nI p)) (fun i s => ∃ m', s = (nI i, m') ∧ HC m' 8 (dsS v i) ∧ FR ma m' ∧ ∀ j, j < i → q j = false) 61 (fun r => ∃ mb, r = some (some (.int ans), mb) ∧ FR ma mb) _ (by decide) ⟨ma, rfl, a1, FR.rf, fun j hj => absurd hj (Nat.not_lt_zero _)⟩ (fun s k => ?_) (fun i s hi => ?_)
      · rintro ⟨m', rfl, h1, h2, h3⟩
        unfold bX7_stuck_23
        dsimp only
        rw [if_pos (by decide), non h3]
        exact ⟨m', rfl, h2⟩
      · rintro ⟨m', rfl, h1, h2, h3⟩
        obtain ⟨g1, g2, g3⟩ := dsS_OK ho i (by omega)
        have hp' : p < dsS v i 1 := by rw [g3 1 (by decide) (by omega)]; exact hp
        have hg := gh7 h1 g1 hp'
        by_cases hz : phO (dsS v i) 0 p = 0
        · right
          intro k
          have := hit i hi (by rw [hq]; simp [hz]) h3
          unfold bX7_stuck_23
          dsimp only
          rw [if_neg (show ¬ (60 : Int32) < nI i from nI_nlt (a := 60) (by omega) (by decide)), hg]
          dsimp only [bI]
          rw [if_pos hz, if_pos rfl, this]
          exact ⟨m', rfl, h2⟩
        · left
          obtain ⟨m2, e, b1, b2, b3⟩ := fX1_goDay_eq (by decide) h1 g1 (by omega)
          refine ⟨(nI (i + 1), m2), ⟨m2, rfl, b1, h2.tr (FR_sm b2 (by decide)), fun j hj => ?_⟩, fun k => ?_⟩
          · by_cases ej : j = i
            · subst ej
              rw [hq]; simp [hz]
            · exact h3 j (by omega)
          · unfold bX7_stuck_23
            dsimp only [li]
            rw [if_neg (show ¬ (60 : Int32) < nI i from nI_nlt (a := 60) (by omega) (by decide)), hg]
            dsimp only [bI]
            rw [if_neg hz, if_neg (by decide), e]
            dsimp only
            rw [show nI i + 1 = nI (i + 1) from nI_1 _]
    obtain ⟨mb, l7, fr7⟩ := L7
    have FR1 : FR m mb := (FR_sm a2 (by decide)).tr fr7
    obtain ⟨mc, ec, c1, c2, c3⟩ := cp8 (P := 140) (HO_fr (IV_HO hV) FR1 (by decide)) (by decide) (by decide)
    have ec' : fX8_copies (0 : Int32) (140 : Int32) mb = some (none, mc) := ec
    have L8 : ∃ md, lp (bX8_stuck_20 (nI p)) FU ((0 : Int32), mc) = some (some (.int ans), md) ∧ FR mc md := by
      refine lp_or0 (body := bX8_stuck_20 (nI p)) (fun i s => ∃ m', s = (nI i, m') ∧ HO m' 140 0 (dsS v i) ∧ FR mc m' ∧ ∀ j, j < i → q j = false) 61 (fun r => ∃ mb, r = some (some (.int ans), mb) ∧ FR mc mb) _ (by decide) ⟨mc, rfl, c1, FR.rf, fun j hj => absurd hj (Nat.not_lt_zero _)⟩ (fun s k => ?_) (fun i s hi => ?_)
      · rintro ⟨m', rfl, h1, h2, h3⟩
        unfold bX8_stuck_20
        dsimp only
        rw [if_pos (by decide), non h3]
        exact ⟨m', rfl, h2⟩
      · rintro ⟨m', rfl, h1, h2, h3⟩
        obtain ⟨g1, g2, g3⟩ := dsS_OK ho i (by omega)
        have hp' : p < dsS v i 1 := by rw [g3 1 (by decide) (by omega)]; exact hp
        obtain ⟨m1, hg, r1, -⟩ := fX8_hasClimb_eq h1 hp'
        have hg' : fX8_hasClimb (140 : Int32) (nI p) m' = _ := hg
        by_cases hz : phO (dsS v i) 0 p = 0
        · right
          intro k
          have := hit i hi (by rw [hq]; simp [hz]) h3
          unfold bX8_stuck_20
          dsimp only
          rw [if_neg (show ¬ (60 : Int32) < nI i from nI_nlt (a := 60) (by omega) (by decide)), hg']
          dsimp only [bI]
          rw [if_pos hz, if_pos rfl, this]
          exact ⟨m1, rfl, h2.tr (FR_sm r1 (by decide))⟩
        · left
          obtain ⟨m2, e, b1, b2, b3⟩ := fX8_daysOn_eq (n := 1) (HO_sm h1 r1 (by decide)) (by omega)
          have e' : fX8_daysOn (140 : Int32) (1 : Int32) m1 = _ := e
          refine ⟨(nI (i + 1), m2), ⟨m2, rfl, b1, (h2.tr (FR_sm r1 (by decide))).tr (FR_pg b2 (by decide) b3 (by decide)), fun j hj => ?_⟩, fun k => ?_⟩
          · by_cases ej : j = i
            · subst ej
              rw [hq]; simp [hz]
            · exact h3 j (by omega)
          · unfold bX8_stuck_20
            dsimp only [li]
            rw [if_neg (show ¬ (60 : Int32) < nI i from nI_nlt (a := 60) (by omega) (by decide)), hg']
            dsimp only [bI]
            rw [if_neg hz, if_neg (by decide), e']
            dsimp only
            rw [show nI i + 1 = nI (i + 1) from nI_1 _]
    obtain ⟨md, l8, fr8⟩ := L8
    refine ⟨ans, mb, md, ?_, ?_, ⟨v, IV_FR hV (FR1.tr ((FR_pg c2 (by decide) c3 (by decide)).tr fr8))⟩⟩
    · unfold fX7_stuck
      rw [e7 m c.1.2.1]
      dsimp only [bI]
      rw [if_neg (by decide), ea]
      dsimp only [bV]
      exact l7
    · unfold fX8_stuck
      rw [e8 mb (by rw [FR1.1 81 (by decide)]; exact d.1.2.1)]
      dsimp only [bI]
      rw [if_neg (by decide), ec']
      dsimp only [bV]
      exact l8
  · refine ⟨-1, m, m, ?_, ?_, ⟨v, hV⟩⟩
    · unfold fX7_stuck
      rw [e7 m c.1.2.1]
      rfl
    · unfold fX8_stuck
      rw [e8 m d.1.2.1]
      rfl
theorem uv_uv (u : Nat → Nat) (j x y : Nat) : uv (uv u j x) j y = uv u j y := by
  funext q
  unfold uv
  by_cases h : q = j
  · rw [if_pos h, if_pos h]
  · rw [if_neg h, if_neg h, if_neg h]
theorem ok_gap (u0 : Int32) : okI Inv (fX7_gap u0) (fX8_gap u0) := by
  rintro m ⟨v, hV⟩
  have ho := hV.1.2.2.1
  have hb := ho.1
  have c := IV_c hV
  have d := IV_m hV
  rcases lodger_cases hb.2.1 u0 with ⟨p, hp, rfl, e7, e8⟩ | ⟨e7, e8⟩
  · obtain ⟨ma, ea, a1, a2⟩ := cp7 hV.1.1 ho
    obtain ⟨q, hq⟩ : ∃ q : Nat → Bool, q = fun i => phO (uv v 2 i) 0 p != 0 := ⟨_, rfl⟩
    obtain ⟨ans, hans⟩ : ∃ ans : Int32, ans = if fdF q 4 0 = 4 then -4 else nI (fdF q 4 0) := ⟨_, rfl⟩
    have hit : ∀ i, i < 4 → q i = true → (∀ j, j < i → q j = false) → ans = nI i := fun i h1 h2 h3 => by
      have := fdF_hit 4 0 i (by omega) (by omega) h2 (fun j _ h => h3 j h)
      rw [hans, this, if_neg (by omega)]
    have non : (∀ j, j < 4 → q j = false) → ans = -4 := fun h3 => by
      have := fdF_none 4 0 (fun j _ h => h3 j (by omega))
      rw [hans, this, if_pos rfl]
    have hOK : ∀ i, i < 4 → OK (uv v 2 i) := fun i hi => OK_set ho (by unfold RB; omega)
    have L7 : ∃ mb, lp (bX7_gap_23 (nI p)) FU ((0 : Int32), ma) = some (some (.int ans), mb) ∧ FR ma mb := by
      refine lp_or0 (body := bX7_gap_23 (nI p)) (fun i s => ∃ m' x, s = (nI i, m') ∧ HC m' 8 (uv v 2 x) ∧ FR ma m' ∧ ∀ j, j < i → q j = false) 4 (fun r => ∃ mb, r = some (some (.int ans), mb) ∧ FR ma mb) _ (by decide) ⟨ma, v 2, rfl, by
        have : uv v 2 (v 2) = v := by funext z; rcases uv_or v 2 (v 2) z with ⟨e, -⟩ | ⟨e, f⟩ <;> rw [e]; rw [f]
        rw [this]; exact a1, FR.rf, fun j hj => absurd hj (Nat.not_lt_zero _)⟩ (fun s k => ?_) (fun i s hi => ?_)
      · rintro ⟨m', x, rfl, h1, h2, h3⟩
        unfold bX7_gap_23
        dsimp only
        rw [if_pos (by decide), non h3]
        exact ⟨m', rfl, h2⟩
      · rintro ⟨m', x, rfl, h1, h2, h3⟩
        have h1' : HC (si m' 8 2 (nI i)) 8 (uv v 2 i) := by
          have := HC_set (c := 0) (k := 2) (j := 2) (x := i) h1 (by rw [uv_n (by decide)]; exact hb.1) (by rw [uv_n (by decide)]; exact hb.2.1) (by unfold RC; omega)
          rw [uv_uv] at this
          exact this
        have f1 : FR m' (si m' 8 2 (nI i)) := FR_sm (C := [8]) (SM_si (by simp)) (by decide)
        have hg := gh7 h1' (hOK i hi) (by rw [uv_n (by decide)]; exact hp)
        by_cases hz : phO (uv v 2 i) 0 p = 0
        · left
          refine ⟨(nI (i + 1), si m' 8 2 (nI i)), ⟨_, i, rfl, h1', h2.tr f1, fun j hj => ?_⟩, fun k => ?_⟩
          · by_cases ej : j = i
            · subst ej
              rw [hq]; simp [hz]
            · exact h3 j (by omega)
          · unfold bX7_gap_23
            dsimp only [li, lt]
            rw [if_neg (show ¬ (3 : Int32) < nI i from nI_nlt (a := 3) (by omega) (by decide)), hg]
            dsimp only [bI]
            rw [if_pos hz, if_pos rfl, show nI i + 1 = nI (i + 1) from nI_1 _]
        · right
          intro k
          have := hit i hi (by rw [hq]; simp [hz]) h3
          unfold bX7_gap_23
          dsimp only [lt]
          rw [if_neg (show ¬ (3 : Int32) < nI i from nI_nlt (a := 3) (by omega) (by decide)), hg]
          dsimp only [bI]
          rw [if_neg hz, if_neg (by decide), this]
          exact ⟨_, rfl, h2.tr f1⟩
    obtain ⟨mb, l7, fr7⟩ := L7
    have FR1 : FR m mb := (FR_sm a2 (by decide)).tr fr7
    obtain ⟨mc, ec, c1, c2, c3⟩ := cp8 (P := 175) (HO_fr (IV_HO hV) FR1 (by decide)) (by decide) (by decide)
    have ec' : fX8_copies (0 : Int32) (175 : Int32) mb = some (none, mc) := ec
    have L8 : ∃ md, lp (bX8_gap_20 (nI p)) FU ((0 : Int32), mc) = some (some (.int ans), md) ∧ FR mc md := by
      refine lp_or0 (body := bX8_gap_20 (nI p)) (fun i s => ∃ m' x, s = (nI i, m') ∧ HM m' 175 (uv v 2 x) ∧ m'.1 81 5 = nI 0 ∧ FR mc m' ∧ ∀ j, j < i → q j = false) 4 (fun r => ∃ mb, r = some (some (.int ans), mb) ∧ FR mc mb) _ (by decide) ⟨mc, v 2, rfl, by
        have : uv v 2 (v 2) = v := by funext z; rcases uv_or v 2 (v 2) z with ⟨e, -⟩ | ⟨e, f⟩ <;> rw [e]; rw [f]
        rw [this]; exact c1.1, c1.2.2.2.1, FR.rf, fun j hj => absurd hj (Nat.not_lt_zero _)⟩ (fun s k => ?_) (fun i s hi => ?_)
      · rintro ⟨m', x, rfl, h1, h5, h2, h3⟩
        unfold bX8_gap_20
        dsimp only
        rw [if_pos (by decide), non h3]
        exact ⟨m', rfl, h2⟩
      · rintro ⟨m', x, rfl, h1, h5, h2, h3⟩
        have h1' : HM (si m' 82 207 (nI i - 1)) 175 (uv v 2 i) := by
          have := HM_gap (x := i) h1 (by rw [uv_n (by decide)]; exact hb.1) (by rw [uv_n (by decide)]; exact hb.2.1)
          rw [uv_uv] at this
          exact this
        have f1 : FR m' (si m' 82 207 (nI i - 1)) := FR_pg (C := [82]) (P := 175) (SM_si (by simp)) (by decide) (fun q hq => si_ne _ _ (Or.inr (by omega))) (by decide)
        have h5' : (si m' 82 207 (nI i - 1)).1 81 5 = nI 0 := by rw [si_c _ (by decide)]; exact h5
        obtain ⟨m2, hg, r1, -⟩ := fX8_hasClimb_eq (P := 175) (o := 0) (p := p) ⟨h1', hOK i hi, by decide, h5', by decide⟩ (by rw [uv_n (by decide)]; exact hp)
        have hg' : fX8_hasClimb (175 : Int32) (nI p) (si m' 82 207 (nI i - 1)) = _ := hg
        have f2 := f1.tr (FR_sm r1 (by decide))
        have e207 : ((207 : Int32)).toNatClampNeg = 207 := rfl
        have eg : ∀ r : mR, ga (207 : Int32) 210 r = r := fun r => ga_nI (i := 207) (by decide) (by decide)
        by_cases hz : phO (uv v 2 i) 0 p = 0
        · left
          refine ⟨(nI (i + 1), m2), ⟨_, i, rfl, HM_fr h1' (by rw [uv_n (by decide)]; exact hb.1) (by rw [uv_n (by decide)]; exact hb.2.1) (by rw [(r1 81 (by decide)).1]) (by rw [(r1 81 (by decide)).1]) (r1 83 (by decide)).1 (r1 84 (by decide)).1 (fun q _ _ => by rw [(r1 82 (by decide)).1]), by rw [(r1 81 (by decide)).1]; exact h5', h2.tr f2, fun j hj => ?_⟩, fun k => ?_⟩
          · by_cases ej : j = i
            · subst ej
              rw [hq]; simp [hz]
            · exact h3 j (by omega)
          · unfold bX8_gap_20
            dsimp only [li, lt]
            rw [if_neg (show ¬ (4 : Int32) ≤ nI i from nI_ge (b := 4) hi (by decide)), eg, e207, hg']
            dsimp only [bI]
            rw [if_pos hz, if_pos rfl, show nI i + 1 = nI (i + 1) from nI_1 _]
        · right
          intro k
          have := hit i hi (by rw [hq]; simp [hz]) h3
          unfold bX8_gap_20
          dsimp only [lt]
          rw [if_neg (show ¬ (4 : Int32) ≤ nI i from nI_ge (b := 4) hi (by decide)), eg, e207, hg']
          dsimp only [bI]
          rw [if_neg hz, if_neg (by decide), this]
          exact ⟨_, rfl, h2.tr f2⟩
    obtain ⟨md, l8, fr8⟩ := L8
    refine ⟨ans, mb, md, ?_, ?_, ⟨v, IV_FR hV (FR1.tr ((FR_pg c2 (by decide) c3 (by decide)).tr fr8))⟩⟩
    · unfold fX7_gap
      rw [e7 m c.1.2.1]
      dsimp only [bI]
      rw [if_neg (by decide), ea]
      dsimp only [bV]
      exact l7
    · unfold fX8_gap
      rw [e8 mb (by rw [FR1.1 81 (by decide)]; exact d.1.2.1)]
      dsimp only [bI]
      rw [if_neg (by decide), ec']
      dsimp only [bV]
      exact l8
  · refine ⟨-1, m, m, ?_, ?_, ⟨v, hV⟩⟩
    · unfold fX7_gap
      rw [e7 m c.1.2.1]
      rfl
    · unfold fX8_gap
      rw [e8 m d.1.2.1]
      rfl
