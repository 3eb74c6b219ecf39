/-! PURE FACTS: feed, end, see, forget, count -/
theorem by_eq : ∀ c, c < 128 → vp_nar .byte (nI c).toInt8.toInt32 = nI c := by decide +kernel
theorem ok_feed (u0 : Int32) : okI Inv (fX7_feed u0) (fX8_feed u0) := by
  rintro m ⟨v, hV⟩
  obtain ⟨t, ht, t1, t2, t3⟩ := hV.2.2.2.2.1
  rcases rng_cases u0 0 127 (a := 0) (b := 127) (A := 0) (B := 127) rfl rfl rfl rfl (by decide) (by decide) with ⟨n, -, hn, rfl, f7, f8⟩ | ⟨f7, f8⟩
  · by_cases hz : t < 160
    · refine ⟨nI (t + 1), si (si m 50 t (nI n)) 49 0 (nI (t + 1)), si (si (si (si m 50 t (nI n)) 49 0 (nI (t + 1))) 88 t (nI n)) 81 14 (nI (t + 1)), ?_, ?_, ⟨v, ⟨IH_fr hV.1 (fun c hc => ?_) ?_ ?_ ?_ ?_ ?_ ?_, II_fr hV.2.1 (fun c h1 h2 => ?_) ?_ ?_ ?_ ?_ ?_ ?_ ?_, IS_fr hV.2.2.1 ?_ ?_ ?_ ?_ ?_, IT_fr hV.2.2.2.1 (fun c h1 h2 => ?_) ?_ ?_ ?_, ⟨t + 1, by omega, ?_, ?_, fun i hi => ?_⟩, IK_fr hV.2.2.2.2.2 ?_ ?_ ?_ ?_ ?_ ?_⟩⟩⟩
      · unfold fX7_feed fX6_put
        rw [f7]
        dsimp only [bI, lt]
        rw [if_neg (by decide), t1, show (160 : Int32) = nI 160 from rfl, if_pos (nI_lt hz (by decide)), ga_nI hz (by decide), nI_tn (by omega), by_eq n (by omega), si_same, si_c m (b := 50) (c := 49) (by decide), t1, show nI t + 1 = nI (t + 1) from nI_1 _]
      · unfold fX8_feed
        have e14 : (si (si m 50 t (nI n)) 49 0 (nI (t + 1))).1 81 14 = nI t := by rw [si_c _ (by decide), si_c _ (by decide)]; exact t2
        rw [f8]
        dsimp only [bI, lt]
        rw [if_neg (by decide), e14, show (160 : Int32) = nI 160 from rfl, if_neg (by rw [nI_eq (by omega) (by decide)]; omega), ga_nI hz (by decide), nI_tn (by omega), si_same, si_c (si (si m 50 t (nI n)) 49 0 (nI (t + 1))) (b := 88) (by decide), e14, show nI t + 1 = nI (t + 1) from nI_1 _]
      · rw [si_c _ (by omega), si_c _ (by omega), si_c _ (by omega), si_c _ (by omega)]
      · rw [si_ne _ _ (Or.inr (by decide)), si_c _ (by decide), si_c _ (by decide), si_c _ (by decide)]
      · rw [si_ne _ _ (Or.inr (by decide)), si_c _ (by decide), si_c _ (by decide), si_c _ (by decide)]
      · rw [si_ne _ _ (Or.inr (by decide)), si_c _ (by decide), si_c _ (by decide), si_c _ (by decide)]
      · rw [si_c _ (by decide), si_c _ (by decide), si_c _ (by decide), si_c _ (by decide)]
      · rw [si_c _ (by decide), si_c _ (by decide), si_c _ (by decide), si_c _ (by decide)]
      · intro q _
        rw [si_c _ (by decide), si_c _ (by decide), si_c _ (by decide), si_c _ (by decide)]
      · rw [si_c _ (by omega), si_c _ (by omega), si_c _ (by omega), si_c _ (by omega)]
      · rw [si_ne _ _ (Or.inr (by decide)), si_c _ (by decide), si_c _ (by decide), si_c _ (by decide)]
      · rw [si_ne _ _ (Or.inr (by decide)), si_c _ (by decide), si_c _ (by decide), si_c _ (by decide)]
      · rw [si_c _ (by decide), si_c _ (by decide), si_c _ (by decide), si_c _ (by decide)]
      · rw [si_c _ (by decide), si_c _ (by decide), si_c _ (by decide), si_c _ (by decide)]
      · intro q _ _
        rw [si_c _ (by decide), si_c _ (by decide), si_c _ (by decide), si_c _ (by decide)]
      · rw [si_c _ (by decide), si_c _ (by decide), si_c _ (by decide), si_c _ (by decide)]
      · rw [si_c _ (by decide), si_c _ (by decide), si_c _ (by decide), si_c _ (by decide)]
      · rw [si_c _ (by decide), si_c _ (by decide), si_c _ (by decide), si_c _ (by decide)]
      · rw [si_ne _ _ (Or.inr (by decide)), si_c _ (by decide), si_c _ (by decide), si_c _ (by decide)]
      · rw [si_c _ (by decide), si_c _ (by decide), si_c _ (by decide), si_c _ (by decide)]
      · rw [si_c _ (by decide), si_c _ (by decide), si_c _ (by decide), si_c _ (by decide)]
      · rw [si_c _ (by decide), si_c _ (by decide), si_c _ (by decide), si_c _ (by decide)]
      · rw [si_c _ (by omega), si_c _ (by omega), si_c _ (by omega), si_c _ (by omega)]
      · rw [si_c _ (by decide), si_c _ (by decide), si_c _ (by decide), si_c _ (by decide)]
      · rw [si_c _ (by decide), si_c _ (by decide), si_c _ (by decide), si_c _ (by decide)]
      · rw [si_c _ (by decide), si_c _ (by decide), si_c _ (by decide), si_c _ (by decide)]
      · rw [si_c _ (by decide), si_c _ (by decide), si_same]
      · rw [si_same]
      · by_cases e : i = t
        · subst e
          exact ⟨n, by omega, by rw [si_c _ (by decide), si_c _ (by decide), si_c _ (by decide), si_same], by rw [si_c _ (by decide), si_same]⟩
        · obtain ⟨c, c1, c2, c3⟩ := t3 i (by omega)
          exact ⟨c, c1, by rw [si_c _ (by decide), si_c _ (by decide), si_c _ (by decide), si_ne _ _ (Or.inr e)]; exact c2, by rw [si_c _ (by decide), si_ne _ _ (Or.inr e), si_c _ (by decide), si_c _ (by decide)]; exact c3⟩
      · rw [si_c _ (by decide), si_c _ (by decide), si_ne _ _ (Or.inr (by decide)), si_c _ (by decide)]
      · rw [si_ne _ _ (Or.inr (by decide)), si_c _ (by decide), si_c _ (by decide), si_c _ (by decide)]
      · rw [si_c _ (by decide), si_c _ (by decide), si_c _ (by decide), si_c _ (by decide)]
      · rw [si_ne _ _ (Or.inr (by decide)), si_c _ (by decide), si_c _ (by decide), si_c _ (by decide)]
      · rw [si_c _ (by decide), si_c _ (by decide), si_c _ (by decide), si_c _ (by decide)]
      · rw [si_c _ (by decide), si_c _ (by decide), si_c _ (by decide), si_c _ (by decide)]
    · have e160 : t = 160 := by omega
      subst e160
      refine ⟨-3, m, m, ?_, ?_, ⟨v, hV⟩⟩
      · unfold fX7_feed fX6_put
        rw [f7]
        dsimp only [bI]
        rw [if_neg (by decide), t1, if_neg (by decide)]
      · unfold fX8_feed
        rw [f8]
        dsimp only [bI]
        rw [if_neg (by decide), t2, if_pos (by decide)]
  · refine ⟨-1, m, m, ?_, ?_, ⟨v, hV⟩⟩
    · unfold fX7_feed
      rw [f7]
      rfl
    · unfold fX8_feed
      rw [f8]
      rfl
/-- a range up to a number that the memory holds -/
theorem rngV_cases (x : Int32) (n : Nat) (hn : n < 2 ^ 31) : (∃ k, k ≤ n ∧ x = nI k ∧ (∀ m, fX7_within x 0 (nI n) m = some (some (.int 1), m)) ∧ ∀ m, fX8_in x.toInt64 (0 : Int64) (nI n).toInt64 m = some (some (.int 1), m)) ∨ ((∀ m, fX7_within x 0 (nI n) m = some (some (.int 0), m)) ∧ ∀ m, fX8_in x.toInt64 (0 : Int64) (nI n).toInt64 m = some (some (.int 0), m)) := by
  rcases rng_cases x 0 n (a := 0) (b := nI n) (A := 0) (B := (nI n).toInt64) rfl rfl rfl rfl (by decide) hn with ⟨k, -, h, e, f7, f8⟩ | h
  · exact Or.inl ⟨k, h, e, f7, f8⟩
  · exact Or.inr h
theorem ok_end (u0 : Int32) : okI Inv (fX7_end u0) (fX8_end u0) := by
  rintro m ⟨v, hV⟩
  obtain ⟨t, ht, t1, t2, t3⟩ := hV.2.2.2.2.1
  rcases rngV_cases u0 t (by omega) with ⟨n, hn, rfl, f7, f8⟩ | ⟨f7, f8⟩
  · refine ⟨nI t, si m 49 0 (nI n), si (si m 49 0 (nI n)) 81 14 (nI n), ?_, ?_, ⟨v, ⟨IH_fr hV.1 (fun c hc => ?_) ?_ ?_ ?_ ?_ ?_ ?_, II_fr hV.2.1 (fun c h1 h2 => ?_) ?_ ?_ ?_ ?_ ?_ ?_ ?_, IS_fr hV.2.2.1 ?_ ?_ ?_ ?_ ?_, IT_fr hV.2.2.2.1 (fun c h1 h2 => ?_) ?_ ?_ ?_, ⟨n, by omega, ?_, ?_, fun i hi => ?_⟩, IK_fr hV.2.2.2.2.2 ?_ ?_ ?_ ?_ ?_ ?_⟩⟩⟩
    · unfold fX7_end
      rw [t1, f7]
      dsimp only [bI, li, lt]
      rw [if_neg (by decide), t1]
    · unfold fX8_end
      have e14 : (si m 49 0 (nI n)).1 81 14 = nI t := by rw [si_c _ (by decide)]; exact t2
      rw [e14, f8]
      dsimp only [bI, li, lt]
      rw [if_neg (by decide), e14]
    · rw [si_c _ (by omega), si_c _ (by omega)]
    · rw [si_ne _ _ (Or.inr (by decide)), si_c _ (by decide)]
    · rw [si_ne _ _ (Or.inr (by decide)), si_c _ (by decide)]
    · rw [si_ne _ _ (Or.inr (by decide)), si_c _ (by decide)]
    · rw [si_c _ (by decide), si_c _ (by decide)]
    · rw [si_c _ (by decide), si_c _ (by decide)]
    · intro q _
      rw [si_c _ (by decide), si_c _ (by decide)]
    · rw [si_c _ (by omega), si_c _ (by omega)]
    · rw [si_ne _ _ (Or.inr (by decide)), si_c _ (by decide)]
    · rw [si_ne _ _ (Or.inr (by decide)), si_c _ (by decide)]
    · rw [si_c _ (by decide), si_c _ (by decide)]
    · rw [si_c _ (by decide), si_c _ (by decide)]
    · intro q _ _
      rw [si_c _ (by decide), si_c _ (by decide)]
    · rw [si_c _ (by decide), si_c _ (by decide)]
    · rw [si_c _ (by decide), si_c _ (by decide)]
    · rw [si_c _ (by decide), si_c _ (by decide)]
    · rw [si_ne _ _ (Or.inr (by decide)), si_c _ (by decide)]
    · rw [si_c _ (by decide), si_c _ (by decide)]
    · rw [si_c _ (by decide), si_c _ (by decide)]
    · rw [si_c _ (by decide), si_c _ (by decide)]
    · rw [si_c _ (by omega), si_c _ (by omega)]
    · rw [si_c _ (by decide), si_c _ (by decide)]
    · rw [si_c _ (by decide), si_c _ (by decide)]
    · rw [si_c _ (by decide), si_c _ (by decide)]
    · rw [si_c _ (by decide), si_same]
    · rw [si_same]
    · obtain ⟨c, c1, c2, c3⟩ := t3 i (by omega)
      exact ⟨c, c1, by rw [si_c _ (by decide), si_c _ (by decide)]; exact c2, by rw [si_c _ (by decide), si_c _ (by decide)]; exact c3⟩
    · rw [si_c _ (by decide), si_ne _ _ (Or.inr (by decide))]
    · rw [si_ne _ _ (Or.inr (by decide)), si_c _ (by decide)]
    · rw [si_c _ (by decide), si_c _ (by decide)]
    · rw [si_ne _ _ (Or.inr (by decide)), si_c _ (by decide)]
    · rw [si_c _ (by decide), si_c _ (by decide)]
    · rw [si_c _ (by decide), si_c _ (by decide)]
  · refine ⟨-1, m, m, ?_, ?_, ⟨v, hV⟩⟩
    · unfold fX7_end
      rw [t1, f7]
      rfl
    · unfold fX8_end
      rw [t2, f8]
      rfl
theorem IV_seen {m m' : mMem} {v : Nat → Nat} (h : IV m v) (e : ∀ c, c ∉ [65, 67, 68, 95, 81] → m'.1 c = m.1 c) (e81 : ∀ q, q ≠ 29 → m'.1 81 q = m.1 81 q) (hs : IS m' (v 0)) : IV m' v := by
  obtain ⟨h1, h2, h3, h4, h5, h6⟩ := h
  refine ⟨IH_fr h1 (fun c hc => e c (by simp; omega)) (e81 _ (by decide)) (e81 _ (by decide)) (e81 _ (by decide)) (e _ (by decide)) (e _ (by decide)) (fun q hq => by rw [e 82 (by decide)]), II_fr h2 (fun c hc hd => e c (by simp; omega)) (e81 _ (by decide)) (e81 _ (by decide)) (e _ (by decide)) (e _ (by decide)) (fun q _ hq => by rw [e 82 (by decide)]) (e 53 (by decide)) (e 96 (by decide)), hs, IT_fr h4 (fun c hc hd => e c (by simp; omega)) (e 97 (by decide)) (e 98 (by decide)) (e 99 (by decide)), IP_fr h5 (by rw [e 49 (by decide)]) (e81 _ (by decide)) (e 50 (by decide)) (e 88 (by decide)), IK_fr h6 (by rw [e 49 (by decide)]) (e81 _ (by decide)) (by rw [e 48 (by decide)]) (e81 _ (by decide)) (e 89 (by decide)) (e 90 (by decide))⟩
theorem IV_sheet {m m' : mMem} {v : Nat → Nat} (h : IV m v) (e : ∀ c, c ∉ [40, 41, 42, 43, 44, 45, 46, 47, 97, 98, 99] → m'.1 c = m.1 c) (hs : IT m') : IV m' v := by
  obtain ⟨h1, h2, h3, h4, h5, h6⟩ := h
  have e81 := e 81 (by decide)
  refine ⟨IH_fr h1 (fun c hc => e c (by simp; omega)) (by rw [e81]) (by rw [e81]) (by rw [e81]) (e _ (by decide)) (e _ (by decide)) (fun q hq => by rw [e 82 (by decide)]), II_fr h2 (fun c hc hd => e c (by simp; omega)) (by rw [e81]) (by rw [e81]) (e _ (by decide)) (e _ (by decide)) (fun q _ hq => by rw [e 82 (by decide)]) (e 53 (by decide)) (e 96 (by decide)), IS_fr h3 (by rw [e 65 (by decide)]) (by rw [e81]) (e _ (by decide)) (e _ (by decide)) (e _ (by decide)), hs, IP_fr h5 (by rw [e 49 (by decide)]) (by rw [e81]) (e 50 (by decide)) (e 88 (by decide)), IK_fr h6 (by rw [e 49 (by decide)]) (by rw [e81]) (by rw [e 48 (by decide)]) (by rw [e81]) (e 89 (by decide)) (e 90 (by decide))⟩
theorem IV_img {m m' : mMem} {v : Nat → Nat} (h : IV m v) (e : ∀ c, c ∉ [16, 17, 18, 19, 20, 21, 22, 23, 24, 25, 26, 27, 28, 29, 30, 31, 53, 96, 82] → m'.1 c = m.1 c) (e82 : ∀ q, q < 35 → m'.1 82 q = m.1 82 q) (hs : II m') : IV m' v := by
  obtain ⟨h1, h2, h3, h4, h5, h6⟩ := h
  have e81 := e 81 (by decide)
  refine ⟨IH_fr h1 (fun c hc => e c (by simp; omega)) (by rw [e81]) (by rw [e81]) (by rw [e81]) (e _ (by decide)) (e _ (by decide)) e82, hs, IS_fr h3 (by rw [e 65 (by decide)]) (by rw [e81]) (e _ (by decide)) (e _ (by decide)) (e _ (by decide)), IT_fr h4 (fun c hc hd => e c (by simp; omega)) (e 97 (by decide)) (e 98 (by decide)) (e 99 (by decide)), IP_fr h5 (by rw [e 49 (by decide)]) (by rw [e81]) (e 50 (by decide)) (e 88 (by decide)), IK_fr h6 (by rw [e 49 (by decide)]) (by rw [e81]) (by rw [e 48 (by decide)]) (by rw [e81]) (e 89 (by decide)) (e 90 (by decide))⟩
theorem ok_forget (u0 : Int32) : okI Inv (fX7_forget u0) (fX8_forget u0) := by
  rintro m ⟨v, hV⟩
  obtain ⟨t, ht, t1, t2, t3⟩ := hV.2.2.1
  rcases rngV_cases u0 t (by omega) with ⟨n, hn, rfl, f7, f8⟩ | ⟨f7, f8⟩
  · refine ⟨nI t, si m 65 0 (nI n), si (si m 65 0 (nI n)) 81 29 (nI n), ?_, ?_, ⟨v, IV_seen hV (fun c hc => ?_) (fun q hq => ?_) ⟨n, by omega, ?_, ?_, fun k hk => ?_⟩⟩⟩
    · unfold fX7_forget
      rw [t1, f7]
      dsimp only [bI, li, lt]
      rw [if_neg (by decide), t1]
    · unfold fX8_forget
      have e14 : (si m 65 0 (nI n)).1 81 29 = nI t := by rw [si_c _ (by decide)]; exact t2
      rw [e14, f8]
      dsimp only [bI, li, lt]
      rw [if_neg (by decide), e14]
    · simp at hc
      rw [si_c _ (by omega), si_c _ (by omega)]
    · rw [si_ne _ _ (Or.inr hq), si_c _ (by decide)]
    · rw [si_c _ (by decide), si_same]
    · rw [si_same]
    · rw [si_c _ (by decide), si_c _ (by decide), si_c _ (by decide), si_c _ (by decide), si_c _ (by decide), si_c _ (by decide)]
      exact t3 k (by omega)
  · refine ⟨-1, m, m, ?_, ?_, ⟨v, hV⟩⟩
    · unfold fX7_forget
      rw [t1, f7]
      rfl
    · unfold fX8_forget
      rw [t2, f8]
      rfl
theorem ok_see (u0 u1 : Int32) : okI Inv (fX7_see u0 u1) (fX8_see u0 u1) := by
  rintro m ⟨v, hV⟩
  have hb := hV.1.2.2.1.1
  have c := IV_c hV
  have d := IV_m hV
  obtain ⟨t, ht, t1, t2, t3⟩ := hV.2.2.1
  rcases step_cases hb.1 u0 with ⟨i, hi, rfl, e7, e8⟩ | ⟨e7, e8⟩
  · rcases rng_cases u1 0 40 (a := 0) (b := 40) (A := 0) (B := 40) rfl rfl rfl rfl (by decide) (by decide) with ⟨n, -, hn, rfl, f7, f8⟩ | ⟨f7, f8⟩
    · by_cases hz : t < 6
      · obtain ⟨M1, hM1⟩ : ∃ M1, M1 = si (si (si m 67 t (nI i)) 68 t (nI n)) 65 0 (nI (t + 1)) := ⟨_, rfl⟩
        have q81 : M1.1 81 = m.1 81 := by rw [hM1, si_c _ (by decide), si_c _ (by decide), si_c _ (by decide)]
        refine ⟨nI (t + 1), M1, si (si (si M1 95 (2 * t) (nI i)) 95 (2 * t + 1) (nI n)) 81 29 (nI (t + 1)), ?_, ?_, ⟨v, IV_seen hV (fun z hz => ?_) (fun q hq => ?_) ⟨t + 1, by omega, ?_, ?_, fun k hk => ?_⟩⟩⟩
        · unfold fX7_see fX2_note
          rw [e7 m c.1.1]
          dsimp only [bI, lt]
          rw [if_neg (by decide), f7]
          dsimp only
          rw [if_neg (by decide), t1, show (6 : Int32) = nI 6 from rfl, if_pos (nI_lt hz (by decide)), ga_nI hz (by decide), nI_tn (by omega), si_same, si_c m (b := 67) (c := 65) (by decide), si_c (si m 67 t (nI i)) (b := 68) (c := 65) (by decide), si_c m (b := 67) (c := 65) (by decide), t1, ga_nI hz (by decide), nI_tn (by omega), show nI t + 1 = nI (t + 1) from nI_1 _, hM1]
        · have g29 : M1.1 81 29 = nI t := by rw [q81]; exact t2
          unfold fX8_see
          rw [e8 M1 (by rw [q81]; exact d.1.1)]
          dsimp only [bI, lt]
          rw [if_neg (by decide), f8]
          dsimp only
          rw [if_neg (by decide), g29, show (6 : Int32) = nI 6 from rfl, if_neg (by rw [nI_eq (by omega) (by decide)]; omega), i2, ga_nI (by omega) (by decide), nI_tn (by omega), si_same, si_c M1 (b := 95) (c := 81) (by decide), si_c (si M1 95 (2 * t) (nI i)) (b := 95) (c := 81) (by decide), si_c M1 (b := 95) (c := 81) (by decide), g29, i21, ga_nI (by omega) (by decide), nI_tn (by omega), show nI t + 1 = nI (t + 1) from nI_1 _]
        · simp at hz
          rw [si_c _ (by omega), si_c _ (by omega), si_c _ (by omega), hM1, si_c _ (by omega), si_c _ (by omega), si_c _ (by omega)]
        · rw [si_ne _ _ (Or.inr hq), si_c _ (by decide), si_c _ (by decide), q81]
        · rw [si_c _ (by decide), si_c _ (by decide), si_c _ (by decide), hM1, si_same]
        · rw [si_same]
        · rw [si_c _ (by decide), si_c _ (by decide), si_c _ (by decide), si_c _ (by decide), si_c _ (by decide), si_c _ (by decide), si_c _ (by decide), hM1]
          by_cases e : k = t
          · subst e
            exact ⟨i, n, hi, hn, by rw [si_c _ (by decide), si_c _ (by decide), si_same], by rw [si_c _ (by decide), si_same], by rw [si_ne _ _ (Or.inr (by omega)), si_same], by rw [si_same]⟩
          · obtain ⟨a, b, q1, q2, q3, q4, q5, q6⟩ := t3 k (by omega)
            exact ⟨a, b, q1, q2, by rw [si_c _ (by decide), si_c _ (by decide), si_ne _ _ (Or.inr e)]; exact q3, by rw [si_c _ (by decide), si_ne _ _ (Or.inr e), si_c _ (by decide)]; exact q4, by rw [si_ne _ _ (Or.inr (by omega)), si_ne _ _ (Or.inr (by omega)), si_c _ (by decide), si_c _ (by decide), si_c _ (by decide)]; exact q5, by rw [si_ne _ _ (Or.inr (by omega)), si_ne _ _ (Or.inr (by omega)), si_c _ (by decide), si_c _ (by decide), si_c _ (by decide)]; exact q6⟩
      · have e6 : t = 6 := by omega
        subst e6
        refine ⟨-3, m, m, ?_, ?_, ⟨v, hV⟩⟩
        · unfold fX7_see fX2_note
          rw [e7 m c.1.1]
          dsimp only [bI]
          rw [if_neg (by decide), f7]
          dsimp only
          rw [if_neg (by decide), t1, if_neg (by decide)]
        · unfold fX8_see
          rw [e8 m d.1.1]
          dsimp only [bI]
          rw [if_neg (by decide), f8]
          dsimp only
          rw [if_neg (by decide), t2, if_pos (by decide)]
    · refine ⟨-1, m, m, ?_, ?_, ⟨v, hV⟩⟩
      · unfold fX7_see
        rw [e7 m c.1.1]
        dsimp only [bI]
        rw [f7]
        rfl
      · unfold fX8_see
        rw [e8 m d.1.1]
        dsimp only [bI]
        rw [f8]
        rfl
  · refine ⟨-1, m, m, ?_, ?_, ⟨v, hV⟩⟩
    · unfold fX7_see
      rw [e7 m c.1.1]
      rfl
    · unfold fX8_see
      rw [e8 m d.1.1]
      rfl
