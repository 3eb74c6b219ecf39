/-! PURE FACTS: wear, rank, load, move, mend, law, and the plain questions -/
theorem ok_wear (u0 u1 : Int32) : okI Inv (fX7_wear u0 u1) (fX8_wear u0 u1) := by
  rintro m ⟨v, hV⟩
  have hb := hV.1.2.2.1.1
  have c := IV_c hV
  have d := IV_m hV
  rcases step_cases hb.1 u0 with ⟨i, hi, rfl, e7, e8⟩ | ⟨e7, e8⟩
  · rcases rng_cases u1 0 99 (a := 0) (b := 99) (A := 0) (B := 99) rfl rfl rfl rfl (by decide) (by decide) with ⟨n, -, hn, rfl, f7, f8⟩ | ⟨f7, f8⟩
    · refine ⟨nI (v (30 + i)), si m 3 i (nI n), _, ?_, ?_, ⟨_, IV_set (c := 3) (k := i) (q := 2 * i + 1) (j := 30 + i) (x := n) hV (by unfold RC; omega) (by unfold RM; omega) (by unfold RB; omega) (by omega)⟩⟩
      · unfold fX7_wear
        rw [e7 m c.1.1]
        dsimp only [bI]
        rw [f7, if_neg (by decide)]
        dsimp only
        rw [if_neg (by decide), set7 _ (by omega) (by decide), (c.2.1 i hi).2.2]
      · unfold fX8_wear jX8_wear_26
        rw [e8 _ (by rw [si_c _ (by decide)]; exact d.1.1)]
        dsimp only [bI]
        rw [f8, if_neg (by decide)]
        dsimp only
        rw [if_neg (by decide), i21, set8 _ (by omega), si_c _ (by decide), (d.2.1 i hi).2.2]
    · refine ⟨-1, m, m, ?_, ?_, ⟨v, hV⟩⟩
      · unfold fX7_wear
        rw [e7 m c.1.1]
        dsimp only [bI]
        rw [f7]
        rfl
      · unfold fX8_wear
        rw [e8 m d.1.1]
        dsimp only [bI]
        rw [f8]
        rfl
  · refine ⟨-1, m, m, ?_, ?_, ⟨v, hV⟩⟩
    · unfold fX7_wear
      rw [e7 m c.1.1]
      rfl
    · unfold fX8_wear
      rw [e8 m d.1.1]
      rfl
theorem ok_rank (u0 u1 : Int32) : okI Inv (fX7_rank u0 u1) (fX8_rank u0 u1) := by
  rintro m ⟨v, hV⟩
  have hb := hV.1.2.2.1.1
  have c := IV_c hV
  have d := IV_m hV
  rcases lodger_cases hb.2.1 u0 with ⟨i, hi, rfl, e7, e8⟩ | ⟨e7, e8⟩
  · rcases rng_cases u1 0 3 (a := 0) (b := 3) (A := 0) (B := 3) rfl rfl rfl rfl (by decide) (by decide) with ⟨n, -, hn, rfl, f7, f8⟩ | ⟨f7, f8⟩
    · refine ⟨nI (v (44 + i)), si m 5 i (nI n), _, ?_, ?_, ⟨_, IV_set (c := 5) (k := i) (q := 20 + 3 * i) (j := 44 + i) (x := n) hV (by unfold RC; omega) (by unfold RM; omega) (by unfold RB; omega) (by omega)⟩⟩
      · unfold fX7_rank
        rw [e7 m c.1.2.1]
        dsimp only [bI]
        rw [f7, if_neg (by decide)]
        dsimp only
        rw [if_neg (by decide), set7 _ (by omega) (by decide), (c.2.2 i hi).2.1]
      · unfold fX8_rank jX8_rank_26
        rw [e8 _ (by rw [si_c _ (by decide)]; exact d.1.2.1)]
        dsimp only [bI]
        rw [f8, if_neg (by decide)]
        dsimp only
        rw [if_neg (by decide), i3, set8 _ (by omega), si_c _ (by decide), (d.2.2 i hi).2.1]
    · refine ⟨-1, m, m, ?_, ?_, ⟨v, hV⟩⟩
      · unfold fX7_rank
        rw [e7 m c.1.2.1]
        dsimp only [bI]
        rw [f7]
        rfl
      · unfold fX8_rank
        rw [e8 m d.1.2.1]
        dsimp only [bI]
        rw [f8]
        rfl
  · refine ⟨-1, m, m, ?_, ?_, ⟨v, hV⟩⟩
    · unfold fX7_rank
      rw [e7 m c.1.2.1]
      rfl
    · unfold fX8_rank
      rw [e8 m d.1.2.1]
      rfl
theorem ok_load (u0 u1 : Int32) : okI Inv (fX7_load u0 u1) (fX8_load u0 u1) := by
  rintro m ⟨v, hV⟩
  have hb := hV.1.2.2.1.1
  have c := IV_c hV
  have d := IV_m hV
  rcases lodger_cases hb.2.1 u0 with ⟨i, hi, rfl, e7, e8⟩ | ⟨e7, e8⟩
  · rcases rng_cases u1 0 9 (a := 0) (b := 9) (A := 0) (B := 9) rfl rfl rfl rfl (by decide) (by decide) with ⟨n, -, hn, rfl, f7, f8⟩ | ⟨f7, f8⟩
    · refine ⟨nI (v (48 + i)), si m 6 i (nI n), _, ?_, ?_, ⟨_, IV_set (c := 6) (k := i) (q := 20 + 3 * i + 1) (j := 48 + i) (x := n) hV (by unfold RC; omega) (by unfold RM; omega) (by unfold RB; omega) (by omega)⟩⟩
      · unfold fX7_load
        rw [e7 m c.1.2.1]
        dsimp only [bI]
        rw [f7, if_neg (by decide)]
        dsimp only
        rw [if_neg (by decide), set7 _ (by omega) (by decide), (c.2.2 i hi).2.2.1]
      · unfold fX8_load jX8_load_26
        rw [e8 _ (by rw [si_c _ (by decide)]; exact d.1.2.1)]
        dsimp only [bI]
        rw [f8, if_neg (by decide)]
        dsimp only
        rw [if_neg (by decide), i31, set8 _ (by omega), si_c _ (by decide), (d.2.2 i hi).2.2.1]
    · refine ⟨-1, m, m, ?_, ?_, ⟨v, hV⟩⟩
      · unfold fX7_load
        rw [e7 m c.1.2.1]
        dsimp only [bI]
        rw [f7]
        rfl
      · unfold fX8_load
        rw [e8 m d.1.2.1]
        dsimp only [bI]
        rw [f8]
        rfl
  · refine ⟨-1, m, m, ?_, ?_, ⟨v, hV⟩⟩
    · unfold fX7_load
      rw [e7 m c.1.2.1]
      rfl
    · unfold fX8_load
      rw [e8 m d.1.2.1]
      rfl
theorem ok_move (u0 u1 : Int32) : okI Inv (fX7_move u0 u1) (fX8_move u0 u1) := by
  rintro m ⟨v, hV⟩
  have hb := hV.1.2.2.1.1
  have c := IV_c hV
  have d := IV_m hV
  rcases lodger_cases hb.2.1 u0 with ⟨i, hi, rfl, e7, e8⟩ | ⟨e7, e8⟩
  · rcases step_cases hb.1 u1 with ⟨n, hn, rfl, f7, f8⟩ | ⟨f7, f8⟩
    · refine ⟨nI (v (52 + i)), si m 7 i (nI n), _, ?_, ?_, ⟨_, IV_set (c := 7) (k := i) (q := 20 + 3 * i + 2) (j := 52 + i) (x := n) hV (by unfold RC; omega) (by unfold RM; omega) (by unfold RB; omega) (by omega)⟩⟩
      · unfold fX7_move
        rw [e7 m c.1.2.1]
        dsimp only [bI]
        rw [f7 m c.1.1, if_neg (by decide)]
        dsimp only
        rw [if_neg (by decide), set7 _ (by omega) (by decide), (c.2.2 i hi).2.2.2]
      · unfold fX8_move jX8_move_22
        rw [e8 _ (by rw [si_c _ (by decide)]; exact d.1.2.1)]
        dsimp only [bI]
        rw [f8 _ (by rw [si_c _ (by decide)]; exact d.1.1), if_neg (by decide)]
        dsimp only
        rw [if_neg (by decide), i32, set8 _ (by omega), si_c _ (by decide), (d.2.2 i hi).2.2.2]
    · refine ⟨-1, m, m, ?_, ?_, ⟨v, hV⟩⟩
      · unfold fX7_move
        rw [e7 m c.1.2.1]
        dsimp only [bI]
        rw [f7 m c.1.1]
        rfl
      · unfold fX8_move
        rw [e8 m d.1.2.1]
        dsimp only [bI]
        rw [f8 m d.1.1]
        rfl
  · refine ⟨-1, m, m, ?_, ?_, ⟨v, hV⟩⟩
    · unfold fX7_move
      rw [e7 m c.1.2.1]
      rfl
    · unfold fX8_move
      rw [e8 m d.1.2.1]
      rfl
theorem ok_mend (u0 : Int32) : okI Inv (fX7_mend u0) (fX8_mend u0) := by
  rintro m ⟨v, hV⟩
  have hb := hV.1.2.2.1.1
  have c := IV_c hV
  have d := IV_m hV
  rcases step_cases hb.1 u0 with ⟨i, hi, rfl, e7, e8⟩ | ⟨e7, e8⟩
  · have h1 := IV_set (c := 2) (k := i) (q := 2 * i) (j := 20 + i) (x := 0) hV (by unfold RC; omega) (by unfold RM; omega) (by unfold RB; omega) (by omega)
    have h2 := IV_set (c := 3) (k := i) (q := 2 * i + 1) (j := 30 + i) (x := 0) h1 (by unfold RC; omega) (by unfold RM; omega) (by unfold RB; omega) (by omega)
    have hsw : si (si (si (si m 2 i (nI 0)) 3 i (nI 0)) 82 (2 * i) (nI 0)) 82 (2 * i + 1) (nI 0) = si (si (si (si m 2 i (nI 0)) 82 (2 * i) (nI 0)) 3 i (nI 0)) 82 (2 * i + 1) (nI 0) := by
      have : si (si (si m 2 i (nI 0)) 3 i (nI 0)) 82 (2 * i) (nI 0) = si (si (si m 2 i (nI 0)) 82 (2 * i) (nI 0)) 3 i (nI 0) := by
        apply Prod.ext
        · funext z j
          simp only [si_1]
          repeat' split
          all_goals first | rfl | (exfalso; omega)
        · rfl
      rw [this]
    refine ⟨nI (v (30 + i)), si (si m 2 i (nI 0)) 3 i (nI 0), si (si (si (si m 2 i (nI 0)) 3 i (nI 0)) 82 (2 * i) (nI 0)) 82 (2 * i + 1) (nI 0), ?_, ?_, ⟨_, by rw [hsw]; exact h2⟩⟩
    · unfold fX7_mend fX4_renew
      rw [e7 m c.1.1]
      dsimp only [bI, li, lt]
      rw [if_neg (by decide), ga_nI (by omega) (by decide), ga_nI (by omega) (by decide), ga_nI (by omega) (by decide), nI_tn (by omega), (c.2.1 i hi).2.2]
      rfl
    · unfold fX8_mend
      rw [e8 _ (by rw [si_c _ (by decide), si_c _ (by decide)]; exact d.1.1)]
      dsimp only [bI, lt]
      rw [if_neg (by decide), i2, show nI (2 * i) + (1 : Int32) = nI (2 * i + 1) from nI_1 _, ga_nI (by omega) (by decide), set8 _ (by omega), nI_tn (by omega)]
      dsimp only
      rw [si_ne _ _ (Or.inr (by omega)), si_c _ (by decide), si_c _ (by decide), (d.2.1 i hi).2.2]
      rfl
  · refine ⟨-1, m, m, ?_, ?_, ⟨v, hV⟩⟩
    · unfold fX7_mend
      rw [e7 m c.1.1]
      rfl
    · unfold fX8_mend
      rw [e8 m d.1.1]
      rfl
theorem gap_r : ∀ g, g ≤ 3 → (1 : Int32) + (nI g - 1) = nI g := by decide +kernel
theorem hold_r : ∀ g, g ≤ 100 → (30 : Int32) + (nI g - 30) = nI g := by decide +kernel
theorem IV_gap {m : mMem} {v : Nat → Nat} {x : Nat} (h : IV m v) (hx : x ≤ 3) : IV (si (si m 0 2 (nI x)) 82 32 (nI x - 1)) (uv v 2 x) := by
  have ho := h.1.2.2.1
  have hb := ho.1
  have a1 : HC (si m 0 2 (nI x)) 0 (uv v 2 x) := HC_set (c := 0) (x := x) h.1.1 hb.1 hb.2.1 (by unfold RC; omega)
  have a2 : HM (si m 0 2 (nI x)) 0 v := HM_fr h.1.2.1 hb.1 hb.2.1 (by rw [si_c _ (by decide)]) (by rw [si_c _ (by decide)]) (by rw [si_c _ (by decide)]) (by rw [si_c _ (by decide)]) (fun q _ _ => by rw [si_c _ (by decide)])
  refine IV_FH h ((FH_c (by decide)).tr (FH_m (by decide))) ⟨HC_fr a1 (fun z _ hz => si_c _ (by omega)), HM_gap a2 hb.1 hb.2.1, OK_set ho (by unfold RB; omega), ?_, ?_, ?_⟩ (uv_n (by decide))
  · rw [uv_n (by decide)]; exact h.1.2.2.2.1
  · rw [uv_n (by decide)]; exact h.1.2.2.2.2.1
  · rw [si_c _ (by decide), si_c _ (by decide)]; exact h.1.2.2.2.2.2
theorem IV_hold {m : mMem} {v : Nat → Nat} {x : Nat} (h : IV m v) (h1 : 1 ≤ x) (hx : x ≤ 99) : IV (si (si m 0 3 (nI x)) 82 33 (nI x - 30)) (uv v 3 x) := by
  have ho := h.1.2.2.1
  have hb := ho.1
  have a1 : HC (si m 0 3 (nI x)) 0 (uv v 3 x) := HC_set (c := 0) (x := x) h.1.1 hb.1 hb.2.1 (by unfold RC; omega)
  have a2 : HM (si m 0 3 (nI x)) 0 v := HM_fr h.1.2.1 hb.1 hb.2.1 (by rw [si_c _ (by decide)]) (by rw [si_c _ (by decide)]) (by rw [si_c _ (by decide)]) (by rw [si_c _ (by decide)]) (fun q _ _ => by rw [si_c _ (by decide)])
  refine IV_FH h ((FH_c (by decide)).tr (FH_m (by decide))) ⟨HC_fr a1 (fun z _ hz => si_c _ (by omega)), HM_hold a2 hb.1 hb.2.1, OK_set ho (by unfold RB; omega), ?_, ?_, ?_⟩ (uv_n (by decide))
  · rw [uv_s]; exact hx
  · rw [uv_n (by decide)]; exact h.1.2.2.2.2.1
  · rw [si_c _ (by decide), si_c _ (by decide)]; exact h.1.2.2.2.2.2
theorem ok_law (u0 u1 : Int32) : okI Inv (fX7_law u0 u1) (fX8_law u0 u1) := by
  rintro m ⟨v, hV⟩
  have hb := hV.1.2.2.1.1
  have c := IV_c hV
  have d := IV_m hV
  by_cases h0 : u0 = 0
  · subst h0
    rcases rng_cases u1 0 3 (a := 0) (b := 3) (A := 0) (B := 3) rfl rfl rfl rfl (by decide) (by decide) with ⟨n, -, hn, rfl, f7, f8⟩ | ⟨f7, f8⟩
    · refine ⟨nI (v 2), si m 0 2 (nI n), _, ?_, ?_, ⟨_, IV_gap hV hn⟩⟩
      · unfold fX7_law
        rw [f7, if_pos rfl]
        dsimp only [bI, li, lt]
        rw [if_neg (by decide), c.1.2.2.1]
      · unfold fX8_law
        rw [f8, if_pos rfl]
        dsimp only [bI]
        rw [if_neg (by decide), show (32 : Int32) = nI 32 from rfl, set8 _ (by decide), si_c _ (by decide), d.1.2.2.1]
        dsimp only
        rw [gap_r _ hb.2.2.1]
    · refine ⟨-1, m, m, ?_, ?_, ⟨v, hV⟩⟩
      · unfold fX7_law
        rw [f7, if_pos rfl]
        rfl
      · unfold fX8_law
        rw [f8, if_pos rfl]
        rfl
  · by_cases h1 : u0 = 1
    · subst h1
      rcases rng_cases u1 1 99 (a := 1) (b := 99) (A := 1) (B := 99) rfl rfl rfl rfl (by decide) (by decide) with ⟨n, hn1, hn, rfl, f7, f8⟩ | ⟨f7, f8⟩
      · refine ⟨nI (v 3), si m 0 3 (nI n), _, ?_, ?_, ⟨_, IV_hold hV hn1 hn⟩⟩
        · unfold fX7_law jX7_law_31
          rw [if_neg h0, if_pos rfl, f7]
          dsimp only [bI, li, lt]
          rw [if_neg (by decide), c.1.2.2.2.1]
        · unfold fX8_law
          rw [if_neg h0, if_pos rfl, f8]
          dsimp only [bI]
          rw [if_neg (by decide), show (33 : Int32) = nI 33 from rfl, set8 _ (by decide), si_c _ (by decide), d.1.2.2.2.1]
          dsimp only
          rw [hold_r _ hb.2.2.2.2.1]
      · refine ⟨-1, m, m, ?_, ?_, ⟨v, hV⟩⟩
        · unfold fX7_law jX7_law_31
          rw [if_neg h0, if_pos rfl, f7]
          rfl
        · unfold fX8_law
          rw [if_neg h0, if_pos rfl, f8]
          rfl
    · refine ⟨-1, m, m, ?_, ?_, ⟨v, hV⟩⟩
      · unfold fX7_law jX7_law_31
        rw [if_neg h0, if_neg h1]
      · unfold fX8_law
        rw [if_neg h0, if_neg h1]
theorem ok_fault : okI Inv (fX7_fault) (fX8_fault) := by
  rintro m ⟨v, hV⟩
  exact ⟨m.1 49 1, m, m, rfl, by rw [hV.2.2.2.2.2.1]; rfl, ⟨v, hV⟩⟩
theorem ok_torn : okI Inv (fX7_torn) (fX8_torn) := by
  rintro m ⟨v, hV⟩
  exact ⟨m.1 48 10, m, m, rfl, by rw [hV.2.2.2.2.2.2.1]; rfl, ⟨v, hV⟩⟩
theorem ok_rule (u0 : Int32) : okI Inv (fX7_rule u0) (fX8_rule u0) := by
  rintro m ⟨v, hV⟩
  have hb := hV.1.2.2.1.1
  have c := IV_c hV
  have d := IV_m hV
  have eh : fX8_holdOn (0 : Int32) m = some (some (.int (nI (v 3))), m) := fX8_holdOn_eq (IV_HO hV)
  unfold okI fX7_rule fX8_rule at *
  rw [c.1.1, c.1.2.1, c.1.2.2.1, c.1.2.2.2.1, c.1.2.2.2.2]
  by_cases h0 : u0 = 0
  · refine ⟨nI (v 0), m, m, ?_, ?_, ⟨v, hV⟩⟩
    · rw [if_pos h0]
    · rw [if_pos h0, d.1.1]
  by_cases h1 : u0 = 1
  · refine ⟨nI (v 1), m, m, ?_, ?_, ⟨v, hV⟩⟩
    · rw [if_neg h0, if_pos h1]
    · rw [if_neg h0, if_pos h1, d.1.2.1]
  by_cases h2 : u0 = 2
  · refine ⟨nI (v 2), m, m, ?_, ?_, ⟨v, hV⟩⟩
    · rw [if_neg h0, if_neg h1, if_pos h2]
    · rw [if_neg h0, if_neg h1, if_pos h2, show (32 : Int32) = nI 32 from rfl, ga_nI (by decide) (by decide), nI_tn (by decide), d.1.2.2.1, gap_eq _ hb.2.2.1]
  by_cases h3 : u0 = 3
  · refine ⟨nI (v 3), m, m, ?_, ?_, ⟨v, hV⟩⟩
    · rw [if_neg h0, if_neg h1, if_neg h2, if_pos h3]
    · rw [if_neg h0, if_neg h1, if_neg h2, if_pos h3, eh]
      rfl
  by_cases h4 : u0 = 4
  · refine ⟨nI (v 4), m, m, ?_, ?_, ⟨v, hV⟩⟩
    · rw [if_neg h0, if_neg h1, if_neg h2, if_neg h3, if_pos h4]
    · rw [if_neg h0, if_neg h1, if_neg h2, if_neg h3, if_pos h4, show (34 : Int32) = nI 34 from rfl, ga_nI (by decide) (by decide), nI_tn (by decide), d.1.2.2.2.2]
  · refine ⟨-1, m, m, ?_, ?_, ⟨v, hV⟩⟩
    · rw [if_neg h0, if_neg h1, if_neg h2, if_neg h3, if_neg h4]
    · rw [if_neg h0, if_neg h1, if_neg h2, if_neg h3, if_neg h4]
theorem q_ite {c : Prop} [Decidable c] {a b : mR} {m : mMem} (ha : ∃ r, a = some (some (.int r), m)) (hb : ∃ r, b = some (some (.int r), m)) : ∃ r, (if c then a else b) = some (some (.int r), m) := by
  by_cases h : c
  · rw [if_pos h]; exact ha
  · rw [if_neg h]; exact hb
theorem okq {fx fm : mMem → mR} {m : mMem} {S : mR} (h7 : fx m = S) (h8 : fm m = S) (hS : ∃ r, S = some (some (.int r), m)) (hI : Inv m) : ∃ r μ1 μ2, fx m = some (some (.int r), μ1) ∧ fm μ1 = some (some (.int r), μ2) ∧ Inv μ2 := by
  obtain ⟨r, hr⟩ := hS
  exact ⟨r, m, m, h7.trans hr, h8.trans hr, hI⟩
theorem ok_step (u0 u1 : Int32) : okI Inv (fX7_step u0 u1) (fX8_step u0 u1) := by
  rintro m ⟨v, hV⟩
  have ho := hV.1.2.2.1
  have hb := ho.1
  have c := IV_c hV
  have d := IV_m hV
  rcases step_cases hb.1 u0 with ⟨i, hi, rfl, e7, e8⟩ | ⟨e7, e8⟩
  · have k7 := fX4_rankOfStep_eq hV.1.1 ho hi
    have k8 : fX8_rankOn (0 : Int32) (nI i) m = _ := fX8_rankOn_eq (IV_HO hV) hi
    have b7 := fX4_isBroken_eq hV.1.1 ho hi
    have b8 : fX8_isBroken (0 : Int32) (nI i) m = _ := fX8_isBroken_eq (IV_HO hV) hi
    have hob : obS v 0 i = brS v i := by unfold obS; simp
    rw [hob] at b8
    refine okq (S := if u1 = (0 : Int32) then some (some (Value.int (nI (v (10 + i)))), m) else if u1 = (1 : Int32) then some (some (.int (nI (v (20 + i)))), m) else if u1 = (2 : Int32) then some (some (.int (nI (v (30 + i)))), m) else if u1 = (3 : Int32) then some (some (.int (nI (rkS (v (10 + i)) (v (20 + i))))), m) else if u1 = (4 : Int32) then (if (if brS v i = true then (1 : Int32) else 0) = (0 : Int32) then some (some (.int (0 : Int32)), m) else some (some (.int (1 : Int32)), m)) else some (some (.int (-1 : Int32)), m)) ?_ ?_ (q_ite ⟨_, rfl⟩ (q_ite ⟨_, rfl⟩ (q_ite ⟨_, rfl⟩ (q_ite ⟨_, rfl⟩ (q_ite (q_ite ⟨_, rfl⟩ ⟨_, rfl⟩) ⟨_, rfl⟩))))) ⟨v, hV⟩
    · unfold fX7_step
      rw [e7 m c.1.1]
      dsimp only [bI]
      rw [if_neg (show ¬ (1 : Int32) = 0 by decide), ga_nI (by omega) (by decide), ga_nI (by omega) (by decide), ga_nI (by omega) (by decide), nI_tn (by omega), (c.2.1 i hi).1, (c.2.1 i hi).2.1, (c.2.1 i hi).2.2, k7, b7]
    · unfold fX8_step
      rw [e8 m d.1.1]
      dsimp only [bI]
      rw [if_neg (show ¬ (1 : Int32) = 0 by decide), ga_nI (by omega) (by decide), i21, i2, ga_nI (by omega) (by decide), ga_nI (by omega) (by decide), nI_tn (by omega), nI_tn (by omega), nI_tn (by omega), (d.2.1 i hi).1, (d.2.1 i hi).2.1, (d.2.1 i hi).2.2, k8, b8]
  · refine ⟨-1, m, m, ?_, ?_, ⟨v, hV⟩⟩
    · unfold fX7_step
      rw [e7 m c.1.1]
      rfl
    · unfold fX8_step
      rw [e8 m d.1.1]
      rfl
theorem fX8_trodden_eq {m : mMem} {o p : Nat} {v : Nat → Nat} (h : HO m 0 o v) (hp : p < v 1) : fX8_trodden (nI p) m = some (some (.int (nI (bitsN (trS v o p) (v 0)))), m) := by
  have hb := h.2.1.1
  unfold fX8_trodden
  refine lp_0 (fun i => (nI (bitsN (trS v o p) i), nI i, m)) (v 0) _ (by omega) (fun k => ?_) (fun i hi k => ?_)
  · unfold bX8_trodden_4
    dsimp only
    rw [h.1.1.1, if_pos (nI_le (Nat.le_refl _) (by omega))]
  · have e : fX8_mayTread (0 : Int32) (nI p) (nI i) m = _ := fX8_mayTread_eq h hp hi
    unfold bX8_trodden_4
    dsimp only [li]
    rw [h.1.1.1, if_neg (nI_ge hi (by omega)), e]
    dsimp only [bI]
    rw [nI_setbit (by omega), show nI i + 1 = nI (i + 1) from nI_1 i, show nI (bitsN (trS v o p) i) ||| (0 : Int32) = nI (bitsN (trS v o p) i ||| 0) from nI_or _ 0, Nat.or_zero]
    rw [show bitsN (trS v o p) (i + 1) = if trS v o p i then bitsN (trS v o p) i ||| 2 ^ i else bitsN (trS v o p) i from rfl]
    cases hz : trS v o p i <;> simp
theorem i3m {p : Nat} : (((20 : Int32) + (3 : Int32) * nI p) + (1 : Int32)) - (1 : Int32) = nI (20 + 3 * p) := by rw [i31]; exact nI_pred _
theorem i3n {p : Nat} : (((20 : Int32) + (3 : Int32) * nI p) + (2 : Int32)) - (1 : Int32) = nI (20 + 3 * p + 1) := by rw [i32]; exact nI_pred _
theorem i3o {p : Nat} : (((20 : Int32) + (3 : Int32) * nI p) + (3 : Int32)) - (1 : Int32) = nI (20 + 3 * p + 2) := by rw [i3, show nI (20 + 3 * p) + (3 : Int32) = nI (20 + 3 * p + 3) from nI_add _ 3]; exact nI_pred _
theorem ok_lodger (u0 u1 : Int32) : okI Inv (fX7_lodger u0 u1) (fX8_lodger u0 u1) := by
  rintro m ⟨v, hV⟩
  have ho := hV.1.2.2.1
  have hb := ho.1
  have c := IV_c hV
  have d := IV_m hV
  rcases lodger_cases hb.2.1 u0 with ⟨i, hi, rfl, e7, e8⟩ | ⟨e7, e8⟩
  · have k7 := fX4_reachOf_eq hV.1.1 ho hi
    have k8 : fX8_reachOn (0 : Int32) (nI i) m = _ := fX8_reachOn_eq (IV_HO hV) hi
    have b7 := fX4_treadBits_eq hV.1.1 ho hi
    have b8 := fX8_trodden_eq (IV_HO hV) hi
    refine okq (S := if u1 = (0 : Int32) then some (some (Value.int (nI (v (40 + i)))), m) else if u1 = (1 : Int32) then some (some (.int (nI (v (44 + i)))), m) else if u1 = (2 : Int32) then some (some (.int (nI (v (48 + i)))), m) else if u1 = (3 : Int32) then some (some (.int (nI (v (52 + i)))), m) else if u1 = (4 : Int32) then some (some (.int (nI (rcS v i))), m) else if u1 = (5 : Int32) then some (some (.int (nI (bitsN (trS v 0 i) (v 0)))), m) else some (some (.int (-1 : Int32)), m)) ?_ ?_ (q_ite ⟨_, rfl⟩ (q_ite ⟨_, rfl⟩ (q_ite ⟨_, rfl⟩ (q_ite ⟨_, rfl⟩ (q_ite ⟨_, rfl⟩ (q_ite ⟨_, rfl⟩ ⟨_, rfl⟩)))))) ⟨v, hV⟩
    · unfold fX7_lodger
      rw [e7 m c.1.2.1]
      dsimp only [bI]
      rw [if_neg (show ¬ (1 : Int32) = 0 by decide), ga_nI (by omega) (by decide), ga_nI (by omega) (by decide), ga_nI (by omega) (by decide), ga_nI (by omega) (by decide), nI_tn (by omega), (c.2.2 i hi).1, (c.2.2 i hi).2.1, (c.2.2 i hi).2.2.1, (c.2.2 i hi).2.2.2, k7, b7]
    · unfold fX8_lodger
      rw [e8 m d.1.2.1]
      dsimp only [bI]
      rw [if_neg (show ¬ (1 : Int32) = 0 by decide), k8, b8, ga_nI (by omega) (by decide), nI_tn (by omega), (d.2.2 i hi).1]
      by_cases h0 : u1 = 0
      · rw [if_pos h0, if_pos h0]
      rw [if_neg h0, if_neg h0]
      by_cases h1 : u1 = 1
      · subst h1
        rw [if_pos rfl, if_pos rfl, i3m, ga_nI (by omega) (by decide), nI_tn (by omega), (d.2.2 i hi).2.1]
      rw [if_neg h1, if_neg h1]
      by_cases h2 : u1 = 2
      · subst h2
        rw [if_pos rfl, if_pos rfl, i3n, ga_nI (by omega) (by decide), nI_tn (by omega), (d.2.2 i hi).2.2.1]
      rw [if_neg h2, if_neg h2]
      by_cases h3 : u1 = 3
      · subst h3
        rw [if_pos rfl, if_pos rfl, i3o, ga_nI (by omega) (by decide), nI_tn (by omega), (d.2.2 i hi).2.2.2]
      rw [if_neg h3, if_neg h3]
  · refine ⟨-1, m, m, ?_, ?_, ⟨v, hV⟩⟩
    · unfold fX7_lodger
      rw [e7 m c.1.2.1]
      rfl
    · unfold fX8_lodger
      rw [e8 m d.1.2.1]
      rfl
theorem ok_homes : okI Inv (fX7_homes) (fX8_homes) := by
  rintro m ⟨v, hV⟩
  have ho := hV.1.2.2.1
  obtain ⟨m', e8, hs⟩ := fX8_homesOn_eq (IV_HO hV)
  have e8' : fX8_homesOn (0 : Int32) m = _ := e8
  refine ⟨nI (bitsN (fun p => phO v 0 p != 0) (v 1)), m, m', ?_, ?_, ⟨v, IV_FR hV (FR_sm hs (by decide))⟩⟩
  · unfold fX7_homes
    rw [fX4_homeBits_eq hV.1.1 ho]
    rfl
  · unfold fX8_homes
    rw [e8']
    rfl
