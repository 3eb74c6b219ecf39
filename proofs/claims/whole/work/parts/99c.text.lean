/-! PURE FACTS: text -/
theorem fI7 (m : mMem) : fX7_forgetImages m = some (none, si (si m 53 0 0) 53 1 0) := by
  unfold fX7_forgetImages
  refine lp_0 (body := bX7_forgetImages_2) (fun i => (nI i, if i = 0 then m else if i = 1 then si m 53 0 0 else si (si m 53 0 0) 53 1 0)) 2 _ (by decide) (fun k => ?_) (fun i hi k => ?_)
  · unfold bX7_forgetImages_2
    dsimp only
    rw [if_pos (show (2 : Int32) ≤ nI 2 from by decide), if_neg (by decide), if_neg (by decide)]
  · unfold bX7_forgetImages_2
    dsimp only [lt, li]
    rw [if_neg (show ¬ (2 : Int32) ≤ nI i from nI_ge (b := 2) hi (by decide)), ga_nI hi (by decide), nI_tn (by omega), show nI i + 1 = nI (i + 1) from nI_1 _]
    have : i = 0 ∨ i = 1 := by omega
    rcases this with rfl | rfl
    · rfl
    · rfl
theorem tb_of {m : mMem} {t : Nat} (h0 : m.1 49 0 = nI t) (h1 : m.1 81 14 = nI t) (h : ∀ i, i < t → ∃ c, c < 128 ∧ m.1 50 i = nI c ∧ m.1 88 i = nI c) : ∃ b, TB7 m b t ∧ TB8 m b t := by
  have hb : ∀ i, i < t → m.1 50 i = nI (m.1 50 i).toNatClampNeg ∧ m.1 88 i = nI (m.1 50 i).toNatClampNeg ∧ (m.1 50 i).toNatClampNeg < 128 := fun i hi => by
    obtain ⟨c, c1, c2, c3⟩ := h i hi
    rw [c2, c3, nI_tn (by omega)]
    exact ⟨rfl, rfl, c1⟩
  exact ⟨fun i => (m.1 50 i).toNatClampNeg, ⟨h0, fun i hi => ⟨(hb i hi).1, (hb i hi).2.2⟩⟩, h1, fun i hi => ⟨(hb i hi).2.1, (hb i hi).2.2⟩⟩
theorem OKT_OK {u : Nat → Nat} (h : OKT u) (hl : ltF u = false) : OK u := by
  have hb := h.1
  exact ⟨⟨hb.1, hb.2.1, hb.2.2.1, hb.2.2.2.1, by omega, by omega⟩, h.2.1, fun p hp => ⟨(h.2.2 p hp).1, (h.2.2 p hp).2.1, (h.2.2 p hp).2.2.1, (h.2.2 p hp).2.2.2.1, lt_iff.mp hl p hp⟩⟩
theorem ok_text : okI Inv fX7_text fX8_text := by
  rintro m ⟨v, hV⟩
  obtain ⟨hH, hI, hS, hT, ⟨t, t1, t2, t3, t4⟩, hK⟩ := hV
  obtain ⟨b, b7, b8⟩ := tb_of t2 t3 t4
  obtain ⟨m1, e1, G1, E0, E1, Ec, Eu⟩ := text7 t1 b7
  have g1 : ∀ z, z ∉ [8, 9, 10, 11, 12, 13, 14, 15, 49, 51] → m1.1 z = m.1 z := G1
  generalize hR : txF b t = R at *
  by_cases hc : R.1.1 = 0
  · obtain ⟨u1, u2, u3⟩ := Eu hc
    have ho := OKT_OK u2 u3
    obtain ⟨m4, e4, H4, s4⟩ := fX4_copyFrom_eq (m := m1) (a := 8) (b := 0) (by omega) u1 ho
    have c4 : ∀ z, 8 ≤ z → m4.1 z = m1.1 z := fun z hz => (s4 z (by simp; omega)).1
    obtain ⟨m6, hm6⟩ : ∃ m6, m6 = si (si (si m4 65 0 0) 53 0 0) 53 1 0 := ⟨_, rfl⟩
    have c6 : ∀ z, z ≠ 65 → z ≠ 53 → m6.1 z = m4.1 z := fun z a c => by rw [hm6, si_c _ c, si_c _ c, si_c _ a]
    have c7 : ∀ z, 16 ≤ z → z ≠ 49 → z ≠ 51 → z ≠ 53 → z ≠ 65 → m6.1 z = m.1 z := fun z a c d e f => by
      rw [c6 z f e, c4 z (by omega), g1 z (by simp; omega)]
    obtain ⟨m7, e7, q14, q15, -, qz⟩ := text8 (m := m6) t1 ⟨by rw [c7 81 (by decide) (by decide) (by decide) (by decide) (by decide)]; exact b8.1, fun i hi => by rw [c7 88 (by decide) (by decide) (by decide) (by decide) (by decide)]; exact b8.2 i hi⟩ ⟨by rw [c7 89 (by decide) (by decide) (by decide) (by decide) (by decide)]; exact hK.2.2.1, by rw [c7 90 (by decide) (by decide) (by decide) (by decide) (by decide)]; exact hK.2.2.2⟩
    rw [hR] at e7 q15 qz
    obtain ⟨⟨z1, z2, z3⟩, hM, q29, q0, q1⟩ := qz hc
    have d7 : ∀ z, z ∉ [81, 82, 83, 84, 85, 86, 87, 96] → 16 ≤ z → z ≠ 49 → z ≠ 51 → z ≠ 53 → z ≠ 65 → m7.1 z = m.1 z := fun z a c d e f g => (z1 z a).trans (c7 z c d e f g)
    refine ⟨_, m6, m7, ?_, e7, R.2, ⟨?_, hM, ho, ?_, ?_, ?_⟩, fun j hj => Or.inl ⟨?_, ?_⟩, ⟨0, by decide, ?_, q29, fun k hk => absurd hk (Nat.not_lt_zero _)⟩, ?_, ⟨0, by decide, ?_, q14, fun k hk => absurd hk (Nat.not_lt_zero _)⟩, ?_, ?_, ?_, ?_⟩
    · unfold fX7_text
      rw [e1]
      dsimp only [bI, bV, lt]
      rw [E1, hc, if_pos (show nI 0 = (0 : Int32) from rfl), e4]
      dsimp only
      rw [fI7, hm6]
    · refine HC_fr H4 (fun z _ hz => ?_)
      rw [z1 z (by simp; omega), c6 z (by omega) (by omega)]
    · have := u2.1; omega
    · have := u2.1; omega
    · rw [z2 5 (by decide) (by decide) (by decide) (by decide), c7 81 (by decide) (by decide) (by decide) (by decide) (by decide)]; exact hH.2.2.2.2.2
    · rw [z1 53 (by decide), hm6]
      have : j = 0 ∨ j = 1 := by omega
      rcases this with rfl | rfl
      · rw [si_ne _ _ (Or.inr (by decide)), si_same]
      · rw [si_same]
    · have : j = 0 ∨ j = 1 := by omega
      rcases this with rfl | rfl
      · exact q0
      · exact q1
    · rw [z1 65 (by decide), hm6, si_c _ (by decide), si_c _ (by decide), si_same]; rfl
    · exact IT_fr hT (fun c h1 h2 => d7 c (by simp; omega) (by omega) (by omega) (by omega) (by omega) (by omega)) (d7 97 (by decide) (by decide) (by decide) (by decide) (by decide) (by decide)) (d7 98 (by decide) (by decide) (by decide) (by decide) (by decide) (by decide)) (d7 99 (by decide) (by decide) (by decide) (by decide) (by decide) (by decide))
    · rw [z1 49 (by decide), c6 49 (by decide) (by decide), c4 49 (by decide), E0]; rfl
    · rw [z1 49 (by decide), c6 49 (by decide) (by decide), c4 49 (by decide), E1, q15]
    · rw [d7 48 (by decide) (by decide) (by decide) (by decide) (by decide) (by decide), z2 34 (by decide) (by decide) (by decide) (by decide), c7 81 (by decide) (by decide) (by decide) (by decide) (by decide)]; exact hK.2.1
    · rw [d7 89 (by decide) (by decide) (by decide) (by decide) (by decide) (by decide)]; exact hK.2.2.1
    · rw [d7 90 (by decide) (by decide) (by decide) (by decide) (by decide) (by decide)]; exact hK.2.2.2
  · obtain ⟨m7, e7, q14, q15, qy, -⟩ := text8 (m := m1) t1 ⟨by rw [g1 81 (by decide)]; exact b8.1, fun i hi => by rw [g1 88 (by decide)]; exact b8.2 i hi⟩ ⟨by rw [g1 89 (by decide)]; exact hK.2.2.1, by rw [g1 90 (by decide)]; exact hK.2.2.2⟩
    rw [hR] at e7 q15 qy
    obtain ⟨y1, y2⟩ := qy hc
    have d7 : ∀ z, z ∉ [8, 9, 10, 11, 12, 13, 14, 15, 49, 51, 81, 85, 86, 87] → m7.1 z = m.1 z := fun z hz => by
      rw [y1 z (fun e => hz (by simp [e])) (fun e => hz (by simp [e])) (fun e => hz (by simp [e])) (fun e => hz (by simp [e])), g1 z (fun e => hz (by simp at e; simp [e]; omega))]
    have f7 : ∀ j, j ∉ K8L → m7.1 81 j = m.1 81 j := fun j hj => by rw [y2 j hj, g1 81 (by decide)]
    have e49 : m7.1 49 = m1.1 49 := y1 49 (by decide) (by decide) (by decide) (by decide)
    refine ⟨_, m1, m7, ?_, e7, v, IH_fr hH (fun c hc => d7 c (by simp; omega)) (f7 2 (by decide)) (f7 4 (by decide)) (f7 5 (by decide)) (d7 83 (by decide)) (d7 84 (by decide)) (fun q _ => by rw [d7 82 (by decide)]), II_fr hI (fun c h1 h2 => d7 c (by simp; omega)) (f7 2 (by decide)) (f7 4 (by decide)) (d7 83 (by decide)) (d7 84 (by decide)) (fun q _ _ => by rw [d7 82 (by decide)]) (d7 53 (by decide)) (d7 96 (by decide)), IS_fr hS (by rw [d7 65 (by decide)]) (f7 29 (by decide)) (d7 67 (by decide)) (d7 68 (by decide)) (d7 95 (by decide)), IT_fr hT (fun c h1 h2 => d7 c (by simp; omega)) (d7 97 (by decide)) (d7 98 (by decide)) (d7 99 (by decide)), ⟨0, by decide, by rw [e49, E0]; rfl, by rw [q14]; rfl, fun k hk => absurd hk (Nat.not_lt_zero _)⟩, by rw [e49, E1, q15], by rw [d7 48 (by decide), f7 34 (by decide)]; exact hK.2.1, by rw [d7 89 (by decide)]; exact hK.2.2.1, by rw [d7 90 (by decide)]; exact hK.2.2.2⟩
    unfold fX7_text
    rw [e1]
    dsimp only [bI]
    rw [E1, if_neg (c_ne _ Ec hc)]
