/-! PURE FACTS: count, keep, back -/
def pcs (a : Nat) : Nat → Nat
  | 0 => 0
  | i + 1 => pcs a i + a / 2 ^ i % 2
theorem pcs_10 (a : Nat) : pcs a 10 = popc a := by
  unfold popc
  simp [pcs]
theorem fX8_bitsOf_eq {a : Nat} (m : mMem) (h : a < 1024) : fX8_bitsOf (nI a) m = some (some (.int (nI (popc a))), m) := by
  unfold fX8_bitsOf
  refine lp_0 (fun i => (nI (pcs a i), nI i, m)) 10 _ (by decide) (fun k => ?_) (fun i hi k => ?_)
  · unfold bX8_bitsOf_4
    dsimp only
    rw [if_pos (by decide), pcs_10]
  · unfold bX8_bitsOf_4
    dsimp only [li]
    rw [show (10 : Int32) = nI 10 from rfl, if_neg (nI_ge hi (by decide)), nI_shr (by omega) (by omega), show (1 : Int32) = nI 1 from rfl, nI_and, Nat.and_one_is_mod, nI_add, nI_add]
    rfl
def wmS (v : Nat → Nat) : Nat → Nat
  | 0 => 0
  | i + 1 => wmS v i + v (30 + i)
theorem fX4_allWear_eq {m : mMem} {b : Nat} {v : Nat → Nat} (h : HC m b v) (ho : OK v) : fX4_allWear b m = some (some (.int (nI (wmS v (v 0)))), m) := by
  have hb := ho.1
  unfold fX4_allWear
  refine lp_0 (fun i => (nI (wmS v i), nI i, m)) (v 0) _ (by omega) (fun k => ?_) (fun i hi k => ?_)
  · unfold bX4_allWear_4
    dsimp only
    rw [h.1.1, if_pos (nI_le (Nat.le_refl _) (by omega))]
  · unfold bX4_allWear_4
    dsimp only [li]
    rw [h.1.1, if_neg (nI_ge hi (by omega)), ga_nI (by omega) (by decide), nI_tn (by omega), (h.2.1 i hi).2.2, nI_add, show nI i + 1 = nI (i + 1) from nI_1 _]
    rfl
theorem count8 {m : mMem} {v : Nat → Nat} (hV : IV m v) (u0 : Int32) (fin : mR) (h : ∀ k, bX8_count_4 u0 k (nI (wmS v (v 0)), nI (v 0), m) = fin) : fX8_count u0 m = fin := by
  have hb := hV.1.2.2.1.1
  have d := IV_m hV
  unfold fX8_count
  refine lp_0 (fun i => (nI (wmS v i), nI i, m)) (v 0) _ (by omega) h (fun i hi k => ?_)
  unfold bX8_count_4
  dsimp only [li]
  rw [d.1.1, if_neg (nI_ge hi (by omega)), i21, ga_nI (by omega) (by decide), nI_tn (by omega), (d.2.1 i hi).2.2, nI_add, show nI i + 1 = nI (i + 1) from nI_1 _]
  rfl
theorem count_img {m : mMem} {v : Nat → Nat} (hV : IV m v) : ∃ a b : Nat, a ≤ 1 ∧ b ≤ 1 ∧ m.1 53 0 = nI a ∧ m.1 96 0 = nI a ∧ m.1 53 1 = nI b ∧ m.1 96 1 = nI b := by
  have h0 := hV.2.1 0 (by decide)
  have h1 := hV.2.1 1 (by decide)
  have A : ∃ a : Nat, a ≤ 1 ∧ m.1 53 0 = nI a ∧ m.1 96 0 = nI a := by
    rcases h0 with ⟨x, y⟩ | ⟨x, y, -⟩
    · exact ⟨0, by decide, x, y⟩
    · exact ⟨1, by decide, x, y⟩
  have B : ∃ a : Nat, a ≤ 1 ∧ m.1 53 1 = nI a ∧ m.1 96 1 = nI a := by
    rcases h1 with ⟨x, y⟩ | ⟨x, y, -⟩
    · exact ⟨0, by decide, x, y⟩
    · exact ⟨1, by decide, x, y⟩
  obtain ⟨a, a1, a2, a3⟩ := A
  obtain ⟨b, b1, b2, b3⟩ := B
  exact ⟨a, b, a1, b1, a2, a3, b2, b3⟩
theorem ci_eq {m : mMem} {a b : Nat} (ha : a ≤ 1) (hb : b ≤ 1) (e0 : m.1 53 0 = nI a) (e1 : m.1 53 1 = nI b) : fX7_countImages m = some (some (.int (nI (a + b))), m) := by
  have hst : ∀ i x, i < 2 → x ≤ 1 → m.1 53 i = nI x → ∀ (s : Nat) k, bX7_countImages_4 k (nI s, nI i, m) = k (nI (s + x), nI (i + 1), m) := fun i x hi hx e s k => by
    unfold bX7_countImages_4
    dsimp only [li]
    rw [show (2 : Int32) = nI 2 from rfl, if_neg (nI_ge hi (by decide)), ga_nI hi (by decide), nI_tn (by omega), e, show nI i + 1 = nI (i + 1) from nI_1 _, show nI s + 1 = nI (s + 1) from nI_1 _]
    have : x = 0 ∨ x = 1 := by omega
    rcases this with rfl | rfl
    · rw [if_pos (show nI 0 = 0 from rfl)]
      rfl
    · rw [if_neg (by decide)]
  unfold fX7_countImages
  refine lp_0 (fun i => (nI (if i = 0 then 0 else if i = 1 then a else a + b), nI i, m)) 2 _ (by decide) (fun k => ?_) (fun i hi k => ?_)
  · unfold bX7_countImages_4
    dsimp only
    rw [if_pos (by decide), if_neg (by decide), if_neg (by decide)]
  · have : i = 0 ∨ i = 1 := by omega
    rcases this with rfl | rfl
    · have := hst 0 a (by decide) ha e0 0 k
      rw [Nat.zero_add] at this
      exact this
    · exact hst 1 b (by decide) hb e1 a k
theorem ok_count (u0 : Int32) : okI Inv (fX7_count u0) (fX8_count u0) := by
  rintro m ⟨v, hV⟩
  have ho := hV.1.2.2.1
  have hb := ho.1
  have c := IV_c hV
  have d := IV_m hV
  have hend : (nI (v 0)) ≤ (nI (v 0)) := nI_le (Nat.le_refl _) (by omega)
  by_cases h0 : u0 = 0
  · subst h0
    obtain ⟨t, ht, t1, t2, t3⟩ := hV.2.2.1
    refine ⟨nI t, m, m, ?_, count8 hV 0 _ (fun k => ?_), ⟨v, hV⟩⟩
    · unfold fX7_count
      rw [if_pos rfl, t1]
    · unfold bX8_count_4
      dsimp only
      rw [d.1.1, if_pos hend, if_pos rfl, t2]
  by_cases h1 : u0 = 1
  · subst h1
    obtain ⟨a, b, ha, hb, e1, e2, e3, e4⟩ := count_img hV
    refine ⟨nI (a + b), m, m, ?_, count8 hV 1 _ (fun k => ?_), ⟨v, hV⟩⟩
    · unfold fX7_count
      rw [if_neg h0, if_pos rfl, ci_eq ha hb e1 e3]
      rfl
    · unfold bX8_count_4 jX8_count_95
      dsimp only
      rw [d.1.1, if_pos hend, if_neg h0, if_pos rfl, show (0 : Int32) = nI 0 from rfl, show (1 : Int32) = nI 1 from rfl, ga_nI (by decide) (by decide), ga_nI (by decide) (by decide), ga_nI (by decide) (by decide), nI_tn (by decide), nI_tn (by decide), e2, e4]
      have qa : a = 0 ∨ a = 1 := by omega
      have qb : b = 0 ∨ b = 1 := by omega
      rcases qa with rfl | rfl <;> rcases qb with rfl | rfl <;> rfl
  by_cases h2 : u0 = 2
  · subst h2
    obtain ⟨t, ht, t1, t2, t3⟩ := hV.2.2.2.2.1
    refine ⟨nI t, m, m, ?_, count8 hV 2 _ (fun k => ?_), ⟨v, hV⟩⟩
    · unfold fX7_count
      rw [if_neg h0, if_neg h1, if_pos rfl, t1]
    · unfold bX8_count_4
      dsimp only
      rw [d.1.1, if_pos hend, if_neg h0, if_neg h1, if_pos rfl, t2]
  by_cases h3 : u0 = 3
  · subst h3
    have hrf : rf 80 (0 : Int32).toNatClampNeg = 40 := rfl
    rcases hV.2.2.2.1 0 (by decide) with ⟨s1, s2⟩ | ⟨l, n, l1, l2, l3, l4, l5, l6, -⟩
    · have s1' : m.1 40 2 = -1 := s1
      refine ⟨-4, m, m, ?_, count8 hV 3 _ (fun k => ?_), ⟨v, hV⟩⟩
      · unfold fX7_count fX5_isNothing
        rw [if_neg h0, if_neg h1, if_neg h2, if_pos rfl, hrf, s1', if_pos rfl]
        rfl
      · unfold bX8_count_4
        dsimp only
        rw [d.1.1, if_pos hend, if_neg h0, if_neg h1, if_neg h2, if_pos rfl, show ((0 : Int32)).toNatClampNeg = 0 from rfl, s2, if_pos rfl]
        rfl
    · have l3' : m.1 40 2 = nI l := l3
      have l5' : m.1 40 0 = nI n := l5
      refine ⟨nI n, m, m, ?_, count8 hV 3 _ (fun k => ?_), ⟨v, hV⟩⟩
      · unfold fX7_count fX5_isNothing
        rw [if_neg h0, if_neg h1, if_neg h2, if_pos rfl, hrf, l3', if_neg ((show ∀ l, l ≤ 2 → ¬ nI l = -1 by decide +kernel) l l1)]
        dsimp only [bI]
        rw [l5', if_pos rfl]
        rfl
      · unfold bX8_count_4
        dsimp only
        rw [d.1.1, if_pos hend, if_neg h0, if_neg h1, if_neg h2, if_pos rfl, show ((0 : Int32)).toNatClampNeg = 0 from rfl, l4, if_neg ((show ∀ l, l ≤ 2 → ¬ nI l = -4 by decide +kernel) l l1), l6]
        rfl
  by_cases h4 : u0 = 4
  · subst h4
    have hbl : bitsN (brS v) (v 0) < 1024 := bt_lt hb.1
    have hob : obS v 0 = brS v := by funext i; unfold obS; simp
    have e8 : fX8_brokenOn (0 : Int32) m = _ := fX8_brokenOn_eq (IV_HO hV)
    rw [hob] at e8
    refine ⟨nI (popc (bitsN (brS v) (v 0))), m, m, ?_, count8 hV 4 _ (fun k => ?_), ⟨v, hV⟩⟩
    · unfold fX7_count
      rw [if_neg h0, if_neg h1, if_neg h2, if_neg h3, if_pos rfl, fX4_brokenBits_eq hV.1.1 ho]
      dsimp only [bI]
      rw [fJ6_bitCount_eq _ hbl]
    · unfold bX8_count_4
      dsimp only
      rw [d.1.1, if_pos hend, if_neg h0, if_neg h1, if_neg h2, if_neg h3, if_pos rfl, e8]
      dsimp only [bI]
      rw [fX8_bitsOf_eq _ hbl]
  by_cases h5 : u0 = 5
  · subst h5
    refine ⟨nI (wmS v (v 0)), m, m, ?_, count8 hV 5 _ (fun k => ?_), ⟨v, hV⟩⟩
    · unfold fX7_count
      rw [if_neg h0, if_neg h1, if_neg h2, if_neg h3, if_neg h4, if_pos rfl, fX4_allWear_eq hV.1.1 ho]
      rfl
    · unfold bX8_count_4
      dsimp only
      rw [d.1.1, if_pos hend, if_neg h0, if_neg h1, if_neg h2, if_neg h3, if_neg h4, if_pos rfl]
  by_cases h6 : u0 = 6
  · subst h6
    obtain ⟨m', e8, hs⟩ := fX8_homesOn_eq (IV_HO hV)
    have e8' : fX8_homesOn (0 : Int32) m = _ := e8
    have hbl : bitsN (fun p => phO v 0 p != 0) (v 1) < 1024 := bt_lt (by omega)
    refine ⟨nI (popc (bitsN (fun p => phO v 0 p != 0) (v 1))), m, m', ?_, count8 hV 6 _ (fun k => ?_), ⟨v, IV_FR hV (FR_sm hs (by decide))⟩⟩
    · unfold fX7_count
      rw [if_neg h0, if_neg h1, if_neg h2, if_neg h3, if_neg h4, if_neg h5, if_pos rfl, fX4_homeBits_eq hV.1.1 ho]
      dsimp only [bI]
      rw [fJ6_bitCount_eq _ hbl]
    · unfold bX8_count_4
      dsimp only
      rw [d.1.1, if_pos hend, if_neg h0, if_neg h1, if_neg h2, if_neg h3, if_neg h4, if_neg h5, if_pos rfl, e8']
      dsimp only [bI]
      rw [fX8_bitsOf_eq _ hbl]
  · refine ⟨-1, m, m, ?_, count8 hV u0 _ (fun k => ?_), ⟨v, hV⟩⟩
    · unfold fX7_count
      rw [if_neg h0, if_neg h1, if_neg h2, if_neg h3, if_neg h4, if_neg h5, if_neg h6]
    · unfold bX8_count_4
      dsimp only
      rw [d.1.1, if_pos hend, if_neg h0, if_neg h1, if_neg h2, if_neg h3, if_neg h4, if_neg h5, if_neg h6]
theorem rf52 : ∀ j, j < 2 → rf 52 j = 16 + 8 * j := by decide +kernel
theorem rf80 : ∀ j, j < 4 → rf 80 j = 40 + 2 * j := by decide +kernel
theorem i35 : ∀ j, j < 2 → (35 : Int32) * (nI j + 1) = nI (35 * (j + 1)) := by decide +kernel
theorem ok_keep (u0 : Int32) : okI Inv (fX7_keep u0) (fX8_keep u0) := by
  rintro m ⟨v, hV⟩
  have ho := hV.1.2.2.1
  have hb := ho.1
  rcases rng_cases u0 0 1 (a := 0) (b := 1) (A := 0) (B := 1) rfl rfl rfl rfl (by decide) (by decide) with ⟨j, -, hj, rfl, f7, f8⟩ | ⟨f7, f8⟩
  · have hj2 : j < 2 := by omega
    obtain ⟨a, ha, f53, f96⟩ : ∃ a : Nat, a ≤ 1 ∧ m.1 53 j = nI a ∧ m.1 96 j = nI a := by
      rcases hV.2.1 j hj2 with ⟨x, y⟩ | ⟨x, y, -⟩
      · exact ⟨0, by decide, x, y⟩
      · exact ⟨1, by decide, x, y⟩
    obtain ⟨m1, e7, a1, a2⟩ := fX4_copyFrom_eq (m := m) (a := 0) (b := 16 + 8 * j) (by omega) hV.1.1 ho
    have c1 : ∀ c, c < 16 ∨ 32 ≤ c → m1.1 c = m.1 c := fun c hc => (a2 c (by simp; omega)).1
    obtain ⟨M1, hM1⟩ : ∃ M1, M1 = si m1 53 j 1 := ⟨_, rfl⟩
    obtain ⟨M2, hM2⟩ : ∃ M2, M2 = kM 0 (35 * (j + 1)) M1 35 := ⟨_, rfl⟩
    have e8 : fX8_copies (0 : Int32) (nI (35 * (j + 1))) M1 = some (none, M2) := by rw [hM2]; exact fX8_copies_eq (A := 0) (o := 0) (v := v) (by omega) (by omega) (by omega)
    have s2 : SM [82] M1 M2 := by rw [hM2]; exact kM_SM _ _ _ _
    have p2 : PG (35 * (j + 1)) M1 M2 := by rw [hM2]; exact kM_PG (by omega)
    have g1 : ∀ c, c ≠ 53 → c < 16 ∨ 32 ≤ c → M1.1 c = m.1 c := fun c h1 h2 => by rw [hM1, si_c _ h1, c1 c h2]
    have k1 : HM M1 0 v := HM_fr hV.1.2.1 hb.1 hb.2.1 (by rw [g1 _ (by decide) (by decide)]) (by rw [g1 _ (by decide) (by decide)]) (g1 _ (by decide) (by decide)) (g1 _ (by decide) (by decide)) (fun q _ _ => by rw [g1 _ (by decide) (by decide)])
    have k2 : HM M2 (35 * (j + 1)) v := by rw [hM2]; exact kM_HM (by omega) k1 ho
    have g2 : ∀ c, c ≠ 82 → c ≠ 53 → c < 16 ∨ 32 ≤ c → M2.1 c = m.1 c := fun c h0 h1 h2 => by rw [(s2 c (by simpa using h0)).1, g1 c h1 h2]
    have k96 : M2.1 96 = m.1 96 := g2 _ (by decide) (by decide) (by decide)
    refine ⟨nI a, M1, si M2 96 j 1, ?_, ?_, ⟨v, IV_img hV (fun c hc => ?_) (fun q hq => ?_) (fun i hi => ?_)⟩⟩
    · unfold fX7_keep jX7_keep_25
      rw [f7]
      dsimp only [bI, bV, lt]
      rw [if_neg (by decide), ga_nI hj2 (by decide), ga_nI hj2 (by decide), ga_nI hj2 (by decide), nI_tn (by omega), f53, rf52 j hj2, e7]
      dsimp only
      rw [ga_nI hj2 (by decide), ga_nI hj2 (by decide), ← hM1]
      have qa : a = 0 ∨ a = 1 := by omega
      rcases qa with rfl | rfl <;> rfl
    · unfold fX8_keep
      rw [f8]
      dsimp only [bI, bV, lt]
      rw [if_neg (by decide), i35 j hj2, e8]
      dsimp only
      rw [ga_nI hj2 (by decide), ga_nI hj2 (by decide), ga_nI hj2 (by decide), nI_tn (by omega), k96, f96]
      have qa : a = 0 ∨ a = 1 := by omega
      rcases qa with rfl | rfl <;> rfl
    · simp at hc
      rw [si_c _ (by omega)]
      exact g2 c (by omega) (by omega) (by omega)
    · rw [si_c _ (by decide), p2 q (by omega), g1 _ (by decide) (by decide)]
    · by_cases e : i = j
      · subst e
        refine Or.inr ⟨?_, ?_, v, HC_fr a1 (fun c h1 h2 => ?_), HM_fr k2 hb.1 hb.2.1 (by rw [si_c _ (by decide)]) (by rw [si_c _ (by decide)]) (by rw [si_c _ (by decide)]) (by rw [si_c _ (by decide)]) (fun q _ _ => by rw [si_c _ (by decide)]), ho, hV.1.2.2.2.1, hV.1.2.2.2.2.1⟩
        · rw [si_c _ (by decide), (s2 53 (by decide)).1, hM1, si_same]
        · rw [si_same]
        · rw [si_c _ (by omega), (s2 c (by simp; omega)).1, hM1, si_c _ (by omega)]
      · have q53 : (si M2 96 j 1).1 53 i = m.1 53 i := by rw [si_c _ (by decide), (s2 53 (by decide)).1, hM1, si_ne _ _ (Or.inr e), c1 53 (by decide)]
        have q96 : (si M2 96 j 1).1 96 i = m.1 96 i := by rw [si_ne _ _ (Or.inr e), k96]
        rw [q53, q96]
        rcases hV.2.1 i hi with q | ⟨q1, q2, w, w1, w2, w3, w4, w5⟩
        · exact Or.inl q
        · refine Or.inr ⟨q1, q2, w, HC_fr w1 (fun c h1 h2 => ?_), HM_fr w2 w3.1.1 w3.1.2.1 ?_ ?_ ?_ ?_ (fun q h1 h2 => ?_), w3, w4, w5⟩
          · rw [si_c _ (by omega), (s2 c (by simp; omega)).1, hM1, si_c _ (by omega), (a2 c (by simp; omega)).1]
          · rw [si_c _ (by decide), g2 _ (by decide) (by decide) (by decide)]
          · rw [si_c _ (by decide), g2 _ (by decide) (by decide) (by decide)]
          · rw [si_c _ (by decide), g2 _ (by decide) (by decide) (by decide)]
          · rw [si_c _ (by decide), g2 _ (by decide) (by decide) (by decide)]
          · rw [si_c _ (by decide), p2 q (by omega), g1 _ (by decide) (by decide)]
  · refine ⟨-1, m, m, ?_, ?_, ⟨v, hV⟩⟩
    · unfold fX7_keep
      rw [f7]
      rfl
    · unfold fX8_keep
      rw [f8]
      rfl
theorem ok_back (u0 : Int32) : okI Inv (fX7_back u0) (fX8_back u0) := by
  rintro m ⟨v, hV⟩
  have ho := hV.1.2.2.1
  have hb := ho.1
  have d := IV_m hV
  rcases rng_cases u0 0 1 (a := 0) (b := 1) (A := 0) (B := 1) rfl rfl rfl rfl (by decide) (by decide) with ⟨j, -, hj, rfl, f7, f8⟩ | ⟨f7, f8⟩
  · have hj2 : j < 2 := by omega
    rcases hV.2.1 j hj2 with ⟨x, y⟩ | ⟨x, y, w, w1, w2, w3, w4, w5⟩
    · refine ⟨-2, m, m, ?_, ?_, ⟨v, hV⟩⟩
      · unfold fX7_back
        rw [f7]
        dsimp only [bI]
        rw [if_neg (by decide), ga_nI hj2 (by decide), nI_tn (by omega), x, if_pos rfl]
      · unfold fX8_back
        rw [f8]
        dsimp only [bI]
        rw [if_neg (by decide), ga_nI hj2 (by decide), nI_tn (by omega), y, if_pos rfl]
    · obtain ⟨m1, e7, a1, a2⟩ := fX4_copyFrom_eq (m := m) (a := 16 + 8 * j) (b := 0) (by omega) w1 w3
      have hb2 := w3.1
      have c1 : ∀ c, 8 ≤ c → m1.1 c = m.1 c := fun c hc => (a2 c (by simp; omega)).1
      have e8 : fX8_copies (nI (35 * (j + 1))) (0 : Int32) m1 = some (none, kM (35 * (j + 1)) 0 m1 35) := fX8_copies_eq (B := 0) (o := 0) (v := v) (by omega) (by omega) (by omega)
      have s2 : SM [82] m1 (kM (35 * (j + 1)) 0 m1 35) := kM_SM _ _ _ _
      have p2 : PG 0 m1 (kM (35 * (j + 1)) 0 m1 35) := kM_PG (by omega)
      have k1 : HM m1 (35 * (j + 1)) w := HM_fr w2 hb2.1 hb2.2.1 (by rw [c1 _ (by decide)]) (by rw [c1 _ (by decide)]) (c1 _ (by decide)) (c1 _ (by decide)) (fun q _ _ => by rw [c1 _ (by decide)])
      have k2 : HM (kM (35 * (j + 1)) 0 m1 35) 0 w := kM_HM (by omega) k1 w3
      have h0 : w 0 = v 0 := (nI_eq (by omega) (by omega)).mp (w2.1.1.symm.trans d.1.1)
      refine ⟨nI (w 4), m1, kM (35 * (j + 1)) 0 m1 35, ?_, ?_, ⟨w, IV_FH hV ((FH_sm a2 (by decide)).tr (FH_pg s2 (by decide) p2)) ⟨HC_fr a1 (fun c _ hc => (s2 c (by simp; omega)).1), k2, w3, w4, w5, ?_⟩ h0⟩⟩
      · unfold fX7_back
        rw [f7]
        dsimp only [bI, bV]
        rw [if_neg (by decide), ga_nI hj2 (by decide), ga_nI hj2 (by decide), nI_tn (by omega), x, if_neg (by decide), rf52 j hj2, e7]
        dsimp only
        rw [a1.1.2.2.2.2]
      · unfold fX8_back
        rw [f8]
        dsimp only [bI, bV]
        rw [if_neg (by decide), ga_nI hj2 (by decide), nI_tn (by omega), c1 96 (by decide), y, if_neg (by decide), i35 j hj2, e8]
        dsimp only
        have := k2.1.2.2.2.2
        rw [show ((34 : Int32)).toNatClampNeg = 34 from rfl, show (34 : Nat) = 0 + 34 from rfl, this]
        rfl
      · rw [(s2 81 (by decide)).1, c1 81 (by decide)]; exact hV.1.2.2.2.2.2
  · refine ⟨-1, m, m, ?_, ?_, ⟨v, hV⟩⟩
    · unfold fX7_back
      rw [f7]
      rfl
    · unfold fX8_back
      rw [f8]
      rfl
