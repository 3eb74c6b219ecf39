/-! PURE FACTS: lines of the tape; the class, II -/
theorem nb1_0 {b : Nat → Nat} {L lo hi : Nat} {S : Nat × Nat × Nat} (h : (nb1 b L lo hi S).1.1 = 0) : S.1 = 0 ∧ lo ≤ (nb1 b L lo hi S).2 ∧ (nb1 b L lo hi S).2 ≤ hi ∧ tkK b L S.2.2 = 2 ∧ (nb1 b L lo hi S).1.2.2 = tkE b L S.2.2 := by
  unfold nb1 at h ⊢
  by_cases h0 : S.1 ≠ 0
  · rw [if_pos h0] at h
    exact absurd h h0
  · rw [if_neg h0] at h ⊢
    by_cases h4 : tkK b L S.2.2 = 4
    · rw [if_pos h4] at h
      exact absurd h (by decide : (1 : Nat) ≠ 0)
    · rw [if_neg h4] at h ⊢
      by_cases h2 : tkK b L S.2.2 ≠ 2
      · rw [if_pos h2] at h
        exact absurd h (by decide : (2 : Nat) ≠ 0)
      · rw [if_neg h2] at h ⊢
        by_cases h3 : vlF b (tkA b L S.2.2) (tkE b L S.2.2) < lo ∨ hi < vlF b (tkA b L S.2.2) (tkE b L S.2.2)
        · rw [if_pos h3] at h
          exact absurd h (by decide : (3 : Nat) ≠ 0)
        · rw [if_neg h3]
          dsimp only
          exact ⟨by omega, by omega, by omega, by omega, rfl⟩
theorem nbR_in {b : Nat → Nat} {L ln : Nat} : ∀ (r k : Nat) (S : Nat × Nat × Nat), (nbR b L ln r k S).1.1 = 0 → S.1 = 0 ∧ ∀ j, j < r → loN ln (k + j) ≤ (nbR b L ln r k S).2.getD j 0 ∧ (nbR b L ln r k S).2.getD j 0 ≤ hiN ln (k + j)
  | 0, _, S, h => ⟨h, fun j hj => absurd hj (Nat.not_lt_zero _)⟩
  | r + 1, k, S, h => by
    have h' : (nbR b L ln r (k + 1) (nb1 b L (loN ln k) (hiN ln k) S).1).1.1 = 0 := h
    obtain ⟨i1, i2⟩ := nbR_in r (k + 1) _ h'
    obtain ⟨j1, j2, j3, -, -⟩ := nb1_0 i1
    refine ⟨j1, fun j hj => ?_⟩
    cases j with
    | zero => exact ⟨j2, j3⟩
    | succ j =>
      have := i2 j (by omega)
      rw [show k + 1 + j = k + (j + 1) by omega] at this
      exact this
theorem b42 (r1 : Nat) (x2 : Int32) (K : Int32 × mMem → mR) (x3 : Int32) (m : mMem) : bX6_takeLine_42 r1 x2 K (x3, m) = ga x2 7 (if (tb114.getD (x2).toNatClampNeg 0) ≤ x3 then jX6_takeLine_74 r1 x2 m else if (m.1 49 1) = (0 : Int32) then bV (fX6_takeToken m) (fun m8 => bV (fX6_takeNumber x2 x3 m8) (fun m9 => K (x3 + 1, m9))) else jX6_takeLine_74 r1 x2 m) := rfl
theorem nbs7 {b : Nat → Nat} {L ln : Nat} (hL : L ≤ 160) (hln : ln < 7) : ∀ (r k : Nat) (S : Nat × Nat × Nat) (m : mMem) (F : Nat), k + r = nuN ln → r + 1 < F → S.1 = 0 → S.2.2 ≤ L → TB7 m b L → N7 m S → ∃ m', lp (bX6_takeLine_42 8 (nI ln)) F (nI k, m) = jX6_takeLine_74 8 (nI ln) m' ∧ F7 m m' ∧ (∀ j, j < k → m'.1 51 j = m.1 51 j) ∧ N7 m' (nbR b L ln r k S).1 ∧ ((nbR b L ln r k S).1.1 = 0 → ∀ j, j < r → m'.1 51 (k + j) = nI ((nbR b L ln r k S).2.getD j 0))
  | 0, k, S, m, F + 1, hk, hF, h0, hp, hT, hN => by
    obtain ⟨n1, n2, n3⟩ := tb_nu ln hln
    refine ⟨m, ?_, F7.rf, fun _ _ => rfl, hN, fun _ j hj => absurd hj (Nat.not_lt_zero _)⟩
    show bX6_takeLine_42 8 (nI ln) (lp (bX6_takeLine_42 8 (nI ln)) F) (nI k, m) = _
    rw [b42, ga_nI hln (by decide), nI_tn (by omega), n1, if_pos (nI_le (by omega) (by omega))]
  | r + 1, k, S, m, F + 1, hk, hF, h0, hp, hT, hN => by
    obtain ⟨n1, n2, n3⟩ := tb_nu ln hln
    have hfd : m.1 49 1 = 0 := by
      rcases hN with ⟨-, a, -⟩ | ⟨a, -⟩
      · exact a
      · exact absurd h0 a
    obtain ⟨m1, m2, e1, e2, f2, o2, N2, v2⟩ := num7 (k := k) hL h0 hp hT hN hln (by omega)
    have hstep : lp (bX6_takeLine_42 8 (nI ln)) (F + 1) (nI k, m) = lp (bX6_takeLine_42 8 (nI ln)) F (nI (k + 1), m2) := by
      show bX6_takeLine_42 8 (nI ln) (lp (bX6_takeLine_42 8 (nI ln)) F) (nI k, m) = _
      rw [b42, ga_nI hln (by decide), nI_tn (by omega), n1, if_neg (nI_ge (by omega) (by omega)), hfd, if_pos rfl, e1]
      dsimp only [bV]
      rw [e2]
      dsimp only
      rw [show nI k + 1 = nI (k + 1) from nI_1 _]
    rw [hstep]
    have hnr : nbR b L ln (r + 1) k S = ((nbR b L ln r (k + 1) (nb1 b L (loN ln k) (hiN ln k) S).1).1, (nb1 b L (loN ln k) (hiN ln k) S).2 :: (nbR b L ln r (k + 1) (nb1 b L (loN ln k) (hiN ln k) S).1).2) := rfl
    have hT2 := TB7_f hT f2
    have hp2 := nb1_pos (b := b) (lo := loN ln k) (hi := hiN ln k) hp
    by_cases hc : (nb1 b L (loN ln k) (hiN ln k) S).1.1 = 0
    · obtain ⟨m3, e3, f3, o3, N3, v3⟩ := nbs7 hL hln r (k + 1) (nb1 b L (loN ln k) (hiN ln k) S).1 m2 F (by omega) (by omega) hc hp2.1 hT2 N2
      refine ⟨m3, e3, f2.tr f3, fun j hj => by rw [o3 j (by omega), o2 j (by omega)], by rw [hnr]; exact N3, fun hz j hj => ?_⟩
      rw [hnr] at hz ⊢
      cases j with
      | zero =>
        rw [Nat.add_zero, o3 k (by omega), v2 hc]
        rfl
      | succ j =>
        have := v3 hz j (by omega)
        rw [show k + 1 + j = k + (j + 1) by omega] at this
        exact this
    · have hbad := nbR_bad (b := b) (L := L) (ln := ln) r (k + 1) _ hc
      have hfn : ¬ m2.1 49 1 = 0 := by
        rcases N2 with ⟨a, -⟩ | ⟨a, a2, a3, -⟩
        · exact absurd a hc
        · rw [a3]
          exact c_ne _ a2 a
      refine ⟨m2, ?_, f2, fun j hj => o2 j (by omega), by rw [hnr]; show N7 m2 (nbR b L ln r (k + 1) (nb1 b L (loN ln k) (hiN ln k) S).1).1; rw [hbad]; exact N2, fun hz => ?_⟩
      · obtain ⟨F', rfl⟩ : ∃ F', F = F' + 1 := ⟨F - 1, by omega⟩
        show bX6_takeLine_42 8 (nI ln) (lp (bX6_takeLine_42 8 (nI ln)) F') (nI (k + 1), m2) = _
        rw [b42, ga_nI hln (by decide), if_neg hfn]
        split <;> rfl
      · rw [hnr] at hz
        have hz' : (nbR b L ln r (k + 1) (nb1 b L (loN ln k) (hiN ln k) S).1).1.1 = 0 := hz
        rw [hbad] at hz'
        exact absurd hz' hc
  | _, _, _, _, 0, _, h, _, _, _, _ => absurd h (Nat.not_lt_zero _)
/-! ## the house in the making -/
def OKT (u : Nat → Nat) : Prop := (u 0 ≤ 10 ∧ u 1 ≤ 4 ∧ u 2 ≤ 3 ∧ 1 ≤ u 3 ∧ u 3 ≤ 99 ∧ u 4 = 0) ∧ (∀ i, i < u 0 → u (10 + i) ≤ 3 ∧ u (20 + i) ≤ 60 ∧ u (30 + i) ≤ 99) ∧ (∀ p, p < u 1 → 1 ≤ u (40 + p) ∧ u (40 + p) ≤ 4 ∧ u (44 + p) ≤ 3 ∧ u (48 + p) ≤ 9 ∧ u (52 + p) ≤ 9)
theorem up_step {u : Nat → Nat} {ln : Nat} {vs : List Nat} (h : ln < 4) : upU u ln vs = uv (uv (uv (uv u (10 + u 0) ln) (20 + u 0) (vs.getD 0 0)) (30 + u 0) (vs.getD 1 0)) 0 (u 0 + 1) := by
  unfold upU
  rw [if_neg (by omega), if_neg (by omega), if_neg (by omega)]
theorem up_lod {u : Nat → Nat} {vs : List Nat} : upU u 4 vs = uv (uv (uv (uv (uv u (40 + u 1) (vs.getD 0 0)) (44 + u 1) (vs.getD 1 0)) (48 + u 1) (vs.getD 2 0)) (52 + u 1) (vs.getD 3 0)) 1 (u 1 + 1) := rfl
theorem up_OK {u : Nat → Nat} {ln : Nat} {vs : List Nat} (ho : OKT u) (hln : ln < 7) (h0 : ln < 4 → u 0 < 10) (h1 : ln = 4 → u 1 < 4) (hv : ∀ j, j < nuN ln → loN ln j ≤ vs.getD j 0 ∧ vs.getD j 0 ≤ hiN ln j) : OKT (upU u ln vs) := by
  obtain ⟨⟨b0, b1, b2, b3, b4, b5⟩, o1, o2⟩ := ho
  by_cases c4 : ln < 4
  · have v0 := hv 0 (by unfold nuN; rw [if_pos c4]; omega)
    have v1 := hv 1 (by unfold nuN; rw [if_pos c4]; omega)
    have hb : ∀ ln, ln < 4 → hiN ln 0 = 60 ∧ hiN ln 1 = 99 := by decide
    obtain ⟨hb0, hb1⟩ := hb ln c4
    have hn := h0 c4
    rw [up_step c4]
    have e : ∀ j, j ≠ 0 → j ≠ 10 + u 0 → j ≠ 20 + u 0 → j ≠ 30 + u 0 → uv (uv (uv (uv u (10 + u 0) ln) (20 + u 0) (vs.getD 0 0)) (30 + u 0) (vs.getD 1 0)) 0 (u 0 + 1) j = u j := fun j q0 q1 q2 q3 => by rw [uv_n q0, uv_n q3, uv_n q2, uv_n q1]
    refine ⟨⟨by rw [uv_s]; omega, by rw [e 1 (by omega) (by omega) (by omega) (by omega)]; exact b1, by rw [e 2 (by omega) (by omega) (by omega) (by omega)]; exact b2, by rw [e 3 (by omega) (by omega) (by omega) (by omega)]; exact b3, by rw [e 3 (by omega) (by omega) (by omega) (by omega)]; exact b4, by rw [e 4 (by omega) (by omega) (by omega) (by omega)]; exact b5⟩, fun i hi => ?_, fun p hp => ?_⟩
    · rw [uv_s] at hi
      by_cases ei : i = u 0
      · subst ei
        rw [uv_n (show 10 + u 0 ≠ 0 by omega), uv_n (show 10 + u 0 ≠ 30 + u 0 by omega), uv_n (show 10 + u 0 ≠ 20 + u 0 by omega), uv_s, uv_n (show 20 + u 0 ≠ 0 by omega), uv_n (show 20 + u 0 ≠ 30 + u 0 by omega), uv_s, uv_n (show 30 + u 0 ≠ 0 by omega), uv_s]
        omega
      · rw [e (10 + i) (by omega) (by omega) (by omega) (by omega), e (20 + i) (by omega) (by omega) (by omega) (by omega), e (30 + i) (by omega) (by omega) (by omega) (by omega)]
        exact o1 i (by omega)
    · rw [e 1 (by omega) (by omega) (by omega) (by omega)] at hp
      rw [e (40 + p) (by omega) (by omega) (by omega) (by omega), e (44 + p) (by omega) (by omega) (by omega) (by omega), e (48 + p) (by omega) (by omega) (by omega) (by omega), e (52 + p) (by omega) (by omega) (by omega) (by omega)]
      exact o2 p hp
  · by_cases c5 : ln = 4
    · subst c5
      have v0 := hv 0 (by decide)
      have v1 := hv 1 (by decide)
      have v2 := hv 2 (by decide)
      have v3 := hv 3 (by decide)
      have hb : loN 4 0 = 1 ∧ hiN 4 0 = 4 ∧ hiN 4 1 = 3 ∧ hiN 4 2 = 9 ∧ hiN 4 3 = 9 := by decide
      have hn := h1 rfl
      rw [up_lod]
      have e : ∀ j, j ≠ 1 → j ≠ 40 + u 1 → j ≠ 44 + u 1 → j ≠ 48 + u 1 → j ≠ 52 + u 1 → uv (uv (uv (uv (uv u (40 + u 1) (vs.getD 0 0)) (44 + u 1) (vs.getD 1 0)) (48 + u 1) (vs.getD 2 0)) (52 + u 1) (vs.getD 3 0)) 1 (u 1 + 1) j = u j := fun j q0 q1 q2 q3 q4 => by rw [uv_n q0, uv_n q4, uv_n q3, uv_n q2, uv_n q1]
      have e0 := e 0 (by omega) (by omega) (by omega) (by omega) (by omega)
      refine ⟨⟨by rw [e0]; exact b0, by rw [uv_s]; omega, by rw [e 2 (by omega) (by omega) (by omega) (by omega) (by omega)]; exact b2, by rw [e 3 (by omega) (by omega) (by omega) (by omega) (by omega)]; exact b3, by rw [e 3 (by omega) (by omega) (by omega) (by omega) (by omega)]; exact b4, by rw [e 4 (by omega) (by omega) (by omega) (by omega) (by omega)]; exact b5⟩, fun i hi => ?_, fun p hp => ?_⟩
      · rw [e0] at hi
        rw [e (10 + i) (by omega) (by omega) (by omega) (by omega) (by omega), e (20 + i) (by omega) (by omega) (by omega) (by omega) (by omega), e (30 + i) (by omega) (by omega) (by omega) (by omega) (by omega)]
        exact o1 i hi
      · rw [uv_s] at hp
        by_cases ep : p = u 1
        · subst ep
          rw [uv_n (show 40 + u 1 ≠ 1 by omega), uv_n (show 40 + u 1 ≠ 52 + u 1 by omega), uv_n (show 40 + u 1 ≠ 48 + u 1 by omega), uv_n (show 40 + u 1 ≠ 44 + u 1 by omega), uv_s, uv_n (show 44 + u 1 ≠ 1 by omega), uv_n (show 44 + u 1 ≠ 52 + u 1 by omega), uv_n (show 44 + u 1 ≠ 48 + u 1 by omega), uv_s, uv_n (show 48 + u 1 ≠ 1 by omega), uv_n (show 48 + u 1 ≠ 52 + u 1 by omega), uv_s, uv_n (show 52 + u 1 ≠ 1 by omega), uv_s]
          omega
        · rw [e (40 + p) (by omega) (by omega) (by omega) (by omega) (by omega), e (44 + p) (by omega) (by omega) (by omega) (by omega) (by omega), e (48 + p) (by omega) (by omega) (by omega) (by omega) (by omega), e (52 + p) (by omega) (by omega) (by omega) (by omega) (by omega)]
          exact o2 p (by omega)
    · by_cases c6 : ln = 5
      · subst c6
        have v0 := hv 0 (by decide)
        have hb : hiN 5 0 = 3 := by decide
        have e : ∀ j, j ≠ 2 → uv u 2 (vs.getD 0 0) j = u j := fun j q => uv_n q
        show OKT (uv u 2 (vs.getD 0 0))
        refine ⟨⟨by rw [e 0 (by omega)]; exact b0, by rw [e 1 (by omega)]; exact b1, by rw [uv_s]; omega, by rw [e 3 (by omega)]; exact b3, by rw [e 3 (by omega)]; exact b4, by rw [e 4 (by omega)]; exact b5⟩, fun i hi => ?_, fun p hp => ?_⟩
        · rw [e 0 (by omega)] at hi
          rw [e (10 + i) (by omega), e (20 + i) (by omega), e (30 + i) (by omega)]
          exact o1 i hi
        · rw [e 1 (by omega)] at hp
          rw [e (40 + p) (by omega), e (44 + p) (by omega), e (48 + p) (by omega), e (52 + p) (by omega)]
          exact o2 p hp
      · have c7 : ln = 6 := by omega
        subst c7
        have v0 := hv 0 (by decide)
        have hb : loN 6 0 = 1 ∧ hiN 6 0 = 99 := by decide
        have e : ∀ j, j ≠ 3 → uv u 3 (vs.getD 0 0) j = u j := fun j q => uv_n q
        show OKT (uv u 3 (vs.getD 0 0))
        refine ⟨⟨by rw [e 0 (by omega)]; exact b0, by rw [e 1 (by omega)]; exact b1, by rw [e 2 (by omega)]; exact b2, by rw [uv_s]; omega, by rw [uv_s]; omega, by rw [e 4 (by omega)]; exact b5⟩, fun i hi => ?_, fun p hp => ?_⟩
        · rw [e 0 (by omega)] at hi
          rw [e (10 + i) (by omega), e (20 + i) (by omega), e (30 + i) (by omega)]
          exact o1 i hi
        · rw [e 1 (by omega)] at hp
          rw [e (40 + p) (by omega), e (44 + p) (by omega), e (48 + p) (by omega), e (52 + p) (by omega)]
          exact o2 p hp
def bF (g : Bool) : Int32 := if g then 1 else 0
/-- nothing but the house in the making, and the flags -/
def T7 (m m' : mMem) : Prop := (∀ z, z ∉ [8, 9, 10, 11, 12, 13, 14, 15, 49] → m'.1 z = m.1 z) ∧ ∀ j, j ≠ 8 → j ≠ 9 → m'.1 49 j = m.1 49 j
theorem tell7 {m : mMem} {u : Nat → Nat} {ln : Nat} {vs : List Nat} {g h : Bool} (hC : HC m 8 u) (ho : OKT u) (hln : ln < 7) (h0 : ln < 4 → u 0 < 10) (h1 : ln = 4 → u 1 < 4) (hv : ∀ j, j < nuN ln → m.1 51 j = nI (vs.getD j 0)) (hg : m.1 49 8 = bF g) (hh : m.1 49 9 = bF h) : ∃ m', fX6_tellLine 8 (nI ln) m = some (none, m') ∧ HC m' 8 (upU u ln vs) ∧ T7 m m' ∧ m'.1 49 8 = bF (g || ln == 5) ∧ m'.1 49 9 = bF (h || ln == 6) := by
  obtain ⟨⟨b0, b1, b2, b3, b4, b5⟩, o1, o2⟩ := ho
  have ga4 : ∀ k, k < 4 → ∀ r : mR, ga (nI k) 4 r = r := fun k hk r => ga_nI hk (by decide)
  have G0 : ∀ r : mR, ga (0 : Int32) 4 r = r := ga4 0 (by decide)
  have G1 : ∀ r : mR, ga (1 : Int32) 4 r = r := ga4 1 (by decide)
  have G2 : ∀ r : mR, ga (2 : Int32) 4 r = r := ga4 2 (by decide)
  have G3 : ∀ r : mR, ga (3 : Int32) 4 r = r := ga4 3 (by decide)
  have Z0 : ((0 : Int32)).toNatClampNeg = 0 := rfl
  have Z1 : ((1 : Int32)).toNatClampNeg = 1 := rfl
  have Z2 : ((2 : Int32)).toNatClampNeg = 2 := rfl
  have Z3 : ((3 : Int32)).toNatClampNeg = 3 := rfl
  have nln : ∀ k, k < 2 ^ 31 → (nI ln = nI k ↔ ln = k) := fun k hk => nI_eq (by omega) hk
  unfold fX6_tellLine
  rw [G0, G1, G2, G3, G0, G0, G0, G1, Z0, Z1, Z2, Z3, show (4 : Int32) = nI 4 from rfl, show (5 : Int32) = nI 5 from rfl, show (6 : Int32) = nI 6 from rfl]
  by_cases c4 : ln = 4
  · subst c4
    have hn := h1 rfl
    rw [if_pos rfl, hv 0 (by decide), hv 1 (by decide), hv 2 (by decide), hv 3 (by decide)]
    unfold fX4_addLodger
    dsimp only [lt]
    rw [hC.1.2.1, if_neg (show ¬ (4 : Int32) ≤ nI (u 1) from nI_ge (b := 4) hn (by decide)), nI_tn (by omega)]
    have q1 : ∀ (m1 : mMem) (z : Nat) (x : Int32), m1.1 8 1 = nI (u 1) → z ≠ 8 → (si m1 z (u 1) x).1 8 1 = nI (u 1) := fun m1 z x e hz => by rw [si_c _ (Ne.symm hz)]; exact e
    have e1 := hC.1.2.1
    have e2 := q1 m (8 + 4) (nI (vs.getD 0 0)) e1 (by decide)
    have e3 := q1 _ (8 + 5) (nI (vs.getD 1 0)) e2 (by decide)
    have e4 := q1 _ (8 + 6) (nI (vs.getD 2 0)) e3 (by decide)
    have e5 := q1 _ (8 + 7) (nI (vs.getD 3 0)) e4 (by decide)
    rw [e2, nI_tn (n := u 1) (by omega), e3, nI_tn (n := u 1) (by omega), e4, nI_tn (n := u 1) (by omega), e5, ga_nI hn (by decide), ga_nI hn (by decide), ga_nI hn (by decide), ga_nI hn (by decide), show nI (u 1) + 1 = nI (u 1 + 1) from nI_1 _]
    dsimp only [bV]
    rw [up_lod]
    refine ⟨_, rfl, ⟨⟨?_, ?_, ?_, ?_, ?_⟩, fun i hi => ⟨?_, ?_, ?_⟩, fun p hp => ?_⟩, ⟨fun z hz => ?_, fun j _ _ => ?_⟩, ?_, ?_⟩
    · rw [si_ne _ _ (Or.inr (by decide)), si_c _ (by decide), si_c _ (by decide), si_c _ (by decide), si_c _ (by decide), uv_n (by omega), uv_n (by omega), uv_n (by omega), uv_n (by omega), uv_n (by omega)]; exact hC.1.1
    · rw [si_same, uv_s]
    · rw [si_ne _ _ (Or.inr (by decide)), si_c _ (by decide), si_c _ (by decide), si_c _ (by decide), si_c _ (by decide), uv_n (by omega), uv_n (by omega), uv_n (by omega), uv_n (by omega), uv_n (by omega)]; exact hC.1.2.2.1
    · rw [si_ne _ _ (Or.inr (by decide)), si_c _ (by decide), si_c _ (by decide), si_c _ (by decide), si_c _ (by decide), uv_n (by omega), uv_n (by omega), uv_n (by omega), uv_n (by omega), uv_n (by omega)]; exact hC.1.2.2.2.1
    · rw [si_ne _ _ (Or.inr (by decide)), si_c _ (by decide), si_c _ (by decide), si_c _ (by decide), si_c _ (by decide), uv_n (by omega), uv_n (by omega), uv_n (by omega), uv_n (by omega), uv_n (by omega)]; exact hC.1.2.2.2.2
    · rw [uv_n (by omega), uv_n (by omega), uv_n (by omega), uv_n (by omega), uv_n (by omega)] at hi
      rw [si_c _ (by decide), si_c _ (by decide), si_c _ (by decide), si_c _ (by decide), si_c _ (by decide), uv_n (by omega), uv_n (by omega), uv_n (by omega), uv_n (by omega), uv_n (by omega)]; exact (hC.2.1 i hi).1
    · rw [uv_n (by omega), uv_n (by omega), uv_n (by omega), uv_n (by omega), uv_n (by omega)] at hi
      rw [si_c _ (by decide), si_c _ (by decide), si_c _ (by decide), si_c _ (by decide), si_c _ (by decide), uv_n (by omega), uv_n (by omega), uv_n (by omega), uv_n (by omega), uv_n (by omega)]; exact (hC.2.1 i hi).2.1
    · rw [uv_n (by omega), uv_n (by omega), uv_n (by omega), uv_n (by omega), uv_n (by omega)] at hi
      rw [si_c _ (by decide), si_c _ (by decide), si_c _ (by decide), si_c _ (by decide), si_c _ (by decide), uv_n (by omega), uv_n (by omega), uv_n (by omega), uv_n (by omega), uv_n (by omega)]; exact (hC.2.1 i hi).2.2
    · rw [uv_s] at hp
      by_cases ep : p = u 1
      · subst ep
        refine ⟨?_, ?_, ?_, ?_⟩
        · rw [si_c _ (by decide), si_c _ (by decide), si_c _ (by decide), si_c _ (by decide), si_same, uv_n (by omega), uv_n (by omega), uv_n (by omega), uv_n (by omega), uv_s]
        · rw [si_c _ (by decide), si_c _ (by decide), si_c _ (by decide), si_same, uv_n (by omega), uv_n (by omega), uv_n (by omega), uv_s]
        · rw [si_c _ (by decide), si_c _ (by decide), si_same, uv_n (by omega), uv_n (by omega), uv_s]
        · rw [si_c _ (by decide), si_same, uv_n (by omega), uv_s]
      · have hq := hC.2.2 p (by omega)
        refine ⟨?_, ?_, ?_, ?_⟩
        · rw [si_c _ (by decide), si_c _ (by decide), si_c _ (by decide), si_c _ (by decide), si_ne _ _ (Or.inr ep), uv_n (by omega), uv_n (by omega), uv_n (by omega), uv_n (by omega), uv_n (by omega)]; exact hq.1
        · rw [si_c _ (by decide), si_c _ (by decide), si_c _ (by decide), si_ne _ _ (Or.inr ep), si_c _ (by decide), uv_n (by omega), uv_n (by omega), uv_n (by omega), uv_n (by omega), uv_n (by omega)]; exact hq.2.1
        · rw [si_c _ (by decide), si_c _ (by decide), si_ne _ _ (Or.inr ep), si_c _ (by decide), si_c _ (by decide), uv_n (by omega), uv_n (by omega), uv_n (by omega), uv_n (by omega), uv_n (by omega)]; exact hq.2.2.1
        · rw [si_c _ (by decide), si_ne _ _ (Or.inr ep), si_c _ (by decide), si_c _ (by decide), si_c _ (by decide), uv_n (by omega), uv_n (by omega), uv_n (by omega), uv_n (by omega), uv_n (by omega)]; exact hq.2.2.2
    · simp at hz
      rw [si_c _ (by omega), si_c _ (by omega), si_c _ (by omega), si_c _ (by omega), si_c _ (by omega)]
    · rw [si_c _ (by decide), si_c _ (by decide), si_c _ (by decide), si_c _ (by decide), si_c _ (by decide)]
    · rw [si_c _ (by decide), si_c _ (by decide), si_c _ (by decide), si_c _ (by decide), si_c _ (by decide), hg]
      simp
    · rw [si_c _ (by decide), si_c _ (by decide), si_c _ (by decide), si_c _ (by decide), si_c _ (by decide), hh]
      simp
  · rw [if_neg (fun z => c4 ((nln 4 (by decide)).mp z))]
    by_cases c5 : ln = 5
    · subst c5
      rw [if_pos rfl, hv 0 (by decide)]
      dsimp only [lt]
      refine ⟨_, rfl, HC_fr (HC_set (b := 8) (c := 0) (k := 2) (j := 2) (x := vs.getD 0 0) hC b0 b1 (by unfold RC; omega)) (fun z _ hz => si_c _ (by omega)), ⟨fun z hz => ?_, fun j h1 h2 => ?_⟩, ?_, ?_⟩
      · simp at hz
        rw [si_c _ (by omega), si_c _ (by omega)]
      · rw [si_ne _ _ (Or.inr h1), si_c _ (by decide)]
      · rw [si_same]
        simp [bF]
      · rw [si_ne _ _ (Or.inr (by decide)), si_c _ (by decide), hh]
        simp
    · rw [if_neg (fun z => c5 ((nln 5 (by decide)).mp z))]
      by_cases c6 : ln = 6
      · subst c6
        rw [if_pos rfl, hv 0 (by decide)]
        dsimp only [lt]
        refine ⟨_, rfl, HC_fr (HC_set (b := 8) (c := 0) (k := 3) (j := 3) (x := vs.getD 0 0) hC b0 b1 (by unfold RC; omega)) (fun z _ hz => si_c _ (by omega)), ⟨fun z hz => ?_, fun j h1 h2 => ?_⟩, ?_, ?_⟩
        · simp at hz
          rw [si_c _ (by omega), si_c _ (by omega)]
        · rw [si_ne _ _ (Or.inr h2), si_c _ (by decide)]
        · rw [si_ne _ _ (Or.inr (by decide)), si_c _ (by decide), hg]
          simp
        · rw [si_same]
          simp [bF]
      · have c3 : ln < 4 := by omega
        have hn := h0 c3
        rw [if_neg (fun z => c6 ((nln 6 (by decide)).mp z)), hv 0 (by unfold nuN; rw [if_pos c3]; omega), hv 1 (by unfold nuN; rw [if_pos c3]; omega)]
        unfold fX4_addStep
        dsimp only [lt]
        rw [hC.1.1, if_neg (show ¬ (10 : Int32) ≤ nI (u 0) from nI_ge (b := 10) hn (by decide)), nI_tn (by omega)]
        have q1 : ∀ (m1 : mMem) (z : Nat) (x : Int32), m1.1 8 0 = nI (u 0) → z ≠ 8 → (si m1 z (u 0) x).1 8 0 = nI (u 0) := fun m1 z x e hz => by rw [si_c _ (Ne.symm hz)]; exact e
        have e1 := hC.1.1
        have e2 := q1 m (8 + 1) (nI ln) e1 (by decide)
        have e3 := q1 _ (8 + 2) (nI (vs.getD 0 0)) e2 (by decide)
        have e4 := q1 _ (8 + 3) (nI (vs.getD 1 0)) e3 (by decide)
        rw [e2, nI_tn (n := u 0) (by omega), e3, nI_tn (n := u 0) (by omega), e4, ga_nI hn (by decide), ga_nI hn (by decide), ga_nI hn (by decide), show nI (u 0) + 1 = nI (u 0 + 1) from nI_1 _]
        dsimp only [bV]
        rw [up_step c3]
        refine ⟨_, rfl, ⟨⟨?_, ?_, ?_, ?_, ?_⟩, fun i hi => ?_, fun p hp => ⟨?_, ?_, ?_, ?_⟩⟩, ⟨fun z hz => ?_, fun j _ _ => ?_⟩, ?_, ?_⟩
        · rw [si_same, uv_s]
        · rw [si_ne _ _ (Or.inr (by decide)), si_c _ (by decide), si_c _ (by decide), si_c _ (by decide), uv_n (by omega), uv_n (by omega), uv_n (by omega), uv_n (by omega)]; exact hC.1.2.1
        · rw [si_ne _ _ (Or.inr (by decide)), si_c _ (by decide), si_c _ (by decide), si_c _ (by decide), uv_n (by omega), uv_n (by omega), uv_n (by omega), uv_n (by omega)]; exact hC.1.2.2.1
        · rw [si_ne _ _ (Or.inr (by decide)), si_c _ (by decide), si_c _ (by decide), si_c _ (by decide), uv_n (by omega), uv_n (by omega), uv_n (by omega), uv_n (by omega)]; exact hC.1.2.2.2.1
        · rw [si_ne _ _ (Or.inr (by decide)), si_c _ (by decide), si_c _ (by decide), si_c _ (by decide), uv_n (by omega), uv_n (by omega), uv_n (by omega), uv_n (by omega)]; exact hC.1.2.2.2.2
        · rw [uv_s] at hi
          by_cases ei : i = u 0
          · subst ei
            refine ⟨?_, ?_, ?_⟩
            · rw [si_c _ (by decide), si_c _ (by decide), si_c _ (by decide), si_same, uv_n (by omega), uv_n (by omega), uv_n (by omega), uv_s]
            · rw [si_c _ (by decide), si_c _ (by decide), si_same, uv_n (by omega), uv_n (by omega), uv_s]
            · rw [si_c _ (by decide), si_same, uv_n (by omega), uv_s]
          · have hq := hC.2.1 i (by omega)
            refine ⟨?_, ?_, ?_⟩
            · rw [si_c _ (by decide), si_c _ (by decide), si_c _ (by decide), si_ne _ _ (Or.inr ei), uv_n (by omega), uv_n (by omega), uv_n (by omega), uv_n (by omega)]; exact hq.1
            · rw [si_c _ (by decide), si_c _ (by decide), si_ne _ _ (Or.inr ei), si_c _ (by decide), uv_n (by omega), uv_n (by omega), uv_n (by omega), uv_n (by omega)]; exact hq.2.1
            · rw [si_c _ (by decide), si_ne _ _ (Or.inr ei), si_c _ (by decide), si_c _ (by decide), uv_n (by omega), uv_n (by omega), uv_n (by omega), uv_n (by omega)]; exact hq.2.2
        · rw [uv_n (by omega), uv_n (by omega), uv_n (by omega), uv_n (by omega)] at hp
          rw [si_c _ (by decide), si_c _ (by decide), si_c _ (by decide), si_c _ (by decide), uv_n (by omega), uv_n (by omega), uv_n (by omega), uv_n (by omega)]; exact (hC.2.2 p hp).1
        · rw [uv_n (by omega), uv_n (by omega), uv_n (by omega), uv_n (by omega)] at hp
          rw [si_c _ (by decide), si_c _ (by decide), si_c _ (by decide), si_c _ (by decide), uv_n (by omega), uv_n (by omega), uv_n (by omega), uv_n (by omega)]; exact (hC.2.2 p hp).2.1
        · rw [uv_n (by omega), uv_n (by omega), uv_n (by omega), uv_n (by omega)] at hp
          rw [si_c _ (by decide), si_c _ (by decide), si_c _ (by decide), si_c _ (by decide), uv_n (by omega), uv_n (by omega), uv_n (by omega), uv_n (by omega)]; exact (hC.2.2 p hp).2.2.1
        · rw [uv_n (by omega), uv_n (by omega), uv_n (by omega), uv_n (by omega)] at hp
          rw [si_c _ (by decide), si_c _ (by decide), si_c _ (by decide), si_c _ (by decide), uv_n (by omega), uv_n (by omega), uv_n (by omega), uv_n (by omega)]; exact (hC.2.2 p hp).2.2.2
        · simp at hz
          rw [si_c _ (by omega), si_c _ (by omega), si_c _ (by omega), si_c _ (by omega)]
        · rw [si_c _ (by decide), si_c _ (by decide), si_c _ (by decide), si_c _ (by decide)]
        · rw [si_c _ (by decide), si_c _ (by decide), si_c _ (by decide), si_c _ (by decide), hg]
          have : (ln == 5) = false := by simpa using c5
          rw [this, Bool.or_false]
        · rw [si_c _ (by decide), si_c _ (by decide), si_c _ (by decide), si_c _ (by decide), hh]
          have : (ln == 6) = false := by simpa using c6
          rw [this, Bool.or_false]
