/-! PURE FACTS: the reference reads the tape, II -/
theorem mf_cmp : ∀ f, f ≤ 9 → ∀ k, k ≤ 10 → (nI f ≤ nI k - 1 ↔ f + 1 ≤ k) := by decide +kernel
theorem rm_lod {m : mMem} {b : Nat → Nat} {L pos : Nat} {u : Nat → Nat} (hL : L ≤ 160) (hp : pos ≤ L) (hT : TB8 m b L) (hN : NS8 m b L (0, 0, pos)) (hS : HS8 m u) (ho : OKT u) (hn : u 1 < 4) : ∃ m', fX8_readMore (nI 4) m = some (none, m') ∧ K8 m m' ∧ m'.1 81 11 = m.1 81 11 ∧ NS8 m' b L (nbR b L 4 4 0 (0, 0, pos)).1 ∧ ((nbR b L 4 4 0 (0, 0, pos)).1.1 = 0 → HS8 m' (upU u 4 (nbR b L 4 4 0 (0, 0, pos)).2)) := by
  obtain ⟨-, l1, l2, l3, l4, l5, l6, l7, l8, -⟩ := lohi
  obtain ⟨⟨s9, s10, s12, s32, s33, s34⟩, si1, sp1⟩ := hS
  obtain ⟨m1, e1, x1, N1⟩ := num8 (lo := loN 4 0) (hi := hiN 4 0) (S := (0, 0, pos)) hL hp (by omega) (by omega) hT hN
  obtain ⟨a9, a10, a12, a11, a85, a86, a87⟩ := slo8 x1
  have hin := nbR_in (b := b) (L := L) (ln := 4) 4 0 (0, 0, pos)
  have hnr : nbR b L 4 4 0 (0, 0, pos) = ((nb1 b L (loN 4 3) (hiN 4 3) (nb1 b L (loN 4 2) (hiN 4 2) (nb1 b L (loN 4 1) (hiN 4 1) (nb1 b L (loN 4 0) (hiN 4 0) (0, 0, pos)).1).1).1).1, [(nb1 b L (loN 4 0) (hiN 4 0) (0, 0, pos)).2, (nb1 b L (loN 4 1) (hiN 4 1) (nb1 b L (loN 4 0) (hiN 4 0) (0, 0, pos)).1).2, (nb1 b L (loN 4 2) (hiN 4 2) (nb1 b L (loN 4 1) (hiN 4 1) (nb1 b L (loN 4 0) (hiN 4 0) (0, 0, pos)).1).1).2, (nb1 b L (loN 4 3) (hiN 4 3) (nb1 b L (loN 4 2) (hiN 4 2) (nb1 b L (loN 4 1) (hiN 4 1) (nb1 b L (loN 4 0) (hiN 4 0) (0, 0, pos)).1).1).1).2]) := rfl
  rw [hnr] at hin ⊢
  have hp1 := (nb1_pos (b := b) (lo := loN 4 0) (hi := hiN 4 0) (S := (0, 0, pos)) hp).1
  generalize hQ1 : nb1 b L (loN 4 0) (hiN 4 0) (0, 0, pos) = Q1 at *
  obtain ⟨m2, hm2⟩ : ∃ m2, m2 = si m1 87 (u 1) (nI Q1.2) := ⟨_, rfl⟩
  have k2 : K8 m m2 := by rw [hm2]; exact (K8_sx x1 (by decide)).tr (K8_s (by omega))
  obtain ⟨m3, e3, x3, N3⟩ := num8 (lo := loN 4 1) (hi := hiN 4 1) (S := Q1.1) hL hp1 (by omega) (by omega) (TB8_k hT k2) (NS8_fr N1 (fun j _ => by rw [hm2, si_c _ (by decide)]))
  obtain ⟨b9, b10, b12, b11, b85, b86, b87⟩ := slo8 x3
  have hp2 := (nb1_pos (b := b) (lo := loN 4 1) (hi := hiN 4 1) hp1).1
  generalize hQ2 : nb1 b L (loN 4 1) (hiN 4 1) Q1.1 = Q2 at *
  obtain ⟨m4, hm4⟩ : ∃ m4, m4 = si m3 85 (20 + 3 * u 1) (nI Q2.2) := ⟨_, rfl⟩
  have k4 : K8 m m4 := by rw [hm4]; exact (k2.tr (K8_sx x3 (by decide))).tr (K8_s (by omega))
  obtain ⟨m5, e5, x5, N5⟩ := num8 (lo := loN 4 2) (hi := hiN 4 2) (S := Q2.1) hL hp2 (by omega) (by omega) (TB8_k hT k4) (NS8_fr N3 (fun j _ => by rw [hm4, si_c _ (by decide)]))
  obtain ⟨c9, c10, c12, c11, c85, c86, c87⟩ := slo8 x5
  have hp3 := (nb1_pos (b := b) (lo := loN 4 2) (hi := hiN 4 2) hp2).1
  generalize hQ3 : nb1 b L (loN 4 2) (hiN 4 2) Q2.1 = Q3 at *
  obtain ⟨m6, hm6⟩ : ∃ m6, m6 = si m5 85 (20 + 3 * u 1 + 1) (nI Q3.2) := ⟨_, rfl⟩
  have k6 : K8 m m6 := by rw [hm6]; exact (k4.tr (K8_sx x5 (by decide))).tr (K8_s (by omega))
  obtain ⟨m7, e7, x7, N7'⟩ := num8 (lo := loN 4 3) (hi := hiN 4 3) (S := Q3.1) hL hp3 (by omega) (by omega) (TB8_k hT k6) (NS8_fr N5 (fun j _ => by rw [hm6, si_c _ (by decide)]))
  obtain ⟨d9, d10, d12, d11, d85, d86, d87⟩ := slo8 x7
  generalize hQ4 : nb1 b L (loN 4 3) (hiN 4 3) Q3.1 = Q4 at *
  obtain ⟨m8, hm8⟩ : ∃ m8, m8 = si m7 85 (20 + 3 * u 1 + 2) (nI Q4.2) := ⟨_, rfl⟩
  have k8 : K8 m m8 := by rw [hm8]; exact (k6.tr (K8_sx x7 (by decide))).tr (K8_s (by omega))
  have q10 : m8.1 81 10 = nI (u 1) := by rw [hm8, si_c _ (by decide), d10, hm6, si_c _ (by decide), c10, hm4, si_c _ (by decide), b10, hm2, si_c _ (by decide), a10]; exact s10
  have q12 : m8.1 81 12 = nI (mfS u (u 1)) - 1 := by rw [hm8, si_c _ (by decide), d12, hm6, si_c _ (by decide), c12, hm4, si_c _ (by decide), b12, hm2, si_c _ (by decide), a12]; exact s12
  have q9 : m8.1 81 9 = nI (u 0) := by rw [hm8, si_c _ (by decide), d9, hm6, si_c _ (by decide), c9, hm4, si_c _ (by decide), b9, hm2, si_c _ (by decide), a9]; exact s9
  have q11 : m8.1 81 11 = m.1 81 11 := by rw [hm8, si_c _ (by decide), d11, hm6, si_c _ (by decide), c11, hm4, si_c _ (by decide), b11, hm2, si_c _ (by decide), a11]
  have qf : m8.1 85 (20 + 3 * u 1 + 2) = nI Q4.2 := by rw [hm8, si_same]
  obtain ⟨nf, hnf⟩ : ∃ nf : Int32, nf = if nI Q4.2 ≤ m8.1 81 12 then m8.1 81 12 else nI Q4.2 := ⟨_, rfl⟩
  obtain ⟨m9, hm9⟩ : ∃ m9, m9 = si (si m8 81 12 nf) 81 10 (nI (u 1 + 1)) := ⟨_, rfl⟩
  have x9 : SWx 81 [10, 12] m8 m9 := by rw [hm9]; exact (SWx_si (by simp)).tr (SWx_si (by simp))
  refine ⟨m9, ?_, k8.tr (K8_sx x9 (by decide)), by rw [x9.2 11 (by decide)]; exact q11, NS8_fr N7' (fun j hj => ?_), fun hz => ?_⟩
  · have e1' : fX8_number (1 : Int32) (4 : Int32) m = some (some (.int (nI Q1.2)), m1) := by rw [l1, l2] at e1; exact e1
    have e3' : fX8_number (0 : Int32) (3 : Int32) m2 = some (some (.int (nI Q2.2)), m3) := by rw [l3, l4] at e3; exact e3
    have e5' : fX8_number (0 : Int32) (9 : Int32) m4 = some (some (.int (nI Q3.2)), m5) := by rw [l5, l6] at e5; exact e5
    have e7' : fX8_number (0 : Int32) (9 : Int32) m6 = some (some (.int (nI Q4.2)), m7) := by rw [l7, l8] at e7; exact e7
    unfold fX8_readMore
    rw [if_pos (show (3 : Int32) < nI 4 by decide), if_pos (show nI 4 = (4 : Int32) from rfl)]
    dsimp only [li, lt]
    rw [e1']
    dsimp only [bI]
    rw [s10, i3, ga_nI hn (by decide), nI_tn (by omega), ← hm2, e3']
    dsimp only
    rw [ga_nI (i := 20 + 3 * u 1) (by omega) (by decide), nI_tn (n := 20 + 3 * u 1) (by omega), ← hm4, e5']
    dsimp only
    rw [show nI (20 + 3 * u 1) + (1 : Int32) = nI (20 + 3 * u 1 + 1) from nI_1 _, show nI (20 + 3 * u 1) + (2 : Int32) = nI (20 + 3 * u 1 + 2) from nI_add _ 2, ga_nI (i := 20 + 3 * u 1 + 1) (by omega) (by decide), nI_tn (n := 20 + 3 * u 1 + 1) (by omega), ← hm6, e7']
    dsimp only
    rw [ga_nI (i := 20 + 3 * u 1 + 2) (by omega) (by decide), ga_nI (i := 20 + 3 * u 1 + 2) (by omega) (by decide), ga_nI (i := 20 + 3 * u 1 + 2) (by omega) (by decide), nI_tn (n := 20 + 3 * u 1 + 2) (by omega), ← hm8, qf, si_ne _ _ (Or.inr (show (10 : Nat) ≠ 12 by decide)), si_ne _ _ (Or.inr (show (10 : Nat) ≠ 12 by decide)), q10, show nI (u 1) + 1 = nI (u 1 + 1) from nI_1 _, hm9, hnf]
    by_cases w : nI Q4.2 ≤ m8.1 81 12
    · rw [if_pos w, if_pos w]
    · rw [if_neg w, if_neg w]
  · have j10 : j ≠ 10 ∧ j ≠ 12 := ⟨fun e => by subst e; exact absurd hj (by decide), fun e => by subst e; exact absurd hj (by decide)⟩
    rw [hm9, si_ne _ _ (Or.inr j10.1), si_ne _ _ (Or.inr j10.2), hm8, si_c _ (by decide)]
  · obtain ⟨-, hv⟩ := hin hz
    have v3 : Q4.2 ≤ 9 := by
      have := (hv 3 (by decide)).2
      have h2 : [Q1.2, Q2.2, Q3.2, Q4.2].getD 3 0 = Q4.2 := rfl
      rw [h2] at this
      rw [show (0 : Nat) + 3 = 3 from rfl, l8] at this
      exact this
    have hb0 := ho.1.1
    have hmfl : mfS u (u 1) ≤ 10 := mf_le (u 1) (fun p hp' => (ho.2.2 p hp').2.2.2.2)
    have hnf2 : nf = nI (max (mfS u (u 1)) (Q4.2 + 1)) - 1 := by
      rw [hnf, q12]
      have hc := mf_cmp Q4.2 v3 (mfS u (u 1)) hmfl
      by_cases w : Q4.2 + 1 ≤ mfS u (u 1)
      · rw [if_pos (hc.mpr w), Nat.max_eq_left w]
      · rw [if_neg (fun z => w (hc.mp z)), Nat.max_eq_right (by omega), sub1]
    have hget : [Q1.2, Q2.2, Q3.2, Q4.2].getD 0 0 = Q1.2 ∧ [Q1.2, Q2.2, Q3.2, Q4.2].getD 1 0 = Q2.2 ∧ [Q1.2, Q2.2, Q3.2, Q4.2].getD 2 0 = Q3.2 ∧ [Q1.2, Q2.2, Q3.2, Q4.2].getD 3 0 = Q4.2 := ⟨rfl, rfl, rfl, rfl⟩
    rw [up_lod, hget.1, hget.2.1, hget.2.2.1, hget.2.2.2]
    have e : ∀ j, j ≠ 1 → j ≠ 40 + u 1 → j ≠ 44 + u 1 → j ≠ 48 + u 1 → j ≠ 52 + u 1 → uv (uv (uv (uv (uv u (40 + u 1) Q1.2) (44 + u 1) Q2.2) (48 + u 1) Q3.2) (52 + u 1) Q4.2) 1 (u 1 + 1) j = u j := fun j q0 q1 q2 q3 q4 => by rw [uv_n q0, uv_n q4, uv_n q3, uv_n q2, uv_n q1]
    have e52 : uv (uv (uv (uv (uv u (40 + u 1) Q1.2) (44 + u 1) Q2.2) (48 + u 1) Q3.2) (52 + u 1) Q4.2) 1 (u 1 + 1) (52 + u 1) = Q4.2 := by rw [uv_n (by omega), uv_s]
    have g85 : ∀ q, q < 20 + 3 * u 1 ∨ 20 + 3 * u 1 + 2 < q → m9.1 85 q = m.1 85 q := fun q hq => by
      rw [x9.1 85 (by decide), hm8, si_ne _ _ (Or.inr (by omega)), d85, hm6, si_ne _ _ (Or.inr (by omega)), c85, hm4, si_ne _ _ (Or.inr (by omega)), b85, hm2, si_c _ (by decide), a85]
    have g86 : m9.1 86 = m.1 86 := by rw [x9.1 86 (by decide), hm8, si_c _ (by decide), d86, hm6, si_c _ (by decide), c86, hm4, si_c _ (by decide), b86, hm2, si_c _ (by decide), a86]
    have g87 : ∀ q, q ≠ u 1 → m9.1 87 q = m.1 87 q := fun q hq => by rw [x9.1 87 (by decide), hm8, si_c _ (by decide), d87, hm6, si_c _ (by decide), c87, hm4, si_c _ (by decide), b87, hm2, si_ne _ _ (Or.inr hq), a87]
    refine ⟨⟨?_, ?_, ?_, ?_, ?_, ?_⟩, fun i hi => ?_, fun p hp' => ?_⟩
    · rw [x9.2 9 (by decide), q9, e 0 (by omega) (by omega) (by omega) (by omega) (by omega)]
    · rw [hm9, si_same, uv_s]
    · rw [hm9, si_ne _ _ (Or.inr (by decide)), si_same, hnf2, uv_s]
      have : mfS (uv (uv (uv (uv (uv u (40 + u 1) Q1.2) (44 + u 1) Q2.2) (48 + u 1) Q3.2) (52 + u 1) Q4.2) 1 (u 1 + 1)) (u 1 + 1) = max (mfS u (u 1)) (Q4.2 + 1) := by
        show max (mfS _ (u 1)) (_ + 1) = _
        rw [e52, mf_congr (w := u) (u 1) (fun p hp' => e (52 + p) (by omega) (by omega) (by omega) (by omega) (by omega))]
      rw [this]
    · rw [g85 32 (by omega), e 2 (by omega) (by omega) (by omega) (by omega) (by omega)]; exact s32
    · rw [g85 33 (by omega), e 3 (by omega) (by omega) (by omega) (by omega) (by omega)]; exact s33
    · rw [g85 34 (by omega), e 4 (by omega) (by omega) (by omega) (by omega) (by omega)]; exact s34
    · rw [e 0 (by omega) (by omega) (by omega) (by omega) (by omega)] at hi
      rw [g86, g85 (2 * i) (by omega), g85 (2 * i + 1) (by omega), e (10 + i) (by omega) (by omega) (by omega) (by omega) (by omega), e (20 + i) (by omega) (by omega) (by omega) (by omega) (by omega), e (30 + i) (by omega) (by omega) (by omega) (by omega) (by omega)]
      exact si1 i hi
    · rw [uv_s] at hp'
      by_cases ep : p = u 1
      · subst ep
        refine ⟨?_, ?_, ?_, ?_⟩
        · rw [x9.1 87 (by decide), hm8, si_c _ (by decide), d87, hm6, si_c _ (by decide), c87, hm4, si_c _ (by decide), b87, hm2, si_same, uv_n (by omega), uv_n (by omega), uv_n (by omega), uv_n (by omega), uv_s]
        · rw [x9.1 85 (by decide), hm8, si_ne _ _ (Or.inr (by omega)), d85, hm6, si_ne _ _ (Or.inr (by omega)), c85, hm4, si_same, uv_n (by omega), uv_n (by omega), uv_n (by omega), uv_s]
        · rw [x9.1 85 (by decide), hm8, si_ne _ _ (Or.inr (by omega)), d85, hm6, si_same, uv_n (by omega), uv_n (by omega), uv_s]
        · rw [x9.1 85 (by decide), hm8, si_same, e52]
      · rw [g87 p ep, g85 (20 + 3 * p) (by omega), g85 (20 + 3 * p + 1) (by omega), g85 (20 + 3 * p + 2) (by omega), e (40 + p) (by omega) (by omega) (by omega) (by omega) (by omega), e (44 + p) (by omega) (by omega) (by omega) (by omega) (by omega), e (48 + p) (by omega) (by omega) (by omega) (by omega) (by omega), e (52 + p) (by omega) (by omega) (by omega) (by omega) (by omega)]
        exact sp1 p (by omega)
theorem rm8 {m : mMem} {b : Nat → Nat} {L ln pos : Nat} {u : Nat → Nat} (hL : L ≤ 160) (hln : ln < 7) (hp : pos ≤ L) (hT : TB8 m b L) (hN : NS8 m b L (0, 0, pos)) (hS : HS8 m u) (ho : OKT u) (h0 : ln < 4 → u 0 < 10) (h1 : ln = 4 → u 1 < 4) : ∃ m', fX8_readMore (nI ln) m = some (none, m') ∧ K8 m m' ∧ m'.1 81 11 = m.1 81 11 ∧ NS8 m' b L (nbR b L ln (nuN ln) 0 (0, 0, pos)).1 ∧ ((nbR b L ln (nuN ln) 0 (0, 0, pos)).1.1 = 0 → HS8 m' (upU u ln (nbR b L ln (nuN ln) 0 (0, 0, pos)).2)) := by
  by_cases c4 : ln < 4
  · rw [show nuN ln = 2 by unfold nuN; rw [if_pos c4]]
    exact rm_step hL c4 hp hT hN hS ho (h0 c4)
  · by_cases c5 : ln = 4
    · subst c5
      exact rm_lod hL hp hT hN hS ho (h1 rfl)
    · rw [show nuN ln = 1 by unfold nuN; rw [if_neg c4, if_neg c5]]
      exact rm_law hL (by omega) hp hT hN hS ho
