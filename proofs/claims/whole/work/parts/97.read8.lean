/-! PURE FACTS: the reference reads the tape -/
def TS8 (m : mMem) (b : Nat → Nat) (L p : Nat) : Prop := (tkK b L p = 4 ∧ m.1 81 16 = 1 ∧ m.1 81 17 = nI (tkA b L p)) ∨ (tkK b L p ≠ 4 ∧ m.1 81 16 = 0 ∧ m.1 81 18 = nI (tkE b L p) ∧ m.1 81 19 = nI (tkA b L p) ∧ m.1 81 20 = nI (tkK b L p) ∧ (tkK b L p = 2 → m.1 81 21 = nI (vlF b (tkA b L p) (tkE b L p))))
def NS8 (m : mMem) (b : Nat → Nat) (L : Nat) (S : Nat × Nat × Nat) : Prop := (S.1 = 0 ∧ TS8 m b L S.2.2) ∨ (S.1 ≠ 0 ∧ S.1 ≤ 9 ∧ m.1 81 16 = nI S.1 ∧ m.1 81 17 = nI S.2.1)
def SL8 : List Nat := [16, 17, 18, 19, 20, 21]
theorem TS8_fr {m m' : mMem} {b : Nat → Nat} {L p : Nat} (h : TS8 m b L p) (e : ∀ j, j ∈ SL8 → m'.1 81 j = m.1 81 j) : TS8 m' b L p := by
  unfold TS8
  rw [e 16 (by decide), e 17 (by decide), e 18 (by decide), e 19 (by decide), e 20 (by decide), e 21 (by decide)]
  exact h
theorem NS8_fr {m m' : mMem} {b : Nat → Nat} {L : Nat} {S : Nat × Nat × Nat} (h : NS8 m b L S) (e : ∀ j, j ∈ SL8 → m'.1 81 j = m.1 81 j) : NS8 m' b L S := by
  rcases h with ⟨a, h⟩ | ⟨a, h1, h2, h3⟩
  · exact Or.inl ⟨a, TS8_fr h e⟩
  · exact Or.inr ⟨a, h1, by rw [e 16 (by decide)]; exact h2, by rw [e 17 (by decide)]; exact h3⟩
theorem go_bad {m : mMem} {c : Nat} (hc : c ≤ 9) (h0 : c ≠ 0) (h : m.1 81 16 = nI c) : fX8_goesOn m = some (none, m) := by
  unfold fX8_goesOn
  rw [h, if_neg (show ¬ nI c ≤ (0 : Int32) from nI_ge (a := 0) (by omega) (by omega))]
theorem go_ok {m : mMem} {b : Nat → Nat} {L p : Nat} (hL : L ≤ 160) (hp : p ≤ L) (hT : TB8 m b L) (h18 : m.1 81 18 = nI p) (h16 : m.1 81 16 = 0) : ∃ m', fX8_goesOn m = some (none, m') ∧ SWx 81 SL8 m m' ∧ TS8 m' b L p := by
  obtain ⟨m', e, x, y19, y4, y0⟩ := tok8 hL hp hT h18 h16
  refine ⟨m', e, x, ?_⟩
  by_cases k4 : tkK b L p = 4
  · exact Or.inl ⟨k4, y4 k4⟩
  · obtain ⟨z1, z2, z3, z4⟩ := y0 k4
    exact Or.inr ⟨k4, z1, z2, y19, z3, z4⟩
theorem fl_bad {m : mMem} {c : Int32} (h : ¬ m.1 81 16 = 0) : fX8_fails c m = some (none, m) := by
  unfold fX8_fails
  rw [if_neg h]
theorem fl_ok {m : mMem} {c a : Nat} (h : m.1 81 16 = 0) (h19 : m.1 81 19 = nI a) : ∃ m', fX8_fails (nI c) m = some (none, m') ∧ SWx 81 SL8 m m' ∧ m'.1 81 16 = nI c ∧ m'.1 81 17 = nI a := by
  unfold fX8_fails
  rw [h, if_pos rfl]
  dsimp only [lt]
  rw [si_ne _ _ (Or.inr (show (19 : Nat) ≠ 16 by decide)), h19]
  exact ⟨_, rfl, (SWx_si (by decide)).tr (SWx_si (by decide)), by rw [si_ne _ _ (Or.inr (by decide)), si_same], si_same _ _ _ _⟩
theorem num_bad {m : mMem} {c : Nat} {x1 x2 : Int32} (hc : c ≤ 9) (h0 : c ≠ 0) (h : m.1 81 16 = nI c) : fX8_number x1 x2 m = some (some (.int x1), m) := by
  have hne : ¬ m.1 81 16 = 0 := by rw [h]; exact c_ne c hc h0
  unfold fX8_number jX8_number_20 jX8_number_47 jX8_number_62
  rw [if_neg hne, if_neg hne, if_neg hne, go_bad hc h0 h]
  rfl
theorem num8 {m : mMem} {b : Nat → Nat} {L lo hi : Nat} {S : Nat × Nat × Nat} (hL : L ≤ 160) (hp : S.2.2 ≤ L) (hlo : lo ≤ 1) (hhi : hi ≤ 99) (hT : TB8 m b L) (hN : NS8 m b L S) : ∃ m', fX8_number (nI lo) (nI hi) m = some (some (.int (nI (nb1 b L lo hi S).2)), m') ∧ SWx 81 SL8 m m' ∧ NS8 m' b L (nb1 b L lo hi S).1 := by
  rcases hN with ⟨h0, hTS⟩ | ⟨h0, h1, h2, h3⟩
  · obtain ⟨c, at0, p⟩ := S
    have hc : c = 0 := h0
    subst hc
    have hp' : p ≤ L := hp
    have hnb : nb1 b L lo hi (0, at0, p) = if tkK b L p = 4 then ((1, tkA b L p, p), lo) else if tkK b L p ≠ 2 then ((2, tkA b L p, p), lo) else if vlF b (tkA b L p) (tkE b L p) < lo ∨ hi < vlF b (tkA b L p) (tkE b L p) then ((3, tkA b L p, p), lo) else ((0, 0, tkE b L p), vlF b (tkA b L p) (tkE b L p)) := by
      unfold nb1
      rw [if_neg (by simp)]
    rw [hnb]
    rcases hTS with ⟨k4, z1, z2⟩ | ⟨k4, z16, z18, z19, z20, z21⟩
    · rw [if_pos k4]
      exact ⟨m, num_bad (c := 1) (by decide) (by decide) z1, SWx.rf, Or.inr ⟨(by decide : (1 : Nat) ≠ 0), (by decide : 1 ≤ 9), z1, z2⟩⟩
    · have hKle := tkK_le b L p
      have hkt : tkK b L (0, at0, p).2.2 = tkK b L p := rfl
      rw [hkt] at k4 z20 z21
      rw [if_neg k4]
      by_cases k2 : tkK b L p = 2
      · rw [if_neg (show ¬ (tkK b L p ≠ 2) from fun z => z k2)]
        have hv := z21 k2
        have hv99 := vl_99 hp' k2
        have hcond : ((nI lo ≤ nI (vlF b (tkA b L p) (tkE b L p))) ∧ (nI (vlF b (tkA b L p) (tkE b L p)) ≤ nI hi)) ↔ ¬ (vlF b (tkA b L p) (tkE b L p) < lo ∨ hi < vlF b (tkA b L p) (tkE b L p)) := by
          rw [nI_leI (by omega) (by omega), nI_leI (by omega) (by omega)]
          omega
        unfold fX8_number jX8_number_20
        rw [z16, if_pos rfl, z20, if_pos (show nI (tkK b L p) = (2 : Int32) by rw [k2]; rfl), if_pos rfl, hv]
        dsimp only
        rw [fX8_in_eq]
        dsimp only [bI]
        by_cases w : vlF b (tkA b L p) (tkE b L p) < lo ∨ hi < vlF b (tkA b L p) (tkE b L p)
        · rw [if_pos w, if_neg (fun z => hcond.mp z w), if_pos rfl]
          obtain ⟨m2, r1, r2, r3, r4⟩ := fl_ok (c := 3) z16 z19
          have r1' : fX8_fails (3 : Int32) m = some (none, m2) := r1
          have hne : ¬ m2.1 81 16 = 0 := by rw [r3]; decide
          rw [r1']
          dsimp only [bV]
          unfold jX8_number_47 jX8_number_62
          rw [if_neg hne, go_bad (c := 3) (by decide) (by decide) r3]
          exact ⟨m2, rfl, r2, Or.inr ⟨(by decide : (3 : Nat) ≠ 0), (by decide : 3 ≤ 9), r3, r4⟩⟩
        · rw [if_neg w, if_pos (hcond.mpr w), if_neg (by decide)]
          obtain ⟨te1, te2, -⟩ := tkE_s (b := b) hp'
          obtain ⟨m2, e2, x2, t2⟩ := go_ok hL te2 hT z18 z16
          unfold jX8_number_47 jX8_number_62
          rw [z16, if_pos rfl, e2, hv]
          exact ⟨m2, rfl, x2, Or.inl ⟨rfl, t2⟩⟩
      · rw [if_pos (show tkK b L p ≠ 2 from k2)]
        obtain ⟨m2, r1, r2, r3, r4⟩ := fl_ok (c := 2) z16 z19
        have r1' : fX8_fails (2 : Int32) m = some (none, m2) := r1
        have hne : ¬ m2.1 81 16 = 0 := by rw [r3]; decide
        unfold fX8_number jX8_number_20
        rw [z16, if_pos rfl, z20, if_neg (show ¬ nI (tkK b L p) = (2 : Int32) by rw [show (2 : Int32) = nI 2 from rfl, nI_eq (by omega) (by decide)]; exact k2), r1']
        dsimp only [bV]
        rw [if_neg hne]
        unfold jX8_number_47 jX8_number_62
        rw [if_neg hne, go_bad (c := 2) (by decide) (by decide) r3]
        exact ⟨m2, rfl, r2, Or.inr ⟨(by decide : (2 : Nat) ≠ 0), (by decide : 2 ≤ 9), r3, r4⟩⟩
  · rw [nb1_bad h0]
    exact ⟨m, num_bad h1 h0 h2, SWx.rf, Or.inr ⟨h0, h1, h2, h3⟩⟩
/-! ## the page in the making -/
def mfS (u : Nat → Nat) : Nat → Nat
  | 0 => 0
  | n + 1 => max (mfS u n) (u (52 + n) + 1)
def HS8 (m : mMem) (u : Nat → Nat) : Prop := (m.1 81 9 = nI (u 0) ∧ m.1 81 10 = nI (u 1) ∧ m.1 81 12 = nI (mfS u (u 1)) - 1 ∧ m.1 85 32 = nI (u 2) - 1 ∧ m.1 85 33 = nI (u 3) - 30 ∧ m.1 85 34 = nI (u 4)) ∧ (∀ i, i < u 0 → m.1 86 i = nI (u (10 + i)) ∧ m.1 85 (2 * i) = nI (u (20 + i)) ∧ m.1 85 (2 * i + 1) = nI (u (30 + i))) ∧ ∀ p, p < u 1 → m.1 87 p = nI (u (40 + p)) ∧ m.1 85 (20 + 3 * p) = nI (u (44 + p)) ∧ m.1 85 (20 + 3 * p + 1) = nI (u (48 + p)) ∧ m.1 85 (20 + 3 * p + 2) = nI (u (52 + p))
theorem mf_congr {u w : Nat → Nat} : ∀ n, (∀ p, p < n → u (52 + p) = w (52 + p)) → mfS u n = mfS w n
  | 0, _ => rfl
  | n + 1, h => by
    show max (mfS u n) (u (52 + n) + 1) = max (mfS w n) (w (52 + n) + 1)
    rw [mf_congr n (fun p hp => h p (by omega)), h n (by omega)]
theorem mf_le {u : Nat → Nat} : ∀ n, (∀ p, p < n → u (52 + p) ≤ 9) → mfS u n ≤ 10
  | 0, _ => by show 0 ≤ 10; decide
  | n + 1, h => Nat.max_le.mpr ⟨mf_le n (fun p hp => h p (by omega)), by have := h n (by omega); omega⟩
theorem mf_lost {u : Nat → Nat} : ∀ n k, mfS u n ≤ k ↔ ∀ p, p < n → u (52 + p) < k
  | 0, k => ⟨fun _ p hp => absurd hp (Nat.not_lt_zero _), fun _ => Nat.zero_le _⟩
  | n + 1, k => by
    show max (mfS u n) (u (52 + n) + 1) ≤ k ↔ _
    rw [Nat.max_le, mf_lost n k]
    constructor
    · rintro ⟨a, b⟩ p hp
      by_cases e : p = n
      · subst e; omega
      · exact a p (by omega)
    · intro h
      exact ⟨fun p hp => h p (by omega), h n (by omega)⟩
def K8 (m m' : mMem) : Prop := (∀ z, z ≠ 81 → z ≠ 85 → z ≠ 86 → z ≠ 87 → m'.1 z = m.1 z) ∧ ∀ j, j ∉ [9, 10, 11, 12, 16, 17, 18, 19, 20, 21] → m'.1 81 j = m.1 81 j
theorem K8.rf {m : mMem} : K8 m m := ⟨fun _ _ _ _ _ => rfl, fun _ _ => rfl⟩
theorem K8.tr {m1 m2 m3 : mMem} (h1 : K8 m1 m2) (h2 : K8 m2 m3) : K8 m1 m3 := ⟨fun z a b c d => (h2.1 z a b c d).trans (h1.1 z a b c d), fun j a => (h2.2 j a).trans (h1.2 j a)⟩
theorem K8_sx {m m' : mMem} {S : List Nat} (h : SWx 81 S m m') (hs : ∀ j ∈ S, j ∈ [9, 10, 11, 12, 16, 17, 18, 19, 20, 21]) : K8 m m' := ⟨fun z a _ _ _ => h.1 z a, fun j a => h.2 j (fun z => a (hs j z))⟩
theorem K8_s {m : mMem} {c k : Nat} {x : Int32} (hc : c = 85 ∨ c = 86 ∨ c = 87) : K8 m (si m c k x) := ⟨fun z _ a b d => si_c _ (by omega), fun j _ => by rw [si_c _ (by omega)]⟩
theorem TB8_k {m m' : mMem} {b : Nat → Nat} {L : Nat} (h : TB8 m b L) (f : K8 m m') : TB8 m' b L := ⟨(f.2 14 (by decide)).trans h.1, fun i hi => by rw [f.1 88 (by decide) (by decide) (by decide) (by decide)]; exact h.2 i hi⟩
theorem NM8_k {m m' : mMem} (h : NM8 m) (f : K8 m m') : NM8 m' := ⟨(f.1 89 (by decide) (by decide) (by decide) (by decide)).trans h.1, (f.1 90 (by decide) (by decide) (by decide) (by decide)).trans h.2⟩
theorem lohi : (∀ ln, ln < 4 → loN ln 0 = 0 ∧ hiN ln 0 = 60 ∧ loN ln 1 = 0 ∧ hiN ln 1 = 99) ∧ loN 4 0 = 1 ∧ hiN 4 0 = 4 ∧ loN 4 1 = 0 ∧ hiN 4 1 = 3 ∧ loN 4 2 = 0 ∧ hiN 4 2 = 9 ∧ loN 4 3 = 0 ∧ hiN 4 3 = 9 ∧ loN 5 0 = 0 ∧ hiN 5 0 = 3 ∧ loN 6 0 = 1 ∧ hiN 6 0 = 99 := by decide
/-- the slots of 81 that numbers leave alone -/
theorem slo8 {m m' : mMem} (x : SWx 81 SL8 m m') : m'.1 81 9 = m.1 81 9 ∧ m'.1 81 10 = m.1 81 10 ∧ m'.1 81 12 = m.1 81 12 ∧ m'.1 81 11 = m.1 81 11 ∧ m'.1 85 = m.1 85 ∧ m'.1 86 = m.1 86 ∧ m'.1 87 = m.1 87 := ⟨x.2 9 (by decide), x.2 10 (by decide), x.2 12 (by decide), x.2 11 (by decide), x.1 85 (by decide), x.1 86 (by decide), x.1 87 (by decide)⟩
theorem rm_step {m : mMem} {b : Nat → Nat} {L ln pos : Nat} {u : Nat → Nat} (hL : L ≤ 160) (hln : ln < 4) (hp : pos ≤ L) (hT : TB8 m b L) (hN : NS8 m b L (0, 0, pos)) (hS : HS8 m u) (ho : OKT u) (hn : u 0 < 10) : ∃ m', fX8_readMore (nI ln) m = some (none, m') ∧ K8 m m' ∧ m'.1 81 11 = m.1 81 11 ∧ NS8 m' b L (nbR b L ln 2 0 (0, 0, pos)).1 ∧ ((nbR b L ln 2 0 (0, 0, pos)).1.1 = 0 → HS8 m' (upU u ln (nbR b L ln 2 0 (0, 0, pos)).2)) := by
  obtain ⟨l1, l2, l3, l4⟩ := lohi.1 ln hln
  obtain ⟨⟨s9, s10, s12, s32, s33, s34⟩, si1, sp1⟩ := hS
  have k1 : K8 m (si m 86 (u 0) (nI ln)) := K8_s (by omega)
  have a9 : (si m 86 (u 0) (nI ln)).1 81 9 = nI (u 0) := by rw [si_c _ (by decide)]; exact s9
  obtain ⟨m2, e2, x2, N2⟩ := num8 (lo := loN ln 0) (hi := hiN ln 0) (S := (0, 0, pos)) hL hp (by omega) (by omega) (TB8_k hT k1) (NS8_fr hN (fun j _ => by rw [si_c _ (by decide)]))
  obtain ⟨o9, o10, o12, o11, o85, o86, o87⟩ := slo8 x2
  generalize hQ1 : nb1 b L (loN ln 0) (hiN ln 0) (0, 0, pos) = Q1 at *
  have hp1 : Q1.1.2.2 ≤ L := by rw [← hQ1]; exact (nb1_pos (b := b) (lo := loN ln 0) (hi := hiN ln 0) (S := (0, 0, pos)) hp).1
  obtain ⟨m3, hm3⟩ : ∃ m3, m3 = si m2 85 (2 * u 0) (nI Q1.2) := ⟨_, rfl⟩
  have k2 : K8 m m3 := by rw [hm3]; exact (k1.tr (K8_sx x2 (by decide))).tr (K8_s (by omega))
  have b9 : m3.1 81 9 = nI (u 0) := by rw [hm3, si_c _ (by decide), o9]; exact a9
  obtain ⟨m4, e4, x4, N4⟩ := num8 (lo := loN ln 1) (hi := hiN ln 1) (S := Q1.1) hL hp1 (by omega) (by omega) (TB8_k hT k2) (NS8_fr N2 (fun j _ => by rw [hm3, si_c _ (by decide)]))
  obtain ⟨t9, t10, t12, t11, t85, t86, t87⟩ := slo8 x4
  have hnr : nbR b L ln 2 0 (0, 0, pos) = ((nb1 b L (loN ln 1) (hiN ln 1) Q1.1).1, [Q1.2, (nb1 b L (loN ln 1) (hiN ln 1) Q1.1).2]) := by rw [← hQ1]; rfl
  rw [hnr]
  generalize hQ2 : nb1 b L (loN ln 1) (hiN ln 1) Q1.1 = Q2 at *
  obtain ⟨m5, hm5⟩ : ∃ m5, m5 = si (si m4 85 (2 * u 0 + 1) (nI Q2.2)) 81 9 (nI (u 0 + 1)) := ⟨_, rfl⟩
  have k3 : K8 m m5 := by rw [hm5]; exact ((k2.tr (K8_sx x4 (by decide))).tr (K8_s (by omega))).tr (K8_sx (SWx_si (S := [9]) (by simp)) (by decide))
  refine ⟨m5, ?_, k3, ?_, NS8_fr N4 (fun j hj => ?_), fun _ => ?_⟩
  · have e2' : fX8_number (0 : Int32) (60 : Int32) (si m 86 (u 0) (nI ln)) = some (some (.int (nI Q1.2)), m2) := by rw [l1, l2] at e2; exact e2
    have e4' : fX8_number (0 : Int32) (99 : Int32) m3 = some (some (.int (nI Q2.2)), m4) := by rw [l3, l4] at e4; exact e4
    unfold fX8_readMore
    rw [if_neg (show ¬ (3 : Int32) < nI ln from nI_nlt (a := 3) (by omega) (by decide)), s9, ga_nI hn (by decide), nI_tn (by omega)]
    dsimp only [lt]
    rw [e2']
    dsimp only [bI]
    rw [a9, i2, ga_nI (by omega) (by decide), nI_tn (by omega), ← hm3, e4']
    dsimp only
    rw [b9, i21, ga_nI (by omega) (by decide), nI_tn (by omega), si_c _ (show (81 : Nat) ≠ 85 by decide), t9, b9, show nI (u 0) + 1 = nI (u 0 + 1) from nI_1 _, ← hm5]
  · rw [hm5, si_ne _ _ (Or.inr (by decide)), si_c _ (by decide), t11, hm3, si_c _ (by decide), o11, si_c _ (by decide)]
  · rw [hm5, si_ne _ _ (Or.inr (fun e => by subst e; exact absurd hj (by decide))), si_c _ (by decide)]
  · have hget : [Q1.2, Q2.2].getD 0 0 = Q1.2 ∧ [Q1.2, Q2.2].getD 1 0 = Q2.2 := ⟨rfl, rfl⟩
    rw [up_step hln, hget.1, hget.2]
    have e : ∀ j, j ≠ 0 → j ≠ 10 + u 0 → j ≠ 20 + u 0 → j ≠ 30 + u 0 → uv (uv (uv (uv u (10 + u 0) ln) (20 + u 0) Q1.2) (30 + u 0) Q2.2) 0 (u 0 + 1) j = u j := fun j q0 q1 q2 q3 => by rw [uv_n q0, uv_n q3, uv_n q2, uv_n q1]
    have g85 : ∀ q, q ≠ 2 * u 0 → q ≠ 2 * u 0 + 1 → m5.1 85 q = m.1 85 q := fun q h1 h2 => by
      rw [hm5, si_c _ (by decide), si_ne _ _ (Or.inr h2), t85, hm3, si_ne _ _ (Or.inr h1), o85, si_c _ (by decide)]
    have g86 : ∀ q, q ≠ u 0 → m5.1 86 q = m.1 86 q := fun q h1 => by
      rw [hm5, si_c _ (by decide), si_c _ (by decide), t86, hm3, si_c _ (by decide), o86, si_ne _ _ (Or.inr h1)]
    have g87 : m5.1 87 = m.1 87 := by rw [hm5, si_c _ (by decide), si_c _ (by decide), t87, hm3, si_c _ (by decide), o87, si_c _ (by decide)]
    have hb1 := ho.1.2.1
    refine ⟨⟨?_, ?_, ?_, ?_, ?_, ?_⟩, fun i hi => ?_, fun p hp' => ?_⟩
    · rw [hm5, si_same, uv_s]
    · rw [hm5, si_ne _ _ (Or.inr (by decide)), si_c _ (by decide), t10, hm3, si_c _ (by decide), o10, si_c _ (by decide), e 1 (by omega) (by omega) (by omega) (by omega)]; exact s10
    · rw [hm5, si_ne _ _ (Or.inr (by decide)), si_c _ (by decide), t12, hm3, si_c _ (by decide), o12, si_c _ (by decide), e 1 (by omega) (by omega) (by omega) (by omega), mf_congr (w := u) (u 1) (fun p hp' => e (52 + p) (by omega) (by omega) (by omega) (by omega))]; exact s12
    · rw [g85 32 (by omega) (by omega), e 2 (by omega) (by omega) (by omega) (by omega)]; exact s32
    · rw [g85 33 (by omega) (by omega), e 3 (by omega) (by omega) (by omega) (by omega)]; exact s33
    · rw [g85 34 (by omega) (by omega), e 4 (by omega) (by omega) (by omega) (by omega)]; exact s34
    · rw [uv_s] at hi
      by_cases ei : i = u 0
      · subst ei
        refine ⟨?_, ?_, ?_⟩
        · rw [hm5, si_c _ (by decide), si_c _ (by decide), t86, hm3, si_c _ (by decide), o86, si_same, uv_n (by omega), uv_n (by omega), uv_n (by omega), uv_s]
        · rw [hm5, si_c _ (by decide), si_ne _ _ (Or.inr (by omega)), t85, hm3, si_same, uv_n (by omega), uv_n (by omega), uv_s]
        · rw [hm5, si_c _ (by decide), si_same, uv_n (by omega), uv_s]
      · rw [g86 i ei, g85 (2 * i) (by omega) (by omega), g85 (2 * i + 1) (by omega) (by omega), e (10 + i) (by omega) (by omega) (by omega) (by omega), e (20 + i) (by omega) (by omega) (by omega) (by omega), e (30 + i) (by omega) (by omega) (by omega) (by omega)]
        exact si1 i (by omega)
    · rw [e 1 (by omega) (by omega) (by omega) (by omega)] at hp'
      rw [g87, g85 (20 + 3 * p) (by omega) (by omega), g85 (20 + 3 * p + 1) (by omega) (by omega), g85 (20 + 3 * p + 2) (by omega) (by omega), e (40 + p) (by omega) (by omega) (by omega) (by omega), e (44 + p) (by omega) (by omega) (by omega) (by omega), e (48 + p) (by omega) (by omega) (by omega) (by omega), e (52 + p) (by omega) (by omega) (by omega) (by omega)]
      exact sp1 p hp'
theorem rm_law {m : mMem} {b : Nat → Nat} {L ln pos : Nat} {u : Nat → Nat} (hL : L ≤ 160) (hln : ln = 5 ∨ ln = 6) (hp : pos ≤ L) (hT : TB8 m b L) (hN : NS8 m b L (0, 0, pos)) (hS : HS8 m u) (ho : OKT u) : ∃ m', fX8_readMore (nI ln) m = some (none, m') ∧ K8 m m' ∧ m'.1 81 11 = m.1 81 11 ∧ NS8 m' b L (nbR b L ln 1 0 (0, 0, pos)).1 ∧ ((nbR b L ln 1 0 (0, 0, pos)).1.1 = 0 → HS8 m' (upU u ln (nbR b L ln 1 0 (0, 0, pos)).2)) := by
  obtain ⟨⟨s9, s10, s12, s32, s33, s34⟩, si1, sp1⟩ := hS
  obtain ⟨t1, t2, t3, t4⟩ := tb_lo ln (by omega) 0 (by decide)
  obtain ⟨m2, e2, x2, N2⟩ := num8 (lo := loN ln 0) (hi := hiN ln 0) (S := (0, 0, pos)) hL hp t3 t4 hT hN
  obtain ⟨o9, o10, o12, o11, o85, o86, o87⟩ := slo8 x2
  have hb := ho.1
  have hnr : nbR b L ln 1 0 (0, 0, pos) = ((nb1 b L (loN ln 0) (hiN ln 0) (0, 0, pos)).1, [(nb1 b L (loN ln 0) (hiN ln 0) (0, 0, pos)).2]) := rfl
  rw [hnr]
  generalize hQ : nb1 b L (loN ln 0) (hiN ln 0) (0, 0, pos) = Q at *
  rcases hln with rfl | rfl
  · refine ⟨si m2 85 32 (nI Q.2 - 1), ?_, (K8_sx x2 (by decide)).tr (K8_s (by omega)), by rw [si_c _ (by decide), o11], NS8_fr N2 (fun j _ => by rw [si_c _ (by decide)]), fun _ => ?_⟩
    · have e2' : fX8_number (0 : Int32) (3 : Int32) m = _ := e2
      unfold fX8_readMore
      rw [if_pos (show (3 : Int32) < nI 5 by decide), if_neg (show ¬ nI 5 = (4 : Int32) by decide), if_pos (show nI 5 = (5 : Int32) from rfl), e2']
      rfl
    · show HS8 (si m2 85 32 (nI Q.2 - 1)) (uv u 2 Q.2)
      have e : ∀ j, j ≠ 2 → uv u 2 Q.2 j = u j := fun j q => uv_n q
      refine ⟨⟨?_, ?_, ?_, ?_, ?_, ?_⟩, fun i hi => ?_, fun p hp' => ?_⟩
      · rw [si_c _ (by decide), o9, e 0 (by decide)]; exact s9
      · rw [si_c _ (by decide), o10, e 1 (by decide)]; exact s10
      · rw [si_c _ (by decide), o12, e 1 (by decide), mf_congr (w := u) (u 1) (fun p _ => e (52 + p) (by omega))]; exact s12
      · rw [si_same, uv_s]
      · rw [si_ne _ _ (Or.inr (by decide)), o85, e 3 (by decide)]; exact s33
      · rw [si_ne _ _ (Or.inr (by decide)), o85, e 4 (by decide)]; exact s34
      · rw [e 0 (by decide)] at hi
        rw [si_c _ (by decide), o86, si_ne _ _ (Or.inr (by omega)), si_ne _ _ (Or.inr (by omega)), o85, e (10 + i) (by omega), e (20 + i) (by omega), e (30 + i) (by omega)]
        exact si1 i hi
      · rw [e 1 (by decide)] at hp'
        rw [si_c _ (by decide), o87, si_ne _ _ (Or.inr (by omega)), si_ne _ _ (Or.inr (by omega)), si_ne _ _ (Or.inr (by omega)), o85, e (40 + p) (by omega), e (44 + p) (by omega), e (48 + p) (by omega), e (52 + p) (by omega)]
        exact sp1 p hp'
  · refine ⟨si m2 85 33 (nI Q.2 - 30), ?_, (K8_sx x2 (by decide)).tr (K8_s (by omega)), by rw [si_c _ (by decide), o11], NS8_fr N2 (fun j _ => by rw [si_c _ (by decide)]), fun _ => ?_⟩
    · have e2' : fX8_number (1 : Int32) (99 : Int32) m = _ := e2
      unfold fX8_readMore
      rw [if_pos (show (3 : Int32) < nI 6 by decide), if_neg (show ¬ nI 6 = (4 : Int32) by decide), if_neg (show ¬ nI 6 = (5 : Int32) by decide), e2']
      rfl
    · show HS8 (si m2 85 33 (nI Q.2 - 30)) (uv u 3 Q.2)
      have e : ∀ j, j ≠ 3 → uv u 3 Q.2 j = u j := fun j q => uv_n q
      refine ⟨⟨?_, ?_, ?_, ?_, ?_, ?_⟩, fun i hi => ?_, fun p hp' => ?_⟩
      · rw [si_c _ (by decide), o9, e 0 (by decide)]; exact s9
      · rw [si_c _ (by decide), o10, e 1 (by decide)]; exact s10
      · rw [si_c _ (by decide), o12, e 1 (by decide), mf_congr (w := u) (u 1) (fun p _ => e (52 + p) (by omega))]; exact s12
      · rw [si_ne _ _ (Or.inr (by decide)), o85, e 2 (by decide)]; exact s32
      · rw [si_same, uv_s]
      · rw [si_ne _ _ (Or.inr (by decide)), o85, e 4 (by decide)]; exact s34
      · rw [e 0 (by decide)] at hi
        rw [si_c _ (by decide), o86, si_ne _ _ (Or.inr (by omega)), si_ne _ _ (Or.inr (by omega)), o85, e (10 + i) (by omega), e (20 + i) (by omega), e (30 + i) (by omega)]
        exact si1 i hi
      · rw [e 1 (by decide)] at hp'
        rw [si_c _ (by decide), o87, si_ne _ _ (Or.inr (by omega)), si_ne _ _ (Or.inr (by omega)), si_ne _ _ (Or.inr (by omega)), o85, e (40 + p) (by omega), e (44 + p) (by omega), e (48 + p) (by omega), e (52 + p) (by omega)]
        exact sp1 p hp'
