/-! PURE FACTS: the reference reads the tape, III -/
def K8L : List Nat := [9, 10, 11, 12, 14, 15, 16, 17, 18, 19, 20, 21]
/-- nothing but what a text that is not taken changes -/
def Y8 (m m' : mMem) : Prop := (∀ z, z ≠ 81 → z ≠ 85 → z ≠ 86 → z ≠ 87 → m'.1 z = m.1 z) ∧ ∀ j, j ∉ K8L → m'.1 81 j = m.1 81 j
/-- nothing but what a text that is taken changes -/
def Z8 (m m' : mMem) : Prop := (∀ z, z ∉ [81, 82, 83, 84, 85, 86, 87, 96] → m'.1 z = m.1 z) ∧ (∀ j, j ∉ K8L → j ≠ 2 → j ≠ 4 → j ≠ 29 → m'.1 81 j = m.1 81 j) ∧ ∀ q, 35 ≤ q → m'.1 82 q = m.1 82 q
theorem K8.y {m m' : mMem} (h : K8 m m') : Y8 m m' := ⟨h.1, fun j hj => h.2 j (fun z => hj ((show ∀ j ∈ [9, 10, 11, 12, 16, 17, 18, 19, 20, 21], j ∈ K8L by decide) j z))⟩
theorem Y8.tr {m1 m2 m3 : mMem} (h1 : Y8 m1 m2) (h2 : Y8 m2 m3) : Y8 m1 m3 := ⟨fun z a b c d => (h2.1 z a b c d).trans (h1.1 z a b c d), fun j a => (h2.2 j a).trans (h1.2 j a)⟩
theorem Z8.yt {m1 m2 m3 : mMem} (h1 : Y8 m1 m2) (h2 : Z8 m2 m3) : Z8 m1 m3 := ⟨fun z hz => (h2.1 z hz).trans (h1.1 z (fun e => hz (by simp [e])) (fun e => hz (by simp [e])) (fun e => hz (by simp [e])) (fun e => hz (by simp [e]))), fun j a b c d => (h2.2.1 j a b c d).trans (h1.2 j a), fun q hq => (h2.2.2 q hq).trans (by rw [h1.1 82 (by decide) (by decide) (by decide) (by decide)])⟩
theorem Y8_s {m : mMem} {k : Nat} {x : Int32} (hk : k ∈ K8L) : Y8 m (si m 81 k x) := ⟨fun z a _ _ _ => si_c _ a, fun j hj => si_ne _ _ (Or.inr (fun e => hj (e ▸ hk)))⟩
def E8 (m m' : mMem) (R : (Nat × Nat × Nat) × (Nat → Nat)) : Prop := m'.1 81 14 = 0 ∧ m'.1 81 15 = nI R.1.1 ∧ (R.1.1 ≠ 0 → Y8 m m') ∧ (R.1.1 = 0 → Z8 m m' ∧ HM m' 0 R.2 ∧ m'.1 81 29 = 0 ∧ m'.1 96 0 = 0 ∧ m'.1 96 1 = 0)
theorem E8.tr {m1 m2 m3 : mMem} {R : (Nat × Nat × Nat) × (Nat → Nat)} (h1 : Y8 m1 m2) (h2 : E8 m2 m3 R) : E8 m1 m3 R := ⟨h2.1, h2.2.1, fun z => h1.tr (h2.2.2.1 z), fun z => ⟨Z8.yt h1 (h2.2.2.2 z).1, (h2.2.2.2 z).2⟩⟩
theorem j105_bad {m : mMem} {c at0 n : Nat} {u : Nat → Nat} (hc : c ≤ 9) (h0 : c ≠ 0) (h16 : m.1 81 16 = nI c) (h17 : m.1 81 17 = nI at0) : ∃ m', jX8_text_105 (nI n) m = some (some (.int (ansF c at0 n)), m') ∧ E8 m m' ((c, at0, n), u) := by
  refine ⟨si (si m 81 14 0) 81 15 (nI c), ?_, ?_, si_same _ _ _ _, fun _ => (Y8_s (by decide)).tr (Y8_s (by decide)), fun z => absurd z h0⟩
  · unfold jX8_text_105 ansF
    dsimp only [lt]
    rw [si_ne (si m 81 14 0) _ (Or.inr (show (16 : Nat) ≠ 15 by decide)), si_ne (si m 81 14 0) _ (Or.inr (show (17 : Nat) ≠ 15 by decide)), si_ne m _ (Or.inr (show (16 : Nat) ≠ 14 by decide)), si_ne m _ (Or.inr (show (17 : Nat) ≠ 14 by decide)), h16, h17, if_neg (show ¬ nI c ≤ (0 : Int32) from nI_ge (a := 0) (by omega) (by omega)), if_neg h0]
  · rw [si_ne _ _ (Or.inr (by decide)), si_same]
theorem md10 : ∀ i, i < 35 → nI i - nI i / (10 : Int32) * (10 : Int32) = nI (i % 10) ∧ nI i - nI i / (4 : Int32) * (4 : Int32) = nI (i % 4) := by decide +kernel
theorem b135 {m : mMem} {i : Nat} (x1 : Int32) (K : Int32 × mMem → mR) (hi : i < 35) : bX8_text_135 x1 K (nI i, m) = K (nI (i + 1), si (si (si m 82 i (m.1 85 i)) 83 (i % 10) (m.1 86 (i % 10))) 84 (i % 4) (m.1 87 (i % 4))) := by
  obtain ⟨d1, d2⟩ := md10 i hi
  have m1 := Nat.mod_lt i (show 0 < 10 by decide)
  have m2 := Nat.mod_lt i (show 0 < 4 by decide)
  unfold bX8_text_135
  dsimp only [lt, li]
  rw [d1, d2, if_neg (show ¬ (35 : Int32) ≤ nI i from nI_ge (b := 35) (by omega) (by decide)), ga_nI hi (by decide), ga_nI (n := 210) (by omega) (by decide), g0i_ne (by decide), g0i_ne (by decide), ga_nI m1 (by decide), ga_nI m1 (by decide), g0i_ne (by decide), g0i_ne (by decide), ga_nI m2 (by decide), ga_nI m2 (by decide), nI_tn (by omega), nI_tn (by omega), nI_tn (by omega), show nI i + 1 = nI (i + 1) from nI_1 _, si_c (b := 82) _ (show (86 : Nat) ≠ 82 by decide), si_c (b := 83) _ (show (87 : Nat) ≠ 83 by decide), si_c (b := 82) _ (show (87 : Nat) ≠ 82 by decide)]
def CPY (m m' : mMem) : Prop := (∀ z, z ∉ [81, 82, 83, 84, 96] → m'.1 z = m.1 z) ∧ (∀ j, j ≠ 2 → j ≠ 4 → j ≠ 29 → m'.1 81 j = m.1 81 j) ∧ (∀ q, 35 ≤ q → m'.1 82 q = m.1 82 q) ∧ (∀ q, q < 35 → m'.1 82 q = m.1 85 q) ∧ (∀ q, q < 10 → m'.1 83 q = m.1 86 q) ∧ (∀ q, q < 4 → m'.1 84 q = m.1 87 q) ∧ m'.1 81 2 = m.1 81 9 ∧ m'.1 81 4 = m.1 81 10 ∧ m'.1 81 29 = 0 ∧ m'.1 96 0 = 0 ∧ m'.1 96 1 = 0
theorem tk_cp {m : mMem} (n : Nat) : ∃ m', lp (bX8_text_135 (nI n)) FU ((0 : Int32), m) = some (some (.int (nI n)), m') ∧ CPY m m' := by
  refine lp_rel0 (body := bX8_text_135 (nI n)) (fun i s => s.1 = nI i ∧ (∀ z, z ∉ [82, 83, 84] → s.2.1 z = m.1 z) ∧ (∀ q, 35 ≤ q → s.2.1 82 q = m.1 82 q) ∧ (∀ q, q < i → s.2.1 82 q = m.1 85 q) ∧ (∀ q, q < 10 → q < i → s.2.1 83 q = m.1 86 q) ∧ (∀ q, q < 4 → q < i → s.2.1 84 q = m.1 87 q)) 35 (fun r => ∃ m', r = some (some (.int (nI n)), m') ∧ CPY m m') _ (by decide) ⟨rfl, fun _ _ => rfl, fun _ _ => rfl, fun q hq => absurd hq (Nat.not_lt_zero _), fun q _ hq => absurd hq (Nat.not_lt_zero _), fun q _ hq => absurd hq (Nat.not_lt_zero _)⟩ (fun s k => ?_) (fun i s hi => ?_)
  · obtain ⟨x, m2⟩ := s
    rintro ⟨h1, h2, h3, h4, h5, h6⟩
    dsimp only at h1 h2 h3 h4 h5 h6
    subst h1
    obtain ⟨m3, hm3⟩ : ∃ m3, m3 = si (si (si (si (si m2 81 2 (m.1 81 9)) 81 4 (m.1 81 10)) 81 29 0) 96 0 0) 96 1 0 := ⟨_, rfl⟩
    have e81 : m2.1 81 = m.1 81 := h2 81 (by decide)
    have z3 : ∀ z, z ≠ 81 → z ≠ 96 → m3.1 z = m2.1 z := fun z a b => by rw [hm3, si_c _ b, si_c _ b, si_c _ a, si_c _ a, si_c _ a]
    refine ⟨m3, ?_, fun z hz => ?_, fun j a b c => ?_, fun q hq => ?_, fun q hq => ?_, fun q hq => ?_, fun q hq => ?_, ?_, ?_, ?_, ?_, ?_⟩
    · have g0 : ∀ r, ga (0 : Int32) 2 r = r := fun r => ga_nI (i := 0) (n := 2) (by decide) (by decide)
      have g1 : ∀ r, ga (1 : Int32) 2 r = r := fun r => ga_nI (i := 1) (n := 2) (by decide) (by decide)
      unfold bX8_text_135
      dsimp only [lt]
      rw [if_pos (show (35 : Int32) ≤ nI 35 from by decide), e81, si_ne (b := 81) (k := 2) _ _ (Or.inr (show (10 : Nat) ≠ 2 by decide)), e81, g0, g1, show ((0 : Int32)).toNatClampNeg = 0 from rfl, show ((1 : Int32)).toNatClampNeg = 1 from rfl, hm3]
    · rw [z3 z (fun e => hz (by simp [e])) (fun e => hz (by simp [e])), h2 z (fun e => hz (by simp at e; simp [e]; omega))]
    · rw [hm3, si_c _ (by decide), si_c _ (by decide), si_ne _ _ (Or.inr c), si_ne _ _ (Or.inr b), si_ne _ _ (Or.inr a), e81]
    · rw [z3 82 (by decide) (by decide), h3 q hq]
    · rw [z3 82 (by decide) (by decide), h4 q hq]
    · rw [z3 83 (by decide) (by decide), h5 q hq (by omega)]
    · rw [z3 84 (by decide) (by decide), h6 q hq (by omega)]
    · rw [hm3, si_c _ (by decide), si_c _ (by decide), si_ne _ _ (Or.inr (by decide)), si_ne _ _ (Or.inr (by decide)), si_same]
    · rw [hm3, si_c _ (by decide), si_c _ (by decide), si_ne _ _ (Or.inr (by decide)), si_same]
    · rw [hm3, si_c _ (by decide), si_c _ (by decide), si_same]
    · rw [hm3, si_ne _ _ (Or.inr (by decide)), si_same]
    · rw [hm3, si_same]
  · obtain ⟨x, m2⟩ := s
    rintro ⟨h1, h2, h3, h4, h5, h6⟩
    dsimp only at h1 h2 h3 h4 h5 h6
    subst h1
    refine ⟨_, ⟨rfl, fun z hz => ?_, fun q hq => ?_, fun q hq => ?_, fun q hq hq2 => ?_, fun q hq hq2 => ?_⟩, fun k => b135 (nI n) k hi⟩
    · dsimp only
      rw [si_c _ (fun e => hz (by simp [e])), si_c _ (fun e => hz (by simp [e])), si_c _ (fun e => hz (by simp [e])), h2 z hz]
    · dsimp only
      rw [si_c _ (by decide), si_c _ (by decide), si_ne _ _ (Or.inr (by omega)), h3 q hq]
    · dsimp only
      rw [si_c _ (by decide), si_c _ (by decide), si_1]
      by_cases e : q = i
      · rw [if_pos ⟨rfl, e⟩, e, h2 85 (by decide)]
      · rw [if_neg (fun z => e z.2), h4 q (by omega)]
    · dsimp only
      rw [si_c _ (by decide), si_1]
      by_cases e : q = i % 10
      · rw [if_pos ⟨rfl, e⟩, e, h2 86 (by decide)]
      · rw [if_neg (fun z => e z.2), si_c _ (by decide), h5 q hq (by
          have : q ≠ i := fun z => e (by rw [← z, Nat.mod_eq_of_lt hq])
          omega)]
    · dsimp only
      rw [si_1]
      by_cases e : q = i % 4
      · rw [if_pos ⟨rfl, e⟩, e, h2 87 (by decide)]
      · rw [if_neg (fun z => e z.2), si_c _ (by decide), si_c _ (by decide), h6 q hq (by
          have : q ≠ i := fun z => e (by rw [← z, Nat.mod_eq_of_lt hq])
          omega)]
theorem j105_ok {m : mMem} {n : Nat} {u : Nat → Nat} (h16 : m.1 81 16 = 0) (hS : HS8 m u) (ho : OKT u) : ∃ m', jX8_text_105 (nI n) m = some (some (.int (ansF 0 0 n)), m') ∧ E8 m m' ((0, 0, n), u) := by
  have hb := ho.1
  obtain ⟨m1, hm1⟩ : ∃ m1, m1 = si (si m 81 14 0) 81 15 0 := ⟨_, rfl⟩
  have y1 : Y8 m m1 := by rw [hm1]; exact (Y8_s (by decide)).tr (Y8_s (by decide))
  obtain ⟨m2, e2, q1, q2, q3, q4, q5, q6, q7, q8, q9, q10, q11⟩ := tk_cp (m := m1) n
  have e85 : m1.1 85 = m.1 85 := by rw [hm1, si_c _ (by decide), si_c _ (by decide)]
  have e86 : m1.1 86 = m.1 86 := by rw [hm1, si_c _ (by decide), si_c _ (by decide)]
  have e87 : m1.1 87 = m.1 87 := by rw [hm1, si_c _ (by decide), si_c _ (by decide)]
  obtain ⟨⟨s9, s10, s12, s32, s33, s34⟩, st, sl⟩ := hS
  refine ⟨m2, ?_, ?_, ?_, fun z => absurd rfl z, fun _ => ⟨Z8.yt y1 ⟨fun z hz => q1 z (fun e => hz (by simp at e; simp [e]; omega)), fun j _ a b c => q2 j a b c, q3⟩, ⟨⟨?_, ?_, ?_, ?_, ?_⟩, fun i hi => ?_, fun p hp => ?_⟩, q9, q10, q11⟩⟩
  · unfold jX8_text_105
    dsimp only [lt]
    rw [si_ne m _ (Or.inr (show (16 : Nat) ≠ 14 by decide)), h16, ← hm1, show m1.1 81 16 = 0 by rw [hm1, si_ne _ _ (Or.inr (by decide)), si_ne _ _ (Or.inr (by decide))]; exact h16]
    exact e2
  · rw [q2 14 (by decide) (by decide) (by decide), hm1, si_ne _ _ (Or.inr (by decide)), si_same]
  · rw [q2 15 (by decide) (by decide) (by decide), hm1, si_same]; rfl
  · rw [q7, hm1, si_ne _ _ (Or.inr (by decide)), si_ne _ _ (Or.inr (by decide))]; exact s9
  · rw [q8, hm1, si_ne _ _ (Or.inr (by decide)), si_ne _ _ (Or.inr (by decide))]; exact s10
  · rw [q4 (0 + 32) (by decide), e85]; exact s32
  · rw [q4 (0 + 33) (by decide), e85]; exact s33
  · rw [q4 (0 + 34) (by decide), e85]; exact s34
  · dsimp only at hi ⊢
    rw [Nat.zero_add, q5 i (by omega), q4 (2 * i) (by omega), q4 (2 * i + 1) (by omega), e85, e86]
    exact st i hi
  · dsimp only at hp ⊢
    rw [Nat.zero_add, q6 p (by omega), q4 (20 + 3 * p) (by omega), q4 (20 + 3 * p + 1) (by omega), q4 (20 + 3 * p + 2) (by omega), e85, e87]
    exact sl p hp
theorem hf_cmp : ∀ k, k ≤ 10 → ∀ n, n ≤ 10 → (nI k - 1 < nI n ↔ k ≤ n) := by decide +kernel
theorem b57 (K : Int32 × mMem → mR) (x1 : Int32) (m : mMem) : bX8_text_57 K (x1, m) = if (m.1 81 16) = (0 : Int32) then if (m.1 81 20) = (0 : Int32) then jX8_text_81 x1 m else bV (fX8_readLine m) (fun m20 => K (x1 + (1 : Int32), m20)) else jX8_text_81 x1 m := rfl
theorem j81_bad {m : mMem} {c at0 n : Nat} {u : Nat → Nat} (hc : c ≤ 9) (h0 : c ≠ 0) (h16 : m.1 81 16 = nI c) (h17 : m.1 81 17 = nI at0) : ∃ m', jX8_text_81 (nI n) m = some (some (.int (ansF c at0 n)), m') ∧ E8 m m' ((c, at0, n), u) := by
  unfold jX8_text_81
  rw [if_neg (by rw [h16]; exact c_ne c hc h0)]
  exact j105_bad hc h0 h16 h17
theorem tl8 {b : Nat → Nat} {L : Nat} (hL : L ≤ 160) : ∀ (f p : Nat) (u : Nat → Nat) (g h : Bool) (n : Nat) (m : mMem) (F : Nat), f + n = 81 → 2 * n ≤ p → p ≤ L → f + 1 < F → R8 m b L p u g h → ∃ m', lp bX8_text_57 F (nI n, m) = some (some (.int (ansF (rnF b L f p u g h n).1.1 (rnF b L f p u g h n).1.2.1 (rnF b L f p u g h n).1.2.2)), m') ∧ E8 m m' (rnF b L f p u g h n)
  | 0, p, u, g, h, n, m, F, hf, hn, hp, _, _ => by omega
  | f + 1, p, u, g, h, n, m, F + 1, hf, hn, hp, hF, hR => by
    have hR' := hR
    obtain ⟨hT, hNM, hTS, hK4, -, hS, hO⟩ := hR
    have hKle := tkK_le b L p
    obtain ⟨z16, z18, z19, z20⟩ : m.1 81 16 = 0 ∧ m.1 81 18 = nI (tkE b L p) ∧ m.1 81 19 = nI (tkA b L p) ∧ m.1 81 20 = nI (tkK b L p) := by
      rcases hTS with ⟨z, -⟩ | ⟨-, z1, z2, z3, z4, -⟩
      · exact absurd z hK4
      · exact ⟨z1, z2, z3, z4⟩
    show ∃ m', bX8_text_57 (lp bX8_text_57 F) (nI n, m) = _ ∧ _
    have hrn : rnF b L (f + 1) p u g h n = if tkK b L p = 0 then (if ltF u then ((6, L, n), u) else ((0, 0, n), u)) else if (lnR b L p u g h).1.1 ≠ 0 then (((lnR b L p u g h).1.1, (lnR b L p u g h).1.2.1, n), u) else rnF b L f (lnR b L p u g h).1.2.2 (upU u (lnF b L p) (lnR b L p u g h).2) (g || lnF b L p == 5) (h || lnF b L p == 6) (n + 1) := rfl
    rw [hrn, b57, z16, if_pos rfl, z20]
    by_cases k0 : tkK b L p = 0
    · rw [if_pos k0, if_pos (show nI (tkK b L p) = (0 : Int32) by rw [k0]; rfl)]
      have hb := hO.1
      have hA : tkA b L p = L := by
        obtain ⟨a1, a2, -, -⟩ := tkA_s (b := b) hp
        unfold tkK at k0
        by_cases q : L ≤ tkA b L p
        · omega
        · rw [if_neg q] at k0
          have := kdB_le (b (tkA b L p))
          split at k0 <;> omega
      unfold jX8_text_81
      rw [z16, if_pos rfl, hS.1.2.2.1, hS.1.1]
      have h9 := mf_le (u := u) (u 1) (fun p hp => by have := (hO.2.2 p hp).2.2.2.2; omega)
      have hlost := mf_lost (u := u) (u 1) (u 0)
      cases hlt : ltF u
      · rw [if_pos ((hf_cmp _ h9 _ hb.1).mpr (hlost.mpr (lt_iff.mp hlt)))]
        exact j105_ok z16 hS hO
      · rw [if_neg (fun z => by
          have := lt_iff.mpr (hlost.mp ((hf_cmp _ h9 _ hb.1).mp z))
          rw [hlt] at this
          exact absurd this (by decide))]
        obtain ⟨m2, r1, r2, r3, r4⟩ := fl_ok (c := 6) z16 z19
        have r1' : fX8_fails (6 : Int32) m = some (none, m2) := r1
        rw [r1']
        dsimp only [bV]
        obtain ⟨m3, e3, E3⟩ := j105_bad (m := m2) (c := 6) (at0 := tkA b L p) (n := n) (u := u) (by decide) (by decide) r3 r4
        rw [hA] at e3 E3
        exact ⟨m3, e3, E8.tr (K8_sx r2 (by decide)).y E3⟩
    · rw [if_neg k0, if_neg (show ¬ nI (tkK b L p) = (0 : Int32) by
        rw [show (0 : Int32) = nI 0 from rfl, nI_eq (by omega) (by decide)]
        exact k0)]
      obtain ⟨m2, e2, k2, good, bad⟩ := rl8 hL hp hR'
      rw [e2]
      dsimp only [bV]
      rw [show nI n + 1 = nI (n + 1) from nI_1 _]
      by_cases hz : (lnR b L p u g h).1.1 = 0
      · obtain ⟨p1, p2⟩ := lnR_pos hp hz
        rw [if_neg (show ¬ ((lnR b L p u g h).1.1 ≠ 0) from fun z => z hz)]
        obtain ⟨m3, e3, E3⟩ := tl8 hL f _ _ _ _ (n + 1) m2 F (by omega) (by omega) p2 (by omega) (good hz)
        exact ⟨m3, e3, E8.tr k2.y E3⟩
      · obtain ⟨b1, b2, b3⟩ := bad hz
        rw [if_pos hz]
        obtain ⟨F', rfl⟩ : ∃ F', F = F' + 1 := ⟨F - 1, by omega⟩
        obtain ⟨m3, e3, E3⟩ := j81_bad (m := m2) (n := n + 1) (u := u) b1 hz b2 b3
        refine ⟨m3, ?_, E8.tr k2.y ⟨E3.1, E3.2.1, E3.2.2.1, fun z => absurd z hz⟩⟩
        show bX8_text_57 (lp bX8_text_57 F') (nI (n + 1), m2) = _
        rw [b57, if_neg (by rw [b2]; exact c_ne _ b1 hz), e3]
        unfold ansF
        rw [if_neg hz, if_neg hz]
  | _ + 1, _, _, _, _, _, _, 0, _, _, _, h, _ => absurd h (Nat.not_lt_zero _)
theorem ltk_s (m : mMem) (f : mMem → mR) : lt m f = f m := rfl
theorem bV_s (m : mMem) (f : mMem → mR) : bV (some (none, m)) f = f m := rfl
theorem b34_g (x1 x2 : Int32) (K : Int32 × mMem → mR) (m : mMem) : bX8_text_34 x1 K (x2, m) = if (35 : Int32) ≤ x2 then bV (fX8_goesOn m) (fun m7 => lp bX8_text_57 FU (x1, m7)) else ga x2 35 (lt (si m 85 (x2).toNatClampNeg (0 : Int32)) (fun m22 => li (x2 + (1 : Int32)) (fun y23 => K (y23, m22)))) := rfl
theorem b34_end (K : Int32 × mMem → mR) (m : mMem) : bX8_text_34 (0 : Int32) K (nI 35, m) = bV (fX8_goesOn m) (fun m7 => lp bX8_text_57 FU ((0 : Int32), m7)) := by
  rw [b34_g, if_pos (show (35 : Int32) ≤ nI 35 from by decide)]
theorem b34_mid {K : Int32 × mMem → mR} {m : mMem} {i : Nat} (hi : i < 35) : bX8_text_34 (0 : Int32) K (nI i, m) = K (nI (i + 1), si m 85 i 0) := by
  rw [b34_g, if_neg (show ¬ (35 : Int32) ≤ nI i from nI_ge (b := 35) (by omega) (by decide)), ga_nI hi (by decide), nI_tn (by omega), show nI i + 1 = nI (i + 1) from nI_1 _]
  rfl
theorem hs1 : (0 : Int32) = nI 0 := rfl
theorem hs2 : (0 : Int32) = nI (u0F 0) ∧ (0 : Int32) = nI (u0F 1) ∧ (-1 : Int32) = nI (mfS u0F (u0F 1)) - 1 ∧ (0 : Int32) = nI (u0F 2) - 1 ∧ (0 : Int32) = nI (u0F 3) - 30 ∧ (0 : Int32) = nI (u0F 4) := by decide +kernel
theorem hs0 {m : mMem} (a1 : m.1 81 9 = 0) (a2 : m.1 81 10 = 0) (a3 : m.1 81 12 = -1) (a4 : m.1 85 32 = 0) (a5 : m.1 85 33 = 0) (a6 : m.1 85 34 = 0) : HS8 m u0F := ⟨⟨a1.trans hs2.1, a2.trans hs2.2.1, a3.trans hs2.2.2.1, a4.trans hs2.2.2.2.1, a5.trans hs2.2.2.2.2.1, a6.trans hs2.2.2.2.2.2⟩, fun i hi => absurd hi (Nat.not_lt_zero _), fun i hi => absurd hi (Nat.not_lt_zero _)⟩
theorem text8 {m : mMem} {b : Nat → Nat} {L : Nat} (hL : L ≤ 160) (hT : TB8 m b L) (hNM : NM8 m) : ∃ m', fX8_text m = some (some (.int (ansF (txF b L).1.1 (txF b L).1.2.1 (txF b L).1.2.2)), m') ∧ E8 m m' (txF b L) := by
  obtain ⟨m1, hm1⟩ : ∃ m1, m1 = si (si (si (si (si (si m 81 16 0) 81 18 0) 81 9 0) 81 10 0) 81 11 0) 81 12 (-1) := ⟨_, rfl⟩
  have x1 : SWx 81 [9, 10, 11, 12, 16, 18] m m1 := by rw [hm1]; exact (((((SWx_si (by simp)).tr (SWx_si (by simp))).tr (SWx_si (by simp))).tr (SWx_si (by simp))).tr (SWx_si (by simp))).tr (SWx_si (by simp))
  have w16 : m1.1 81 16 = 0 := by rw [hm1, si_ne _ _ (Or.inr (by decide)), si_ne _ _ (Or.inr (by decide)), si_ne _ _ (Or.inr (by decide)), si_ne _ _ (Or.inr (by decide)), si_ne _ _ (Or.inr (by decide)), si_same]
  have w18 : m1.1 81 18 = 0 := by rw [hm1, si_ne _ _ (Or.inr (by decide)), si_ne _ _ (Or.inr (by decide)), si_ne _ _ (Or.inr (by decide)), si_ne _ _ (Or.inr (by decide)), si_same]
  have w9 : m1.1 81 9 = 0 := by rw [hm1, si_ne _ _ (Or.inr (by decide)), si_ne _ _ (Or.inr (by decide)), si_ne _ _ (Or.inr (by decide)), si_same]
  have w10 : m1.1 81 10 = 0 := by rw [hm1, si_ne _ _ (Or.inr (by decide)), si_ne _ _ (Or.inr (by decide)), si_same]
  have w11 : m1.1 81 11 = 0 := by rw [hm1, si_ne _ _ (Or.inr (by decide)), si_same]
  have w12 : m1.1 81 12 = -1 := by rw [hm1, si_same]
  have hrun : fX8_text m = lp (bX8_text_34 (0 : Int32)) FU ((0 : Int32), m1) := by
    unfold fX8_text
    rw [ltk_s, ltk_s, ltk_s, ltk_s, ltk_s, ltk_s, hm1]
  rw [hrun]
  refine lp_rel0 (body := bX8_text_34 (0 : Int32)) (fun i s => s.1 = nI i ∧ (∀ z, z ≠ 85 → s.2.1 z = m1.1 z) ∧ ∀ q, q < i → s.2.1 85 q = 0) 35 (fun r => ∃ m', r = some (some (.int (ansF (txF b L).1.1 (txF b L).1.2.1 (txF b L).1.2.2)), m') ∧ E8 m m' (txF b L)) _ (by decide) ⟨rfl, fun _ _ => rfl, fun q hq => absurd hq (Nat.not_lt_zero _)⟩ (fun s k => ?_) (fun i s hi => ?_)
  · obtain ⟨x, m2⟩ := s
    rintro ⟨h1, h2, h3⟩
    dsimp only at h1 h2 h3
    subst h1
    have e81 : m2.1 81 = m1.1 81 := h2 81 (by decide)
    have k2 : K8 m m2 := (K8_sx x1 (by decide)).tr ⟨fun z _ a _ _ => h2 z a, fun j _ => by rw [e81]⟩
    obtain ⟨m3, e3, x3, t3⟩ := go_ok (m := m2) (p := 0) hL (Nat.zero_le _) (TB8_k hT k2) (by rw [e81, w18]; rfl) (by rw [e81, w16])
    have k3 : K8 m m3 := k2.tr (K8_sx x3 (by decide))
    have hgo : bX8_text_34 (0 : Int32) k (nI 35, m2) = lp bX8_text_57 FU ((0 : Int32), m3) := by
      rw [b34_end, e3, bV_s]
    rw [hgo]
    unfold txF
    by_cases k4 : tkK b L 0 = 4
    · rw [if_pos k4]
      have hz : m3.1 81 16 = nI 1 ∧ m3.1 81 17 = nI (tkA b L 0) := by
        rcases t3 with ⟨-, z1, z2⟩ | ⟨z, -⟩
        · exact ⟨z1, z2⟩
        · exact absurd k4 z
      obtain ⟨m4, e4, E4⟩ := j81_bad (m := m3) (n := 0) (u := u0F) (by decide) (by decide : (1 : Nat) ≠ 0) hz.1 hz.2
      refine ⟨m4, ?_, E8.tr k3.y E4⟩
      rw [lp_one, b57, if_neg (by rw [hz.1]; decide)]
      exact e4
    · rw [if_neg k4]
      obtain ⟨o9, o10, o12, o11, o85, o86, o87⟩ := slo8 x3
      have hR : R8 m3 b L 0 u0F false false := ⟨TB8_k hT k3, NM8_k hNM k3, t3, k4, ⟨0, by rw [o11, e81, w11]; exact hs1, by decide, by decide, by decide⟩, hs0 (by rw [o9, e81, w9]) (by rw [o10, e81, w10]) (by rw [o12, e81, w12]) (by rw [o85, h3 32 (by decide)]) (by rw [o85, h3 33 (by decide)]) (by rw [o85, h3 34 (by decide)]), u0_OK⟩
      obtain ⟨m4, e4, E4⟩ := tl8 hL 81 0 u0F false false 0 m3 FU (by decide) (by decide) (Nat.zero_le _) (by decide) hR
      exact ⟨m4, e4, E8.tr k3.y E4⟩
  · obtain ⟨x, m2⟩ := s
    rintro ⟨h1, h2, h3⟩
    dsimp only at h1 h2 h3
    subst h1
    refine ⟨(nI (i + 1), si m2 85 i 0), ⟨rfl, fun z hz => by rw [← h2 z hz]; exact si_c _ hz, fun q hq => ?_⟩, fun k => ?_⟩
    · dsimp only
      rw [si_1]
      by_cases e : q = i
      · rw [if_pos ⟨rfl, e⟩]
      · rw [if_neg (fun z => e z.2), h3 q (by omega)]
    · exact b34_mid hi
