/-! PURE FACTS: tokens of the tape -/
def SWx (c : Nat) (S : List Nat) (m m' : mMem) : Prop := (∀ z, z ≠ c → m'.1 z = m.1 z) ∧ ∀ j, j ∉ S → m'.1 c j = m.1 c j
theorem SWx.rf {c : Nat} {S : List Nat} {m : mMem} : SWx c S m m := ⟨fun _ _ => rfl, fun _ _ => rfl⟩
theorem SWx.tr {c : Nat} {S : List Nat} {m1 m2 m3 : mMem} (h1 : SWx c S m1 m2) (h2 : SWx c S m2 m3) : SWx c S m1 m3 := ⟨fun z hz => (h2.1 z hz).trans (h1.1 z hz), fun j hj => (h2.2 j hj).trans (h1.2 j hj)⟩
theorem SWx.mono {c : Nat} {S S' : List Nat} {m m' : mMem} (h : SWx c S m m') (hs : ∀ j ∈ S, j ∈ S') : SWx c S' m m' := ⟨h.1, fun j hj => h.2 j (fun z => hj (hs j z))⟩
theorem SWx_si {c k : Nat} {S : List Nat} {m : mMem} {x : Int32} (hk : k ∈ S) : SWx c S m (si m c k x) := ⟨fun z hz => si_c _ hz, fun j hj => si_ne _ _ (Or.inr (fun e => hj (e ▸ hk)))⟩
theorem fd_spec {q : Nat → Bool} : ∀ (n i : Nat), i ≤ fdF q n i ∧ fdF q n i ≤ i + n ∧ (∀ j, i ≤ j → j < fdF q n i → q j = false) ∧ (fdF q n i < i + n → q (fdF q n i) = true)
  | 0, i => ⟨Nat.le_refl _, Nat.le_refl _, fun j h1 h2 => by
      have : j < i := h2
      omega, fun h => by
      have : i < i := h
      omega⟩
  | n + 1, i => by
    by_cases h : q i = true
    · have e : fdF q (n + 1) i = i := by
        show (if q i then i else fdF q n (i + 1)) = i
        rw [if_pos h]
      rw [e]
      exact ⟨Nat.le_refl _, by omega, fun j h1 h2 => by omega, fun _ => h⟩
    · have e : fdF q (n + 1) i = fdF q n (i + 1) := by
        show (if q i then i else fdF q n (i + 1)) = _
        rw [if_neg h]
      obtain ⟨a1, a2, a3, a4⟩ := fd_spec (q := q) n (i + 1)
      rw [e]
      refine ⟨by omega, by omega, fun j h1 h2 => ?_, fun hh => a4 (by omega)⟩
      by_cases ej : j = i
      · subst ej
        simpa using h
      · exact a3 j (by omega) h2
def kdB (c : Nat) : Nat := if 97 ≤ c ∧ c ≤ 122 then 1 else if 48 ≤ c ∧ c ≤ 57 then 2 else if c = 59 then 3 else 4
theorem kdB_le (c : Nat) : 1 ≤ kdB c ∧ kdB c ≤ 4 := by
  unfold kdB
  repeat' split
  all_goals omega
def tkA (b : Nat → Nat) (L p : Nat) : Nat := fdF (fun i => b i != 32) (L - p) p
def tkR (b : Nat → Nat) (L a : Nat) : Nat := fdF (fun i => kdB (b i) != kdB (b a)) (L - a) a
def tkE (b : Nat → Nat) (L p : Nat) : Nat := if L ≤ tkA b L p then tkA b L p else if kdB (b (tkA b L p)) = 3 then tkA b L p + 1 else if kdB (b (tkA b L p)) = 4 then tkA b L p else tkR b L (tkA b L p)
def tkK (b : Nat → Nat) (L p : Nat) : Nat := if L ≤ tkA b L p then 0 else if kdB (b (tkA b L p)) = 2 ∧ 2 < tkR b L (tkA b L p) - tkA b L p then 4 else kdB (b (tkA b L p))
theorem tkA_s {b : Nat → Nat} {L p : Nat} (hp : p ≤ L) : p ≤ tkA b L p ∧ tkA b L p ≤ L ∧ (∀ j, p ≤ j → j < tkA b L p → b j = 32) ∧ (tkA b L p < L → b (tkA b L p) ≠ 32) := by
  obtain ⟨a1, a2, a3, a4⟩ := fd_spec (q := fun i => b i != 32) (L - p) p
  refine ⟨a1, by unfold tkA; omega, fun j h1 h2 => by simpa using a3 j h1 h2, fun h => ?_⟩
  have := a4 (by unfold tkA at h; omega)
  unfold tkA
  simpa using this
theorem tkR_s {b : Nat → Nat} {L a : Nat} (ha : a < L) : a < tkR b L a ∧ tkR b L a ≤ L ∧ (∀ j, a ≤ j → j < tkR b L a → kdB (b j) = kdB (b a)) ∧ (tkR b L a < L → kdB (b (tkR b L a)) ≠ kdB (b a)) := by
  obtain ⟨a1, a2, a3, a4⟩ := fd_spec (q := fun i => kdB (b i) != kdB (b a)) (L - a) a
  refine ⟨?_, by unfold tkR; omega, fun j h1 h2 => by simpa using a3 j h1 h2, fun h => ?_⟩
  · rcases Nat.lt_or_ge a (tkR b L a) with z | z
    · exact z
    · have e : tkR b L a = a := by unfold tkR at z ⊢; omega
      have := a4 (by unfold tkR at e; omega)
      unfold tkR at e
      rw [e] at this
      simp at this
  · have := a4 (by unfold tkR at h; omega)
    unfold tkR
    simpa using this
theorem tkE_s {b : Nat → Nat} {L p : Nat} (hp : p ≤ L) : tkA b L p ≤ tkE b L p ∧ tkE b L p ≤ L ∧ (tkK b L p ≠ 0 → tkK b L p ≠ 4 → p < tkE b L p) := by
  obtain ⟨a1, a2, -, -⟩ := tkA_s (b := b) hp
  unfold tkE tkK
  by_cases h : L ≤ tkA b L p
  · rw [if_pos h, if_pos h]
    exact ⟨Nat.le_refl _, a2, fun z => absurd rfl z⟩
  · rw [if_neg h, if_neg h]
    obtain ⟨r1, r2, -, -⟩ := tkR_s (b := b) (show tkA b L p < L by omega)
    by_cases h3 : kdB (b (tkA b L p)) = 3
    · rw [if_pos h3]
      exact ⟨by omega, by omega, fun _ _ => by omega⟩
    · rw [if_neg h3]
      by_cases h4 : kdB (b (tkA b L p)) = 4
      · rw [if_pos h4]
        exact ⟨Nat.le_refl _, a2, fun _ z => by rw [if_neg (by omega)] at z; exact absurd h4 z⟩
      · rw [if_neg h4]
        exact ⟨by omega, r2, fun _ _ => by omega⟩
/-! ## the class -/
theorem fX6_kindOfByte_eq {c : Nat} (m : mMem) (hc : c < 128) : fX6_kindOfByte (nI c) m = some (some (.int (nI (if kdB c = 4 then 0 else kdB c))), m) := by
  have e : ∀ c, c < 128 → (if nI c < (97 : Int32) then (if nI c < (48 : Int32) then (if nI c = (59 : Int32) then (3 : Int32) else 0) else if (57 : Int32) < nI c then (if nI c = (59 : Int32) then (3 : Int32) else 0) else 2) else if (122 : Int32) < nI c then (if nI c < (48 : Int32) then (if nI c = (59 : Int32) then (3 : Int32) else 0) else if (57 : Int32) < nI c then (if nI c = (59 : Int32) then (3 : Int32) else 0) else 2) else 1) = nI (if kdB c = 4 then 0 else kdB c) := by decide +kernel
  rw [← e c hc]
  unfold fX6_kindOfByte jX6_kindOfByte_14 jX6_kindOfByte_28
  repeat' split
  all_goals rfl
def TB7 (m : mMem) (b : Nat → Nat) (L : Nat) : Prop := m.1 49 0 = nI L ∧ ∀ i, i < L → m.1 50 i = nI (b i) ∧ b i < 128
theorem TB7_sx {m m' : mMem} {b : Nat → Nat} {L : Nat} {S : List Nat} (h : TB7 m b L) (s : SWx 49 S m m') (hS : 0 ∉ S) : TB7 m' b L := ⟨(s.2 0 hS).trans h.1, fun i hi => by rw [s.1 50 (by decide)]; exact h.2 i hi⟩
theorem nI_03 : nI 0 = (0 : Int32) ∧ nI 1 = (1 : Int32) ∧ nI 2 = (2 : Int32) ∧ nI 3 = (3 : Int32) ∧ nI 4 = (4 : Int32) := ⟨rfl, rfl, rfl, rfl, rfl⟩
theorem tok7 {m : mMem} {b : Nat → Nat} {L p : Nat} (hL : L ≤ 160) (hp : p ≤ L) (hT : TB7 m b L) (h5 : m.1 49 5 = nI p) : ∃ m', fX6_takeToken m = some (none, m') ∧ SWx 49 [1, 2, 5, 6, 7] m m' ∧ m'.1 49 7 = nI (tkA b L p) ∧ (tkK b L p = 4 → m'.1 49 1 = 1 ∧ m'.1 49 2 = nI (tkA b L p)) ∧ (tkK b L p ≠ 4 → m'.1 49 1 = m.1 49 1 ∧ m'.1 49 2 = m.1 49 2 ∧ m'.1 49 5 = nI (tkE b L p) ∧ m'.1 49 6 = nI (if tkK b L p = 0 then 4 else tkK b L p)) := by
  obtain ⟨s1, s2, s3, s4⟩ := tkA_s (b := b) hp
  unfold fX6_takeToken
  refine lp_rel0 (body := bX6_takeToken_0) (fun i m' => SWx 49 [5] m m' ∧ m'.1 49 5 = nI (p + i)) (tkA b L p - p) (fun res => ∃ m', res = some (none, m') ∧ SWx 49 [1, 2, 5, 6, 7] m m' ∧ m'.1 49 7 = nI (tkA b L p) ∧ (tkK b L p = 4 → m'.1 49 1 = 1 ∧ m'.1 49 2 = nI (tkA b L p)) ∧ (tkK b L p ≠ 4 → m'.1 49 1 = m.1 49 1 ∧ m'.1 49 2 = m.1 49 2 ∧ m'.1 49 5 = nI (tkE b L p) ∧ m'.1 49 6 = nI (if tkK b L p = 0 then 4 else tkK b L p))) m (by omega) ⟨SWx.rf, h5⟩ (fun m1 k => ?_) (fun i m1 hi => ?_)
  · rintro ⟨a1, a2⟩
    rw [show p + (tkA b L p - p) = tkA b L p by omega] at a2
    have hT1 := TB7_sx hT a1 (by decide)
    have hstart : bX6_takeToken_0 k m1 = jX6_takeToken_38 m1 := by
      unfold bX6_takeToken_0
      dsimp only
      rw [hT1.1, a2]
      by_cases h : L ≤ tkA b L p
      · rw [if_pos (nI_le h (by omega))]
      · have hb := hT1.2 _ (show tkA b L p < L by omega)
        have hne := s4 (by omega)
        rw [if_neg (nI_ge (by omega) (by omega)), ga_nI (by omega) (by decide), nI_tn (by omega), hb.1, if_neg (show ¬ nI (b (tkA b L p)) = (32 : Int32) from fun z => hne ((nI_eq (b := 32) (by omega) (by decide)).mp z))]
    rw [hstart]
    generalize hA : tkA b L p = a at *
    obtain ⟨m2, hm2⟩ : ∃ m2, m2 = si m1 49 7 (nI a) := ⟨_, rfl⟩
    have x2 : SWx 49 [1, 2, 5, 6, 7] m m2 := by rw [hm2]; exact (a1.mono (by simp)).tr (SWx_si (by simp))
    have q5 : m2.1 49 5 = nI a := by rw [hm2, si_ne _ _ (Or.inr (by decide))]; exact a2
    have q7 : m2.1 49 7 = nI a := by rw [hm2, si_same]
    have q1 : m2.1 49 1 = m.1 49 1 := by rw [hm2, si_ne _ _ (Or.inr (by decide)), a1.2 1 (by decide)]
    have q2 : m2.1 49 2 = m.1 49 2 := by rw [hm2, si_ne _ _ (Or.inr (by decide)), a1.2 2 (by decide)]
    have hT2 : TB7 m2 b L := TB7_sx hT x2 (by decide)
    by_cases h : L ≤ a
    · have hK : tkK b L p = 0 := by unfold tkK; rw [hA, if_pos h]
      have hE : tkE b L p = a := by unfold tkE; rw [hA, if_pos h]
      refine ⟨si m2 49 6 4, ?_, x2.tr (SWx_si (by simp)), by rw [si_ne _ _ (Or.inr (by decide))]; exact q7, fun z => by rw [hK] at z; exact absurd z (by decide), fun _ => ⟨by rw [si_ne _ _ (Or.inr (by decide))]; exact q1, by rw [si_ne _ _ (Or.inr (by decide))]; exact q2, by rw [si_ne _ _ (Or.inr (by decide)), hE]; exact q5, by rw [si_same, hK]; rfl⟩⟩
      unfold jX6_takeToken_38
      dsimp only [lt]
      rw [a2, ← hm2, hT2.1, q5, if_pos (nI_le h (by omega))]
      unfold jX6_takeToken_74
      dsimp only [lt]
      rw [si_same, if_neg (by decide), if_neg (by decide), if_pos rfl]
    · have ha : a < L := by omega
      obtain ⟨r1, r2, r3, r4⟩ := tkR_s (b := b) ha
      have hb := hT2.2 a ha
      have hkb := kdB_le (b a)
      have run : jX6_takeToken_38 m1 = jX6_takeToken_74 (nI (if kdB (b a) = 4 then 0 else kdB (b a))) m2 := by
        unfold jX6_takeToken_38
        dsimp only [lt]
        rw [a2, ← hm2, hT2.1, q5, if_neg (nI_ge ha (by omega)), ga_nI (by omega) (by decide), nI_tn (by omega), hb.1, fX6_kindOfByte_eq _ hb.2]
        rfl
      rw [run]
      unfold jX6_takeToken_74
      dsimp only [lt]
      by_cases h4 : kdB (b a) = 4
      · have hK : tkK b L p = 4 := by unfold tkK; rw [hA, if_neg h, if_neg (by omega), h4]
        rw [if_pos h4, si_same, if_pos (show nI 0 = (0 : Int32) from rfl)]
        unfold fX6_refuse
        dsimp only [lt, bV]
        refine ⟨_, rfl, ((x2.tr (SWx_si (by simp))).tr (SWx_si (by simp))).tr (SWx_si (by simp)), ?_, fun _ => ⟨?_, ?_⟩, fun z => absurd hK z⟩
        · rw [si_ne _ _ (Or.inr (by decide)), si_ne _ _ (Or.inr (by decide)), si_ne _ _ (Or.inr (by decide))]; exact q7
        · rw [si_ne _ _ (Or.inr (by decide)), si_same]
        · rw [si_same, si_ne _ _ (Or.inr (by decide))]; exact q7
      · rw [if_neg h4, si_same, if_neg (show ¬ nI (kdB (b a)) = (0 : Int32) by rw [nI_0iff (by omega)]; omega)]
        obtain ⟨m3, hm3⟩ : ∃ m3, m3 = si m2 49 6 (nI (kdB (b a))) := ⟨_, rfl⟩
        rw [← hm3]
        have x3 : SWx 49 [1, 2, 5, 6, 7] m m3 := by rw [hm3]; exact x2.tr (SWx_si (by simp))
        have w6 : m3.1 49 6 = nI (kdB (b a)) := by rw [hm3, si_same]
        have w5 : m3.1 49 5 = nI a := by rw [hm3, si_ne _ _ (Or.inr (by decide))]; exact q5
        have w7 : m3.1 49 7 = nI a := by rw [hm3, si_ne _ _ (Or.inr (by decide))]; exact q7
        have w1 : m3.1 49 1 = m.1 49 1 := by rw [hm3, si_ne _ _ (Or.inr (by decide))]; exact q1
        have w2 : m3.1 49 2 = m.1 49 2 := by rw [hm3, si_ne _ _ (Or.inr (by decide))]; exact q2
        have hT3 : TB7 m3 b L := TB7_sx hT x3 (by decide)
        by_cases h3 : kdB (b a) = 3
        · have hK : tkK b L p = 3 := by unfold tkK; rw [hA, if_neg h, if_neg (by omega), h3]
          have hE : tkE b L p = a + 1 := by unfold tkE; rw [hA, if_neg h, if_pos h3]
          rw [if_pos (show nI (kdB (b a)) = (3 : Int32) by rw [h3]; rfl), w5, show nI a + 1 = nI (a + 1) from nI_1 _]
          exact ⟨_, rfl, x3.tr (SWx_si (by simp)), by rw [si_ne _ _ (Or.inr (by decide))]; exact w7, fun z => by rw [hK] at z; exact absurd z (by decide), fun _ => ⟨by rw [si_ne _ _ (Or.inr (by decide))]; exact w1, by rw [si_ne _ _ (Or.inr (by decide))]; exact w2, by rw [si_same, hE], by rw [si_ne _ _ (Or.inr (by decide)), w6, hK, h3]; rfl⟩⟩
        · have hk12 : kdB (b a) = 1 ∨ kdB (b a) = 2 := by omega
          rw [if_neg (show ¬ nI (kdB (b a)) = (3 : Int32) by rw [show (3 : Int32) = nI 3 from rfl, nI_eq (by omega) (by decide)]; exact h3), if_neg (show ¬ nI (kdB (b a)) = (4 : Int32) by rw [show (4 : Int32) = nI 4 from rfl, nI_eq (by omega) (by decide)]; exact h4)]
          have hE : tkE b L p = tkR b L a := by unfold tkE; rw [hA, if_neg h, if_neg h3, if_neg h4]
          have hfin : ∀ m4, SWx 49 [5] m3 m4 → m4.1 49 5 = nI (tkR b L a) → ∃ m', jX6_takeToken_168 m4 = some (none, m') ∧ SWx 49 [1, 2, 5, 6, 7] m m' ∧ m'.1 49 7 = nI a ∧ (tkK b L p = 4 → m'.1 49 1 = 1 ∧ m'.1 49 2 = nI a) ∧ (tkK b L p ≠ 4 → m'.1 49 1 = m.1 49 1 ∧ m'.1 49 2 = m.1 49 2 ∧ m'.1 49 5 = nI (tkE b L p) ∧ m'.1 49 6 = nI (if tkK b L p = 0 then 4 else tkK b L p)) := fun m4 y1 y2 => by
            have z6 : m4.1 49 6 = nI (kdB (b a)) := by rw [y1.2 6 (by decide)]; exact w6
            have z7 : m4.1 49 7 = nI a := by rw [y1.2 7 (by decide)]; exact w7
            have z1 : m4.1 49 1 = m.1 49 1 := by rw [y1.2 1 (by decide)]; exact w1
            have z2 : m4.1 49 2 = m.1 49 2 := by rw [y1.2 2 (by decide)]; exact w2
            have x4 : SWx 49 [1, 2, 5, 6, 7] m m4 := x3.tr (y1.mono (by simp))
            have good : tkK b L p = kdB (b a) → ∃ m', some (none, m4) = some ((none : Option Value), m') ∧ SWx 49 [1, 2, 5, 6, 7] m m' ∧ m'.1 49 7 = nI a ∧ (tkK b L p = 4 → m'.1 49 1 = 1 ∧ m'.1 49 2 = nI a) ∧ (tkK b L p ≠ 4 → m'.1 49 1 = m.1 49 1 ∧ m'.1 49 2 = m.1 49 2 ∧ m'.1 49 5 = nI (tkE b L p) ∧ m'.1 49 6 = nI (if tkK b L p = 0 then 4 else tkK b L p)) := fun hK =>
              ⟨m4, rfl, x4, z7, fun z => by omega, fun _ => ⟨z1, z2, by rw [hE]; exact y2, by rw [z6, hK, if_neg (by omega)]⟩⟩
            unfold jX6_takeToken_168
            rw [z6, y2, z7, nI_sub (by omega)]
            by_cases k2 : kdB (b a) = 2
            · rw [if_pos (show nI (kdB (b a)) = (2 : Int32) by rw [k2]; rfl)]
              by_cases hl : tkR b L a - a ≤ 2
              · rw [if_pos (show nI (tkR b L a - a) ≤ (2 : Int32) from nI_le (b := 2) hl (by decide))]
                exact good (by unfold tkK; rw [hA, if_neg h, if_neg (by omega)])
              · have hK : tkK b L p = 4 := by unfold tkK; rw [hA, if_neg h, if_pos (by omega)]
                rw [if_neg (show ¬ nI (tkR b L a - a) ≤ (2 : Int32) from nI_ge (a := 2) (by omega) (by omega))]
                unfold fX6_refuse
                dsimp only [lt, bV]
                exact ⟨_, rfl, (x4.tr (SWx_si (by simp))).tr (SWx_si (by simp)), by rw [si_ne _ _ (Or.inr (by decide)), si_ne _ _ (Or.inr (by decide))]; exact z7, fun _ => ⟨by rw [si_ne _ _ (Or.inr (by decide)), si_same], by rw [si_same]⟩, fun z => absurd hK z⟩
            · rw [if_neg (show ¬ nI (kdB (b a)) = (2 : Int32) by rw [show (2 : Int32) = nI 2 from rfl, nI_eq (by omega) (by decide)]; exact k2)]
              exact good (by unfold tkK; rw [hA, if_neg h, if_neg (by omega)])
          refine lp_rel0 (body := bX6_takeToken_125) (fun i m' => SWx 49 [5] m3 m' ∧ m'.1 49 5 = nI (a + i)) (tkR b L a - a) (fun res => ∃ m', res = some (none, m') ∧ SWx 49 [1, 2, 5, 6, 7] m m' ∧ m'.1 49 7 = nI a ∧ (tkK b L p = 4 → m'.1 49 1 = 1 ∧ m'.1 49 2 = nI a) ∧ (tkK b L p ≠ 4 → m'.1 49 1 = m.1 49 1 ∧ m'.1 49 2 = m.1 49 2 ∧ m'.1 49 5 = nI (tkE b L p) ∧ m'.1 49 6 = nI (if tkK b L p = 0 then 4 else tkK b L p))) m3 (by omega) ⟨SWx.rf, w5⟩ (fun m4 kk => ?_) (fun i m4 hi => ?_)
          · rintro ⟨y1, y2⟩
            rw [show a + (tkR b L a - a) = tkR b L a by omega] at y2
            have hT4 := TB7_sx hT3 y1 (by decide)
            unfold bX6_takeToken_125
            dsimp only
            rw [hT4.1, y2]
            by_cases hl : L ≤ tkR b L a
            · rw [if_pos (nI_le hl (by omega))]
              exact hfin m4 y1 y2
            · have hbr := hT4.2 _ (show tkR b L a < L by omega)
              have hne := r4 (by omega)
              have hkr := kdB_le (b (tkR b L a))
              rw [if_neg (nI_ge (by omega) (by omega)), ga_nI (by omega) (by decide), nI_tn (by omega), hbr.1, fX6_kindOfByte_eq _ hbr.2]
              dsimp only [bI]
              rw [y1.2 6 (by decide), w6, if_neg (by
                rw [nI_eq (by split <;> omega) (by omega)]
                split <;> omega)]
              exact hfin m4 y1 y2
          · rintro ⟨y1, y2⟩
            have hT4 := TB7_sx hT3 y1 (by decide)
            have hbi := hT4.2 (a + i) (by omega)
            have hki := r3 (a + i) (by omega) (by omega)
            refine ⟨si m4 49 5 (nI (a + (i + 1))), ⟨y1.tr (SWx_si (by simp)), si_same _ _ _ _⟩, fun kk => ?_⟩
            unfold bX6_takeToken_125
            dsimp only [lt]
            rw [hT4.1, y2, if_neg (nI_ge (by omega) (by omega)), ga_nI (by omega) (by decide), nI_tn (by omega), hbi.1, fX6_kindOfByte_eq _ hbi.2]
            dsimp only [bI]
            rw [hki, if_neg h4, y1.2 6 (by decide), w6, if_pos rfl, y2, show nI (a + i) + 1 = nI (a + (i + 1)) from nI_1 _]
  · rintro ⟨a1, a2⟩
    have hT1 := TB7_sx hT a1 (by decide)
    have hb := hT1.2 (p + i) (by omega)
    have h32 := s3 (p + i) (by omega) (by omega)
    refine ⟨si m1 49 5 (nI (p + (i + 1))), ⟨a1.tr (SWx_si (by simp)), si_same _ _ _ _⟩, fun k => ?_⟩
    unfold bX6_takeToken_0
    dsimp only [lt]
    rw [hT1.1, a2, if_neg (nI_ge (by omega) (by omega)), ga_nI (by omega) (by decide), nI_tn (by omega), hb.1, h32, if_pos (show nI 32 = (32 : Int32) from rfl), show nI (p + i) + 1 = nI (p + (i + 1)) from nI_1 _]
