/-! PURE FACTS: copies of the house, loops that may end early; ahead, stuck, gap -/
theorem lp_or {σ : Type} {body : (σ → mR) → σ → mR} (P : Nat → σ → Prop) (N : Nat) (R : mR → Prop) (hend : ∀ s k, P N s → R (body k s)) (hstep : ∀ i s, i < N → P i s → (∃ s', P (i + 1) s' ∧ ∀ k, body k s = k s') ∨ ∀ k, R (body k s)) : ∀ (r i F : Nat) (s : σ), i + r = N → r < F → P i s → R (lp body F s)
  | 0, i, F + 1, s, h, _, hp => by
    have e : i = N := by omega
    subst e
    exact hend s _ hp
  | r + 1, i, F + 1, s, h, hF, hp => by
    rcases hstep i s (by omega) hp with ⟨s', hp', he⟩ | he
    · show R (body (lp body F) s)
      rw [he]
      exact lp_or P N R hend hstep r (i + 1) F s' (by omega) (by omega) hp'
    · exact he _
  | _, _, 0, _, _, hF, _ => absurd hF (Nat.not_lt_zero _)
theorem lp_or0 {σ : Type} {body : (σ → mR) → σ → mR} (P : Nat → σ → Prop) (N : Nat) (R : mR → Prop) (s : σ) (hN : N < 20000) (h0 : P 0 s) (hend : ∀ s k, P N s → R (body k s)) (hstep : ∀ i s, i < N → P i s → (∃ s', P (i + 1) s' ∧ ∀ k, body k s = k s') ∨ ∀ k, R (body k s)) : R (lp body FU s) := lp_or P N R hend hstep N 0 FU s (by omega) hN h0
/-- the first place from i on, of n, where q holds -/
def fdF (q : Nat → Bool) : Nat → Nat → Nat
  | 0, i => i
  | n + 1, i => if q i then i else fdF q n (i + 1)
theorem fdF_none {q : Nat → Bool} : ∀ (n i : Nat), (∀ j, i ≤ j → j < i + n → q j = false) → fdF q n i = i + n
  | 0, _, _ => rfl
  | n + 1, i, h => by
    show (if q i then i else fdF q n (i + 1)) = _
    rw [h i (Nat.le_refl _) (by omega), if_neg (by decide), fdF_none n (i + 1) (fun j h1 h2 => h j (by omega) (by omega))]
    omega
theorem fdF_hit {q : Nat → Bool} : ∀ (n i k : Nat), i ≤ k → k < i + n → q k = true → (∀ j, i ≤ j → j < k → q j = false) → fdF q n i = k
  | 0, i, k, h1, h2, _, _ => by omega
  | n + 1, i, k, h1, h2, hq, h => by
    show (if q i then i else fdF q n (i + 1)) = _
    by_cases e : i = k
    · subst e
      rw [hq, if_pos rfl]
    · rw [h i (Nat.le_refl _) (by omega), if_neg (by decide)]
      exact fdF_hit n (i + 1) k (by omega) (by omega) hq (fun j h3 h4 => h j (by omega) h4)
theorem off_cases (x : Int32) {n : Nat} (hn : n ≤ 10) : (∃ i, i < n ∧ x = nI (10 + i) ∧ x - 10 = nI i ∧ ((0 : Int32) ≤ x - 10 ∧ x - 10 ≤ nI n - 1) ∧ ((10 : Int32) ≤ x ∧ x ≤ (9 : Int32) + nI n)) ∨ (¬ ((0 : Int32) ≤ x - 10 ∧ x - 10 ≤ nI n - 1) ∧ ¬ ((10 : Int32) ≤ x ∧ x ≤ (9 : Int32) + nI n)) := by
  have e9 : (9 : Int32) + nI n = nI (9 + n) := nI_add 9 n
  have fw : ∀ i, i < n → x = nI (10 + i) → x - 10 = nI i ∧ ((0 : Int32) ≤ x - 10 ∧ x - 10 ≤ nI n - 1) ∧ ((10 : Int32) ≤ x ∧ x ≤ (9 : Int32) + nI n) := fun i hi e => by
    have e1 : x - 10 = nI i := by rw [e, show (10 : Int32) = nI 10 from rfl, nI_sub (by omega)]; congr 1; omega
    refine ⟨e1, ?_, ?_⟩
    · rw [e1]; exact (rngN (by omega)).mpr ⟨i, hi, rfl⟩
    · rw [e, e9, show (10 : Int32) = nI 10 from rfl]; exact ⟨nI_le (by omega) (by omega), nI_le (by omega) (by omega)⟩
  by_cases h : (0 : Int32) ≤ x - 10 ∧ x - 10 ≤ nI n - 1
  · obtain ⟨i, hi, e⟩ := (rngN (by omega)).mp h
    have ex : x = nI (10 + i) := by
      have : x = (x - 10) + 10 := by rw [Int32.sub_add_cancel]
      rw [this, e, show (10 : Int32) = nI 10 from rfl, nI_add, Nat.add_comm]
    obtain ⟨a, b, c⟩ := fw i hi ex
    exact Or.inl ⟨i, hi, ex, a, b, c⟩
  · refine Or.inr ⟨h, fun q => ?_⟩
    rw [e9] at q
    obtain ⟨k, k1, k2, e⟩ := rng (x := x) (lo := 10) (hi := 9 + n) (by decide) (by omega) q
    exact h (fw (k - 10) (by omega) (by rw [e]; congr 1; omega)).2.1
theorem cp7 {m : mMem} {v : Nat → Nat} (h : HC m 0 v) (ho : OK v) : ∃ m', fX4_copyFrom 8 0 m = some (none, m') ∧ HC m' 8 v ∧ SM [8, 9, 10, 11, 12, 13, 14, 15] m m' := fX4_copyFrom_eq (a := 0) (b := 8) (by omega) h ho
theorem cp8 {m : mMem} {v : Nat → Nat} {P : Nat} (h : HO m 0 0 v) (h1 : 35 ≤ P) (h2 : P ≤ 175) : ∃ m', fX8_copies (0 : Int32) (nI P) m = some (none, m') ∧ HO m' P 0 v ∧ SM [82] m m' ∧ PG P m m' :=
  ⟨kM 0 P m 35, fX8_copies_eq (A := 0) (o := 0) (v := v) (by omega) (by omega) (by omega), ⟨kM_HM (by omega) h.1 h.2.1, h.2.1, h2, by rw [(kM_SM 0 P m 35 81 (by decide)).1]; exact h.2.2.2.1, by decide⟩, kM_SM _ _ _ _, kM_PG (by omega)⟩
theorem HO_fr {m m' : mMem} {P o : Nat} {v : Nat → Nat} (h : HO m P o v) (f : FR m m') (hP : P < 71) : HO m' P o v := by
  have hb := h.2.1.1
  have e81 := f.1 81 (by decide)
  exact ⟨HM_fr h.1 hb.1 hb.2.1 (by rw [e81]) (by rw [e81]) (f.1 83 (by decide)) (f.1 84 (by decide)) (fun q _ hq => f.2 q (by omega)), h.2.1, h.2.2.1, by rw [e81]; exact h.2.2.2.1, h.2.2.2.2⟩
theorem gh7 {m : mMem} {b p : Nat} {v : Nat → Nat} (h : HC m b v) (ho : OK v) (hp : p < v 1) : fX4_getsHome b (nI p) m = some (some (.int (if phO v 0 p = 0 then 0 else 1)), m) := by
  have hr := rcS_b ho hp
  have hq := ho.2.2 p hp
  have hb := ho.1
  obtain ⟨f, L, hF, g1, g2, g3, -⟩ := brute (t := bitsN (trS v 0 p) (v 0)) hr.1 hr.2 (show v (52 + p) < 10 by omega)
  rw [fX4_getsHome_eq h ho hp, g3]
  have hph : phO v 0 p = pvS (bitsN (trS v 0 p) (v 0)) (rcS v p) (v (52 + p)) := rfl
  rw [← hph]
  by_cases hz : phO v 0 p = 0 <;> simp [hz]
theorem obS_0 (v : Nat → Nat) : obS v 0 = brS v := by funext i; unfold obS; simp
theorem ok_ahead (u0 u1 : Int32) : okI Inv (fX7_ahead u0 u1) (fX8_ahead u0 u1) := by
  rintro m ⟨v, hV⟩
  have ho := hV.1.2.2.1
  have hb := ho.1
  have c := IV_c hV
  have d := IV_m hV
  have h999 := hV.1.2.2.2.2.1
  rcases rng_cases u0 0 60 (a := 0) (b := 60) (A := 0) (B := 60) rfl rfl rfl rfl (by decide) (by decide) with ⟨n, -, hn, rfl, f7, f8⟩ | ⟨f7, f8⟩
  · obtain ⟨ma, ea, a1, a2⟩ := cp7 hV.1.1 ho
    obtain ⟨mb, eb, b1, b2, b3⟩ := fX1_goDays_eq (n := n) (b := 8) (by decide) a1 ho (by omega)
    have FR1 : FR m mb := (FR_sm a2 (by decide)).tr (FR_sm b2 (by decide))
    obtain ⟨mc, ec, c1, c2, c3⟩ := cp8 (P := 140) (HO_fr (IV_HO hV) FR1 (by decide)) (by decide) (by decide)
    obtain ⟨md, ed, d1, d2, d3⟩ := fX8_daysOn_eq (n := n) c1 (by omega)
    have FR2 : FR mb md := (FR_pg c2 (by decide) c3 (by decide)).tr (FR_pg d2 (by decide) d3 (by decide))
    have ec' : fX8_copies (0 : Int32) (140 : Int32) mb = some (none, mc) := ec
    have ed' : fX8_daysOn (140 : Int32) (nI n) mc = some (some (.int (nI (dcS v n))), md) := ed
    obtain ⟨g1, g2, g3⟩ := dsS_OK ho n (by omega)
    have hI : Inv md := ⟨v, IV_FR hV (FR1.tr FR2)⟩
    have j7 : ∀ x3 r, (if u1 = (0 : Int32) then some (some (Value.int (nI (dcS v n))), mb) else if u1 = (1 : Int32) then some (some (.int (nI (bitsN (brS (dsS v n)) (v 0)))), mb) else ga x3 10 (some (some (.int (mb.1 11 (x3).toNatClampNeg)), mb))) = some (some (.int r), mb) → jX7_ahead_34 (nI n) u1 x3 m = some (some (.int r), mb) := fun x3 r hr => by
      unfold jX7_ahead_34
      rw [ea]
      dsimp only [bV]
      rw [eb]
      dsimp only [bI]
      have := fX4_brokenBits_eq b1 g1
      rw [g3 0 (by decide) (by omega)] at this
      rw [this, ← hr]
    have j8 : ∀ r, (if u1 = (0 : Int32) then some (some (Value.int (nI (dcS v n))), md) else if u1 = (1 : Int32) then some (some (.int (nI (bitsN (brS (dsS v n)) (v 0)))), md) else ga (((140 : Int32) + ((2 : Int32) * (u1 - (10 : Int32)))) + (1 : Int32)) 210 (some (some (.int (md.1 82 ((((140 : Int32) + ((2 : Int32) * (u1 - (10 : Int32)))) + (1 : Int32))).toNatClampNeg)), md))) = some (some (.int r), md) → jX8_ahead_43 (nI n) u1 mb = some (some (.int r), md) := fun r hr => by
      unfold jX8_ahead_43
      rw [ec']
      dsimp only [bV]
      rw [ed']
      dsimp only [bI]
      have : fX8_brokenOn (140 : Int32) md = _ := fX8_brokenOn_eq d1
      rw [g3 0 (by decide) (by omega), obS_0] at this
      rw [this, ← hr]
    rcases rng_cases u1 0 1 (a := 0) (b := 1) (A := 0) (B := 1) rfl rfl rfl rfl (by decide) (by decide) with ⟨j, -, hj, hj1, k7, k8⟩ | ⟨k7, k8⟩
    · have main : ∀ r, (∀ x : mMem, (if u1 = (0 : Int32) then some (some (Value.int (nI (dcS v n))), x) else if u1 = (1 : Int32) then some (some (.int (nI (bitsN (brS (dsS v n)) (v 0)))), x) else none) = some (some (.int r), x)) → ∃ r μ1 μ2, fX7_ahead (nI n) u1 m = some (some (.int r), μ1) ∧ fX8_ahead (nI n) u1 μ1 = some (some (.int r), μ2) ∧ Inv μ2 := fun r hr => by
        refine ⟨r, mb, md, ?_, ?_, hI⟩
        · unfold fX7_ahead
          dsimp only [li]
          rw [f7]
          dsimp only [bI]
          rw [if_neg (by decide), k7]
          dsimp only
          rw [if_neg (by decide)]
          refine j7 _ r ?_
          have := hr mb
          by_cases q0 : u1 = 0
          · rw [if_pos q0] at this ⊢; exact this
          · rw [if_neg q0] at this ⊢
            by_cases q1 : u1 = 1
            · rw [if_pos q1] at this ⊢; exact this
            · rw [if_neg q1] at this; exact absurd this (by simp)
        · unfold fX8_ahead
          rw [f8]
          dsimp only [bI]
          rw [if_neg (by decide), k8]
          dsimp only
          rw [if_neg (by decide)]
          refine j8 r ?_
          have := hr md
          by_cases q0 : u1 = 0
          · rw [if_pos q0] at this ⊢; exact this
          · rw [if_neg q0] at this ⊢
            by_cases q1 : u1 = 1
            · rw [if_pos q1] at this ⊢; exact this
            · rw [if_neg q1] at this; exact absurd this (by simp)
      have : j = 0 ∨ j = 1 := by omega
      rcases this with rfl | rfl
      · exact main _ (fun x => by rw [if_pos (show u1 = 0 from hj1)])
      · exact main _ (fun x => by rw [if_neg (by rw [hj1]; decide), if_pos (show u1 = 1 from hj1)])
    · rcases off_cases u1 hb.1 with ⟨i, hi, e1, e2, e3, e4⟩ | ⟨e3, e4⟩
      · have q0 : ¬ u1 = 0 := fun q => by rw [q] at e4; exact absurd e4.1 (by decide)
        have q1 : ¬ u1 = 1 := fun q => by rw [q] at e4; exact absurd e4.1 (by decide)
        refine ⟨nI (dsS v n (30 + i)), mb, md, ?_, ?_, hI⟩
        · unfold fX7_ahead fX7_isStep
          dsimp only [li]
          rw [f7]
          dsimp only [bI]
          rw [if_neg (by decide), k7]
          dsimp only
          rw [if_pos rfl, wi_eq, c.1.1, if_pos e3]
          dsimp only
          rw [gb_1]
          dsimp only
          rw [if_neg (by decide)]
          refine j7 _ _ ?_
          have := (b1.2.1 i (by rw [g3 0 (by decide) (by omega)]; exact hi)).2.2
          rw [if_neg q0, if_neg q1, e2, ga_nI (by omega) (by decide), nI_tn (by omega), this]
        · unfold fX8_ahead
          rw [f8]
          dsimp only [bI]
          rw [if_neg (by decide), k8]
          dsimp only
          rw [if_pos rfl, show (10 : Int64) = (10 : Int32).toInt64 from rfl, fX8_in_eq, FR1.1 81 (by decide), d.1.1, if_pos e4]
          dsimp only
          rw [if_neg (by decide)]
          refine j8 _ ?_
          have := (d1.1.2.1 i (by rw [g3 0 (by decide) (by omega)]; exact hi)).2.2
          rw [if_neg q0, if_neg q1, e2, i2, show (140 : Int32) + nI (2 * i) = nI (140 + 2 * i) from nI_add 140 _, show nI (140 + 2 * i) + (1 : Int32) = nI (140 + 2 * i + 1) from nI_1 _, ga_nI (by omega) (by decide), nI_tn (by omega), this]
      · refine ⟨-1, m, m, ?_, ?_, ⟨v, hV⟩⟩
        · unfold fX7_ahead fX7_isStep
          dsimp only [li]
          rw [f7]
          dsimp only [bI]
          rw [if_neg (by decide), k7]
          dsimp only
          rw [if_pos rfl, wi_eq, c.1.1, if_neg e3]
          rfl
        · unfold fX8_ahead
          rw [f8]
          dsimp only [bI]
          rw [if_neg (by decide), k8]
          dsimp only
          rw [if_pos rfl, show (10 : Int64) = (10 : Int32).toInt64 from rfl, fX8_in_eq, d.1.1, if_neg e4]
          rfl
  · refine ⟨-1, m, m, ?_, ?_, ⟨v, hV⟩⟩
    · unfold fX7_ahead
      dsimp only [li]
      rw [f7]
      rfl
    · unfold fX8_ahead
      rw [f8]
      rfl
