/-! PURE FACTS: legs, must, best -/
theorem HM_legs {m : mMem} {P p x : Nat} {v : Nat → Nat} (h : HM m P v) (h0 : v 0 ≤ 10) (h1 : v 1 ≤ 4) (hp : p < v 1) : HM (si m 84 p (nI x)) P (uv v (40 + p) x) := by
  have c : ∀ z, z ≠ 84 → (si m 84 p (nI x)).1 z = m.1 z := fun z hz => si_c m hz
  have e : ∀ q, q ≠ 40 + p → uv v (40 + p) x q = v q := fun q hq => uv_n hq
  unfold HM
  rw [c 81 (by decide), c 82 (by decide), c 83 (by decide), e 0 (by omega), e 1 (by omega), e 2 (by omega), e 3 (by omega), e 4 (by omega)]
  refine ⟨h.1, fun i hi => ⟨?_, ?_, ?_⟩, fun z hz => ⟨?_, ?_, ?_, ?_⟩⟩
  · rw [e _ (by omega)]; exact (h.2.1 i hi).1
  · rw [e _ (by omega)]; exact (h.2.1 i hi).2.1
  · rw [e _ (by omega)]; exact (h.2.1 i hi).2.2
  · by_cases f : z = p
    · subst f
      rw [si_same, uv_s]
    · rw [si_ne _ _ (Or.inr f), e _ (by omega)]; exact (h.2.2 z hz).1
  · rw [e _ (by omega)]; exact (h.2.2 z hz).2.1
  · rw [e _ (by omega)]; exact (h.2.2 z hz).2.2.1
  · rw [e _ (by omega)]; exact (h.2.2 z hz).2.2.2
/-- the least of 4, 3 .. that does -/
def lg (q : Nat → Bool) : Nat → Int32
  | 0 => -4
  | i + 1 => if q (4 - i) then nI (4 - i) else lg q i
theorem lg_eq (q : Nat → Bool) : lg q 4 = if fdF (fun i => q (i + 1)) 4 0 = 4 then -4 else nI (fdF (fun i => q (i + 1)) 4 0 + 1) := by
  cases h1 : q 1 <;> cases h2 : q 2 <;> cases h3 : q 3 <;> cases h4 : q 4 <;> simp [lg, fdF, h1, h2, h3, h4]
theorem nI_dn : ∀ k, k < 50 → nI (k + 1) + (-1 : Int32) = nI k := by decide +kernel
theorem ok_legs (u0 : Int32) : okI Inv (fX7_legs u0) (fX8_legs u0) := by
  rintro m ⟨v, hV⟩
  have ho := hV.1.2.2.1
  have hb := ho.1
  have c := IV_c hV
  have d := IV_m hV
  rcases lodger_cases hb.2.1 u0 with ⟨p, hp, rfl, e7, e8⟩ | ⟨e7, e8⟩
  · have hp4 : p < 4 := by omega
    obtain ⟨ma, ea, a1, a2⟩ := cp7 hV.1.1 ho
    obtain ⟨q, hq⟩ : ∃ q : Nat → Bool, q = fun i => phO (uv v (40 + p) i) 0 p != 0 := ⟨_, rfl⟩
    obtain ⟨ans, hans⟩ : ∃ ans : Int32, ans = lg q 4 := ⟨_, rfl⟩
    have hit : ∀ i, i < 4 → q (i + 1) = true → (∀ j, j < i → q (j + 1) = false) → ans = nI (i + 1) := fun i h1 h2 h3 => by
      have := fdF_hit (q := fun i => q (i + 1)) 4 0 i (by omega) (by omega) h2 (fun j _ h => h3 j h)
      rw [hans, lg_eq, this, if_neg (by omega)]
    have non : (∀ j, j < 4 → q (j + 1) = false) → ans = -4 := fun h3 => by
      have := fdF_none (q := fun i => q (i + 1)) 4 0 (fun j _ h => h3 j (by omega))
      rw [hans, lg_eq, this, if_pos rfl]
    have hOK : ∀ i, i < 4 → OK (uv v (40 + p) (i + 1)) := fun i hi => OK_set ho (by unfold RB; omega)
    have huv : uv v (40 + p) (v (40 + p)) = v := by funext z; rcases uv_or v (40 + p) (v (40 + p)) z with ⟨e, -⟩ | ⟨e, f⟩ <;> rw [e]; rw [f]
    have L7 : ∃ mb, lp (bX7_legs_23 (nI p)) FU ((1 : Int32), ma) = some (some (.int ans), mb) ∧ FR ma mb := by
      refine lp_or0 (body := bX7_legs_23 (nI p)) (fun i s => ∃ m' x, s = (nI (i + 1), m') ∧ HC m' 8 (uv v (40 + p) x) ∧ FR ma m' ∧ ∀ j, j < i → q (j + 1) = false) 4 (fun r => ∃ mb, r = some (some (.int ans), mb) ∧ FR ma mb) _ (by decide) ⟨ma, v (40 + p), rfl, by rw [huv]; exact a1, FR.rf, fun j hj => absurd hj (Nat.not_lt_zero _)⟩ (fun s k => ?_) (fun i s hi => ?_)
      · rintro ⟨m', x, rfl, h1, h2, h3⟩
        unfold bX7_legs_23
        dsimp only
        rw [if_pos (by decide), non h3]
        exact ⟨m', rfl, h2⟩
      · rintro ⟨m', x, rfl, h1, h2, h3⟩
        have h1' : HC (si m' 12 p (nI (i + 1))) 8 (uv v (40 + p) (i + 1)) := by
          have := HC_set (b := 8) (c := 4) (k := p) (j := 40 + p) (x := i + 1) h1 (by rw [uv_n (by omega)]; exact hb.1) (by rw [uv_n (by omega)]; exact hb.2.1) (by unfold RC; omega)
          rw [uv_uv] at this
          exact this
        have f1 : FR m' (si m' 12 p (nI (i + 1))) := FR_sm (C := [12]) (SM_si (by simp)) (by decide)
        have hg := gh7 h1' (hOK i hi) (by rw [uv_n (by omega)]; exact hp)
        by_cases hz : phO (uv v (40 + p) (i + 1)) 0 p = 0
        · left
          refine ⟨(nI (i + 1 + 1), si m' 12 p (nI (i + 1))), ⟨_, i + 1, rfl, h1', h2.tr f1, fun j hj => ?_⟩, fun k => ?_⟩
          · by_cases ej : j = i
            · subst ej
              rw [hq]; simp [hz]
            · exact h3 j (by omega)
          · unfold bX7_legs_23
            dsimp only [li, lt]
            rw [if_neg (show ¬ (4 : Int32) < nI (i + 1) from nI_nlt (a := 4) (by omega) (by decide)), ga_nI hp4 (by decide), nI_tn (by omega), hg]
            dsimp only [bI]
            rw [if_pos hz, if_pos rfl, show nI (i + 1) + 1 = nI (i + 1 + 1) from nI_1 _]
        · right
          intro k
          have := hit i hi (by rw [hq]; simp [hz]) h3
          unfold bX7_legs_23
          dsimp only [lt]
          rw [if_neg (show ¬ (4 : Int32) < nI (i + 1) from nI_nlt (a := 4) (by omega) (by decide)), ga_nI hp4 (by decide), nI_tn (by omega), hg]
          dsimp only [bI]
          rw [if_neg hz, if_neg (by decide), this]
          exact ⟨_, rfl, h2.tr f1⟩
    obtain ⟨mb, l7, fr7⟩ := L7
    have FR1 : FR m mb := (FR_sm a2 (by decide)).tr fr7
    have hO := HO_fr (IV_HO hV) FR1 (by decide)
    have e84 : mb.1 84 p = nI (v (40 + p)) := (hO.1.2.2 p hp).1
    have L8 : ∃ md, lp (bX8_legs_23 (nI p) (nI (v (40 + p)))) FU ((-4 : Int32), (4 : Int32), mb) = some (some (.int ans), md) ∧ FR mb md := by
      refine lp_rel0 (body := bX8_legs_23 (nI p) (nI (v (40 + p)))) (fun i s => ∃ m' x, s = (lg q i, nI (4 - i), m') ∧ HM m' 0 (uv v (40 + p) x) ∧ SM [84, 91] mb m' ∧ ∀ j, j ≠ p → m'.1 84 j = mb.1 84 j) 4 (fun r => ∃ md, r = some (some (.int ans), md) ∧ FR mb md) _ (by decide) ⟨mb, v (40 + p), rfl, by rw [huv]; exact hO.1, SM.rf, fun _ _ => rfl⟩ (fun s k => ?_) (fun i s hi => ?_)
      · rintro ⟨m', x, rfl, h1, h2, h3⟩
        unfold bX8_legs_23
        dsimp only [lt]
        rw [if_pos (by decide), ga_nI hp4 (by decide), nI_tn (by omega), ← hans]
        refine ⟨_, rfl, fun c hc => ?_, fun z hz => ?_⟩
        · by_cases e : c = 84
          · subst e
            funext j
            by_cases f : j = p
            · subst f
              rw [si_same, e84]
            · rw [si_ne _ _ (Or.inr f)]
              exact h3 j f
          · rw [si_c _ e]
            refine (h2 c (fun w => ?_)).1
            simp at w
            rcases w with w | w
            · exact e w
            · subst w
              exact hc (by decide)
        · rw [si_c _ (by decide), (h2 82 (by decide)).1]
      · rintro ⟨m', x, rfl, h1, h2, h3⟩
        have hk : 4 - i = 4 - (i + 1) + 1 := by omega
        have h1' : HM (si m' 84 p (nI (4 - i))) 0 (uv v (40 + p) (4 - i)) := by
          have := HM_legs (x := 4 - i) h1 (by rw [uv_n (by omega)]; exact hb.1) (by rw [uv_n (by omega)]; exact hb.2.1) (by rw [uv_n (by omega)]; exact hp)
          rw [uv_uv] at this
          exact this
        have h5 : (si m' 84 p (nI (4 - i))).1 81 5 = nI 0 := by rw [si_c _ (by decide), (h2 81 (by decide)).1]; exact hO.2.2.2.1
        obtain ⟨m2, hg, r1, -⟩ := fX8_hasClimb_eq (P := 0) (o := 0) (p := p) ⟨h1', by rw [hk]; exact hOK _ (by omega), by decide, h5, by decide⟩ (by rw [uv_n (by omega)]; exact hp)
        have hg' : fX8_hasClimb (0 : Int32) (nI p) (si m' 84 p (nI (4 - i))) = _ := hg
        refine ⟨(lg q (i + 1), nI (4 - (i + 1)), m2), ⟨m2, 4 - i, rfl, HM_fr h1' (by rw [uv_n (by omega)]; exact hb.1) (by rw [uv_n (by omega)]; exact hb.2.1) (by rw [(r1 81 (by decide)).1]) (by rw [(r1 81 (by decide)).1]) (r1 83 (by decide)).1 (r1 84 (by decide)).1 (fun q _ _ => by rw [(r1 82 (by decide)).1]), (h2.tr (SM_si (by simp))).tr (r1.mono (by simp)), fun j hj => by rw [(r1 84 (by decide)).1, si_ne _ _ (Or.inr hj)]; exact h3 j hj⟩, fun k => ?_⟩
        unfold bX8_legs_23
        dsimp only [li, lt]
        rw [if_neg (show ¬ nI (4 - i) ≤ (0 : Int32) from nI_nle (by omega) (by omega)), ga_nI hp4 (by decide), nI_tn (by omega), hg']
        dsimp only [bI]
        have hl : lg q (i + 1) = if q (4 - i) then nI (4 - i) else lg q i := rfl
        have hdn : nI (4 - i) + (-1 : Int32) = nI (4 - (i + 1)) := by rw [hk]; exact nI_dn _ (by omega)
        rw [hl, hdn, hq]
        by_cases hz : phO (uv v (40 + p) (4 - i)) 0 p = 0
        · rw [if_pos hz, if_pos rfl]
          simp [hz]
        · rw [if_neg hz, if_neg (by decide)]
          simp [hz]
    obtain ⟨md, l8, fr8⟩ := L8
    refine ⟨ans, mb, md, ?_, ?_, ⟨v, IV_FR hV (FR1.tr fr8)⟩⟩
    · unfold fX7_legs
      rw [e7 m c.1.2.1]
      dsimp only [bI]
      rw [if_neg (by decide), ea]
      dsimp only [bV]
      exact l7
    · unfold fX8_legs
      rw [e8 mb (by rw [FR1.1 81 (by decide)]; exact d.1.2.1)]
      dsimp only [bI, li]
      rw [if_neg (by decide), ga_nI hp4 (by decide), nI_tn (by omega), e84]
      exact l8
  · refine ⟨-1, m, m, ?_, ?_, ⟨v, hV⟩⟩
    · unfold fX7_legs
      rw [e7 m c.1.2.1]
      rfl
    · unfold fX8_legs
      rw [e8 m d.1.2.1]
      rfl
/-! ## must -/
theorem b1023 : ∀ i, i < 10 → Nat.testBit 1023 i = true := by decide
theorem nI_clr {a : Nat} (b : Nat) (h : a < 1024) : nI a &&& (nI b ^^^ (-1 : Int32)) = nI (a &&& (b ^^^ 1023)) := by
  apply Int32.toBitVec_inj.1
  show BitVec.ofNat 32 a &&& (BitVec.ofNat 32 b ^^^ BitVec.allOnes 32) = BitVec.ofNat 32 (a &&& (b ^^^ 1023))
  apply BitVec.eq_of_getLsbD_eq
  intro i hi
  rw [BitVec.getLsbD_and, BitVec.getLsbD_xor, BitVec.getLsbD_ofNat, BitVec.getLsbD_ofNat, BitVec.getLsbD_ofNat, BitVec.getLsbD_allOnes, Nat.testBit_and, Nat.testBit_xor, decide_eq_true hi]
  by_cases h10 : i < 10
  · rw [b1023 i h10]; simp
  · have : a.testBit i = false := Nat.testBit_lt_two_pow (Nat.lt_of_lt_of_le h (Nat.pow_le_pow_right (n := 2) (i := 10) (by decide) (by omega)))
    rw [this]; simp
theorem toS_clr {v : Nat → Nat} (o p : Nat) (h0 : v 0 ≤ 10) : toS v o p = tdS v p &&& (o ^^^ 1023) := by
  apply Nat.eq_of_testBit_eq
  intro j
  unfold toS tdS
  rw [Nat.testBit_and, Nat.testBit_xor, bitsN_bit, bitsN_bit]
  by_cases hj : j < v 0
  · rw [b1023 j (by omega)]
    unfold trS
    cases o.testBit j <;> simp [hj]
  · simp [hj]
theorem bits_clr {f g : Nat → Bool} {n : Nat} (hn : n ≤ 10) : bitsN (fun p => f p && !(g p)) n = bitsN f n &&& (bitsN g n ^^^ 1023) := by
  apply Nat.eq_of_testBit_eq
  intro j
  rw [Nat.testBit_and, Nat.testBit_xor, bitsN_bit, bitsN_bit, bitsN_bit]
  by_cases hj : j < n
  · rw [b1023 j (by omega)]
    cases f j <;> cases g j <;> simp [hj]
  · simp [hj]
theorem p2_lt {i : Nat} (h : i < 10) : 2 ^ i < 1024 := (by decide : ∀ i, i < 10 → 2 ^ i < 1024) i h
theorem ok_must (u0 : Int32) : okI Inv (fX7_must u0) (fX8_must u0) := by
  rintro m ⟨v, hV⟩
  have ho := hV.1.2.2.1
  have hb := ho.1
  have c := IV_c hV
  have d := IV_m hV
  rcases step_cases hb.1 u0 with ⟨i, hi, rfl, e7, e8⟩ | ⟨e7, e8⟩
  · have hi10 : i < 10 := by omega
    obtain ⟨F, hF⟩ : ∃ F : Nat → Bool, F = fun p => (phO v 0 p != 0) && !(phO v (2 ^ i) p != 0) := ⟨_, rfl⟩
    have L7 : lp (bX7_must_14 (nI i)) FU ((0 : Int32), (0 : Int32), m) = some (some (.int (nI (bitsN F (v 1)))), m) := by
      refine lp_0 (fun p => (nI (bitsN F p), nI p, m)) (v 1) _ (by omega) (fun k => ?_) (fun p hp k => ?_)
      · unfold bX7_must_14
        dsimp only
        rw [c.1.2.1, if_pos (nI_le (Nat.le_refl _) (by omega))]
      · have hr := rcS_b ho hp
        have hq := ho.2.2 p hp
        have ht : tdS v p < 1024 := bt_lt hb.1
        have htc : toS v (2 ^ i) p < 1024 := bt_lt hb.1
        have hg := gh7 hV.1.1 ho hp
        have ht7 : fX4_treadBits 0 (nI p) m = some (some (.int (nI (tdS v p))), m) := fX4_treadBits_eq hV.1.1 ho hp
        have hgb := fX4_getsHomeBy_eq (t := toS v (2 ^ i) p) hV.1.1 ho hp htc
        obtain ⟨f, L, _, _, _, g3, -⟩ := brute (t := toS v (2 ^ i) p) hr.1 hr.2 (show v (52 + p) < 10 by omega)
        have hph : phO v (2 ^ i) p = pvS (toS v (2 ^ i) p) (rcS v p) (v (52 + p)) := rfl
        rw [g3, ← hph] at hgb
        have hs : bitsN F (p + 1) = if F p then bitsN F p ||| 2 ^ p else bitsN F p := rfl
        unfold bX7_must_14
        dsimp only [li]
        rw [c.1.2.1, if_neg (nI_ge hp (by omega)), hg]
        dsimp only [bI]
        rw [ht7]
        dsimp only
        rw [nI_shl1 i (by omega), nI_clr _ ht, ← toS_clr (2 ^ i) p hb.1, hgb]
        dsimp only
        rw [nI_setbit (by omega), show nI p + 1 = nI (p + 1) from nI_1 _, hs, hF]
        by_cases hz : phO v 0 p = 0
        · rw [if_pos hz, if_pos rfl]
          simp [hz]
        · rw [if_neg hz, if_neg (by decide)]
          by_cases hy : phO v (2 ^ i) p = 0
          · simp [hz, hy]
          · simp [hz, hy]
    obtain ⟨ma, ea, a1⟩ := fX8_homesOn_eq (IV_HO hV)
    have ea' : fX8_homesOn (0 : Int32) m = _ := ea
    have hOa : HO ma 0 0 v := HO_sm (IV_HO hV) a1 (by decide)
    obtain ⟨mb, hmb⟩ : ∃ mb, mb = si ma 81 5 (nI (2 ^ i)) := ⟨_, rfl⟩
    have hOb : HO mb 0 (2 ^ i) v := by
      rw [hmb]
      refine ⟨HM_fr hOa.1 hb.1 hb.2.1 ?_ ?_ ?_ ?_ (fun q _ _ => ?_), ho, by decide, si_same _ _ _ _, p2_lt hi10⟩
      · rw [si_ne _ _ (Or.inr (by decide))]
      · rw [si_ne _ _ (Or.inr (by decide))]
      · rw [si_c _ (by decide)]
      · rw [si_c _ (by decide)]
      · rw [si_c _ (by decide)]
    obtain ⟨mc, ec, c1⟩ := fX8_homesOn_eq hOb
    have ec' : fX8_homesOn (0 : Int32) mb = _ := ec
    have hfr : FR m (si mc 81 5 0) := by
      refine ⟨fun z hz => ?_, fun q hq => ?_⟩
      · by_cases e : z = 81
        · subst e
          funext j
          by_cases f : j = 5
          · subst f
            rw [si_same]
            exact hV.1.2.2.2.2.2.symm
          · rw [si_ne _ _ (Or.inr f), (c1 81 (by decide)).1, hmb, si_ne _ _ (Or.inr f), (a1 81 (by decide)).1]
        · have h91 : z ∉ [91] := fun w => hz (by simp at w; subst w; decide)
          rw [si_c _ e, (c1 z h91).1, hmb, si_c _ e, (a1 z h91).1]
      · rw [si_c _ (by decide), (c1 82 (by decide)).1, hmb, si_c _ (by decide), (a1 82 (by decide)).1]
    refine ⟨nI (bitsN F (v 1)), m, si mc 81 5 0, ?_, ?_, ⟨v, IV_FR hV hfr⟩⟩
    · unfold fX7_must
      rw [e7 m c.1.1]
      dsimp only [bI]
      rw [if_neg (by decide)]
      exact L7
    · unfold fX8_must
      rw [e8 m d.1.1]
      dsimp only [bI, lt]
      rw [if_neg (by decide), ea']
      dsimp only
      rw [nI_shl1 i (by omega), ← hmb, ec']
      dsimp only
      rw [nI_clr _ (bt_lt (by omega)), hF, bits_clr (by omega)]
  · refine ⟨-1, m, m, ?_, ?_, ⟨v, hV⟩⟩
    · unfold fX7_must
      rw [e7 m c.1.1]
      rfl
    · unfold fX8_must
      rw [e8 m d.1.1]
      rfl
/-! ## best -/
/-- homes when step i is mended -/
def bhS (v : Nat → Nat) (i : Nat) : Nat := popc (bitsN (fun p => phO (uv (uv v (20 + i) 0) (30 + i) 0) 0 p != 0) (v 1))
def bcS (v : Nat → Nat) : Nat → Nat × Int32
  | 0 => (popc (bitsN (fun p => phO v 0 p != 0) (v 1)), -4)
  | i + 1 => if bhS v i ≤ (bcS v i).1 then bcS v i else (bhS v i, nI i)
theorem bcS_le (v : Nat → Nat) : ∀ i, (bcS v i).1 ≤ 10
  | 0 => popc_le _
  | i + 1 => by
    unfold bcS
    split
    · exact bcS_le v i
    · exact popc_le _
theorem ok_best (u0 : Int32) : okI Inv (fX7_best u0) (fX8_best u0) := by
  rintro m ⟨v, hV⟩
  have ho := hV.1.2.2.1
  have hb := ho.1
  have c := IV_c hV
  have d := IV_m hV
  rcases rng_cases u0 0 1 (a := 0) (b := 1) (A := 0) (B := 1) rfl rfl rfl rfl (by decide) (by decide) with ⟨u, -, hu, hu0, f7, f8⟩ | ⟨f7, f8⟩
  · obtain ⟨ans, hans⟩ : ∃ ans : Int32, ans = if (bcS v (v 0)).2 = (-4 : Int32) then (bcS v (v 0)).2 else if u0 = (0 : Int32) then (bcS v (v 0)).2 else nI (bcS v (v 0)).1 := ⟨_, rfl⟩
    have hfin : ∀ x : mMem, (if (bcS v (v 0)).2 = (-4 : Int32) then some (some (Value.int (bcS v (v 0)).2), x) else if u0 = (0 : Int32) then some (some (.int (bcS v (v 0)).2), x) else some (some (.int (nI (bcS v (v 0)).1)), x)) = some (some (.int ans), x) := fun x => by
      rw [hans]
      split
      · rfl
      · split <;> rfl
    have hOK : ∀ i, i < v 0 → OK (uv (uv v (20 + i) 0) (30 + i) 0) := fun i hi => OK_set (OK_set ho (by unfold RB; omega)) (by rw [uv_n (by omega)]; unfold RB; omega)
    have hb7 := fX4_homeBits_eq hV.1.1 ho
    have hpop : bitsN (fun p => phO v 0 p != 0) (v 1) < 1024 := bt_lt (by omega)
    have L7 : ∃ mb, lp (bX7_best_28 u0) FU (nI (popc (bitsN (fun p => phO v 0 p != 0) (v 1))), (-4 : Int32), (0 : Int32), m) = some (some (.int ans), mb) ∧ FR m mb := by
      refine lp_rel0 (body := bX7_best_28 u0) (fun i s => ∃ m', s = (nI (bcS v i).1, (bcS v i).2, nI i, m') ∧ FR m m') (v 0) (fun r => ∃ mb, r = some (some (.int ans), mb) ∧ FR m mb) _ (by omega) ⟨m, rfl, FR.rf⟩ (fun s k => ?_) (fun i s hi => ?_)
      · rintro ⟨m', rfl, h1⟩
        unfold bX7_best_28
        dsimp only
        rw [h1.1 0 (by decide), c.1.1, if_pos (nI_le (Nat.le_refl _) (by omega)), hfin]
        exact ⟨m', rfl, h1⟩
      · rintro ⟨m', rfl, h1⟩
        have hC : HC m' 0 v := HC_fr hV.1.1 (fun z _ hz => h1.1 z ((show ∀ z, z < 8 → z ∉ SCR by decide) z (by omega)))
        obtain ⟨ma, ea, a1, a2⟩ := cp7 hC ho
        have k1 : HC (si ma 10 i (nI 0)) 8 (uv v (20 + i) 0) := HC_set (b := 8) (c := 2) a1 hb.1 hb.2.1 (by unfold RC; omega)
        have k2 : HC (si (si ma 10 i (nI 0)) 11 i (nI 0)) 8 (uv (uv v (20 + i) 0) (30 + i) 0) := HC_set (b := 8) (c := 3) k1 (by rw [uv_n (by omega)]; exact hb.1) (by rw [uv_n (by omega)]; exact hb.2.1) (by unfold RC; omega)
        have hre : fX4_renew 8 (nI i) ma = some (none, si (si ma 10 i (nI 0)) 11 i (nI 0)) := by
          unfold fX4_renew
          dsimp only [lt]
          rw [ga_nI (by omega) (by decide), ga_nI (by omega) (by decide), nI_tn (by omega)]
          rfl
        have hh := fX4_homeBits_eq k2 (hOK i hi)
        rw [show uv (uv v (20 + i) 0) (30 + i) 0 1 = v 1 by rw [uv_n (by omega), uv_n (by omega)]] at hh
        have f1 : FR m' (si (si ma 10 i (nI 0)) 11 i (nI 0)) := (FR_sm a2 (by decide)).tr ((FR_sm (C := [10]) (SM_si (by simp)) (by decide)).tr (FR_sm (C := [11]) (SM_si (by simp)) (by decide)))
        refine ⟨(nI (bcS v (i + 1)).1, (bcS v (i + 1)).2, nI (i + 1), si (si ma 10 i (nI 0)) 11 i (nI 0)), ⟨_, rfl, h1.tr f1⟩, fun k => ?_⟩
        unfold bX7_best_28
        dsimp only [li]
        rw [h1.1 0 (by decide), c.1.1, if_neg (nI_ge hi (by omega)), ea]
        dsimp only [bV]
        rw [hre]
        dsimp only
        rw [hh]
        dsimp only [bI]
        rw [fJ6_bitCount_eq _ (bt_lt (by omega))]
        dsimp only
        have hs : bcS v (i + 1) = if bhS v i ≤ (bcS v i).1 then bcS v i else (bhS v i, nI i) := rfl
        have hbh : bhS v i ≤ 10 := popc_le _
        have hbc := bcS_le v i
        rw [hs, show nI i + 1 = nI (i + 1) from nI_1 _]
        show (if nI (bhS v i) ≤ nI (bcS v i).1 then _ else _) = _
        by_cases hz : bhS v i ≤ (bcS v i).1
        · rw [if_pos hz, if_pos (nI_le hz (by omega))]
        · rw [if_neg hz, if_neg (nI_ge (by omega) (by omega))]
          rfl
    obtain ⟨mb, l7, fr7⟩ := L7
    have hOb : HO mb 0 0 v := HO_fr (IV_HO hV) fr7 (by decide)
    obtain ⟨mc, ec, c1⟩ := fX8_homesOn_eq hOb
    have ec' : fX8_homesOn (0 : Int32) mb = _ := ec
    have hOc : HO mc 0 0 v := HO_sm hOb c1 (by decide)
    have L8 : ∃ md, lp (bX8_best_27 u0) FU (nI (popc (bitsN (fun p => phO v 0 p != 0) (v 1))), (-4 : Int32), (0 : Int32), mc) = some (some (.int ans), md) ∧ FR mc md := by
      refine lp_rel0 (body := bX8_best_27 u0) (fun i s => ∃ m', s = (nI (bcS v i).1, (bcS v i).2, nI i, m') ∧ FR mc m') (v 0) (fun r => ∃ mb, r = some (some (.int ans), mb) ∧ FR mc mb) _ (by omega) ⟨mc, rfl, FR.rf⟩ (fun s k => ?_) (fun i s hi => ?_)
      · rintro ⟨m', rfl, h1⟩
        unfold bX8_best_27
        dsimp only
        rw [h1.1 81 (by decide), hOc.1.1.1, if_pos (nI_le (Nat.le_refl _) (by omega)), hfin]
        exact ⟨m', rfl, h1⟩
      · rintro ⟨m', rfl, h1⟩
        have hC : HO m' 0 0 v := HO_fr hOc h1 (by decide)
        obtain ⟨ma, ea, a1, a2, a3⟩ := cp8 (P := 175) hC (by decide) (by decide)
        have ea' : fX8_copies (0 : Int32) (175 : Int32) m' = some (none, ma) := ea
        have k1 : HM (si ma 82 (175 + 2 * i) (nI 0)) 175 (uv v (20 + i) 0) := HM_set (q := 2 * i) (j := 20 + i) a1.1 hb.1 hb.2.1 (by unfold RM; omega)
        have k2 : HM (si (si ma 82 (175 + 2 * i) (nI 0)) 82 (175 + 2 * i + 1) (nI 0)) 175 (uv (uv v (20 + i) 0) (30 + i) 0) := HM_set (q := 2 * i + 1) (j := 30 + i) k1 (by rw [uv_n (by omega)]; exact hb.1) (by rw [uv_n (by omega)]; exact hb.2.1) (by unfold RM; omega)
        have k5 : (si (si ma 82 (175 + 2 * i) (nI 0)) 82 (175 + 2 * i + 1) (nI 0)).1 81 5 = nI 0 := by rw [si_c _ (by decide), si_c _ (by decide)]; exact a1.2.2.2.1
        obtain ⟨mh, eh, q1⟩ := fX8_homesOn_eq (P := 175) (o := 0) ⟨k2, hOK i hi, by decide, k5, by decide⟩
        rw [show uv (uv v (20 + i) 0) (30 + i) 0 1 = v 1 by rw [uv_n (by omega), uv_n (by omega)]] at eh
        have eh' : fX8_homesOn (175 : Int32) (si (si ma 82 (175 + 2 * i) (nI 0)) 82 (175 + 2 * i + 1) (nI 0)) = _ := eh
        have f1 : FR ma (si (si ma 82 (175 + 2 * i) (nI 0)) 82 (175 + 2 * i + 1) (nI 0)) := FR_pg (C := [82]) (P := 175) ((SM_si (by simp)).tr (SM_si (by simp))) (by decide) (fun q hq => by rw [si_ne _ _ (Or.inr (by omega)), si_ne _ _ (Or.inr (by omega))]) (by decide)
        refine ⟨(nI (bcS v (i + 1)).1, (bcS v (i + 1)).2, nI (i + 1), mh), ⟨_, rfl, h1.tr ((FR_pg a2 (by decide) a3 (by decide)).tr (f1.tr (FR_sm q1 (by decide))))⟩, fun k => ?_⟩
        have ei : (175 : Int32) + (2 : Int32) * nI i = nI (175 + 2 * i) := by rw [i2]; exact nI_add 175 _
        have ei1 : nI (175 + 2 * i) + (1 : Int32) = nI (175 + 2 * i + 1) := nI_1 _
        unfold bX8_best_27 jX8_best_98
        dsimp only [li, lt]
        rw [h1.1 81 (by decide), hOc.1.1.1, if_neg (nI_ge hi (by omega)), ea']
        dsimp only [bV]
        rw [ei, ei1, ga_nI (by omega) (by decide), ga_nI (by omega) (by decide), nI_tn (by omega), nI_tn (by omega), show (0 : Int32) = nI 0 from rfl] at *
        rw [eh']
        dsimp only [bI]
        rw [fX8_bitsOf_eq _ (bt_lt (by omega))]
        dsimp only
        have hs : bcS v (i + 1) = if bhS v i ≤ (bcS v i).1 then bcS v i else (bhS v i, nI i) := rfl
        have hbh : bhS v i ≤ 10 := popc_le _
        have hbc := bcS_le v i
        rw [hs, show nI i + 1 = nI (i + 1) from nI_1 _]
        show (if nI (bhS v i) ≤ nI (bcS v i).1 then (if nI (bhS v i) ≤ nI (bcS v i).1 then _ else _) else (if nI (bhS v i) ≤ nI (bcS v i).1 then _ else _)) = _
        by_cases hz : bhS v i ≤ (bcS v i).1
        · rw [if_pos hz, if_pos (nI_le hz (by omega)), if_pos (nI_le hz (by omega))]
        · rw [if_neg hz, if_neg (nI_ge (by omega) (by omega)), if_neg (nI_ge (by omega) (by omega))]
          rfl
    obtain ⟨md, l8, fr8⟩ := L8
    refine ⟨ans, mb, md, ?_, ?_, ⟨v, IV_FR hV (fr7.tr ((FR_sm c1 (by decide)).tr fr8))⟩⟩
    · unfold fX7_best
      rw [f7]
      dsimp only [bI]
      rw [if_neg (by decide), hb7]
      dsimp only
      rw [fJ6_bitCount_eq _ hpop]
      exact l7
    · unfold fX8_best
      rw [f8]
      dsimp only [bI]
      rw [if_neg (by decide), ec']
      dsimp only
      rw [fX8_bitsOf_eq _ hpop]
      exact l8
  · refine ⟨-1, m, m, ?_, ?_, ⟨v, hV⟩⟩
    · unfold fX7_best
      rw [f7]
      rfl
    · unfold fX8_best
      rw [f8]
      rfl
