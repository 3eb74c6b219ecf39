/-! PURE FACTS: odds, mean of the reference -/
def cnS (v : Nat → Nat) (M X : Nat) : Nat := popc (bitsN (fun p => phO v X p != 0) (v 1) &&& M)
def soS (v : Nat → Nat) (u M X : Nat) : Nat := smN (fun Y => wrT v u Y (v 0) * cnS v M Y) X
theorem mo_in {m m0 : mMem} {v : Nat → Nat} {u M X : Nat} {X3 : Int32} {X6 : Int64} (ho : OK v) (hu : u ≤ 10) (hX : X < 1024) (hm : HO m 0 0 v) (hf : FO m m0) (h0 : ∃ o, HO m0 0 o v) : ∃ w : Int64 × Int32 × mMem, (∃ m', w = (nL (soS v u M (X + 1)), nI (X + 1), m') ∧ FO m m' ∧ ∃ o, HO m' 0 o v) ∧ ∀ k50, lp (bX8_meanOf_67 k50 (nI u) (nI M) X3 (nL (soS v u M X)) X6 (nI X)) FU ((1 : Int64), (0 : Int32), m0) = k50 w := by
  have hb := ho.1
  obtain ⟨o, h0⟩ := h0
  have e2 : m0.1 81 2 = nI (v 0) := h0.1.1.1
  refine lp_relK0 (body := fun k50 => bX8_meanOf_67 k50 (nI u) (nI M) X3 (nL (soS v u M X)) X6 (nI X)) (fun i s => s = (nL (wrT v u X i), nI i, m0)) (v 0) (fun w => ∃ m', w = (nL (soS v u M (X + 1)), nI (X + 1), m') ∧ FO m m' ∧ ∃ o, HO m' 0 o v) _ (by omega) rfl (fun s => ?_) (fun i s hi => ?_)
  · rintro rfl
    have h3 := FO_HO (o := X) hf hm hX
    have f3 : FO m (si m0 81 5 (nI X)) := FO_si hf
    obtain ⟨m2, e, a1⟩ := fX8_homesOn_eq h3
    have e' : fX8_homesOn (0 : Int32) (si m0 81 5 (nI X)) = _ := e
    have hlt : bitsN (fun p => phO v X p != 0) (v 1) &&& M < 1024 := Nat.lt_of_le_of_lt Nat.and_le_left (bt_lt (by omega))
    have hpl := popc_le (bitsN (fun p => phO v X p != 0) (v 1) &&& M)
    have hs : soS v u M (X + 1) = soS v u M X + wrT v u X (v 0) * cnS v M X := rfl
    by_cases hz : nL (wrT v u X (v 0)) = (0 : Int64)
    · refine ⟨(nL (soS v u M (X + 1)), nI (X + 1), si m0 81 5 (nI X)), ⟨_, rfl, f3, X, h3⟩, fun ko k => ?_⟩
      unfold bX8_meanOf_67
      dsimp only [li, ll, lt]
      rw [e2, if_pos (nI_le (Nat.le_refl _) (by omega)), if_pos ((lgc0 _).mpr hz), show nI X + 1 = nI (X + 1) from nI_1 _, hs, ← nL_add, ← nL_mul, hz]
      congr 2
      show nL (soS v u M X) + 0 = nL (soS v u M X) + 0 * nL (cnS v M X)
      rw [Int64.zero_mul]
    · refine ⟨(nL (soS v u M (X + 1)), nI (X + 1), m2), ⟨_, rfl, FO_91 f3 a1, X, HO_sm h3 a1 (by decide)⟩, fun ko k => ?_⟩
      unfold bX8_meanOf_67
      dsimp only [li, ll, lt]
      rw [e2, if_pos (nI_le (Nat.le_refl _) (by omega)), if_neg (fun z => hz ((lgc0 _).mp z)), e']
      dsimp only [bI]
      rw [nI_and, fX8_bitsOf_eq _ hlt]
      dsimp only
      rw [nI_L (by omega), nL_mul, nL_add, show nI X + 1 = nI (X + 1) from nI_1 _, hs]
      rfl
  · rintro rfl
    have hc := ho.2.1 i hi
    have e83 : m0.1 83 i = nI (v (10 + i)) := (h0.1.2.1 i hi).1
    have hs : wrT v u X (i + 1) = wrT v u X i * (if v (10 + i) = 3 then (if X.testBit i then 0 else 1) else if X.testBit i then u else 10 - u) := rfl
    refine ⟨(nL (wrT v u X (i + 1)), nI (i + 1), m0), rfl, fun ko k => ?_⟩
    have run : ∀ b : Bool, b = X.testBit i → jX8_meanOf_92 ko k (nI u) (nI M) X3 (nL (soS v u M X)) X6 (nI X) (nL (wrT v u X i)) (nI i) (if b then (1 : Int32) else 0) m0 = k (nL (wrT v u X (i + 1)), nI (i + 1), m0) := fun b hbx => by
      unfold jX8_meanOf_92
      dsimp only [li, ll]
      rw [ga_nI (by omega) (by decide), nI_tn (by omega), e83, show nI i + 1 = nI (i + 1) from nI_1 _, show ((10 : Int32) - nI u) = nI (10 - u) from nI_sub (a := 10) hu, nI_L (show u < 2 ^ 31 by omega), nI_L (show 10 - u < 2 ^ 31 by omega), nL_mul, nL_mul, show nL (wrT v u X i) * (1 : Int64) = nL (wrT v u X i * 1) from nL_mul _ 1, show nL (wrT v u X i) * (0 : Int64) = nL (wrT v u X i * 0) from nL_mul _ 0, hs, ← hbx]
      by_cases h3 : v (10 + i) = 3
      · rw [if_pos (show nI (v (10 + i)) = (3 : Int32) by rw [h3]; rfl), if_pos h3]
        cases b <;> rfl
      · rw [if_neg (show ¬ nI (v (10 + i)) = (3 : Int32) by rw [show (3 : Int32) = nI 3 from rfl, nI_eq (by omega) (by decide)]; exact h3), if_neg h3]
        cases b <;> rfl
    unfold bX8_meanOf_67
    dsimp only
    rw [e2, if_neg (nI_ge hi (by omega))]
    by_cases hbt : X.testBit i = true
    · rw [if_pos ((bit1 (by omega) (by omega)).mpr hbt)]
      exact run true hbt.symm
    · rw [if_neg (fun z => hbt ((bit1 (by omega) (by omega)).mp z))]
      exact run false (by simpa using hbt)
theorem fX8_meanOf_eq {m : mMem} {v : Nat → Nat} {u M : Nat} (x3 : Int32) (hm : HO m 0 0 v) (hu : u ≤ 10) (hS : soS v u M (2 ^ v 0) ≤ 40000000000) : ∃ m', fX8_meanOf (nI u) (nI M) x3 m = some (some (.long (if x3 = (0 : Int32) then nL (soS v u M (2 ^ v 0) / Nat.gcd (soS v u M (2 ^ v 0)) (dnS v (v 0))) else nL (dnS v (v 0) / Nat.gcd (soS v u M (2 ^ v 0)) (dnS v (v 0))))), m') ∧ FR m m' := by
  have ho := hm.2.1
  have hb := ho.1
  obtain ⟨-, -, hd1, hd2⟩ := kk_dn (v := v) hb.1
  have h2n : 2 ^ v 0 ≤ 1024 := (Nat.pow_le_pow_right (by decide) hb.1 : 2 ^ v 0 ≤ 2 ^ 10)
  unfold fX8_meanOf
  have L50 : ∃ m', lp (bX8_meanOf_50 (nI u) (nI M) x3 (nL (dnS v (v 0)))) FU ((0 : Int64), (0 : Int32), m) = some (some (.long (if x3 = (0 : Int32) then nL (soS v u M (2 ^ v 0) / Nat.gcd (soS v u M (2 ^ v 0)) (dnS v (v 0))) else nL (dnS v (v 0) / Nat.gcd (soS v u M (2 ^ v 0)) (dnS v (v 0))))), m') ∧ FR m m' := by
    refine lp_rel0 (body := bX8_meanOf_50 (nI u) (nI M) x3 (nL (dnS v (v 0)))) (fun X s => ∃ m', s = (nL (soS v u M X), nI X, m') ∧ FO m m' ∧ ∃ o, HO m' 0 o v) (2 ^ v 0) (fun r => ∃ m', r = some (some (.long (if x3 = (0 : Int32) then nL (soS v u M (2 ^ v 0) / Nat.gcd (soS v u M (2 ^ v 0)) (dnS v (v 0))) else nL (dnS v (v 0) / Nat.gcd (soS v u M (2 ^ v 0)) (dnS v (v 0))))), m') ∧ FR m m') _ (by omega) ⟨m, rfl, ⟨fun _ _ _ => rfl, fun _ _ => rfl, rfl⟩, 0, hm⟩ (fun s k => ?_) (fun X s hX => ?_)
    · rintro ⟨m', rfl, a1, o, a2⟩
      unfold bX8_meanOf_50
      dsimp only [lt]
      rw [a2.1.1.1, nI_shl1 _ (by omega), if_pos (nI_le (Nat.le_refl _) (by omega)), fX8_lowest_eq x3 _ hS hd1 hd2]
      exact ⟨_, rfl, FO_end a1 hm.2.2.2.1⟩
    · rintro ⟨m', rfl, a1, a2⟩
      obtain ⟨w, ⟨m2, rfl, b1, b2⟩, hk⟩ := mo_in (M := M) (X := X) (X3 := x3) (X6 := nL (dnS v (v 0))) ho hu (by omega) hm a1 a2
      obtain ⟨o, a2⟩ := a2
      refine ⟨_, ⟨m2, rfl, b1, b2⟩, fun k => ?_⟩
      unfold bX8_meanOf_50
      dsimp only
      rw [a2.1.1.1, nI_shl1 _ (by omega), if_neg (nI_ge hX (by omega))]
      exact hk k
  obtain ⟨m', e, f⟩ := L50
  refine ⟨m', ?_, f⟩
  rw [← e]
  refine lp_0 (fun i => (nL (dnS v i), nI i, m)) (v 0) _ (by omega) (fun k => ?_) (fun i hi k => ?_)
  · unfold bX8_meanOf_9
    dsimp only
    rw [hm.1.1.1, if_pos (nI_le (Nat.le_refl _) (by omega))]
  · have hc := ho.2.1 i hi
    have hs : dnS v (i + 1) = dnS v i * (if v (10 + i) = 3 then 1 else 10) := rfl
    unfold bX8_meanOf_9
    dsimp only [li, ll]
    rw [hm.1.1.1, if_neg (nI_ge hi (by omega)), ga_nI (by omega) (by decide), nI_tn (by omega), (hm.1.2.1 i hi).1, show nI i + 1 = nI (i + 1) from nI_1 _, show nL (dnS v i) * (1 : Int64) = nL (dnS v i * 1) from nL_mul _ 1, show nL (dnS v i) * (10 : Int64) = nL (dnS v i * 10) from nL_mul _ 10, hs]
    by_cases h3 : v (10 + i) = 3
    · rw [if_pos (show nI (v (10 + i)) = (3 : Int32) by rw [h3]; rfl), if_pos h3]
    · rw [if_neg (by rw [show (3 : Int32) = nI 3 from rfl, nI_eq (by omega) (by decide)]; exact h3), if_neg h3]
theorem pc_bit : ∀ b, b < 16 → ∀ p, p < 4 → popc (b &&& 2 ^ p) = if b.testBit p then 1 else 0 := by decide +kernel
theorem pc_15 : ∀ b, b < 16 → popc (b &&& 15) = smN (fun p => if b.testBit p then 1 else 0) 4 := by decide +kernel
theorem cn_bit {v : Nat → Nat} {p X : Nat} (ho : OK v) (hp : p < v 1) : cnS v (2 ^ p) X = gpS v p X := by
  have hb := ho.1
  unfold cnS gpS
  have hlt : bitsN (fun p => phO v X p != 0) (v 1) < 16 := Nat.lt_of_lt_of_le (bitsN_lt _ _) (Nat.pow_le_pow_right (by decide) hb.2.1 : 2 ^ v 1 ≤ 2 ^ 4)
  rw [pc_bit _ hlt p (by omega), bitsN_bit, decide_eq_true hp, Bool.true_and]
  by_cases hz : phO v X p = 0 <;> simp [hz]
theorem cn_15 {v : Nat → Nat} {X : Nat} (ho : OK v) : cnS v 15 X = smN (fun p => gpS v p X) (v 1) := by
  have hb := ho.1
  have hlt : bitsN (fun p => phO v X p != 0) (v 1) < 16 := Nat.lt_of_lt_of_le (bitsN_lt _ _) (Nat.pow_le_pow_right (by decide) hb.2.1 : 2 ^ v 1 ≤ 2 ^ 4)
  unfold cnS
  rw [pc_15 _ hlt]
  have h1 : smN (fun p => if (bitsN (fun p => phO v X p != 0) (v 1)).testBit p then 1 else 0) (v 1 + (4 - v 1)) = smN (fun p => gpS v p X) (v 1) := by
    rw [smN_app, smN_congr (g := fun p => gpS v p X) (v 1) (fun p hp => ?_), smN_congr (g := fun _ => 0) (4 - v 1) (fun p _ => ?_), smN_zero, Nat.add_zero]
    · rw [bitsN_bit, decide_eq_false (show ¬ v 1 + p < v 1 by omega)]
      rfl
    · rw [bitsN_bit, decide_eq_true hp, Bool.true_and]
      unfold gpS
      by_cases hz : phO v X p = 0 <;> simp [hz]
  rw [show v 1 + (4 - v 1) = 4 by omega] at h1
  exact h1
theorem so_mean {v : Nat → Nat} {u : Nat} (ho : OK v) : soS v u 15 (2 ^ v 0) = smN (fun p => roS v u p) (v 1) := by
  unfold soS roS
  rw [smN_congr (g := fun X => smN (fun p => wrT v u X (v 0) * gpS v p X) (v 1)) _ (fun X _ => by rw [cn_15 ho, smN_mul])]
  generalize v 1 = n
  induction n with
  | zero => exact smN_zero _
  | succ n ih =>
    show smN (fun X => smN (fun p => wrT v u X (v 0) * gpS v p X) n + wrT v u X (v 0) * gpS v n X) (2 ^ v 0) = smN (fun p => smN (fun X => wrT v u X (v 0) * gpS v p X) (2 ^ v 0)) n + smN (fun X => wrT v u X (v 0) * gpS v n X) (2 ^ v 0)
    rw [smN_add, ih]
theorem ro_le {v : Nat → Nat} {u p : Nat} (ho : OK v) (hp : p < v 1) (hu : u ≤ 10) : roS v u p ≤ 10000000000 := by
  obtain ⟨h1, h2⟩ := co_ro ho hp hu
  obtain ⟨-, hk, -, -⟩ := kk_dn (v := v) ho.1.1
  rw [h1] at h2
  exact Nat.le_trans (Nat.le_mul_of_pos_left _ hk) h2
theorem low_end {v : Nat → Nat} {C R : Nat} (h0 : v 0 ≤ 10) (hC : C = kkS v * R) (x : Int32) : (if x = (0 : Int32) then nL (C / Nat.gcd 10000000000 C) else nL (10000000000 / Nat.gcd 10000000000 C)) = if x = (0 : Int32) then nL (R / Nat.gcd R (dnS v (v 0))) else nL (dnS v (v 0) / Nat.gcd R (dnS v (v 0))) := by
  obtain ⟨e, hk, hd, -⟩ := kk_dn (v := v) h0
  obtain ⟨l1, l2⟩ := low_same (K := kkS v) (R := R) (d := dnS v (v 0)) hk hd
  rw [e] at l1 l2
  rw [hC, l1, l2]
theorem ok_odds (u0 u1 u2 : Int32) : okL Inv (fX7_odds u0 u1 u2) (fX8_odds u0 u1 u2) := by
  rintro m ⟨v, hV⟩
  have ho := hV.1.2.2.1
  have hb := ho.1
  have c := IV_c hV
  have d := IV_m hV
  rcases rng_cases u0 0 10 (a := 0) (b := 10) (A := 0) (B := 10) rfl rfl rfl rfl (by decide) (by decide) with ⟨u, -, hu, rfl, f7, f8⟩ | ⟨f7, f8⟩
  · rcases lodger_cases hb.2.1 u1 with ⟨p, hp, rfl, e7, e8⟩ | ⟨e7, e8⟩
    · rcases rng_cases u2 0 1 (a := 0) (b := 1) (A := 0) (B := 1) rfl rfl rfl rfl (by decide) (by decide) with ⟨w, -, hw, hu2, g7, g8⟩ | ⟨g7, g8⟩
      · obtain ⟨mb, eb, b1⟩ := fX0_ofHome_eq hV.1.1 ho hp hu
        obtain ⟨h1, h2⟩ := co_ro ho hp hu
        have FR1 : FR m mb := FR_sm b1 (by decide)
        have HB := HO_fr (IV_HO hV) FR1 (by decide)
        have hso : soS v u (2 ^ p) (2 ^ v 0) = roS v u p := by
          unfold soS roS
          exact smN_congr _ (fun X _ => by rw [cn_bit ho hp])
        have hro := ro_le ho hp hu
        obtain ⟨mc, ec, c1⟩ := fX8_meanOf_eq (M := 2 ^ p) u2 HB hu (by rw [hso]; omega)
        rw [hso] at ec
        have el := fX0_lowest_eq (c := coS v u p) u2 mb (by omega)
        rw [low_end hb.1 h1] at el
        refine ⟨if u2 = (0 : Int32) then nL (roS v u p / Nat.gcd (roS v u p) (dnS v (v 0))) else nL (dnS v (v 0) / Nat.gcd (roS v u p) (dnS v (v 0))), mb, mc, ?_, ?_, ⟨v, IV_FR hV (FR1.tr c1)⟩⟩
        · unfold fX7_odds
          rw [f7]
          dsimp only [bI]
          rw [if_neg (by decide), e7 m c.1.2.1]
          dsimp only
          rw [if_neg (by decide), g7]
          dsimp only
          rw [if_neg (by decide), eb]
          dsimp only [bL]
          rw [el]
        · unfold fX8_odds
          rw [f8]
          dsimp only [bI]
          rw [if_neg (by decide), e8 mb (by rw [FR1.1 81 (by decide)]; exact d.1.2.1)]
          dsimp only
          rw [if_neg (by decide), g8]
          dsimp only
          rw [if_neg (by decide), nI_shl1 p (by omega), ec]
          rfl
      · refine ⟨-1, m, m, ?_, ?_, ⟨v, hV⟩⟩
        · unfold fX7_odds
          rw [f7]
          dsimp only [bI]
          rw [if_neg (by decide), e7 m c.1.2.1]
          dsimp only
          rw [if_neg (by decide), g7]
          rfl
        · unfold fX8_odds
          rw [f8]
          dsimp only [bI]
          rw [if_neg (by decide), e8 m d.1.2.1]
          dsimp only
          rw [if_neg (by decide), g8]
          rfl
    · refine ⟨-1, m, m, ?_, ?_, ⟨v, hV⟩⟩
      · unfold fX7_odds
        rw [f7]
        dsimp only [bI]
        rw [if_neg (by decide), e7 m c.1.2.1]
        rfl
      · unfold fX8_odds
        rw [f8]
        dsimp only [bI]
        rw [if_neg (by decide), e8 m d.1.2.1]
        rfl
  · refine ⟨-1, m, m, ?_, ?_, ⟨v, hV⟩⟩
    · unfold fX7_odds
      rw [f7]
      rfl
    · unfold fX8_odds
      rw [f8]
      rfl
theorem ok_mean (u0 u1 : Int32) : okL Inv (fX7_mean u0 u1) (fX8_mean u0 u1) := by
  rintro m ⟨v, hV⟩
  have ho := hV.1.2.2.1
  have hb := ho.1
  have c := IV_c hV
  have d := IV_m hV
  rcases rng_cases u0 0 10 (a := 0) (b := 10) (A := 0) (B := 10) rfl rfl rfl rfl (by decide) (by decide) with ⟨u, -, hu, rfl, f7, f8⟩ | ⟨f7, f8⟩
  · rcases rng_cases u1 0 1 (a := 0) (b := 1) (A := 0) (B := 1) rfl rfl rfl rfl (by decide) (by decide) with ⟨w, -, hw, hu2, g7, g8⟩ | ⟨g7, g8⟩
    · have hC : ∀ n, n ≤ v 1 → smN (fun p => coS v u p) n = kkS v * smN (fun p => roS v u p) n ∧ smN (fun p => coS v u p) n ≤ n * 10000000000 := fun n hn => by
        induction n with
        | zero => exact ⟨rfl, Nat.le_refl _⟩
        | succ n ih =>
          obtain ⟨i1, i2⟩ := ih (by omega)
          obtain ⟨h1, h2⟩ := co_ro ho (show n < v 1 by omega) hu
          constructor
          · show smN (fun p => coS v u p) n + coS v u n = kkS v * (smN (fun p => roS v u p) n + roS v u n)
            rw [i1, h1, Nat.mul_add]
          · show smN (fun p => coS v u p) n + coS v u n ≤ _
            omega
      obtain ⟨hC1, hC2⟩ := hC (v 1) (Nat.le_refl _)
      have hC3 : smN (fun p => coS v u p) (v 1) ≤ 40000000000 := by omega
      have hR : smN (fun p => roS v u p) (v 1) ≤ 40000000000 := by
        obtain ⟨-, hk, -, -⟩ := kk_dn (v := v) hb.1
        rw [hC1] at hC3
        exact Nat.le_trans (Nat.le_mul_of_pos_left _ hk) hC3
      obtain ⟨mb, l7, FR1⟩ : ∃ mb, lp (bX7_mean_28 (nI u) u1) FU ((0 : Int64), (0 : Int32), m) = some (some (.long (if u1 = (0 : Int32) then nL (smN (fun p => roS v u p) (v 1) / Nat.gcd (smN (fun p => roS v u p) (v 1)) (dnS v (v 0))) else nL (dnS v (v 0) / Nat.gcd (smN (fun p => roS v u p) (v 1)) (dnS v (v 0))))), mb) ∧ FR m mb := by
        refine lp_rel0 (body := bX7_mean_28 (nI u) u1) (fun p s => ∃ m', s = (nL (smN (fun p => coS v u p) p), nI p, m') ∧ SM [63, 64] m m') (v 1) (fun r => ∃ mb, r = some (some (.long (if u1 = (0 : Int32) then nL (smN (fun p => roS v u p) (v 1) / Nat.gcd (smN (fun p => roS v u p) (v 1)) (dnS v (v 0))) else nL (dnS v (v 0) / Nat.gcd (smN (fun p => roS v u p) (v 1)) (dnS v (v 0))))), mb) ∧ FR m mb) _ (by omega) ⟨m, rfl, SM.rf⟩ (fun s k => ?_) (fun p s hp => ?_)
        · rintro ⟨m', rfl, a1⟩
          have el := fX0_lowest_eq (c := smN (fun p => coS v u p) (v 1)) u1 m' hC3
          rw [low_end hb.1 hC1] at el
          unfold bX7_mean_28
          dsimp only
          rw [(a1 0 (by decide)).1, c.1.2.1, if_pos (nI_le (Nat.le_refl _) (by omega)), el]
          exact ⟨m', rfl, FR_sm a1 (by decide)⟩
        · rintro ⟨m', rfl, a1⟩
          obtain ⟨m2, eb, b1⟩ := fX0_ofHome_eq (HC_sm hV.1.1 a1 (by decide)) ho hp hu
          refine ⟨(nL (smN (fun p => coS v u p) (p + 1)), nI (p + 1), m2), ⟨m2, rfl, a1.tr b1⟩, fun k => ?_⟩
          unfold bX7_mean_28
          dsimp only
          rw [(a1 0 (by decide)).1, c.1.2.1, if_neg (nI_ge hp (by omega)), eb]
          dsimp only [bL, ll, li]
          rw [nL_add, show nI p + 1 = nI (p + 1) from nI_1 _]
          rfl
      have HB := HO_fr (IV_HO hV) FR1 (by decide)
      obtain ⟨mc, ec, c1⟩ := fX8_meanOf_eq (M := 15) u1 HB hu (by rw [so_mean ho]; exact hR)
      rw [so_mean ho] at ec
      have ec' : fX8_meanOf (nI u) (15 : Int32) u1 mb = _ := ec
      refine ⟨if u1 = (0 : Int32) then nL (smN (fun p => roS v u p) (v 1) / Nat.gcd (smN (fun p => roS v u p) (v 1)) (dnS v (v 0))) else nL (dnS v (v 0) / Nat.gcd (smN (fun p => roS v u p) (v 1)) (dnS v (v 0))), mb, mc, ?_, ?_, ⟨v, IV_FR hV (FR1.tr c1)⟩⟩
      · unfold fX7_mean
        rw [f7]
        dsimp only [bI]
        rw [if_neg (by decide), g7]
        dsimp only
        rw [if_neg (by decide)]
        exact l7
      · unfold fX8_mean
        rw [f8]
        dsimp only [bI]
        rw [if_neg (by decide), g8]
        dsimp only
        rw [if_neg (by decide), ec']
        rfl
    · refine ⟨-1, m, m, ?_, ?_, ⟨v, hV⟩⟩
      · unfold fX7_mean
        rw [f7]
        dsimp only [bI]
        rw [if_neg (by decide), g7]
        rfl
      · unfold fX8_mean
        rw [f8]
        dsimp only [bI]
        rw [if_neg (by decide), g8]
        rfl
  · refine ⟨-1, m, m, ?_, ?_, ⟨v, hV⟩⟩
    · unfold fX7_mean
      rw [f7]
      rfl
    · unfold fX8_mean
      rw [f8]
      rfl
