/-! PURE FACTS: breaks, climb -/
def tz62 (x0 x1 : Int32) : Int32 := if x0 ≤ (4 : Int32) then x1 + ((x0.toUInt32 >>> ((1 : Int32).toUInt32 &&& Int32.toUInt32 31)).toInt32) else (x1 + (2 : Int32)) + ((((x0.toUInt32 >>> ((2 : Int32).toUInt32 &&& Int32.toUInt32 31)).toInt32).toUInt32 >>> ((1 : Int32).toUInt32 &&& Int32.toUInt32 31)).toInt32)
theorem tz62_eq (x0 x1 : Int32) (m : mMem) : jJ6_numberOfTrailingZeros_0f7a4_62 x0 x1 m = some (some (.int (tz62 x0 x1)), m) := by
  unfold jJ6_numberOfTrailingZeros_0f7a4_62 tz62
  by_cases h : x0 ≤ (4 : Int32)
  · rw [if_pos h, if_pos h]
  · rw [if_neg h, if_neg h]
    rfl
def tz49 (x0 x1 : Int32) : Int32 := if x0 ≤ (16 : Int32) then tz62 x0 x1 else tz62 ((x0.toUInt32 >>> ((4 : Int32).toUInt32 &&& Int32.toUInt32 31)).toInt32) (x1 + (4 : Int32))
theorem tz49_eq (x0 x1 : Int32) (m : mMem) : jJ6_numberOfTrailingZeros_0f7a4_49 x0 x1 m = some (some (.int (tz49 x0 x1)), m) := by
  unfold jJ6_numberOfTrailingZeros_0f7a4_49 tz49
  dsimp only [li]
  rw [tz62_eq, tz62_eq]
  by_cases h : x0 ≤ (16 : Int32)
  · rw [if_pos h, if_pos h]
  · rw [if_neg h, if_neg h]
def tz34 (x0 x1 : Int32) : Int32 := if x0 ≤ (256 : Int32) then tz49 x0 x1 else tz49 ((x0.toUInt32 >>> ((8 : Int32).toUInt32 &&& Int32.toUInt32 31)).toInt32) (x1 + (8 : Int32))
theorem tz34_eq (x0 x1 : Int32) (m : mMem) : jJ6_numberOfTrailingZeros_0f7a4_34 x0 x1 m = some (some (.int (tz34 x0 x1)), m) := by
  unfold jJ6_numberOfTrailingZeros_0f7a4_34 tz34
  dsimp only [li]
  rw [tz49_eq, tz49_eq]
  by_cases h : x0 ≤ (256 : Int32)
  · rw [if_pos h, if_pos h]
  · rw [if_neg h, if_neg h]
def tzY (x0 : Int32) : Int32 := (x0 ^^^ (-1 : Int32)) &&& (x0 - (1 : Int32))
/-- the lowest bit -/
def tzN (a : Nat) : Nat := fdF (fun i => a.testBit i) 10 0
theorem tzN_eq : ∀ a, a < 1024 → a = 0 ∨ ((if (0 : Int32) < tzY (nI a) then (if tzY (nI a) ≤ (65536 : Int32) then tz34 (tzY (nI a)) 1 else -9) else tzY (nI a) &&& (32 : Int32)) = nI (tzN a) ∧ ((0 : Int32) < tzY (nI a) → tzY (nI a) ≤ (65536 : Int32))) := by decide +kernel
theorem fJ6_ntz_eq {a : Nat} (m : mMem) (h : a < 1024) (h0 : a ≠ 0) : fJ6_numberOfTrailingZeros_0f7a4 (nI a) m = some (some (.int (nI (tzN a))), m) := by
  rcases tzN_eq a h with z | ⟨e, e2⟩
  · exact absurd z h0
  · unfold fJ6_numberOfTrailingZeros_0f7a4
    dsimp only [li]
    change (if (0 : Int32) < tzY (nI a) then _ else _) = _
    by_cases hp : (0 : Int32) < tzY (nI a)
    · rw [if_pos hp] at e ⊢
      rw [if_pos (e2 hp)] at e
      rw [← e]
      change (if tzY (nI a) ≤ (65536 : Int32) then _ else _) = _
      rw [if_pos (e2 hp)]
      exact tz34_eq _ _ _
    · rw [if_neg hp] at e ⊢
      rw [← e]
      rfl
theorem tzN_bit : ∀ a, a < 1024 → a = 0 ∨ (a.testBit (tzN a) = true ∧ tzN a < 10 ∧ ∀ j, j < 10 → j < tzN a → a.testBit j = false) := by decide +kernel
/-- the steps that have broken within d days -/
def nbS (v : Nat → Nat) (d : Nat) : Nat := bitsN (fun i => brS (dsS v d) i && !(brS v i)) (v 0)
theorem nbS_lt {v : Nat → Nat} {d : Nat} (h : v 0 ≤ 10) : nbS v d < 1024 := bt_lt h
theorem nbS_eq {v : Nat → Nat} {d : Nat} (h : v 0 ≤ 10) : nI (bitsN (brS (dsS v d)) (v 0)) &&& (nI (bitsN (brS v) (v 0)) ^^^ (-1 : Int32)) = nI (nbS v d) := by
  unfold nbS
  rw [nI_clr _ (bt_lt h), bits_clr h]
theorem ok_breaks (u0 : Int32) : okI Inv (fX7_breaks u0) (fX8_breaks u0) := by
  rintro m ⟨v, hV⟩
  have ho := hV.1.2.2.1
  have hb := ho.1
  have c := IV_c hV
  have d := IV_m hV
  have h999 := hV.1.2.2.2.2.1
  rcases rng_cases u0 0 1 (a := 0) (b := 1) (A := 0) (B := 1) rfl rfl rfl rfl (by decide) (by decide) with ⟨n, -, hn, hu, e7, e8⟩ | ⟨e7, e8⟩
  · obtain ⟨ma, ea, a1, a2⟩ := cp7 hV.1.1 ho
    obtain ⟨q, hq⟩ : ∃ q : Nat → Bool, q = fun i => nbS v (i + 1) != 0 := ⟨_, rfl⟩
    obtain ⟨ans, hans⟩ : ∃ ans : Int32, ans = if fdF q 60 0 = 60 then -4 else if u0 = (0 : Int32) then nI (fdF q 60 0 + 1) else nI (tzN (nbS v (fdF q 60 0 + 1))) := ⟨_, rfl⟩
    have hit : ∀ i, i < 60 → q i = true → (∀ j, j < i → q j = false) → ans = if u0 = (0 : Int32) then nI (i + 1) else nI (tzN (nbS v (i + 1))) := fun i h1 h2 h3 => by
      have := fdF_hit 60 0 i (by omega) (by omega) h2 (fun j _ h => h3 j h)
      rw [hans, this, if_neg (by omega)]
    have non : (∀ j, j < 60 → q j = false) → ans = -4 := fun h3 => by
      have := fdF_none 60 0 (fun j _ h => h3 j (by omega))
      rw [hans, this, if_pos rfl]
    have L7 : ∃ mb, lp (bX7_breaks_34 u0 (nI (bitsN (brS v) (v 0)) ^^^ (-1 : Int32))) FU ((1 : Int32), ma) = some (some (.int ans), mb) ∧ FR ma mb := by
      refine lp_or0 (body := bX7_breaks_34 u0 (nI (bitsN (brS v) (v 0)) ^^^ (-1 : Int32))) (fun i s => ∃ m', s = (nI (i + 1), m') ∧ HC m' 8 (dsS v i) ∧ FR ma m' ∧ ∀ j, j < i → q j = false) 60 (fun r => ∃ mb, r = some (some (.int ans), mb) ∧ FR ma mb) _ (by decide) ⟨ma, rfl, a1, FR.rf, fun j hj => absurd hj (Nat.not_lt_zero _)⟩ (fun s k => ?_) (fun i s hi => ?_)
      · rintro ⟨m', rfl, h1, h2, h3⟩
        unfold bX7_breaks_34
        dsimp only
        rw [if_pos (by decide), non h3]
        exact ⟨m', rfl, h2⟩
      · rintro ⟨m', rfl, h1, h2, h3⟩
        obtain ⟨g1, g2, g3⟩ := dsS_OK ho i (by omega)
        obtain ⟨w1, w2, w3⟩ := dsS_OK ho (i + 1) (by omega)
        obtain ⟨m2, e, b1, b2, b3⟩ := fX1_goDay_eq (by decide) h1 g1 (by omega)
        have b1' : HC m2 8 (dsS v (i + 1)) := b1
        have hbr := fX4_brokenBits_eq b1' w1
        rw [w3 0 (by decide) (by omega)] at hbr
        have F2 : FR ma m2 := h2.tr (FR_sm b2 (by decide))
        have hlt : nbS v (i + 1) < 1024 := nbS_lt hb.1
        by_cases hz : nbS v (i + 1) = 0
        · left
          refine ⟨(nI (i + 1 + 1), m2), ⟨m2, rfl, b1', F2, fun j hj => ?_⟩, fun k => ?_⟩
          · by_cases ej : j = i
            · subst ej
              rw [hq]; simp [hz]
            · exact h3 j (by omega)
          · unfold bX7_breaks_34
            dsimp only [li]
            rw [if_neg (show ¬ (60 : Int32) < nI (i + 1) from nI_nlt (a := 60) (by omega) (by decide)), e]
            dsimp only [bI]
            rw [hbr]
            dsimp only
            rw [nbS_eq hb.1, if_pos ((nI_0iff (by omega)).mpr hz), show nI (i + 1) + 1 = nI (i + 1 + 1) from nI_1 _]
        · right
          intro k
          have := hit i hi (by rw [hq]; simp [hz]) h3
          unfold bX7_breaks_34
          dsimp only [li]
          rw [if_neg (show ¬ (60 : Int32) < nI (i + 1) from nI_nlt (a := 60) (by omega) (by decide)), e]
          dsimp only [bI]
          rw [hbr]
          dsimp only
          rw [nbS_eq hb.1, if_neg (fun z => hz ((nI_0iff (by omega)).mp z)), fJ6_ntz_eq _ hlt hz, this]
          by_cases h0 : u0 = 0
          · rw [if_pos h0, if_pos h0]
            exact ⟨m2, rfl, F2⟩
          · rw [if_neg h0, if_neg h0]
            exact ⟨m2, rfl, F2⟩
    obtain ⟨mb, l7, fr7⟩ := L7
    have FR1 : FR m mb := (FR_sm a2 (by decide)).tr fr7
    have HB := HO_fr (IV_HO hV) FR1 (by decide)
    obtain ⟨mc, ec, c1, c2, c3⟩ := cp8 (P := 140) HB (by decide) (by decide)
    have ec' : fX8_copies (0 : Int32) (140 : Int32) mb = some (none, mc) := ec
    have hb8 : fX8_brokenOn (0 : Int32) mb = _ := fX8_brokenOn_eq HB
    rw [obS_0] at hb8
    have L8 : ∃ md, lp (bX8_breaks_28 u0 (nI (bitsN (brS v) (v 0)))) FU ((1 : Int32), mc) = some (some (.int ans), md) ∧ FR mc md := by
      refine lp_or0 (body := bX8_breaks_28 u0 (nI (bitsN (brS v) (v 0)))) (fun i s => ∃ m', s = (nI (i + 1), m') ∧ HO m' 140 0 (dsS v i) ∧ FR mc m' ∧ ∀ j, j < i → q j = false) 60 (fun r => ∃ mb, r = some (some (.int ans), mb) ∧ FR mc mb) _ (by decide) ⟨mc, rfl, c1, FR.rf, fun j hj => absurd hj (Nat.not_lt_zero _)⟩ (fun s k => ?_) (fun i s hi => ?_)
      · rintro ⟨m', rfl, h1, h2, h3⟩
        unfold bX8_breaks_28
        dsimp only
        rw [if_pos (by decide), non h3]
        exact ⟨m', rfl, h2⟩
      · rintro ⟨m', rfl, h1, h2, h3⟩
        obtain ⟨g1, g2, g3⟩ := dsS_OK ho i (by omega)
        obtain ⟨w1, w2, w3⟩ := dsS_OK ho (i + 1) (by omega)
        obtain ⟨m2, e, b1, b2, b3⟩ := fX8_daysOn_eq (n := 1) h1 (by omega)
        have e' : fX8_daysOn (140 : Int32) (1 : Int32) m' = _ := e
        have b1' : HO m2 140 0 (dsS v (i + 1)) := b1
        have hbr : fX8_brokenOn (140 : Int32) m2 = _ := fX8_brokenOn_eq b1'
        rw [w3 0 (by decide) (by omega), obS_0] at hbr
        have hn2 : m2.1 81 2 = nI (v 0) := by rw [b1'.1.1.1, w3 0 (by decide) (by omega)]
        have F2 : FR mc m2 := h2.tr (FR_pg b2 (by decide) b3 (by decide))
        have hlt : nbS v (i + 1) < 1024 := nbS_lt hb.1
        have hbit : ∀ j, (nbS v (i + 1)).testBit j = true → j < v 0 := fun j hj => by
          unfold nbS at hj
          rw [bitsN_bit] at hj
          simp at hj
          exact hj.1
        by_cases hz : nbS v (i + 1) = 0
        · left
          refine ⟨(nI (i + 1 + 1), m2), ⟨m2, rfl, b1', F2, fun j hj => ?_⟩, fun k => ?_⟩
          · by_cases ej : j = i
            · subst ej
              rw [hq]; simp [hz]
            · exact h3 j (by omega)
          · unfold bX8_breaks_28
            dsimp only [li]
            rw [if_neg (show ¬ (60 : Int32) < nI (i + 1) from nI_nlt (a := 60) (by omega) (by decide)), e']
            dsimp only [bI]
            rw [hbr]
            dsimp only
            rw [nbS_eq hb.1, hz]
            refine lp_0 (fun j => (nI j, m2)) (v 0) _ (by omega) (fun kk => ?_) (fun j hj kk => ?_)
            · unfold bX8_breaks_59
              dsimp only [li]
              rw [hn2, if_pos (nI_le (Nat.le_refl _) (by omega)), show nI (i + 1) + 1 = nI (i + 1 + 1) from nI_1 _]
            · unfold bX8_breaks_59
              dsimp only [li]
              rw [hn2, if_neg (nI_ge hj (by omega)), if_neg (fun z => by
                have := (bit1 (by decide) (by omega)).mp z
                simp at this), show nI j + 1 = nI (j + 1) from nI_1 _]
        · right
          intro k
          have := hit i hi (by rw [hq]; simp [hz]) h3
          obtain ⟨t1, t2, t3⟩ := (tzN_bit _ hlt).resolve_left hz
          unfold bX8_breaks_28
          dsimp only [li]
          rw [if_neg (show ¬ (60 : Int32) < nI (i + 1) from nI_nlt (a := 60) (by omega) (by decide)), e']
          dsimp only [bI]
          rw [hbr]
          dsimp only
          rw [nbS_eq hb.1, this]
          refine ⟨m2, ?_, F2⟩
          refine lp_0 (fun j => (nI j, m2)) (tzN (nbS v (i + 1))) _ (by omega) (fun kk => ?_) (fun j hj kk => ?_)
          · unfold bX8_breaks_59
            dsimp only [li]
            rw [hn2, if_neg (nI_ge (hbit _ t1) (by omega)), if_pos ((bit1 (by omega) (by omega)).mpr t1)]
            by_cases h0 : u0 = 0
            · rw [if_pos h0, if_pos h0]
            · rw [if_neg h0, if_neg h0]
          · have := hbit _ t1
            unfold bX8_breaks_59
            dsimp only [li]
            rw [hn2, if_neg (nI_ge (by omega) (by omega)), if_neg (fun z => by
              have := (bit1 (by omega) (by omega)).mp z
              rw [t3 j (by omega) hj] at this
              cases this), show nI j + 1 = nI (j + 1) from nI_1 _]
    obtain ⟨md, l8, fr8⟩ := L8
    refine ⟨ans, mb, md, ?_, ?_, ⟨v, IV_FR hV (FR1.tr ((FR_pg c2 (by decide) c3 (by decide)).tr fr8))⟩⟩
    · unfold fX7_breaks
      rw [e7]
      dsimp only [bI]
      rw [if_neg (by decide), fX4_brokenBits_eq hV.1.1 ho]
      dsimp only [li]
      rw [ea]
      dsimp only [bV]
      exact l7
    · unfold fX8_breaks
      rw [e8]
      dsimp only [bI]
      rw [if_neg (by decide), hb8]
      dsimp only
      rw [ec']
      dsimp only [bV]
      exact l8
  · refine ⟨-1, m, m, ?_, ?_, ⟨v, hV⟩⟩
    · unfold fX7_breaks
      rw [e7]
      rfl
    · unfold fX8_breaks
      rw [e8]
      rfl
/-! ## climb -/
theorem asc_eq : ∀ (A B : List Nat), A.Pairwise (· < ·) → B.Pairwise (· < ·) → (∀ i, i ∈ A ↔ i ∈ B) → A = B
  | [], [], _, _, _ => rfl
  | [], b :: B, _, _, h => absurd ((h b).mpr List.mem_cons_self) (by simp)
  | a :: A, [], _, _, h => absurd ((h a).mp List.mem_cons_self) (by simp)
  | a :: A, b :: B, hA, hB, h => by
    rw [List.pairwise_cons] at hA hB
    have e : a = b := by
      rcases List.mem_cons.mp ((h a).mp List.mem_cons_self) with e | e
      · exact e
      · rcases List.mem_cons.mp ((h b).mpr List.mem_cons_self) with e2 | e2
        · exact e2.symm
        · have h1 := hB.1 a e
          have h2 := hA.1 b e2
          omega
    subst e
    rw [asc_eq A B hA.2 hB.2 (fun i => ?_)]
    constructor
    · intro hi
      rcases List.mem_cons.mp ((h i).mp (List.mem_cons_of_mem _ hi)) with e | e
      · have := hA.1 i hi
        omega
      · exact e
    · intro hi
      rcases List.mem_cons.mp ((h i).mpr (List.mem_cons_of_mem _ hi)) with e | e
      · have := hB.1 i hi
        omega
      · exact e
def clrN (a : Nat) : Nat → Nat
  | 0 => a
  | k + 1 => fc (clrN a k) (fun x => x &&& (x - 1))
theorem clr1 : ∀ a, a < 1024 → nI a &&& (nI a - 1) = nI (a &&& (a - 1)) := by decide +kernel
theorem clrN_lt {a : Nat} (h : a < 1024) : ∀ k, clrN a k < 1024
  | 0 => h
  | k + 1 => by
    show clrN a k &&& (clrN a k - 1) < 1024
    exact Nat.lt_of_le_of_lt Nat.and_le_left (clrN_lt h k)
def bitL (a : Nat) : List Nat := (List.range 10).filter (fun i => a.testBit i)
theorem clr_eq : ∀ a, a < 1024 → ∀ k, k < 10 → (k < popc a ∧ clrN a k ≠ 0 ∧ tzN (clrN a k) = (bitL a).getD k 0) ∨ (popc a ≤ k ∧ clrN a k = 0) := by decide +kernel
theorem fX7_stepOfPath_eq {a k : Nat} (m : mMem) (h : a < 1024) (hk : k < 10) : fX7_stepOfPath (nI a) (nI k) m = some (some (.int (if k < popc a then nI ((bitL a).getD k 0) else -4)), m) := by
  unfold fX7_stepOfPath
  refine lp_0 (fun i => (nI (clrN a i), nI i, m)) k _ (by omega) (fun kk => ?_) (fun i hi kk => ?_)
  · unfold bX7_stepOfPath_4
    dsimp only
    rw [if_pos (nI_le (Nat.le_refl _) (by omega))]
    have hl := clrN_lt h k
    rcases clr_eq a h k hk with ⟨h1, h2, h3⟩ | ⟨h1, h2⟩
    · rw [if_neg (fun z => h2 ((nI_0iff (by omega)).mp z)), fJ6_ntz_eq m hl h2, h3, if_pos h1]
      rfl
    · rw [if_pos ((nI_0iff (by omega)).mpr h2), if_neg (by omega)]
  · have hl := clrN_lt h i
    unfold bX7_stepOfPath_4
    dsimp only [li]
    rw [if_neg (nI_ge hi (by omega)), clr1 _ hl, show nI i + 1 = nI (i + 1) from nI_1 _]
    rfl
theorem bitL_mem {a i : Nat} (h : a < 1024) : i ∈ bitL a ↔ a.testBit i = true := by
  unfold bitL
  rw [List.mem_filter, List.mem_range]
  constructor
  · exact fun q => q.2
  · intro q
    refine ⟨?_, q⟩
    rcases Nat.lt_or_ge i 10 with z | z
    · exact z
    · have : a.testBit i = false := Nat.testBit_lt_two_pow (Nat.lt_of_lt_of_le h (Nat.pow_le_pow_right (n := 2) (i := 10) (by decide) z))
      rw [this] at q
      cases q
theorem bitL_asc (a : Nat) : (bitL a).Pairwise (· < ·) := List.Pairwise.filter _ List.pairwise_lt_range
theorem ok_climb (u0 u1 : Int32) : okI Inv (fX7_climb u0 u1) (fX8_climb u0 u1) := by
  rintro m ⟨v, hV⟩
  have ho := hV.1.2.2.1
  have hb := ho.1
  have c := IV_c hV
  have d := IV_m hV
  rcases lodger_cases hb.2.1 u0 with ⟨p, hp, rfl, e7, e8⟩ | ⟨e7, e8⟩
  · have hs := fX1_shortest_eq hV.1.1 ho hp
    obtain ⟨mb, hmb⟩ : ∃ mb, mb = pM 55 (tdS v p) (rcS v p) m (v (52 + p) + 1) := ⟨_, rfl⟩
    rw [← hmb] at hs
    have F1 : FR m mb := by rw [hmb]; exact FR_sm (pM_SM _ _ _ _ _) (by decide)
    have HB := HO_fr (IV_HO hV) F1 (by decide)
    obtain ⟨mc, ec, c2, c3⟩ := fX8_climbOn_eq HB hp
    have ec' : fX8_climbOn (0 : Int32) (nI p) mb = _ := ec
    rw [phO_0] at ec' c3
    have hph := phS_lt ho hp
    have F2 : FR mb mc := FR_sm c2 (by decide)
    have hI : Inv mc := ⟨v, IV_FR hV (F1.tr F2)⟩
    have hpl := popc_le (phS v p)
    have main : ∀ ans : Int32, ((phS v p = 0 ∧ ans = -4) ∨ (phS v p ≠ 0 ∧ u1 = 0 ∧ ans = nI (popc (phS v p))) ∨ (phS v p ≠ 0 ∧ u1 ≠ 0 ∧ ∃ k, k < 10 ∧ u1 - 10 = nI k ∧ ans = if k < popc (phS v p) then nI ((bitL (phS v p)).getD k 0) else -4)) → (u1 = 0 ∨ ∃ k, k < 10 ∧ u1 - 10 = nI k) → jX7_climb_29 (nI p) u1 (u1 - 10) m = some (some (.int ans), mb) ∧ jX8_climb_28 (nI p) u1 mb = some (some (.int ans), mc) := fun ans hc hu => by
      unfold jX7_climb_29 jX8_climb_28
      rw [hs, ec']
      dsimp only [bI]
      rcases hc with ⟨h1, h2⟩ | ⟨h1, h2, h3⟩ | ⟨h1, h2, k, hk, h3, h4⟩
      · rw [if_pos ((nI_0iff (by omega)).mpr h1), if_pos h1, h2]
        refine ⟨rfl, ?_⟩
        rcases hu with h | ⟨k, hk, h⟩
        · rw [if_pos h]
        · by_cases h0 : u1 = 0
          · rw [if_pos h0]
          · rw [if_neg h0, h, if_pos ((show ∀ k, k < 10 → (-4 : Int32) ≤ nI k by decide) k hk)]
      · rw [if_neg (fun z => h1 ((nI_0iff (by omega)).mp z)), if_neg h1, if_pos h2, if_pos h2, fJ6_bitCount_eq _ hph, h3]
        exact ⟨rfl, rfl⟩
      · rw [if_neg (fun z => h1 ((nI_0iff (by omega)).mp z)), if_neg h1, if_neg h2, if_neg h2, h3, fX7_stepOfPath_eq _ hph hk, h4]
        refine ⟨rfl, ?_⟩
        by_cases hkp : k < popc (phS v p)
        · obtain ⟨G, g1, g2, g3, g4, g5, g6⟩ := c3 h1
          have hG : G = bitL (phS v p) := asc_eq _ _ g6 (bitL_asc _) (fun i => by rw [bitL_mem hph, g2 i, decide_eq_true_eq])
          rw [if_neg (nI_ge hkp (by omega)), if_pos hkp, ga_nI hk (by decide), nI_tn (by omega), g3 k (by rw [g1]; exact hkp), hG]
        · rw [if_pos (nI_le (by omega) (by omega)), if_neg hkp]
    have fin : ∀ ans : Int32, jX7_climb_29 (nI p) u1 (u1 - 10) m = some (some (.int ans), mb) ∧ jX8_climb_28 (nI p) u1 mb = some (some (.int ans), mc) → (u1 = 0 ∨ ((0 : Int32) ≤ u1 - 10 ∧ u1 - 10 ≤ (9 : Int32)) ∧ ((10 : Int32) ≤ u1 ∧ u1 ≤ (19 : Int32))) → ∃ r μ1 μ2, fX7_climb (nI p) u1 m = some (some (.int r), μ1) ∧ fX8_climb (nI p) u1 μ1 = some (some (.int r), μ2) ∧ Inv μ2 := fun ans hj hu => by
      refine ⟨ans, mb, mc, ?_, ?_, hI⟩
      · unfold fX7_climb
        dsimp only [li]
        rw [e7 m c.1.2.1]
        dsimp only [bI]
        rw [if_neg (by decide)]
        by_cases h0 : u1 = 0
        · rw [if_pos h0]; exact hj.1
        · rw [if_neg h0, wi_eq, if_pos (hu.resolve_left h0).1]
          dsimp only
          rw [if_neg (by decide)]
          exact hj.1
      · unfold fX8_climb
        rw [e8 mb (by rw [F1.1 81 (by decide)]; exact d.1.2.1)]
        dsimp only [bI]
        rw [if_neg (by decide)]
        by_cases h0 : u1 = 0
        · rw [if_pos h0]; exact hj.2
        · rw [if_neg h0, show (10 : Int64) = (10 : Int32).toInt64 from rfl, show (19 : Int64) = (19 : Int32).toInt64 from rfl, fX8_in_eq, if_pos (hu.resolve_left h0).2]
          dsimp only
          rw [if_neg (by decide)]
          exact hj.2
    by_cases h0 : u1 = 0
    · by_cases hz : phS v p = 0
      · exact fin _ (main _ (Or.inl ⟨hz, rfl⟩) (Or.inl h0)) (Or.inl h0)
      · exact fin _ (main _ (Or.inr (Or.inl ⟨hz, h0, rfl⟩)) (Or.inl h0)) (Or.inl h0)
    · rcases off_cases u1 (n := 10) (Nat.le_refl _) with ⟨k, hk, e1, e2, e3, e4⟩ | ⟨e3, e4⟩
      · by_cases hz : phS v p = 0
        · exact fin _ (main _ (Or.inl ⟨hz, rfl⟩) (Or.inr ⟨k, hk, e2⟩)) (Or.inr ⟨e3, e4⟩)
        · exact fin _ (main _ (Or.inr (Or.inr ⟨hz, h0, k, hk, e2, rfl⟩)) (Or.inr ⟨k, hk, e2⟩)) (Or.inr ⟨e3, e4⟩)
      · have e3' : ¬ ((0 : Int32) ≤ u1 - 10 ∧ u1 - 10 ≤ (9 : Int32)) := e3
        have e4' : ¬ ((10 : Int32) ≤ u1 ∧ u1 ≤ (19 : Int32)) := e4
        refine ⟨-1, m, m, ?_, ?_, ⟨v, hV⟩⟩
        · unfold fX7_climb
          dsimp only [li]
          rw [e7 m c.1.2.1]
          dsimp only [bI]
          rw [if_neg (by decide), if_neg h0, wi_eq, if_neg e3']
          rfl
        · unfold fX8_climb
          rw [e8 m d.1.2.1]
          dsimp only [bI]
          rw [if_neg (by decide), if_neg h0, show (10 : Int64) = (10 : Int32).toInt64 from rfl, show (19 : Int64) = (19 : Int32).toInt64 from rfl, fX8_in_eq, if_neg e4']
          rfl
  · refine ⟨-1, m, m, ?_, ?_, ⟨v, hV⟩⟩
    · unfold fX7_climb
      dsimp only [li]
      rw [e7 m c.1.2.1]
      rfl
    · unfold fX8_climb
      rw [e8 m d.1.2.1]
      rfl
