/-! PURE FACTS: read -/
theorem IV_rd {m m' : mMem} {v v' : Nat → Nat} (h : IV m v) (e : ∀ c, c ∉ HSE → c ≠ 48 → c ≠ 81 → m'.1 c = m.1 c) (e82 : ∀ q, 35 ≤ q → q < 105 → m'.1 82 q = m.1 82 q) (e81 : ∀ j, j ≠ 34 → m'.1 81 j = m.1 81 j) (et : m'.1 48 10 = m'.1 81 34) (hh : IH m' v') (h0 : v' 0 = v 0) : IV m' v' := by
  obtain ⟨h1, h2, h3, h4, h5, h6⟩ := h
  refine ⟨hh, II_fr h2 (fun c hc hd => e c ?_ (by omega) (by omega)) (e81 _ (by decide)) (e81 _ (by decide)) (e 83 (by decide) (by decide) (by decide)) (e 84 (by decide) (by decide) (by decide)) (fun q h1 hq => e82 q h1 (by omega)) (e 53 (by decide) (by decide) (by decide)) (e 96 (by decide) (by decide) (by decide)), by
    rw [h0]
    exact IS_fr h3 (by rw [e 65 (by decide) (by decide) (by decide)]) (e81 _ (by decide)) (e 67 (by decide) (by decide) (by decide)) (e 68 (by decide) (by decide) (by decide)) (e 95 (by decide) (by decide) (by decide)), IT_fr h4 (fun c hc hd => e c ?_ (by omega) (by omega)) (e 97 (by decide) (by decide) (by decide)) (e 98 (by decide) (by decide) (by decide)) (e 99 (by decide) (by decide) (by decide)), IP_fr h5 (by rw [e 49 (by decide) (by decide) (by decide)]) (e81 _ (by decide)) (e 50 (by decide) (by decide) (by decide)) (e 88 (by decide) (by decide) (by decide)), ?_⟩
  · exact (show ∀ c, c < 32 → 16 ≤ c → c ∉ HSE by decide) c hd hc
  · exact (show ∀ c, c < 48 → 40 ≤ c → c ∉ HSE by decide) c hd hc
  · refine ⟨?_, et, ?_, ?_⟩
    · rw [e 49 (by decide) (by decide) (by decide), e81 15 (by decide)]
      exact h6.1
    · rw [e 89 (by decide) (by decide) (by decide)]
      exact h6.2.2.1
    · rw [e 90 (by decide) (by decide) (by decide)]
      exact h6.2.2.2
theorem leastP {p : Nat → Prop} : ∀ k, p k → ∃ j, j ≤ k ∧ p j ∧ ∀ i, i < j → ¬ p i := by
  intro k
  induction k using Nat.strongRecOn with
  | ind k ih =>
    intro h
    by_cases hz : ∃ i, i < k ∧ p i
    · obtain ⟨i, h1, h2⟩ := hz
      obtain ⟨j, a, b, c⟩ := ih i h1 h2
      exact ⟨j, by omega, b, c⟩
    · exact ⟨k, Nat.le_refl _, h, fun i hi q => hz ⟨i, hi, q⟩⟩
theorem i32_lt (x : Int32) : -2147483648 ≤ x.toInt ∧ x.toInt < 2147483648 := ⟨Int32.le_toInt x, Int32.toInt_lt x⟩
theorem add_cases (x : Int32) {j : Nat} (hj : j < 20) : (x.toInt64 + (nI j).toInt64 = (x + nI j).toInt64) ∨ (2147483648 ≤ x.toInt + j ∧ (x + nI j).toInt < 0) := by
  have hx := i32_lt x
  have hs : (x + nI j).toInt = (x.toInt + j).bmod (2 ^ 32) := by rw [Int32.toInt_add, nI_toInt (by omega)]
  have hl : (x.toInt64 + (nI j).toInt64).toInt = (x.toInt + j).bmod (2 ^ 64) := by rw [Int64.toInt_add, Int32.toInt_toInt64, Int32.toInt_toInt64, nI_toInt (by omega)]
  by_cases h : x.toInt + j < 2147483648
  · left
    apply Int64.toInt_inj.mp
    rw [hl, Int32.toInt_toInt64, hs, Int.bmod_eq_of_le (by omega) (by omega), Int.bmod_eq_of_le (by omega) (by omega)]
  · right
    refine ⟨by omega, ?_⟩
    rw [hs]
    have : (x.toInt + j).bmod (2 ^ 32) = x.toInt + j - 4294967296 := by
      rw [← Int.sub_bmod_right]
      exact Int.bmod_eq_of_le (by omega) (by omega)
    rw [this]
    omega
theorem in8_sum (x : Int32) {j n : Nat} (hj : j < 20) (hn : n ≤ 40) (m : mMem) : fX8_in (x.toInt64 + (nI j).toInt64) 0 (nI n - 1).toInt64 m = some (some (.int (if 0 ≤ x + nI j ∧ x + nI j ≤ nI n - 1 then 1 else 0)), m) := by
  rcases add_cases x hj with h | ⟨h1, h2⟩
  · rw [h]
    exact fX8_in_eq (x + nI j) 0 (nI n - 1) m
  · have hx := i32_lt x
    have hl : (x.toInt64 + (nI j).toInt64).toInt = x.toInt + j := by
      rw [Int64.toInt_add, Int32.toInt_toInt64, Int32.toInt_toInt64, nI_toInt (by omega), Int.bmod_eq_of_le (by omega) (by omega)]
    have hc : ((nI n - 1).toInt64).toInt ≤ 39 := by rw [Int32.toInt_toInt64, nI_m1 n (by omega)]; omega
    rw [if_neg (fun q => by
      have := q.1
      rw [Int32.le_iff_toInt_le] at this
      have h0 : (0 : Int32).toInt = 0 := rfl
      omega)]
    have hgt : (nI n - 1).toInt64 < x.toInt64 + (nI j).toInt64 := by rw [Int64.lt_iff_toInt_lt]; omega
    have e2 : (0 : Int32) < lg_cmp (x.toInt64 + (nI j).toInt64) (nI n - 1).toInt64 := by
      unfold lg_cmp
      rw [if_pos hgt]
      decide
    unfold fX8_in
    split
    · rfl
    · first | rw [if_pos e2] | rfl
theorem ok_read (u0 u1 u2 u3 : Int32) : okI Inv (fX7_read u0 u1 u2 u3) (fX8_read u0 u1 u2 u3) := by
  rintro m ⟨v, hV⟩
  have ho := hV.1.2.2.1
  have hb := ho.1
  have c := IV_c hV
  have d := IV_m hV
  rcases rng_cases u0 0 3 (a := 0) (b := 3) (A := 0) (B := 3) rfl rfl rfl rfl (by decide) (by decide) with ⟨k, -, hk, rfl, f7, f8⟩ | ⟨f7, f8⟩
  · have hk4 : k < 4 := by omega
    rcases rng_cases u1 0 2 (a := 0) (b := 2) (A := 0) (B := 2) rfl rfl rfl rfl (by decide) (by decide) with ⟨la, -, hla, hu1, g7, g8⟩ | ⟨g7, g8⟩
    · rcases rng_cases u3 0 20 (a := 0) (b := 20) (A := 0) (B := 20) rfl rfl rfl rfl (by decide) (by decide) with ⟨n, -, hn, rfl, k7, k8⟩ | ⟨k7, k8⟩
      · -- what the sheet says
        obtain ⟨F, h7, h8, hF⟩ : ∃ F : Nat → Int32, (∀ j, j < 20 → ∀ m' : mMem, m'.1 (40 + 2 * k) = m.1 (40 + 2 * k) → fX5_faultAs (40 + 2 * k) u1 (u2 + nI j) m' = some (some (.int (F j)), m')) ∧ (∀ j, j < n → ∀ m' : mMem, m'.1 97 = m.1 97 → m'.1 98 = m.1 98 → ∀ K, bX8_read_52 (nI k) u1 u2 (nI n) K ((0 : Int32), nI j, m') = jX8_read_120 K (nI k) u1 u2 (nI n) (nI j) (F j) m') ∧ (∀ j, F j = 0 → ∃ a, a < 40 ∧ u2 + nI j = nI a ∧ m.1 (41 + 2 * k) a = m.1 99 (40 * k + a)) := by
          rcases hV.2.2.2.1 k hk4 with ⟨s1, s2⟩ | ⟨l, sz, l1, l2, l3, l4, l5, l6, l7⟩
          · refine ⟨fun _ => 1, fun j hj m' e => ?_, fun j hj m' e97 e98 K => ?_, fun j hj => absurd (show (1 : Int32) = 0 from hj) (by decide)⟩
            · unfold fX5_faultAs jX5_faultAs_15 fX5_faultAt fX5_isNothing
              rw [e, s1, if_pos rfl]
              dsimp only [bI]
              rw [if_neg (by decide), e, s1, if_pos rfl]
              rfl
            · unfold bX8_read_52
              dsimp only
              rw [if_neg (nI_ge hj (by omega)), if_pos rfl, ga_nI hk4 (by decide), nI_tn (by omega), e97, s2, if_pos rfl]
          · by_cases hl : nI l = u1
            · refine ⟨fun j => if 0 ≤ u2 + nI j ∧ u2 + nI j ≤ nI sz - 1 then 0 else 2, fun j hj m' e => ?_, fun j hj m' e97 e98 K => ?_, fun j hj => ?_⟩
              · unfold fX5_faultAs jX5_faultAs_15 fX5_faultAt fX5_isNothing
                rw [e, l3, if_neg (ln_ne l l1).1]
                dsimp only [bI]
                rw [if_pos rfl, e, l3, if_pos hl, if_neg (ln_ne l l1).1]
                dsimp only
                rw [if_pos rfl, e, l5]
                by_cases h1 : u2 + nI j < 0
                · rw [if_pos h1, if_neg (fun q => absurd q.1 (Int32.not_le.mpr h1))]
                · rw [if_neg h1]
                  have h2 : (u2 + nI j < nI sz) ↔ u2 + nI j ≤ nI sz - 1 := by
                    rw [Int32.lt_iff_toInt_lt, Int32.le_iff_toInt_le, nI_toInt (by omega), nI_m1 sz (by omega)]
                    omega
                  by_cases h3 : u2 + nI j < nI sz
                  · rw [if_pos h3, if_pos ⟨Int32.not_lt.mp h1, h2.mp h3⟩]
                  · rw [if_neg h3, if_neg (fun q => h3 (h2.mpr q.2))]
              · have hin := in8_sum u2 (j := j) (n := sz) (by omega) l2 m'
                unfold bX8_read_52
                dsimp only
                rw [if_neg (nI_ge hj (by omega)), if_pos rfl, ga_nI hk4 (by decide), nI_tn (by omega), e97, l4, if_neg (ln_ne l l1).2, ga_nI hk4 (by decide), if_pos hl, ga_nI hk4 (by decide), e98, l6, hin]
                dsimp only [bI]
                by_cases hr : (0 : Int32) ≤ u2 + nI j ∧ u2 + nI j ≤ nI sz - 1
                · rw [if_pos hr, if_pos hr, if_neg (by decide)]
                · rw [if_neg hr, if_neg hr, if_pos rfl]
              · by_cases hr : (0 : Int32) ≤ u2 + nI j ∧ u2 + nI j ≤ nI sz - 1
                · obtain ⟨a, ha, e⟩ := (rngN (by omega)).mp hr
                  exact ⟨a, by omega, e, l7 a (by omega)⟩
                · have hj' : (if 0 ≤ u2 + nI j ∧ u2 + nI j ≤ nI sz - 1 then (0 : Int32) else 2) = 0 := hj
                  rw [if_neg hr] at hj'
                  exact absurd hj' (by decide)
            · refine ⟨fun _ => 3, fun j hj m' e => ?_, fun j hj m' e97 e98 K => ?_, fun j hj => absurd (show (3 : Int32) = 0 from hj) (by decide)⟩
              · unfold fX5_faultAs fX5_isNothing
                rw [e, l3, if_neg (ln_ne l l1).1]
                dsimp only [bI]
                rw [if_pos rfl, e, l3, if_neg hl]
              · unfold bX8_read_52
                dsimp only
                rw [if_neg (nI_ge hj (by omega)), if_pos rfl, ga_nI hk4 (by decide), nI_tn (by omega), e97, l4, if_neg (ln_ne l l1).2, ga_nI hk4 (by decide), if_neg hl]
        obtain ⟨w, hw⟩ : ∃ w : Nat → Int32, w = fun j => m.1 99 (40 * k + (u2 + nI j).toNatClampNeg) := ⟨_, rfl⟩
        obtain ⟨p, hp⟩ : ∃ p : Nat → Nat, p = fun j => (w j).toNatClampNeg := ⟨_, rfl⟩
        have hO := dgV_OK (w := p) ho
        obtain ⟨G, hG⟩ : ∃ G : Nat → Prop, G = fun j => F j = 0 ∧ (∃ q, q < v 1 ∧ w j = nI q) ∧ phS (dgV v p j) (p j) ≠ 0 := ⟨_, rfl⟩
        obtain ⟨i, hi, hstop, hgood⟩ := leastP (p := fun j => j = n ∨ ¬ G j) n (Or.inl rfl)
        have hg : ∀ j, j < i → j < n ∧ G j := fun j hj => by
          have := hgood j hj
          exact ⟨by omega, Classical.byContradiction (fun q => this (Or.inr q))⟩
        obtain ⟨ma, ea, a1, a2⟩ := cp7 hV.1.1 ho
        have Fa : FR m ma := FR_sm a2 (by decide)
        -- a good step of the class
        have st7 : ∀ j, j < n → G j → ∀ m', HC m' 8 (dgV v p j) → FR m m' → ∃ m2, HC m2 8 (dgV v p (j + 1)) ∧ FR m m2 ∧ ∀ K, bX7_read_55 u1 u2 (nI n) (40 + 2 * k) K ((0 : Int32), nI j, nI j, m') = K ((0 : Int32), nI (j + 1), nI (j + 1), m2) := fun j hj hGj m' h1 h2 => by
          rw [hG] at hGj
          obtain ⟨q1, ⟨q, hq, q2⟩, q3⟩ := hGj
          obtain ⟨a, ha, e1, e2⟩ := hF j q1
          have hwa : w j = m.1 99 (40 * k + a) := by rw [hw]; show m.1 99 (40 * k + (u2 + nI j).toNatClampNeg) = _; rw [e1, nI_tn (by omega)]
          have hpj : p j = q := by rw [hp]; show (w j).toNatClampNeg = q; rw [q2, nI_tn (by omega)]
          obtain ⟨m2, e, b1, b2, b3⟩ := fX1_goes_eq (b := 8) (p := q) (by decide) h1 (hO j).1 (by rw [(hO j).2 1 (by omega)]; exact hq)
          rw [hpj] at q3
          rw [if_neg q3] at e
          refine ⟨m2, by show HC m2 8 (goS (dgV v p j) (p j)); rw [hpj]; exact b1, h2.tr (FR_sm b2 (by decide)), fun K => ?_⟩
          have e41 : m'.1 (40 + 2 * k + 1) a = nI q := by
            rw [h2.1 (40 + 2 * k + 1) ((show ∀ k, k < 4 → 40 + 2 * k + 1 ∉ SCR by decide) k hk4), show 40 + 2 * k + 1 = 41 + 2 * k by omega, e2, ← hwa, q2]
          have eL : fX7_isLodger (nI q) m' = some (some (.int 1), m') := by
            rcases lodger_cases hb.2.1 (nI q) with ⟨_, _, _, e7, _⟩ | ⟨e7, _⟩
            · exact e7 m' (by rw [h2.1 0 (by decide)]; exact c.1.2.1)
            · have := e7 m' (by rw [h2.1 0 (by decide)]; exact c.1.2.1)
              unfold fX7_isLodger at this ⊢
              rw [h2.1 0 (by decide), c.1.2.1, wi_eq, if_pos ((rngN (by omega)).mpr ⟨q, hq, rfl⟩)]
              exact gb_1
          unfold bX7_read_55
          dsimp only [li]
          rw [if_neg (nI_ge hj (by omega)), if_pos rfl, h7 j (by omega) m' (h2.1 _ ((show ∀ k, k < 4 → 40 + 2 * k ∉ SCR by decide) k hk4))]
          dsimp only [bI]
          rw [q1, if_pos rfl, e1, ga_nI ha (by decide), nI_tn (by omega), e41, eL]
          dsimp only
          rw [if_neg (by decide), e]
          dsimp only
          rw [if_neg (by decide), show nI j + 1 = nI (j + 1) from nI_1 _]
        -- a good step of the reference
        have st8 : ∀ j, j < n → G j → ∀ m', HO m' 0 0 (dgV v p j) → m'.1 97 = m.1 97 → m'.1 98 = m.1 98 → m'.1 99 = m.1 99 → ∃ m2, HO m2 0 0 (dgV v p (j + 1)) ∧ SM [82, 91, 92] m' m2 ∧ PG 0 m' m2 ∧ ∀ K, bX8_read_52 (nI k) u1 u2 (nI n) K ((0 : Int32), nI j, m') = K ((0 : Int32), nI (j + 1), m2) := fun j hj hGj m' h1 e97 e98 e99 => by
          rw [hG] at hGj
          obtain ⟨q1, ⟨q, hq, q2⟩, q3⟩ := hGj
          obtain ⟨a, ha, e1, e2⟩ := hF j q1
          have hwa : w j = m.1 99 (40 * k + a) := by rw [hw]; show m.1 99 (40 * k + (u2 + nI j).toNatClampNeg) = _; rw [e1, nI_tn (by omega)]
          have hpj : p j = q := by rw [hp]; show (w j).toNatClampNeg = q; rw [q2, nI_tn (by omega)]
          have hq' : q < dgV v p j 1 := by rw [(hO j).2 1 (by omega)]; exact hq
          obtain ⟨m2, e, b1, b2, b3⟩ := fX8_goes_eq (p := q) h1 hq'
          rw [hpj] at q3
          rw [if_neg q3] at e
          have e' : fX8_goes (0 : Int32) (nI q) m' = _ := e
          refine ⟨m2, by show HO m2 0 0 (goS (dgV v p j) (p j)); rw [hpj]; exact b1, b2, b3, fun K => ?_⟩
          have eL : fX8_isLodger (nI q) m' = some (some (.int 1), m') := by
            unfold fX8_isLodger
            rw [h1.1.1.2.1, (hO j).2 1 (by omega), show (0 : Int64) = (0 : Int32).toInt64 from rfl, fX8_in_eq, if_pos ((rngN (by omega)).mpr ⟨q, hq, rfl⟩)]
            exact gb_1
          rw [h8 j hj m' e97 e98 K]
          unfold jX8_read_120
          rw [q1, if_pos rfl, show (40 : Int32) * nI k + u2 + nI j = nI (40 * k + a) by rw [Int32.add_assoc, e1]; exact i40, ga_nI (by omega) (by decide), nI_tn (by omega), e99, ← hwa, q2]
          dsimp only [li]
          rw [eL]
          dsimp only [bI]
          rw [if_neg (by decide), e']
          dsimp only
          rw [if_neg (by decide), show nI j + 1 = nI (j + 1) from nI_1 _]
        have HOmc : ∀ mb, HO mb 0 0 v → ∃ mc, fX8_copies (0 : Int32) (105 : Int32) mb = some (none, mc) ∧ HO mc 0 0 v ∧ HM mc 105 v ∧ SM [82] mb mc ∧ PG 105 mb mc := fun mb hmb => by
          obtain ⟨mc, ec, c1, c2, c3⟩ := cp8 (P := 105) hmb (by decide) (by decide)
          refine ⟨mc, ec, ⟨HM_fr hmb.1 hb.1 hb.2.1 (by rw [(c2 81 (by decide)).1]) (by rw [(c2 81 (by decide)).1]) (c2 83 (by decide)).1 (c2 84 (by decide)).1 (fun q _ hq => c3 q (by omega)), ho, by decide, by rw [(c2 81 (by decide)).1]; exact hmb.2.2.2.1, by decide⟩, c1.1, c2, c3⟩
        by_cases hfail : i < n ∧ F i = 0
        · obtain ⟨hin, hFi⟩ := hfail
          have hnG : ¬ G i := hstop.resolve_left (by omega)
          obtain ⟨a, ha, e1, e2⟩ := hF i hFi
          have hwa : w i = m.1 99 (40 * k + a) := by rw [hw]; show m.1 99 (40 * k + (u2 + nI i).toNatClampNeg) = _; rw [e1, nI_tn (by omega)]
          have hbad : (∀ q, q < v 1 → w i ≠ nI q) ∨ ∃ q, q < v 1 ∧ w i = nI q ∧ phS (dgV v p i) q = 0 := by
            by_cases hq : ∃ q, q < v 1 ∧ w i = nI q
            · right
              obtain ⟨q, hq1, hq2⟩ := hq
              have hpj : p i = q := by rw [hp]; show (w i).toNatClampNeg = q; rw [hq2, nI_tn (by omega)]
              refine ⟨q, hq1, hq2, Classical.byContradiction (fun z => hnG ?_)⟩
              rw [hG]
              exact ⟨hFi, ⟨q, hq1, hq2⟩, by rw [hpj]; exact z⟩
            · exact Or.inl (fun q h1 h2 => hq ⟨q, h1, h2⟩)
          have L7 : ∃ mb, lp (bX7_read_55 u1 u2 (nI n) (40 + 2 * k)) FU ((0 : Int32), (0 : Int32), (0 : Int32), ma) = some (some (.int ((-20 : Int32) - nI i)), mb) ∧ FR m mb := by
            refine lp_rel0 (body := bX7_read_55 u1 u2 (nI n) (40 + 2 * k)) (fun j s => ∃ m', s = ((0 : Int32), nI j, nI j, m') ∧ HC m' 8 (dgV v p j) ∧ FR m m') i (fun r => ∃ mb, r = some (some (.int ((-20 : Int32) - nI i)), mb) ∧ FR m mb) _ (by omega) ⟨ma, rfl, a1, Fa⟩ (fun s K => ?_) (fun j s hj => ?_)
            · rintro ⟨m', rfl, h1, h2⟩
              have e41 : m'.1 (40 + 2 * k + 1) a = w i := by
                rw [h2.1 (40 + 2 * k + 1) ((show ∀ k, k < 4 → 40 + 2 * k + 1 ∉ SCR by decide) k hk4), show 40 + 2 * k + 1 = 41 + 2 * k by omega, e2, ← hwa]
              unfold bX7_read_55
              dsimp only [li]
              rw [if_neg (nI_ge hin (by omega)), if_pos rfl, h7 i (by omega) m' (h2.1 _ ((show ∀ k, k < 4 → 40 + 2 * k ∉ SCR by decide) k hk4))]
              dsimp only [bI]
              rw [hFi, if_pos rfl, e1, ga_nI ha (by decide), nI_tn (by omega), e41]
              unfold fX7_isLodger
              rw [h2.1 0 (by decide), c.1.2.1, wi_eq]
              rcases hbad with hq | ⟨q, hq1, hq2, hq3⟩
              · rw [if_neg (fun z => by
                  obtain ⟨q, z1, z2⟩ := (rngN (by omega)).mp z
                  exact hq q z1 z2)]
                exact ⟨m', rfl, h2⟩
              · obtain ⟨m2, e, b1, b2, b3⟩ := fX1_goes_eq (b := 8) (p := q) (by decide) h1 (hO i).1 (by rw [(hO i).2 1 (by omega)]; exact hq1)
                rw [if_pos hq3] at e
                rw [if_pos (by rw [hq2]; exact (rngN (by omega)).mpr ⟨q, hq1, rfl⟩)]
                dsimp only [bI]
                rw [gb_1]
                dsimp only
                rw [if_neg (by decide), hq2, e]
                exact ⟨m2, rfl, h2.tr (FR_sm b2 (by decide))⟩
            · rintro ⟨m', rfl, h1, h2⟩
              obtain ⟨m2, x1, x2, x3⟩ := st7 j (hg j hj).1 (hg j hj).2 m' h1 h2
              exact ⟨_, ⟨m2, rfl, x1, x2⟩, x3⟩
          obtain ⟨mb, l7, FR1⟩ := L7
          have hmb : HO mb 0 0 v := HO_fr (IV_HO hV) FR1 (by decide)
          obtain ⟨mc, ec, c1, c2, c3, c4⟩ := HOmc mb hmb
          have L8 : ∃ md, lp (bX8_read_52 (nI k) u1 u2 (nI n)) FU ((0 : Int32), (0 : Int32), mc) = some (some (.int ((-20 : Int32) - nI i)), md) ∧ HM md 0 v ∧ SM [82, 91, 92] mc md ∧ PG 0 mc md := by
            refine lp_rel0 (body := bX8_read_52 (nI k) u1 u2 (nI n)) (fun j s => ∃ m', s = ((0 : Int32), nI j, m') ∧ HO m' 0 0 (dgV v p j) ∧ SM [82, 91, 92] mc m' ∧ PG 0 mc m') i (fun r => ∃ md, r = some (some (.int ((-20 : Int32) - nI i)), md) ∧ HM md 0 v ∧ SM [82, 91, 92] mc md ∧ PG 0 mc md) _ (by omega) ⟨mc, rfl, c1, SM.rf, fun _ _ => rfl⟩ (fun s K => ?_) (fun j s hj => ?_)
            · rintro ⟨m', rfl, h1, h2, h3⟩
              have g97 : ∀ z, z ∉ [82, 91, 92] → z ∉ SCR → m'.1 z = m.1 z := fun z z1 z2 => by rw [(h2 z z1).1, (c3 z (fun y => z1 (by simp at y; simp [y]))).1]; exact FR1.1 z z2
              have back : ∀ m2, SM [82, 91, 92] m' m2 → PG 0 m' m2 → ∃ md, jX8_read_162 (nI i) m2 = some (some (.int ((-20 : Int32) - nI i)), md) ∧ HM md 0 v ∧ SM [82, 91, 92] mc md ∧ PG 0 mc md := fun m2 y1 y2 => by
                have ek : fX8_copies (105 : Int32) (0 : Int32) m2 = some (none, kM 105 0 m2 35) := fX8_copies_eq (A := 105) (B := 0) (o := 0) (v := v) (by decide) (by decide) (by decide)
                refine ⟨kM 105 0 m2 35, ?_, kM_HM (by decide) (HM_fr c2 hb.1 hb.2.1 (by rw [(y1 81 (by decide)).1, (h2 81 (by decide)).1]) (by rw [(y1 81 (by decide)).1, (h2 81 (by decide)).1]) (by rw [(y1 83 (by decide)).1, (h2 83 (by decide)).1]) (by rw [(y1 84 (by decide)).1, (h2 84 (by decide)).1]) (fun q hq1 hq2 => by rw [y2 q (by omega), h3 q (by omega)])) ho, (h2.tr y1).tr ((kM_SM _ _ _ _).mono (by simp)), (h3.tr y2).tr (kM_PG (by decide))⟩
                unfold jX8_read_162
                rw [ek]
                rfl
              rw [h8 i hin m' (g97 97 (by decide) (by decide)) (g97 98 (by decide) (by decide)) K]
              unfold jX8_read_120
              rw [hFi, if_pos rfl, show (40 : Int32) * nI k + u2 + nI i = nI (40 * k + a) by rw [Int32.add_assoc, e1]; exact i40, ga_nI (by omega) (by decide), nI_tn (by omega), g97 99 (by decide) (by decide), ← hwa]
              dsimp only [li]
              unfold fX8_isLodger
              rw [h1.1.1.2.1, (hO i).2 1 (by omega), show (0 : Int64) = (0 : Int32).toInt64 from rfl, fX8_in_eq]
              rcases hbad with hq | ⟨q, hq1, hq2, hq3⟩
              · rw [if_neg (fun z => by
                  obtain ⟨q, z1, z2⟩ := (rngN (by omega)).mp z
                  exact hq q z1 z2)]
                exact back m' SM.rf (fun _ _ => rfl)
              · obtain ⟨m2, e, b1, b2, b3⟩ := fX8_goes_eq (p := q) h1 (by rw [(hO i).2 1 (by omega)]; exact hq1)
                have e' : fX8_goes (0 : Int32) (nI q) m' = _ := e
                rw [if_pos hq3] at e'
                rw [if_pos (by rw [hq2]; exact (rngN (by omega)).mpr ⟨q, hq1, rfl⟩)]
                dsimp only [bI]
                rw [gb_1]
                dsimp only
                rw [if_neg (by decide), hq2, e']
                dsimp only
                rw [if_pos rfl]
                exact back m2 b2 b3
            · rintro ⟨m', rfl, h1, h2, h3⟩
              have g97 : ∀ z, z ∉ [82, 91, 92] → z ∉ SCR → m'.1 z = m.1 z := fun z z1 z2 => by rw [(h2 z z1).1, (c3 z (fun y => z1 (by simp at y; simp [y]))).1]; exact FR1.1 z z2
              obtain ⟨m2, x1, x2, x3, x4⟩ := st8 j (hg j hj).1 (hg j hj).2 m' h1 (g97 97 (by decide) (by decide)) (g97 98 (by decide) (by decide)) (g97 99 (by decide) (by decide))
              exact ⟨_, ⟨m2, rfl, x1, h2.tr x2, h3.tr x3⟩, x4⟩
          obtain ⟨md, l8, r1, r2, r3⟩ := L8
          have S : SM [82, 91, 92] mb md := (c3.mono (by simp)).tr r2
          have FHd : FH mb md := ⟨fun z hz => (S z (fun q => hz ((show ∀ z ∈ [82, 91, 92], z ∈ HSE by decide) z q))).1, fun q q1 q2 => by rw [r3 q (by omega), c4 q (by omega)]⟩
          have hVb := IV_FR hV FR1
          refine ⟨(-20 : Int32) - nI i, mb, md, ?_, ?_, ⟨v, IV_FH hVb FHd ⟨HC_fr hVb.1.1 (fun z _ hz => (S z (by
            intro q
            simp at q
            omega)).1), r1, ho, hV.1.2.2.2.1, hV.1.2.2.2.2.1, by rw [(S 81 (by decide)).1]; exact hVb.1.2.2.2.2.2⟩ rfl⟩⟩
          · unfold fX7_read
            rw [is7 (f7 m) (Or.inr rfl)]
            dsimp only [bI]
            rw [if_neg (by decide), il7 (g7 m) (Or.inr rfl)]
            dsimp only
            rw [if_neg (by decide), k7]
            dsimp only
            rw [if_neg (by decide), ga_nI hk4 (by decide), ea]
            dsimp only [bV]
            rw [nI_tn (by omega), rf80 k hk4]
            exact l7
          · unfold fX8_read
            rw [f8]
            dsimp only [bI]
            rw [if_neg (by decide), g8]
            dsimp only
            rw [if_neg (by decide), k8]
            dsimp only
            rw [if_neg (by decide), ec]
            dsimp only [bV]
            exact l8
        · obtain ⟨Ff, hFf⟩ : ∃ Ff : Int32, Ff = if i < n then F i else 0 := ⟨_, rfl⟩
          have fin7 : ∀ m', HC m' 8 (dgV v p i) → FR m m' → ∃ mb, jX7_read_136 Ff (nI i) m' = some (some (.int (nI i)), mb) ∧ (∀ z, z ∉ HSE → z ≠ 48 → mb.1 z = m.1 z) ∧ (∀ q, q < 105 → mb.1 82 q = m.1 82 q) ∧ mb.1 48 10 = Ff ∧ HC mb 0 (dgV v p i) := fun m' h1 h2 => by
            obtain ⟨m2, e, b1, b2⟩ := fX4_copyFrom_eq (a := 8) (b := 0) (by omega) h1 (hO i).1
            refine ⟨si m2 48 10 Ff, ?_, fun z z1 z2 => ?_, fun q hq => ?_, si_same _ _ _ _, HC_fr b1 (fun z _ hz => si_c _ (by omega))⟩
            · unfold jX7_read_136
              rw [e]
              rfl
            · rw [si_c _ z2, (b2 z (fun q => z1 ((show ∀ z ∈ [0, 0 + 1, 0 + 2, 0 + 3, 0 + 4, 0 + 5, 0 + 6, 0 + 7], z ∈ HSE by decide) z q))).1]
              exact h2.1 z (fun q => z1 ((show ∀ c ∈ SCR, c ∈ HSE by decide) z q))
            · rw [si_c _ (by decide), (b2 82 (by decide)).1]
              exact h2.2 q hq
          have L7 : ∃ mb, lp (bX7_read_55 u1 u2 (nI n) (40 + 2 * k)) FU ((0 : Int32), (0 : Int32), (0 : Int32), ma) = some (some (.int (nI i)), mb) ∧ (∀ z, z ∉ HSE → z ≠ 48 → mb.1 z = m.1 z) ∧ (∀ q, q < 105 → mb.1 82 q = m.1 82 q) ∧ mb.1 48 10 = Ff ∧ HC mb 0 (dgV v p i) := by
            by_cases hin : i < n
            · have hFi : ¬ F i = 0 := fun z => hfail ⟨hin, z⟩
              rw [if_pos hin] at hFf
              refine lp_rel0 (body := bX7_read_55 u1 u2 (nI n) (40 + 2 * k)) (fun j s => ∃ m', s = ((if j = i + 1 then F i else (0 : Int32)), nI (min j i), nI j, m') ∧ HC m' 8 (dgV v p (min j i)) ∧ FR m m') (i + 1) (fun r => ∃ mb, r = some (some (.int (nI i)), mb) ∧ (∀ z, z ∉ HSE → z ≠ 48 → mb.1 z = m.1 z) ∧ (∀ q, q < 105 → mb.1 82 q = m.1 82 q) ∧ mb.1 48 10 = Ff ∧ HC mb 0 (dgV v p i)) _ (by omega) ⟨ma, by rw [if_neg (by omega), Nat.zero_min]; rfl, by rw [Nat.zero_min]; exact a1, Fa⟩ (fun s K => ?_) (fun j s hj => ?_)
              · rintro ⟨m', rfl, h1, h2⟩
                rw [Nat.min_eq_right (by omega)] at h1 ⊢
                unfold bX7_read_55
                dsimp only
                rw [if_pos rfl, if_neg hFi, ← hFf]
                have := fin7 m' h1 h2
                split <;> exact this
              · rintro ⟨m', rfl, h1, h2⟩
                rw [if_neg (show ¬ j = i + 1 by omega), Nat.min_eq_left (show j ≤ i by omega)] at *
                by_cases hji : j = i
                · subst hji
                  refine ⟨(F j, nI j, nI (j + 1), m'), ⟨m', by rw [if_pos rfl, Nat.min_eq_right (by omega)], by rw [Nat.min_eq_right (by omega)]; exact h1, h2⟩, fun K => ?_⟩
                  unfold bX7_read_55
                  dsimp only [li]
                  rw [if_neg (nI_ge hin (by omega)), if_pos rfl, h7 j (by omega) m' (h2.1 _ ((show ∀ k, k < 4 → 40 + 2 * k ∉ SCR by decide) k hk4))]
                  dsimp only [bI]
                  rw [if_neg hFi, show nI j + 1 = nI (j + 1) from nI_1 _]
                · obtain ⟨m2, x1, x2, x3⟩ := st7 j (by omega) (hg j (by omega)).2 m' h1 h2
                  exact ⟨_, ⟨m2, by rw [if_neg (by omega), Nat.min_eq_left (by omega)], by rw [Nat.min_eq_left (by omega)]; exact x1, x2⟩, x3⟩
            · rw [if_neg hin] at hFf
              have hin' : i = n := by omega
              refine lp_rel0 (body := bX7_read_55 u1 u2 (nI n) (40 + 2 * k)) (fun j s => ∃ m', s = ((0 : Int32), nI j, nI j, m') ∧ HC m' 8 (dgV v p j) ∧ FR m m') i (fun r => ∃ mb, r = some (some (.int (nI i)), mb) ∧ (∀ z, z ∉ HSE → z ≠ 48 → mb.1 z = m.1 z) ∧ (∀ q, q < 105 → mb.1 82 q = m.1 82 q) ∧ mb.1 48 10 = Ff ∧ HC mb 0 (dgV v p i)) _ (by omega) ⟨ma, rfl, a1, Fa⟩ (fun s K => ?_) (fun j s hj => ?_)
              · rintro ⟨m', rfl, h1, h2⟩
                unfold bX7_read_55
                dsimp only
                rw [if_pos (nI_le (by omega) (by omega)), ← hFf]
                exact fin7 m' h1 h2
              · rintro ⟨m', rfl, h1, h2⟩
                obtain ⟨m2, x1, x2, x3⟩ := st7 j (hg j hj).1 (hg j hj).2 m' h1 h2
                exact ⟨_, ⟨m2, rfl, x1, x2⟩, x3⟩
          obtain ⟨mb, l7, y1, y2, y3, y4⟩ := L7
          have hmb : HO mb 0 0 v := ⟨HM_fr hV.1.2.1 hb.1 hb.2.1 (by rw [y1 81 (by decide) (by decide)]) (by rw [y1 81 (by decide) (by decide)]) (y1 83 (by decide) (by decide)) (y1 84 (by decide) (by decide)) (fun q _ hq => y2 q (by omega)), ho, by decide, by rw [y1 81 (by decide) (by decide)]; exact hV.1.2.2.2.2.2, by decide⟩
          obtain ⟨mc, ec, c1, c2, c3, c4⟩ := HOmc mb hmb
          have fin8 : ∀ m', HO m' 0 0 (dgV v p i) → SM [82, 91, 92] mc m' → PG 0 mc m' → ∃ md, some (some (Value.int (nI i)), si m' 81 34 Ff) = some (some (.int (nI i)), md) ∧ IV md (dgV v p i) := fun m' h1 h2 h3 => by
            have S : SM [82, 91, 92] mb m' := (c3.mono (by simp)).tr h2
            have hOi := hO i
            refine ⟨si m' 81 34 Ff, rfl, IV_rd hV (fun z z1 z2 z3 => ?_) (fun q q1 q2 => ?_) (fun j hj => ?_) ?_ ⟨HC_fr y4 (fun z _ hz => ?_), HM_fr h1.1 (by rw [hOi.2 0 (by omega)]; exact hb.1) (by rw [hOi.2 1 (by omega)]; exact hb.2.1) (si_ne _ _ (Or.inr (by decide))) (si_ne _ _ (Or.inr (by decide))) (si_c _ (by decide)) (si_c _ (by decide)) (fun q _ _ => by rw [si_c _ (by decide)]), hOi.1, by rw [hOi.2 3 (by omega)]; exact hV.1.2.2.2.1, by rw [hOi.2 4 (by omega)]; exact hV.1.2.2.2.2.1, by rw [si_ne _ _ (Or.inr (by decide))]; exact h1.2.2.2.1⟩ (hOi.2 0 (by omega))⟩
            · rw [si_c _ z3, (S z (fun q => z1 ((show ∀ z ∈ [82, 91, 92], z ∈ HSE by decide) z q))).1]
              exact y1 z z1 z2
            · rw [si_c _ (by decide), h3 q (by omega), c4 q (by omega)]
              exact y2 q q2
            · rw [si_ne _ _ (Or.inr hj), (S 81 (by decide)).1, y1 81 (by decide) (by decide)]
            · rw [si_same, si_c _ (by decide), (S 48 (by decide)).1]
              exact y3
            · rw [si_c _ (by omega)]
              exact (S z (by
                intro q
                simp at q
                omega)).1
          have L8 : ∃ md, lp (bX8_read_52 (nI k) u1 u2 (nI n)) FU ((0 : Int32), (0 : Int32), mc) = some (some (.int (nI i)), md) ∧ IV md (dgV v p i) := by
            have g97 : ∀ m', SM [82, 91, 92] mc m' → ∀ z, z ∉ HSE → z ≠ 48 → m'.1 z = m.1 z := fun m' h2 z z1 z2 => by
              have z3 : z ∉ [82, 91, 92] := fun q => z1 ((show ∀ z ∈ [82, 91, 92], z ∈ HSE by decide) z q)
              rw [(h2 z z3).1, (c3 z (fun y => z3 (by simp at y; simp [y]))).1]
              exact y1 z z1 z2
            by_cases hin : i < n
            · have hFi : ¬ F i = 0 := fun z => hfail ⟨hin, z⟩
              rw [if_pos hin] at hFf
              refine lp_rel0 (body := bX8_read_52 (nI k) u1 u2 (nI n)) (fun j s => ∃ m', s = ((if j = i + 1 then F i else (0 : Int32)), nI (min j i), m') ∧ HO m' 0 0 (dgV v p (min j i)) ∧ SM [82, 91, 92] mc m' ∧ PG 0 mc m') (i + 1) (fun r => ∃ md, r = some (some (.int (nI i)), md) ∧ IV md (dgV v p i)) _ (by omega) ⟨mc, by rw [if_neg (by omega), Nat.zero_min]; rfl, by rw [Nat.zero_min]; exact c1, SM.rf, fun _ _ => rfl⟩ (fun s K => ?_) (fun j s hj => ?_)
              · rintro ⟨m', rfl, h1, h2, h3⟩
                rw [Nat.min_eq_right (by omega)] at h1 ⊢
                unfold bX8_read_52
                dsimp only [lt]
                rw [if_pos rfl, if_neg hFi, ← hFf]
                have := fin8 m' h1 h2 h3
                split <;> exact this
              · rintro ⟨m', rfl, h1, h2, h3⟩
                rw [if_neg (show ¬ j = i + 1 by omega), Nat.min_eq_left (show j ≤ i by omega)] at *
                by_cases hji : j = i
                · subst hji
                  refine ⟨(F j, nI j, m'), ⟨m', by rw [if_pos rfl, Nat.min_eq_right (by omega)], by rw [Nat.min_eq_right (by omega)]; exact h1, h2, h3⟩, fun K => ?_⟩
                  rw [h8 j hin m' (g97 m' h2 97 (by decide) (by decide)) (g97 m' h2 98 (by decide) (by decide)) K]
                  unfold jX8_read_120
                  rw [if_neg hFi]
                · obtain ⟨m2, x1, x2, x3, x4⟩ := st8 j (by omega) (hg j (by omega)).2 m' h1 (g97 m' h2 97 (by decide) (by decide)) (g97 m' h2 98 (by decide) (by decide)) (g97 m' h2 99 (by decide) (by decide))
                  exact ⟨_, ⟨m2, by rw [if_neg (by omega), Nat.min_eq_left (by omega)], by rw [Nat.min_eq_left (by omega)]; exact x1, h2.tr x2, h3.tr x3⟩, x4⟩
            · rw [if_neg hin] at hFf
              refine lp_rel0 (body := bX8_read_52 (nI k) u1 u2 (nI n)) (fun j s => ∃ m', s = ((0 : Int32), nI j, m') ∧ HO m' 0 0 (dgV v p j) ∧ SM [82, 91, 92] mc m' ∧ PG 0 mc m') i (fun r => ∃ md, r = some (some (.int (nI i)), md) ∧ IV md (dgV v p i)) _ (by omega) ⟨mc, rfl, c1, SM.rf, fun _ _ => rfl⟩ (fun s K => ?_) (fun j s hj => ?_)
              · rintro ⟨m', rfl, h1, h2, h3⟩
                unfold bX8_read_52
                dsimp only [lt]
                rw [if_pos (nI_le (by omega) (by omega)), ← hFf]
                exact fin8 m' h1 h2 h3
              · rintro ⟨m', rfl, h1, h2, h3⟩
                obtain ⟨m2, x1, x2, x3, x4⟩ := st8 j (hg j hj).1 (hg j hj).2 m' h1 (g97 m' h2 97 (by decide) (by decide)) (g97 m' h2 98 (by decide) (by decide)) (g97 m' h2 99 (by decide) (by decide))
                exact ⟨_, ⟨m2, rfl, x1, h2.tr x2, h3.tr x3⟩, x4⟩
          obtain ⟨md, l8, r1⟩ := L8
          refine ⟨nI i, mb, md, ?_, ?_, ⟨_, r1⟩⟩
          · unfold fX7_read
            rw [is7 (f7 m) (Or.inr rfl)]
            dsimp only [bI]
            rw [if_neg (by decide), il7 (g7 m) (Or.inr rfl)]
            dsimp only
            rw [if_neg (by decide), k7]
            dsimp only
            rw [if_neg (by decide), ga_nI hk4 (by decide), ea]
            dsimp only [bV]
            rw [nI_tn (by omega), rf80 k hk4]
            exact l7
          · unfold fX8_read
            rw [f8]
            dsimp only [bI]
            rw [if_neg (by decide), g8]
            dsimp only
            rw [if_neg (by decide), k8]
            dsimp only
            rw [if_neg (by decide), ec]
            dsimp only [bV]
            exact l8
      · refine ⟨-1, m, m, ?_, ?_, ⟨v, hV⟩⟩
        · unfold fX7_read
          rw [is7 (f7 m) (Or.inr rfl)]
          dsimp only [bI]
          rw [if_neg (by decide), il7 (g7 m) (Or.inr rfl)]
          dsimp only
          rw [if_neg (by decide), k7]
          rfl
        · unfold fX8_read
          rw [f8]
          dsimp only [bI]
          rw [if_neg (by decide), g8]
          dsimp only
          rw [if_neg (by decide), k8]
          rfl
    · refine ⟨-1, m, m, ?_, ?_, ⟨v, hV⟩⟩
      · unfold fX7_read
        rw [is7 (f7 m) (Or.inr rfl)]
        dsimp only [bI]
        rw [if_neg (by decide), il7 (g7 m) (Or.inl rfl)]
        rfl
      · unfold fX8_read
        rw [f8]
        dsimp only [bI]
        rw [if_neg (by decide), g8]
        rfl
  · refine ⟨-1, m, m, ?_, ?_, ⟨v, hV⟩⟩
    · unfold fX7_read
      rw [is7 (f7 m) (Or.inl rfl)]
      rfl
    · unfold fX8_read
      rw [f8]
      rfl
