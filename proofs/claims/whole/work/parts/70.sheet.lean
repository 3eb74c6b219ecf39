/-! PURE FACTS: sheet, lay -/
theorem bv24 (y : BitVec 32) : (y <<< 24).sshiftRight 24 = (y.setWidth 8).signExtend 32 := by
  apply BitVec.eq_of_getLsbD_eq
  intro i hi
  rw [BitVec.getLsbD_sshiftRight, BitVec.getLsbD_signExtend]
  simp [hi, BitVec.getLsbD_shiftLeft, BitVec.getLsbD_setWidth, BitVec.msb_eq_getLsbD_last]
  by_cases h : i < 8
  · have h1 : 24 + i < 32 := by omega
    simp [h, h1, show ¬ 32 ≤ i by omega]
  · have h1 : ¬ 24 + i < 32 := by omega
    simp [h, h1, show ¬ 32 ≤ i by omega]
theorem bv16 (y : BitVec 32) : (y <<< 16).sshiftRight 16 = (y.setWidth 16).signExtend 32 := by
  apply BitVec.eq_of_getLsbD_eq
  intro i hi
  rw [BitVec.getLsbD_sshiftRight, BitVec.getLsbD_signExtend]
  simp [hi, BitVec.getLsbD_shiftLeft, BitVec.getLsbD_setWidth, BitVec.msb_eq_getLsbD_last]
  by_cases h : i < 16
  · have h1 : 16 + i < 32 := by omega
    simp [h, h1, show ¬ 32 ≤ i by omega]
  · have h1 : ¬ 16 + i < 32 := by omega
    simp [h, h1, show ¬ 32 ≤ i by omega]
theorem se8 (y : BitVec 32) : y.signExtend 8 = y.setWidth 8 := by
  apply BitVec.eq_of_getLsbD_eq
  intro i hi
  rw [BitVec.getLsbD_signExtend]
  simp [hi, show i < 32 by omega]
theorem se16 (y : BitVec 32) : y.signExtend 16 = y.setWidth 16 := by
  apply BitVec.eq_of_getLsbD_eq
  intro i hi
  rw [BitVec.getLsbD_signExtend]
  simp [hi, show i < 32 by omega]
theorem sh24 (x : Int32) : (x <<< ((24 : Int32) &&& 31)) >>> ((24 : Int32) &&& 31) = x.toInt8.toInt32 := by
  have e : ((24 : Int32) &&& 31).toBitVec.smod 32 = 24#32 := by decide
  have e2 : x.toInt8.toInt32.toBitVec = BitVec.signExtend 32 (BitVec.setWidth 8 x.toBitVec) := by simp [se8]
  apply Int32.toBitVec_inj.1
  rw [Int32.toBitVec_shiftRight, Int32.toBitVec_shiftLeft, e, e2, ← bv24 x.toBitVec]
  rfl
theorem sh16 (x : Int32) : (x <<< ((16 : Int32) &&& 31)) >>> ((16 : Int32) &&& 31) = x.toInt16.toInt32 := by
  have e : ((16 : Int32) &&& 31).toBitVec.smod 32 = 16#32 := by decide
  have e2 : x.toInt16.toInt32.toBitVec = BitVec.signExtend 32 (BitVec.setWidth 16 x.toBitVec) := by simp [se16]
  apply Int32.toBitVec_inj.1
  rw [Int32.toBitVec_shiftRight, Int32.toBitVec_shiftLeft, e, e2, ← bv16 x.toBitVec]
  rfl
def flM (r : Nat) (x : Int32) (m : mMem) : Nat → mMem
  | 0 => m
  | i + 1 => si (flM r x m i) r i x
theorem flM_SM (r : Nat) (x : Int32) (m : mMem) : ∀ i, SM [r] m (flM r x m i)
  | 0 => SM.rf
  | i + 1 => (flM_SM r x m i).tr (SM_si (by simp))
theorem flM_at (r : Nat) (x : Int32) (m : mMem) : ∀ i j, (flM r x m i).1 r j = if j < i then x else m.1 r j
  | 0, j => by rw [if_neg (by omega)]; rfl
  | i + 1, j => by
    show (si (flM r x m i) r i x).1 r j = _
    rw [si_1, flM_at r x m i j]
    by_cases e : j = i
    · rw [if_pos ⟨rfl, e⟩, if_pos (by omega)]
    · rw [if_neg (fun q => e q.2)]
      by_cases h : j < i
      · rw [if_pos h, if_pos (by omega)]
      · rw [if_neg h, if_neg (by omega)]
theorem fill_eq {r n : Nat} (x : Int32) (m : mMem) (hn : n < 1000) : fJ7_fill_53178 r n x m = some (none, flM r x m n) := by
  unfold fJ7_fill_53178
  dsimp only [li]
  refine lp_0 (fun i => (nI i, flM r x m i)) n _ (by omega) (fun k => ?_) (fun i hi k => ?_)
  · unfold bJ7_fill_53178_5
    dsimp only
    rw [if_pos (show Int32.ofNat n ≤ nI n from nI_le (Nat.le_refl _) (by omega))]
  · unfold bJ7_fill_53178_5
    dsimp only [li, lt]
    rw [if_neg (show ¬ Int32.ofNat n ≤ nI i from nI_ge hi (by omega)), ga_nI hi (by omega), nI_tn (by omega), show nI i + 1 = nI (i + 1) from nI_1 _]
    rfl
def zM (k : Nat) (m : mMem) : Nat → mMem
  | 0 => m
  | i + 1 => si (zM k m i) 99 (40 * k + i) 0
theorem zM_SM (k : Nat) (m : mMem) : ∀ i, SM [99] m (zM k m i)
  | 0 => SM.rf
  | i + 1 => (zM_SM k m i).tr (SM_si (by simp))
theorem zM_at (k : Nat) (m : mMem) : ∀ i q, (zM k m i).1 99 q = if 40 * k ≤ q ∧ q < 40 * k + i then 0 else m.1 99 q
  | 0, q => by rw [if_neg (by omega)]; rfl
  | i + 1, q => by
    show (si (zM k m i) 99 (40 * k + i) 0).1 99 q = _
    rw [si_1, zM_at k m i q]
    by_cases e : q = 40 * k + i
    · rw [if_pos ⟨rfl, e⟩, if_pos (by omega)]
    · rw [if_neg (fun z => e z.2)]
      by_cases h : 40 * k ≤ q ∧ q < 40 * k + i
      · rw [if_pos h, if_pos (by omega)]
      · rw [if_neg h, if_neg (by omega)]
theorem i40 {k i : Nat} : ((40 : Int32) * nI k) + nI i = nI (40 * k + i) := by rw [show (40 : Int32) * nI k = nI (40 * k) from nI_mul 40 k]; exact nI_add _ _
theorem is7 {x : Int32} {m : mMem} {z : Int32} (h : fX7_within x 0 3 m = some (some (.int z), m)) (hz : z = 0 ∨ z = 1) : fX7_isSheet x m = some (some (.int z), m) := by
  unfold fX7_isSheet
  rw [h]
  rcases hz with rfl | rfl
  · exact gb_0
  · exact gb_1
theorem il7 {x : Int32} {m : mMem} {z : Int32} (h : fX7_within x 0 2 m = some (some (.int z), m)) (hz : z = 0 ∨ z = 1) : fX7_isLane x m = some (some (.int z), m) := by
  unfold fX7_isLane
  rw [h]
  rcases hz with rfl | rfl
  · exact gb_0
  · exact gb_1
theorem ok_sheet (u0 u1 u2 : Int32) : okI Inv (fX7_sheet u0 u1 u2) (fX8_sheet u0 u1 u2) := by
  rintro m ⟨v, hV⟩
  rcases rng_cases u0 0 3 (a := 0) (b := 3) (A := 0) (B := 3) rfl rfl rfl rfl (by decide) (by decide) with ⟨k, -, hk, rfl, f7, f8⟩ | ⟨f7, f8⟩
  · rcases rng_cases u1 0 2 (a := 0) (b := 2) (A := 0) (B := 2) rfl rfl rfl rfl (by decide) (by decide) with ⟨l, -, hl, rfl, g7, g8⟩ | ⟨g7, g8⟩
    · have hk4 : k < 4 := by omega
      by_cases h40 : u2 ≤ 40
      · by_cases h00 : 0 ≤ u2
        · obtain ⟨n, -, hn, rfl⟩ := rng (x := u2) (lo := 0) (hi := 40) (by decide) (by decide) ⟨h00, h40⟩
          obtain ⟨M1, hM1⟩ : ∃ M1, M1 = flM (40 + 2 * k + 1) 0 (si (si m (40 + 2 * k) 2 (nI l)) (40 + 2 * k) 0 (nI n)) 40 := ⟨_, rfl⟩
          have s1 : SM [40 + 2 * k + 1] (si (si m (40 + 2 * k) 2 (nI l)) (40 + 2 * k) 0 (nI n)) M1 := by rw [hM1]; exact flM_SM _ _ _ _
          have g1 : ∀ c, c ≠ 40 + 2 * k → c ≠ 41 + 2 * k → M1.1 c = m.1 c := fun c h1 h2 => by rw [(s1 c (by simp; omega)).1, si_c _ h1, si_c _ h1]
          obtain ⟨M2, hM2⟩ : ∃ M2, M2 = zM k (si (si M1 97 k (nI l)) 98 k (nI n)) 40 := ⟨_, rfl⟩
          have s2 : SM [99] (si (si M1 97 k (nI l)) 98 k (nI n)) M2 := by rw [hM2]; exact zM_SM _ _ _
          have g2 : ∀ c, c ≠ 97 → c ≠ 98 → c ≠ 99 → M2.1 c = M1.1 c := fun c h1 h2 h3 => by rw [(s2 c (by simp; omega)).1, si_c _ h2, si_c _ h1]
          refine ⟨1, M1, M2, ?_, ?_, ⟨v, IV_sheet hV (fun c hc => ?_) (fun j hj => ?_)⟩⟩
          · unfold fX7_sheet fX5_renew
            rw [is7 (f7 m) (Or.inr rfl)]
            dsimp only [bI, bV, lt]
            rw [if_neg (by decide), il7 (g7 m) (Or.inr rfl)]
            dsimp only
            rw [if_neg (by decide), if_pos h40, if_pos h00, ga_nI hk4 (by decide), nI_tn (by omega), rf80 k hk4, fill_eq _ _ (by decide), ← hM1]
          · unfold fX8_sheet
            rw [f8]
            dsimp only [bI, lt]
            rw [if_neg (by decide), g8]
            dsimp only
            rw [if_neg (by decide), if_pos h40, if_pos h00, ga_nI hk4 (by decide), ga_nI hk4 (by decide), nI_tn (by omega)]
            refine lp_0 (fun i => (nI i, zM k (si (si M1 97 k (nI l)) 98 k (nI n)) i)) 40 _ (by decide) (fun kk => ?_) (fun i hi kk => ?_)
            · unfold bX8_sheet_56
              dsimp only
              rw [if_pos (by decide), hM2]
            · unfold bX8_sheet_56
              dsimp only [li, lt]
              rw [if_neg (by rw [show (40 : Int32) = nI 40 from rfl]; exact nI_ge hi (by decide)), i40, ga_nI (by omega) (by decide), nI_tn (by omega), show nI i + 1 = nI (i + 1) from nI_1 _]
              rfl
          · simp at hc
            rw [g2 c (by omega) (by omega) (by omega), g1 c (by omega) (by omega)]
          · by_cases e : j = k
            · subst e
              refine Or.inr ⟨l, n, hl, hn, ?_, ?_, ?_, ?_, fun i hi => ?_⟩
              · rw [g2 _ (by omega) (by omega) (by omega), (s1 _ (by simp)).1, si_ne _ _ (Or.inr (by decide)), si_same]
              · rw [(s2 97 (by decide)).1, si_c _ (by decide), si_same]
              · rw [g2 _ (by omega) (by omega) (by omega), (s1 _ (by simp)).1, si_same]
              · rw [(s2 98 (by decide)).1, si_same]
              · rw [g2 _ (by omega) (by omega) (by omega), hM1, show 41 + 2 * j = 40 + 2 * j + 1 by omega, flM_at, if_pos hi, hM2, zM_at, if_pos (by omega)]
            · have q99 : ∀ i, i < 40 → M2.1 99 (40 * j + i) = m.1 99 (40 * j + i) := fun i hi => by
                rw [hM2, zM_at, if_neg (by omega), si_c _ (by decide), si_c _ (by decide), g1 99 (by omega) (by omega)]
              have q97 : M2.1 97 j = m.1 97 j := by rw [(s2 97 (by decide)).1, si_c _ (by decide), si_ne _ _ (Or.inr e), g1 97 (by omega) (by omega)]
              have q98 : M2.1 98 j = m.1 98 j := by rw [(s2 98 (by decide)).1, si_ne _ _ (Or.inr e), si_c _ (by decide), g1 98 (by omega) (by omega)]
              rw [q97, q98, g2 (40 + 2 * j) (by omega) (by omega) (by omega), g1 (40 + 2 * j) (by omega) (by omega), g2 (41 + 2 * j) (by omega) (by omega) (by omega), g1 (41 + 2 * j) (by omega) (by omega)]
              rcases hV.2.2.2.1 j hj with q | ⟨l', n', q1, q2, q3, q4, q5, q6, q7⟩
              · exact Or.inl q
              · exact Or.inr ⟨l', n', q1, q2, q3, q4, q5, q6, fun i hi => by rw [q99 i hi]; exact q7 i hi⟩
        · refine ⟨-14, m, m, ?_, ?_, ⟨v, hV⟩⟩
          · unfold fX7_sheet
            rw [is7 (f7 m) (Or.inr rfl)]
            dsimp only [bI, bV, lt]
            rw [if_neg (by decide), il7 (g7 m) (Or.inr rfl)]
            dsimp only
            rw [if_neg (by decide), if_pos h40, if_neg h00]
          · unfold fX8_sheet
            rw [f8]
            dsimp only [bI, lt]
            rw [if_neg (by decide), g8]
            dsimp only
            rw [if_neg (by decide), if_pos h40, if_neg h00]
      · refine ⟨-1, m, m, ?_, ?_, ⟨v, hV⟩⟩
        · unfold fX7_sheet
          rw [is7 (f7 m) (Or.inr rfl)]
          dsimp only [bI, bV, lt]
          rw [if_neg (by decide), il7 (g7 m) (Or.inr rfl)]
          dsimp only
          rw [if_neg (by decide), if_neg h40]
        · unfold fX8_sheet
          rw [f8]
          dsimp only [bI, lt]
          rw [if_neg (by decide), g8]
          dsimp only
          rw [if_neg (by decide), if_neg h40]
    · refine ⟨-1, m, m, ?_, ?_, ⟨v, hV⟩⟩
      · unfold fX7_sheet
        rw [is7 (f7 m) (Or.inr rfl)]
        dsimp only [bI]
        rw [if_neg (by decide), il7 (g7 m) (Or.inl rfl)]
        rfl
      · unfold fX8_sheet
        rw [f8]
        dsimp only [bI]
        rw [if_neg (by decide), g8]
        rfl
  · refine ⟨-1, m, m, ?_, ?_, ⟨v, hV⟩⟩
    · unfold fX7_sheet
      rw [is7 (f7 m) (Or.inl rfl)]
      rfl
    · unfold fX8_sheet
      rw [f8]
      rfl
theorem ln_ne : ∀ l, l ≤ 2 → ¬ nI l = -1 ∧ ¬ nI l = -4 := by decide +kernel
theorem IT_lay {m : mMem} {v : Nat → Nat} (hV : IV m v) {k l n i : Nat} (hk : k < 4) (hl : l ≤ 2) (hn : n ≤ 40) (e1 : m.1 (40 + 2 * k) 2 = nI l) (e2 : m.1 97 k = nI l) (e3 : m.1 (40 + 2 * k) 0 = nI n) (e4 : m.1 98 k = nI n) (e5 : ∀ i, i < 40 → m.1 (41 + 2 * k) i = m.1 99 (40 * k + i)) (hi : i < 40) (x : Int32) : IV (si (si m (41 + 2 * k) i x) 99 (40 * k + i) x) v := by
  have g : ∀ c, c ≠ 41 + 2 * k → c ≠ 99 → (si (si m (41 + 2 * k) i x) 99 (40 * k + i) x).1 c = m.1 c := fun c h1 h2 => by rw [si_c _ h2, si_c _ h1]
  refine IV_sheet hV (fun c hc => ?_) (fun j hj => ?_)
  · simp at hc
    exact g c (by omega) (by omega)
  · rw [g 97 (by omega) (by omega), g 98 (by omega) (by omega), g (40 + 2 * j) (by omega) (by omega)]
    by_cases e : j = k
    · subst e
      refine Or.inr ⟨l, n, hl, hn, e1, e2, e3, e4, fun q hq => ?_⟩
      by_cases f : q = i
      · subst f
        rw [si_c _ (by omega), si_same, si_same]
      · rw [si_c _ (by omega), si_ne _ _ (Or.inr f), si_ne _ _ (Or.inr (by omega)), si_c _ (by omega)]
        exact e5 q hq
    · rw [g (41 + 2 * j) (by omega) (by omega)]
      rcases hV.2.2.2.1 j hj with q | ⟨l', n', q1, q2, q3, q4, q5, q6, q7⟩
      · exact Or.inl q
      · exact Or.inr ⟨l', n', q1, q2, q3, q4, q5, q6, fun z hz => by rw [si_ne _ _ (Or.inr (by omega)), si_c _ (by omega)]; exact q7 z hz⟩
theorem ok_lay (u0 u1 u2 : Int32) : okI Inv (fX7_lay u0 u1 u2) (fX8_lay u0 u1 u2) := by
  rintro m ⟨v, hV⟩
  rcases rng_cases u0 0 3 (a := 0) (b := 3) (A := 0) (B := 3) rfl rfl rfl rfl (by decide) (by decide) with ⟨k, -, hk, rfl, f7, f8⟩ | ⟨f7, f8⟩
  · have hk4 : k < 4 := by omega
    rcases hV.2.2.2.1 k hk4 with ⟨s1, s2⟩ | ⟨l, n, l1, l2, l3, l4, l5, l6, l7⟩
    · refine ⟨-11, m, m, ?_, ?_, ⟨v, hV⟩⟩
      · unfold fX7_lay fX5_faultAt fX5_isNothing
        rw [is7 (f7 m) (Or.inr rfl)]
        dsimp only [bI]
        rw [if_neg (by decide), ga_nI hk4 (by decide), nI_tn (by omega), rf80 k hk4, s1]
        rfl
      · unfold fX8_lay
        rw [f8]
        dsimp only [bI]
        rw [if_neg (by decide), ga_nI hk4 (by decide), nI_tn (by omega), s2, if_pos rfl]
    · have hfa : fX5_faultAt (40 + 2 * k) u1 m = some (some (.int (if 0 ≤ u1 ∧ u1 ≤ nI n - 1 then 0 else 2)), m) := by
        unfold fX5_faultAt fX5_isNothing
        rw [l3, if_neg (ln_ne l l1).1]
        dsimp only [bI]
        rw [if_pos rfl, l5]
        by_cases h1 : u1 < 0
        · rw [if_pos h1, if_neg (fun q => absurd q.1 (Int32.not_le.mpr h1))]
        · rw [if_neg h1]
          have h2 : (u1 < nI n) ↔ u1 ≤ nI n - 1 := by
            rw [Int32.lt_iff_toInt_lt, Int32.le_iff_toInt_le, nI_toInt (by omega), nI_m1 n (by omega)]
            omega
          by_cases h3 : u1 < nI n
          · rw [if_pos h3, if_pos ⟨Int32.not_lt.mp h1, h2.mp h3⟩]
          · rw [if_neg h3, if_neg (fun q => h3 (h2.mpr q.2))]
      have hin : ∀ m', fX8_in u1.toInt64 (0 : Int64) (nI n - 1).toInt64 m' = some (some (.int (if 0 ≤ u1 ∧ u1 ≤ nI n - 1 then 1 else 0)), m') := fun m' => fX8_in_eq u1 0 (nI n - 1) m'
      by_cases hr : (0 : Int32) ≤ u1 ∧ u1 ≤ nI n - 1
      · rw [if_pos hr] at hfa
        obtain ⟨i, hi, rfl⟩ := (rngN (by omega)).mp hr
        have hi40 : i < 40 := by omega
        rw [if_pos hr] at hin
        have main : ∀ x, (fX5_put (40 + 2 * k) (nI i) u2 m = some (none, si m (41 + 2 * k) i x)) → ((if nI l = (0 : Int32) then (u2 <<< ((24 : Int32) &&& 31)) >>> ((24 : Int32) &&& 31) else if nI l = (1 : Int32) then (u2 <<< ((16 : Int32) &&& 31)) >>> ((16 : Int32) &&& 31) else u2) = x) → ∃ r μ1 μ2, fX7_lay (nI k) (nI i) u2 m = some (some (.int r), μ1) ∧ fX8_lay (nI k) (nI i) u2 μ1 = some (some (.int r), μ2) ∧ Inv μ2 := fun x hp hx => by
          refine ⟨1, si m (41 + 2 * k) i x, si (si m (41 + 2 * k) i x) 99 (40 * k + i) x, ?_, ?_, ⟨v, IT_lay hV hk4 l1 l2 l3 l4 l5 l6 l7 hi40 x⟩⟩
          · unfold fX7_lay
            rw [is7 (f7 m) (Or.inr rfl)]
            dsimp only [bI, bV]
            rw [if_neg (by decide), ga_nI hk4 (by decide), nI_tn (by omega), rf80 k hk4, hfa]
            dsimp only
            rw [if_pos rfl, ga_nI hk4 (by decide), hp]
          · have q97 : (si m (41 + 2 * k) i x).1 97 k = nI l := by rw [si_c _ (by omega)]; exact l4
            have q98 : (si m (41 + 2 * k) i x).1 98 k = nI n := by rw [si_c _ (by omega)]; exact l6
            unfold fX8_lay
            rw [f8]
            dsimp only [bI, lt]
            rw [if_neg (by decide), ga_nI hk4 (by decide), ga_nI hk4 (by decide), nI_tn (by omega), q97, q98, if_neg (ln_ne l l1).2, hin]
            dsimp only
            rw [if_neg (by decide), ga_nI hk4 (by decide), ga_nI hk4 (by decide), i40, ga_nI (by omega) (by decide), ga_nI (by omega) (by decide), ga_nI (by omega) (by decide), nI_tn (by omega), q97]
            by_cases h0 : nI l = (0 : Int32)
            · rw [if_pos h0] at hx
              rw [if_pos h0, hx]
            · rw [if_neg h0] at hx
              rw [if_neg h0]
              by_cases h1 : nI l = (1 : Int32)
              · rw [if_pos h1] at hx
                rw [if_pos h1, hx]
              · rw [if_neg h1] at hx
                rw [if_neg h1, hx]
        by_cases h0 : nI l = (0 : Int32)
        · refine main (u2.toInt8.toInt32) ?_ (by rw [if_pos h0, sh24])
          unfold fX5_put
          dsimp only [lt]
          rw [l3, if_pos h0, ga_nI hi40 (by decide), nI_tn (by omega), show 40 + 2 * k + 1 = 41 + 2 * k by omega]
        · by_cases h1 : nI l = (1 : Int32)
          · refine main (u2.toInt16.toInt32) ?_ (by rw [if_neg h0, if_pos h1, sh16])
            unfold fX5_put
            dsimp only [lt]
            rw [l3, if_neg h0, if_pos h1, ga_nI hi40 (by decide), nI_tn (by omega), show 40 + 2 * k + 1 = 41 + 2 * k by omega]
          · refine main u2 ?_ (by rw [if_neg h0, if_neg h1])
            unfold fX5_put
            dsimp only [lt]
            rw [l3, if_neg h0, if_neg h1, ga_nI hi40 (by decide), nI_tn (by omega), show 40 + 2 * k + 1 = 41 + 2 * k by omega]
      · rw [if_neg hr] at hfa
        rw [if_neg hr] at hin
        refine ⟨-12, m, m, ?_, ?_, ⟨v, hV⟩⟩
        · unfold fX7_lay
          rw [is7 (f7 m) (Or.inr rfl)]
          dsimp only [bI]
          rw [if_neg (by decide), ga_nI hk4 (by decide), nI_tn (by omega), rf80 k hk4, hfa]
          rfl
        · unfold fX8_lay
          rw [f8]
          dsimp only [bI]
          rw [if_neg (by decide), ga_nI hk4 (by decide), ga_nI hk4 (by decide), nI_tn (by omega), l4, l6, if_neg (ln_ne l l1).2, hin]
          rfl
  · refine ⟨-1, m, m, ?_, ?_, ⟨v, hV⟩⟩
    · unfold fX7_lay
      rw [is7 (f7 m) (Or.inl rfl)]
      rfl
    · unfold fX8_lay
      rw [f8]
      rfl
