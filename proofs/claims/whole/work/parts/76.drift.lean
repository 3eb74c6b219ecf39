/-! PURE FACTS: drift -/
theorem shr16 (y : Int32) : ((y.toUInt32 >>> ((16 : Int32).toUInt32 &&& Int32.toUInt32 31)).toInt32) &&& (32767 : Int32) = (y >>> ((16 : Int32) &&& 31)) &&& (32767 : Int32) := by
  apply Int32.toBitVec_inj.1
  show (y.toBitVec >>> (BitVec.ofNat 32 16)) &&& (BitVec.ofNat 32 32767) = (y.toBitVec.sshiftRight 16) &&& (BitVec.ofNat 32 32767)
  apply BitVec.eq_of_getLsbD_eq
  intro i hi
  rw [BitVec.getLsbD_and, BitVec.getLsbD_and]
  by_cases h : i < 15
  · congr 1
    rw [BitVec.getLsbD_sshiftRight]
    simp
    rw [if_pos (by omega)]
    simp [show ¬ 32 ≤ i by omega]
  · have : (BitVec.ofNat 32 32767).getLsbD i = false := by
      rw [BitVec.getLsbD_ofNat]
      have : Nat.testBit 32767 i = false := Nat.testBit_lt_two_pow (Nat.lt_of_lt_of_le (show 32767 < 2 ^ 15 by decide) (Nat.pow_le_pow_right (n := 2) (by decide) (by omega)))
      rw [this]
      simp
    rw [this]
    simp
theorem nI_self (z : Int32) : z = nI z.toBitVec.toNat := by
  apply Int32.toBitVec_inj.1
  show z.toBitVec = BitVec.ofNat 32 z.toBitVec.toNat
  simp
def k15 (y : Int32) : Nat := (y >>> ((16 : Int32) &&& 31)).toBitVec.toNat &&& 32767
theorem k15_lt (y : Int32) : k15 y ≤ 32767 := Nat.and_le_right
theorem k15_eq (y : Int32) : (y >>> ((16 : Int32) &&& 31)) &&& (32767 : Int32) = nI (k15 y) := by
  have h := nI_self (y >>> ((16 : Int32) &&& 31))
  unfold k15
  rw [← nI_and, ← h]
  rfl
theorem rem_eq {k n : Nat} (hk : k ≤ 32767) (hn : n ≤ 4) : nI k - nI k / nI n * nI n = nI (k % n) := by
  have h : k / n * n ≤ k := Nat.div_mul_le_self k n
  rw [nI_div (by omega) (by omega), nI_mul, nI_sub h]
  congr 1
  rw [Nat.mod_def, Nat.mul_comm]
def sdS (x : Int32) : Nat → Int32
  | 0 => x
  | i + 1 => sdS x i * (1103515245 : Int32) + (12345 : Int32)
/-- who goes -/
def whS (x : Int32) (n i : Nat) : Nat := k15 (sdS x (i + 1)) % n
def dgV (v : Nat → Nat) (w : Nat → Nat) : Nat → Nat → Nat
  | 0 => v
  | i + 1 => goS (dgV v w i) (w i)
def dgC (v : Nat → Nat) (w : Nat → Nat) : Nat → Nat
  | 0 => 0
  | i + 1 => dgC v w i + (if phS (dgV v w i) (w i) = 0 then 0 else 1)
theorem dgV_OK {v : Nat → Nat} {w : Nat → Nat} (ho : OK v) : ∀ i, OK (dgV v w i) ∧ ∀ j, j < 30 ∨ 40 ≤ j → dgV v w i j = v j
  | 0 => ⟨ho, fun _ _ => rfl⟩
  | i + 1 => by
    obtain ⟨h1, h2⟩ := dgV_OK (w := w) ho i
    refine ⟨wrS_OK h1, fun j hj => ?_⟩
    show goS (dgV v w i) (w i) j = _
    rw [goS_o hj h1, h2 j hj]
theorem ok_drift (u0 u1 u2 : Int32) : okI Inv (fX7_drift u0 u1 u2) (fX8_drift u0 u1 u2) := by
  rintro m ⟨v, hV⟩
  have ho := hV.1.2.2.1
  have hb := ho.1
  have c := IV_c hV
  have d := IV_m hV
  rcases rng_cases u1 1 60 (a := 1) (b := 60) (A := 1) (B := 60) rfl rfl rfl rfl (by decide) (by decide) with ⟨n, hn1, hn, rfl, f7, f8⟩ | ⟨f7, f8⟩
  · rcases rng_cases u2 0 1 (a := 0) (b := 1) (A := 0) (B := 1) rfl rfl rfl rfl (by decide) (by decide) with ⟨w, -, hw, hu2, g7, g8⟩ | ⟨g7, g8⟩
    · by_cases hv1 : v 1 = 0
      · refine ⟨-2, m, m, ?_, ?_, ⟨v, hV⟩⟩
        · unfold fX7_drift
          rw [f7]
          dsimp only [bI]
          rw [if_neg (by decide), g7]
          dsimp only
          rw [if_neg (by decide), c.1.2.1, if_pos ((nI_0iff (by omega)).mpr hv1)]
        · unfold fX8_drift
          rw [f8]
          dsimp only [bI]
          rw [if_neg (by decide), g8]
          dsimp only
          rw [if_neg (by decide), d.1.2.1, if_pos ((nI_0iff (by omega)).mpr hv1)]
      · have hW : ∀ i, whS u0 (v 1) i < v 1 := fun i => Nat.mod_lt _ (by omega)
        have hO := dgV_OK (w := whS u0 (v 1)) ho
        obtain ⟨ma, ea, a1, a2⟩ := cp7 hV.1.1 ho
        have hcl : ∀ i, dgC v (whS u0 (v 1)) i ≤ i := fun i => by
          induction i with
          | zero => exact Nat.le_refl _
          | succ i ih =>
            show dgC v (whS u0 (v 1)) i + (if phS (dgV v (whS u0 (v 1)) i) (whS u0 (v 1) i) = 0 then 0 else 1) ≤ i + 1
            split <;> omega
        obtain ⟨ans, hans⟩ : ∃ ans : Int32, ans = if u2 = (0 : Int32) then nI (dgC v (whS u0 (v 1)) n) else nI (bitsN (brS (dgV v (whS u0 (v 1)) n)) (v 0)) := ⟨_, rfl⟩
        have hn1' : ¬ nI (v 1) = (0 : Int32) := fun z => hv1 ((nI_0iff (by omega)).mp z)
        have L7 : ∃ mb, lp (bX7_drift_54 (nI n) u2) FU ((0 : Int32), u0, (0 : Int32), ma) = some (some (.int ans), mb) ∧ FR ma mb := by
          refine lp_rel0 (body := bX7_drift_54 (nI n) u2) (fun i s => ∃ m', s = (nI (dgC v (whS u0 (v 1)) i), sdS u0 i, nI i, m') ∧ HC m' 8 (dgV v (whS u0 (v 1)) i) ∧ FR ma m') n (fun r => ∃ mb, r = some (some (.int ans), mb) ∧ FR ma mb) _ (by omega) ⟨ma, rfl, a1, FR.rf⟩ (fun s k => ?_) (fun i s hi => ?_)
          · rintro ⟨m', rfl, h1, h2⟩
            unfold bX7_drift_54
            dsimp only
            have hbr := fX4_brokenBits_eq h1 (hO n).1
            rw [(hO n).2 0 (by omega)] at hbr
            rw [if_pos (nI_le (Nat.le_refl _) (by omega)), hbr, hans]
            by_cases h0 : u2 = 0
            · rw [if_pos h0, if_pos h0]; exact ⟨m', rfl, h2⟩
            · rw [if_neg h0, if_neg h0]; exact ⟨m', rfl, h2⟩
          · rintro ⟨m', rfl, h1, h2⟩
            obtain ⟨m2, e, b1, b2, b3⟩ := fX1_goes_eq (b := 8) (p := whS u0 (v 1) i) (by decide) h1 (hO i).1 (by rw [(hO i).2 1 (by omega)]; exact hW i)
            have F0 : FR m m' := (FR_sm a2 (by decide)).tr h2
            have e01 : m'.1 0 1 = nI (v 1) := by rw [F0.1 0 (by decide)]; exact c.1.2.1
            refine ⟨(nI (dgC v (whS u0 (v 1)) (i + 1)), sdS u0 (i + 1), nI (i + 1), m2), ⟨m2, rfl, b1, h2.tr (FR_sm b2 (by decide))⟩, fun k => ?_⟩
            unfold bX7_drift_54
            dsimp only [li]
            rw [if_neg (nI_ge hi (by omega)), e01, g0i_ne hn1', shr16]
            change bI (fX1_goes 8 (((sdS u0 (i + 1) >>> ((16 : Int32) &&& 31)) &&& (32767 : Int32)) - ((sdS u0 (i + 1) >>> ((16 : Int32) &&& 31)) &&& (32767 : Int32)) / nI (v 1) * nI (v 1)) m') _ = _
            rw [k15_eq, rem_eq (k15_lt _) hb.2.1]
            change bI (fX1_goes 8 (nI (whS u0 (v 1) i)) m') _ = _
            rw [e]
            dsimp only [bI]
            rw [show nI i + 1 = nI (i + 1) from nI_1 _, show nI (dgC v (whS u0 (v 1)) i) + 1 = nI (dgC v (whS u0 (v 1)) i + 1) from nI_1 _]
            have hc : dgC v (whS u0 (v 1)) (i + 1) = dgC v (whS u0 (v 1)) i + (if phS (dgV v (whS u0 (v 1)) i) (whS u0 (v 1) i) = 0 then 0 else 1) := rfl
            rw [hc]
            by_cases hz : phS (dgV v (whS u0 (v 1)) i) (whS u0 (v 1) i) = 0
            · rw [if_pos hz, if_pos rfl, if_pos hz]
              rfl
            · rw [if_neg hz, if_neg (by decide), if_neg hz]
              rfl
        obtain ⟨mb, l7, fr7⟩ := L7
        have FR1 : FR m mb := (FR_sm a2 (by decide)).tr fr7
        obtain ⟨mc, ec, c1, c2, c3⟩ := cp8 (P := 140) (HO_fr (IV_HO hV) FR1 (by decide)) (by decide) (by decide)
        have ec' : fX8_copies (0 : Int32) (140 : Int32) mb = some (none, mc) := ec
        have L8 : ∃ md, lp (bX8_drift_51 (nI n) u2) FU (u0, (0 : Int32), (0 : Int32), mc) = some (some (.int ans), md) ∧ FR mc md := by
          refine lp_rel0 (body := bX8_drift_51 (nI n) u2) (fun i s => ∃ m', s = (sdS u0 i, nI (dgC v (whS u0 (v 1)) i), nI i, m') ∧ HO m' 140 0 (dgV v (whS u0 (v 1)) i) ∧ FR mc m') n (fun r => ∃ mb, r = some (some (.int ans), mb) ∧ FR mc mb) _ (by omega) ⟨mc, rfl, c1, FR.rf⟩ (fun s k => ?_) (fun i s hi => ?_)
          · rintro ⟨m', rfl, h1, h2⟩
            unfold bX8_drift_51
            dsimp only
            have hbr : fX8_brokenOn (140 : Int32) m' = _ := fX8_brokenOn_eq h1
            rw [(hO n).2 0 (by omega), obS_0] at hbr
            rw [if_pos (nI_le (Nat.le_refl _) (by omega)), hbr, hans]
            by_cases h0 : u2 = 0
            · rw [if_pos h0, if_pos h0]; exact ⟨m', rfl, h2⟩
            · rw [if_neg h0, if_neg h0]; exact ⟨m', rfl, h2⟩
          · rintro ⟨m', rfl, h1, h2⟩
            obtain ⟨m2, e, b1, b2, b3⟩ := fX8_goes_eq (p := whS u0 (v 1) i) h1 (by rw [(hO i).2 1 (by omega)]; exact hW i)
            have e' : fX8_goes (140 : Int32) (nI (whS u0 (v 1) i)) m' = _ := e
            have e01 : m'.1 81 4 = nI (v 1) := by rw [h1.1.1.2.1, (hO i).2 1 (by omega)]
            refine ⟨(sdS u0 (i + 1), nI (dgC v (whS u0 (v 1)) (i + 1)), nI (i + 1), m2), ⟨m2, rfl, b1, h2.tr (FR_pg b2 (by decide) b3 (by decide))⟩, fun k => ?_⟩
            unfold bX8_drift_51
            dsimp only [li]
            rw [if_neg (nI_ge hi (by omega)), e01, g0i_ne hn1']
            change bI (fX8_goes 140 (((sdS u0 (i + 1) >>> ((16 : Int32) &&& 31)) &&& (32767 : Int32)) - ((sdS u0 (i + 1) >>> ((16 : Int32) &&& 31)) &&& (32767 : Int32)) / nI (v 1) * nI (v 1)) m') _ = _
            rw [k15_eq, rem_eq (k15_lt _) hb.2.1]
            change bI (fX8_goes 140 (nI (whS u0 (v 1) i)) m') _ = _
            rw [e']
            dsimp only [bI]
            rw [show nI i + 1 = nI (i + 1) from nI_1 _, show nI (dgC v (whS u0 (v 1)) i) + 1 = nI (dgC v (whS u0 (v 1)) i + 1) from nI_1 _, show nI (dgC v (whS u0 (v 1)) i) + 0 = nI (dgC v (whS u0 (v 1)) i + 0) from nI_add _ 0]
            have hc : dgC v (whS u0 (v 1)) (i + 1) = dgC v (whS u0 (v 1)) i + (if phS (dgV v (whS u0 (v 1)) i) (whS u0 (v 1) i) = 0 then 0 else 1) := rfl
            rw [hc]
            by_cases hz : phS (dgV v (whS u0 (v 1)) i) (whS u0 (v 1) i) = 0
            · rw [if_pos hz, if_pos rfl, if_pos hz]
              rfl
            · rw [if_neg hz, if_neg (by decide), if_neg hz]
              rfl
        obtain ⟨md, l8, fr8⟩ := L8
        refine ⟨ans, mb, md, ?_, ?_, ⟨v, IV_FR hV (FR1.tr ((FR_pg c2 (by decide) c3 (by decide)).tr fr8))⟩⟩
        · unfold fX7_drift
          rw [f7]
          dsimp only [bI]
          rw [if_neg (by decide), g7]
          dsimp only
          rw [if_neg (by decide), c.1.2.1, if_neg hn1', ea]
          dsimp only [bV]
          exact l7
        · unfold fX8_drift
          rw [f8]
          dsimp only [bI]
          rw [if_neg (by decide), g8]
          dsimp only
          rw [if_neg (by decide), show mb.1 81 4 = nI (v 1) by rw [FR1.1 81 (by decide)]; exact d.1.2.1, if_neg hn1', ec']
          dsimp only [bV]
          exact l8
    · refine ⟨-1, m, m, ?_, ?_, ⟨v, hV⟩⟩
      · unfold fX7_drift
        rw [f7]
        dsimp only [bI]
        rw [if_neg (by decide), g7]
        rfl
      · unfold fX8_drift
        rw [f8]
        dsimp only [bI]
        rw [if_neg (by decide), g8]
        rfl
  · refine ⟨-1, m, m, ?_, ?_, ⟨v, hV⟩⟩
    · unfold fX7_drift
      rw [f7]
      rfl
    · unfold fX8_drift
      rw [f8]
      rfl
