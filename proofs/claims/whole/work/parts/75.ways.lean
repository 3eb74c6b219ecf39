/-! PURE FACTS: ways -/
theorem sumR_at : ∀ (r : Nat) (L : List Nat), sumR r L = sumR (min r L.length) L
  | 0, _ => by simp
  | r + 1, [] => by simp; rfl
  | r + 1, x :: L => by
    have e : min (r + 1) (x :: L).length = min r L.length + 1 := by simp
    rw [e]
    show sumR r L + x = sumR (min r L.length) L + x
    rw [← sumR_at r L]
theorem cR_len (t r : Nat) : ∀ n, (cR t r n).length = n
  | 0 => rfl
  | n + 1 => by show (cR t r n).length + 1 = _; rw [cR_len t r n]
theorem cR_at (t r : Nat) : ∀ n k, k < n → (cR t r n).getD k 0 = cvS t r (n - 1 - k)
  | 0, _, h => absurd h (Nat.not_lt_zero _)
  | n + 1, 0, _ => rfl
  | n + 1, k + 1, h => by
    show (cR t r n).getD k 0 = _
    rw [cR_at t r n k (by omega)]
    congr 1
    omega
theorem imx_eq : ∀ i, i < 10 → ∀ r, r ≤ 4 → imax (nI i - nI r) 0 = nI (i - r) := by decide +kernel
theorem cc_in {m : mMem} {t r i x : Nat} {X3 X4 X5 : Int32} (hi : i < 10) (hm : ∀ j, j < i → m.1 56 j = nI (cvS t r j)) (k24 : Int32 × mMem → mR) : lp (bX1_countClimbs_73 k24 X3 X4 X5 (nI i)) FU (nI x, nI (i - r), m) = k24 (nI (i + 1), si m 56 i (nI (x + sumR r (cR t r i)))) := by
  have hlen := cR_len t r i
  generalize hL : cR t r i = L at hlen
  have h0 : (nI x, nI (i - r), m) = (fun k => (nI (x + sumR k (L.drop (min r i - k))), nI (i - r + k), m)) 0 := rfl
  rw [h0]
  refine lp_0 (fun k => (nI (x + sumR k (L.drop (min r i - k))), nI (i - r + k), m)) (min r i) _ (by omega) (fun k => ?_) (fun k hk kk => ?_)
  · unfold bX1_countClimbs_73
    dsimp only [li, lt]
    rw [if_pos (nI_le (by omega) (by omega)), ga_nI hi (by decide), nI_tn (by omega), Nat.sub_self, show nI i + 1 = nI (i + 1) from nI_1 _, sumR_at r L, hlen]
    rfl
  · unfold bX1_countClimbs_73
    dsimp only [li, lt]
    have e : m.1 56 (i - r + k) = nI (L.getD (min r i - 1 - k) 0) := by
      rw [hm _ (by omega), ← hL, cR_at _ _ _ _ (by omega)]
      congr 2
      omega
    have hd : L.drop (min r i - (k + 1)) = L.getD (min r i - 1 - k) 0 :: L.drop (min r i - k) := by
      rw [show min r i - (k + 1) = min r i - 1 - k by omega, List.drop_eq_getElem_cons (show min r i - 1 - k < L.length by omega), gd_at (show min r i - 1 - k < L.length by omega)]
      congr 2
      omega
    rw [if_neg (nI_ge (by omega) (by omega)), ga_nI (by omega) (by decide), nI_tn (by omega), e, nI_add, show nI (i - r + k) + 1 = nI (i - r + (k + 1)) from nI_1 _, hd]
    show kk (nI (x + sumR k _ + _), _, _) = kk (nI (x + (sumR k _ + _)), _, _)
    rw [Nat.add_assoc]
theorem fX1_countClimbs_eq {m : mMem} {b p : Nat} {v : Nat → Nat} (h : HC m b v) (ho : OK v) (hp : p < v 1) : ∃ m', fX1_countClimbs b (nI p) m = some (some (.int (nI (cvS (tdS v p) (rcS v p) (v (52 + p))))), m') ∧ SM [56] m m' := by
  have hb := ho.1
  have hq := ho.2.2 p hp
  have hl := h.2.2 p hp
  have hr := rcS_b ho hp
  have ht : tdS v p < 1024 := bt_lt hb.1
  have htb : fX4_treadBits b (nI p) m = some (some (.int (nI (tdS v p))), m) := fX4_treadBits_eq h ho hp
  unfold fX1_countClimbs
  rw [htb]
  dsimp only [bI]
  rw [fX4_reachOf_eq h ho hp]
  dsimp only [li]
  rw [ga_nI (by omega) (by decide), nI_tn (by omega), hl.2.2.2]
  refine lp_rel0 (fun i s => ∃ m', s = (nI i, m') ∧ SM [56] m m' ∧ ∀ j, j < i → m'.1 56 j = nI (cvS (tdS v p) (rcS v p) j)) (v (52 + p) + 1) (fun res => ∃ m', res = some (some (.int (nI (cvS (tdS v p) (rcS v p) (v (52 + p))))), m') ∧ SM [56] m m') _ (by omega) ⟨m, rfl, SM.rf, fun j hj => absurd hj (Nat.not_lt_zero _)⟩ (fun s k => ?_) (fun i s hi => ?_)
  · rintro ⟨m', rfl, h1, h2⟩
    unfold bX1_countClimbs_24
    dsimp only
    rw [if_pos (nI_lt (by omega) (by omega)), ga_nI (by omega) (by decide), nI_tn (by omega), h2 _ (by omega)]
    exact ⟨m', rfl, h1⟩
  · rintro ⟨m', rfl, h1, h2⟩
    have hlow : ∀ j, j < i → (si m' 56 i (0 : Int32)).1 56 j = nI (cvS (tdS v p) (rcS v p) j) := fun j hj => by rw [si_ne _ _ (Or.inr (by omega))]; exact h2 j hj
    by_cases hbt : (tdS v p).testBit i = false
    · have e : cvS (tdS v p) (rcS v p) i = 0 := by unfold cvS cvR; rw [hbt]; rfl
      refine ⟨(nI (i + 1), si m' 56 i 0), ⟨_, rfl, h1.tr (SM_si (by simp)), fun j hj => ?_⟩, fun k => ?_⟩
      · by_cases ej : j = i
        · subst ej
          rw [si_same, e]
          rfl
        · exact hlow j (by omega)
      · unfold bX1_countClimbs_24
        dsimp only [li, lt]
        rw [if_neg (nI_nlt (by omega) (by omega)), ga_nI (by omega) (by decide), nI_tn (by omega), if_pos ((bit0 (by omega) (by omega)).mpr hbt), show nI i + 1 = nI (i + 1) from nI_1 _]
    · have hbt' : (tdS v p).testBit i = true := by simpa using hbt
      have e : cvS (tdS v p) (rcS v p) i = (if i < rcS v p then 1 else 0) + sumR (rcS v p) (cR (tdS v p) (rcS v p) i) := by unfold cvS cvR; rw [hbt', if_pos rfl]
      refine ⟨(nI (i + 1), si (si m' 56 i 0) 56 i (nI (cvS (tdS v p) (rcS v p) i))), ⟨_, rfl, (h1.tr (SM_si (by simp))).tr (SM_si (by simp)), fun j hj => ?_⟩, fun k => ?_⟩
      · by_cases ej : j = i
        · subst ej
          rw [si_same]
        · rw [si_ne _ _ (Or.inr ej)]
          exact hlow j (by omega)
      · unfold bX1_countClimbs_24 jX1_countClimbs_60
        dsimp only [li, lt]
        rw [if_neg (nI_nlt (by omega) (by omega)), ga_nI (by omega) (by decide), nI_tn (by omega), if_neg (fun z => hbt ((bit0 (by omega) (by omega)).mp z)), imx_eq i (by omega) _ hr.2, e]
        by_cases hir : i < rcS v p
        · rw [if_neg (nI_ge hir (by omega)), if_pos hir]
          exact cc_in (x := 1) (by omega) hlow k
        · rw [if_pos (nI_le (by omega) (by omega)), if_neg hir]
          exact cc_in (x := 0) (by omega) hlow k
/-! ## the reference's ways -/
theorem sumF_at (t : Nat) : ∀ (r pos : Nat) (L : List Nat) (b : Nat), sumF t r pos L b = sumF t (min r L.length) pos L b
  | 0, _, _, _ => by simp
  | r + 1, pos, [], b => by
    simp
    cases r <;> rfl
  | r + 1, pos, x :: L, b => by
    have e : min (r + 1) (x :: L).length = min r L.length + 1 := by simp
    rw [e]
    show sumF t r (pos + 1) L _ = sumF t (min r L.length) (pos + 1) L _
    exact sumF_at t r (pos + 1) L _
theorem sumF_snoc (t : Nat) : ∀ (k pos : Nat) (L : List Nat) (b : Nat), k < L.length → sumF t (k + 1) pos L b = sumF t k pos L b + (if t.testBit (pos + k) then L.getD k 0 else 0)
  | 0, pos, x :: L, b, _ => rfl
  | k + 1, pos, x :: L, b, h => by
    have ih := sumF_snoc t k (pos + 1) L (b + (if t.testBit pos then x else 0)) (by simpa using h)
    rw [show pos + 1 + k = pos + (k + 1) by omega] at ih
    exact ih
  | _, _, [], _, h => absurd h (Nat.not_lt_zero _)
def WY (m : mMem) (top : Nat) (L : List Nat) : Prop := ∀ k, k < L.length → m.1 93 (top + 2 - L.length + k) = nI (L.getD k 0)
theorem wy_in {m0 : mMem} {p : Nat} {v : Nat → Nat} (h0 : HO m0 0 0 v) (hp : p < v 1) (j : Nat) (hj : j < v (52 + p) + 1) (m : mMem) (hs : SM [93] m0 m) (hf : WY m (v (52 + p)) (wyL (toS v 0 p) (rcS v p) (v (52 + p)) j)) (h100 : m.1 93 (v (52 + p) - j) = nI 0) :
    ∃ m', (∀ k28, lp (bX8_ways_55 k28 (nI p) (nI (v (52 + p))) (nI (v (52 + p) - j))) FU (nI (v (52 + p) - j + 1), m) = k28 (nI (v (52 + p) - j) + (-1 : Int32), m')) ∧ SM [93] m0 m' ∧ WY m' (v (52 + p)) (wyL (toS v 0 p) (rcS v p) (v (52 + p)) (j + 1)) := by
  have ho := h0.2.1
  have hb := ho.1
  have hq := ho.2.2 p hp
  have hr := rcS_b ho hp
  have hlen := wyL_len (toS v 0 p) (rcS v p) (v (52 + p)) j
  generalize hL : wyL (toS v 0 p) (rcS v p) (v (52 + p)) j = L at hf hlen
  have hL1 : wyL (toS v 0 p) (rcS v p) (v (52 + p)) (j + 1) = sumF (toS v 0 p) (rcS v p) (v (52 + p) - j) L 0 :: L := by rw [← hL]; rfl
  have hrc : ∀ m', SM [93] m0 m' → fX8_reachOn (0 : Int32) (nI p) m' = some (some (.int (nI (rcS v p))), m') := fun m' h => fX8_reachOn_eq (HO_sm h0 h (by decide)) hp
  generalize ht : v (52 + p) = top at *
  generalize hat : top - j = a at *
  generalize hR : rcS v p = r at *
  have hja : a + j = top := by omega
  have hstep0 : ∀ K, K = min r (j + 1) → ∃ u : Int32 × mMem, (∃ m', u = (nI a + (-1 : Int32), m') ∧ SM [93] m0 m' ∧ WY m' top (sumF (toS v 0 p) r a L 0 :: L)) ∧ ∀ k28, lp (bX8_ways_55 k28 (nI p) (nI top) (nI a)) FU (nI (a + 1), m) = k28 u := by
    intro K hK
    refine lp_relK0 (body := fun k28 => bX8_ways_55 k28 (nI p) (nI top) (nI a)) (fun k s => ∃ m', s = (nI (a + 1 + k), m') ∧ SM [93] m0 m' ∧ WY m' top L ∧ m'.1 93 a = nI (sumF (toS v 0 p) k a L 0)) K (fun u => ∃ m', u = (nI a + (-1 : Int32), m') ∧ SM [93] m0 m' ∧ WY m' top (sumF (toS v 0 p) r a L 0 :: L)) (nI (a + 1), m) (by omega) ⟨m, rfl, hs, hf, h100⟩ (fun s => ?_) (fun k s hk => ?_)
    · rintro ⟨m', rfl, h1, h2, h3⟩
      have hfin : WY m' top (sumF (toS v 0 p) r a L 0 :: L) := fun k hk => by
        simp only [List.length_cons] at hk ⊢
        cases k with
        | zero =>
          rw [show top + 2 - (L.length + 1) + 0 = a by omega, h3]
          show nI _ = nI (sumF (toS v 0 p) r a L 0)
          rw [sumF_at _ r, hlen, ← hK]
        | succ k =>
          have := h2 k (by omega)
          rw [show top + 2 - (L.length + 1) + (k + 1) = top + 2 - L.length + k by omega, this]
          rfl
      refine ⟨_, ⟨m', rfl, h1, hfin⟩, fun ko k => ?_⟩
      unfold bX8_ways_55
      dsimp only [li]
      rw [hrc m' h1]
      dsimp only [bI]
      rw [nI_add, show nI top + 1 = nI (top + 1) from nI_1 _]
      by_cases hz : r ≤ K
      · rw [if_pos (nI_lt (by omega) (by omega))]
      · rw [if_neg (nI_nlt (by omega) (by omega)), if_pos (nI_lt (by omega) (by omega))]
    · rintro ⟨m', rfl, h1, h2, h3⟩
      have hv0 : a + k < v 0 := by omega
      have hmt : fX8_mayTread (0 : Int32) (nI p) (nI (a + k)) m' = _ := fX8_mayTread_eq (HO_sm h0 h1 (by decide)) hp hv0
      have hto : m'.1 93 (a + 1 + k) = nI (L.getD k 0) := by
        have := h2 k (by omega)
        rw [show top + 2 - L.length + k = a + 1 + k by omega] at this
        exact this
      have hsn := sumF_snoc (toS v 0 p) k a L 0 (by omega)
      rw [toS_bit hv0] at hsn
      refine ⟨(nI (a + 1 + (k + 1)), si m' 93 a (nI (sumF (toS v 0 p) (k + 1) a L 0))), ⟨_, rfl, h1.tr (SM_si (by simp)), fun i hi => ?_, si_same _ _ _ _⟩, fun ko kk => ?_⟩
      · rw [si_ne _ _ (Or.inr (by omega))]
        exact h2 i hi
      · unfold bX8_ways_55
        dsimp only [li, lt]
        rw [hrc m' h1]
        dsimp only [bI]
        rw [nI_add, show nI top + 1 = nI (top + 1) from nI_1 _, if_neg (nI_nlt (by omega) (by omega)), if_neg (nI_nlt (by omega) (by omega)), show a + 1 + k = a + k + 1 by omega, sub1, hmt]
        dsimp only
        rw [show a + k + 1 = a + 1 + k by omega, ga_nI (i := a + 1 + k) (by omega) (by decide), nI_tn (n := a + 1 + k) (by omega), hto]
        rw [show nI (a + 1 + k) + 1 = nI (a + 1 + (k + 1)) from nI_1 _]
        simp only [ga_nI (show a < 11 by omega) (show (11 : Nat) < 2 ^ 31 by decide), nI_tn (show a < 2 ^ 31 by omega)]
        rw [h3, show nI (sumF (toS v 0 p) k a L 0) + (0 : Int32) = nI (sumF (toS v 0 p) k a L 0 + 0) from nI_add _ 0, nI_add, hsn]
        cases htr : trS v 0 p (a + k)
        · rw [if_pos (show (if false = true then (1 : Int32) else 0) = 0 from rfl)]
          rfl
        · rw [if_neg (show ¬ (if true = true then (1 : Int32) else 0) = 0 from by decide)]
          rfl
  obtain ⟨u, ⟨m', rfl, e2, e3⟩, e1⟩ := hstep0 _ rfl
  exact ⟨m', e1, e2, by rw [hL1]; exact e3⟩
theorem wy_all {m0 : mMem} {p : Nat} {v : Nat → Nat} (h0 : HO m0 0 0 v) (hp : p < v 1) : ∃ m', lp (bX8_ways_28 (nI p) (nI (v (52 + p)))) FU (nI (v (52 + p) + 1), m0) = some (some (.int (nI ((wyL (toS v 0 p) (rcS v p) (v (52 + p)) (v (52 + p) + 1)).getD 0 0))), m') ∧ SM [93] m0 m' := by
  have ho := h0.2.1
  have hb := ho.1
  have hq := ho.2.2 p hp
  have hr := rcS_b ho hp
  refine lp_rel0 (fun i s => ∃ m', s = ((if i = v (52 + p) + 2 then (-1 : Int32) else nI (v (52 + p) + 1 - i)), m') ∧ SM [93] m0 m' ∧ (1 ≤ i → WY m' (v (52 + p)) (wyL (toS v 0 p) (rcS v p) (v (52 + p)) (i - 1)))) (v (52 + p) + 2) (fun r => ∃ m', r = some (some (.int (nI ((wyL (toS v 0 p) (rcS v p) (v (52 + p)) (v (52 + p) + 1)).getD 0 0))), m') ∧ SM [93] m0 m') _ (by omega) ⟨m0, by rw [if_neg (by omega)]; rfl, SM.rf, fun h => absurd h (by decide)⟩ (fun s k => ?_) (fun i s hi => ?_)
  · rintro ⟨m', rfl, h1, h2⟩
    rw [if_pos rfl]
    unfold bX8_ways_28
    dsimp only
    have hlen := wyL_len (toS v 0 p) (rcS v p) (v (52 + p)) (v (52 + p) + 1)
    have := h2 (by omega) 0 (by rw [show v (52 + p) + 2 - 1 = v (52 + p) + 1 by omega, hlen]; omega)
    rw [show v (52 + p) + 2 - 1 = v (52 + p) + 1 by omega, hlen, show v (52 + p) + 2 - (v (52 + p) + 1 + 1) + 0 = 0 by omega] at this
    rw [if_pos (by decide), show (0 : Int32) = nI 0 from rfl, ga_nI (by decide) (by decide), nI_tn (by decide), this]
    exact ⟨m', rfl, h1⟩
  · rintro ⟨m', rfl, h1, h2⟩
    have hne : ¬ i = v (52 + p) + 2 := Nat.ne_of_lt hi
    rw [if_neg hne]
    by_cases hi0 : i = 0
    · subst hi0
      have hrc : fX8_reachOn (0 : Int32) (nI p) (si m' 93 (v (52 + p) + 1) (nI 1)) = _ := fX8_reachOn_eq (HO_sm h0 (h1.tr (SM_si (b := 93) (k := v (52 + p) + 1) (x := nI 1) (by simp))) (by decide)) hp
      refine ⟨(nI (v (52 + p)), si m' 93 (v (52 + p) + 1) (nI 1)), ⟨_, by rw [if_neg (by omega)]; rfl, h1.tr (SM_si (by simp)), fun _ k hk => ?_⟩, fun kk => ?_⟩
      · have hk0 : k = 0 := by
          have : k < 1 := hk
          omega
        subst hk0
        exact si_same _ _ _ _
      · have hbody : ∀ K, bX8_ways_55 kk (nI p) (nI (v (52 + p))) (nI (v (52 + p) + 1)) K (nI (v (52 + p) + 2), si m' 93 (v (52 + p) + 1) (nI 1)) = kk (nI (v (52 + p)), si m' 93 (v (52 + p) + 1) (nI 1)) := fun K => by
          unfold bX8_ways_55
          dsimp only [li]
          rw [hrc]
          dsimp only [bI]
          rw [show nI (v (52 + p)) + (1 : Int32) = nI (v (52 + p) + 1) from nI_1 _, nI_add, if_neg (nI_nlt (by omega) (by omega)), if_pos (nI_lt (by omega) (by omega))]
          rw [show nI (v (52 + p) + 1) + (-1 : Int32) = nI (v (52 + p)) from by
            have := sb_m1 (p := v (52 + p) + 1) (by omega)
            rw [Nat.add_sub_cancel] at this
            exact this]
        unfold bX8_ways_28 jX8_ways_49
        dsimp only [li, lt]
        rw [Nat.sub_zero, show nI (v (52 + p)) + (1 : Int32) = nI (v (52 + p) + 1) from nI_1 _, if_neg (nI_pos (by omega)), if_pos rfl, ga_nI (by omega) (by decide), nI_tn (by omega), show nI (v (52 + p) + 1) + (1 : Int32) = nI (v (52 + p) + 2) from nI_1 _]
        exact lp_one.trans (hbody _)
    · obtain ⟨j, rfl⟩ : ∃ j, i = j + 1 := ⟨i - 1, by omega⟩
      have hF := h2 (by omega)
      rw [Nat.add_sub_cancel] at hF
      have e1 : v (52 + p) + 1 - (j + 1) = v (52 + p) - j := by omega
      rw [e1]
      have hlen := wyL_len (toS v 0 p) (rcS v p) (v (52 + p)) j
      obtain ⟨m2, hk, a1, a2⟩ := wy_in h0 hp j (by omega) (si m' 93 (v (52 + p) - j) (nI 0)) (h1.tr (SM_si (by simp))) (fun k hk => by rw [si_ne _ _ (Or.inr (by omega))]; exact hF k hk) (si_same _ _ _ _)
      refine ⟨(nI (v (52 + p) - j) + (-1 : Int32), m2), ⟨m2, ?_, a1, fun _ => by rw [Nat.add_sub_cancel]; exact a2⟩, fun kk => ?_⟩
      · by_cases hz : j = v (52 + p)
        · rw [if_pos (by omega), show v (52 + p) - j = 0 by omega]
          rfl
        · rw [if_neg (by omega), sb_m1 (by omega)]
          congr 2
          omega
      · unfold bX8_ways_28 jX8_ways_49
        dsimp only [li, lt]
        rw [show nI (v (52 + p)) + (1 : Int32) = nI (v (52 + p) + 1) from nI_1 _, if_neg (nI_pos (by omega)), if_neg (by rw [nI_eq (by omega) (by omega)]; omega), ga_nI (by omega) (by decide), nI_tn (by omega), show nI (v (52 + p) - j) + (1 : Int32) = nI (v (52 + p) - j + 1) from nI_1 _]
        exact hk kk
theorem ok_ways (u0 : Int32) : okI Inv (fX7_ways u0) (fX8_ways u0) := by
  rintro m ⟨v, hV⟩
  have ho := hV.1.2.2.1
  have hb := ho.1
  have c := IV_c hV
  have d := IV_m hV
  rcases lodger_cases hb.2.1 u0 with ⟨p, hp, rfl, e7, e8⟩ | ⟨e7, e8⟩
  · obtain ⟨mb, eb, b2⟩ := fX1_countClimbs_eq hV.1.1 ho hp
    have F1 : FR m mb := FR_sm b2 (by decide)
    have HB := HO_fr (IV_HO hV) F1 (by decide)
    obtain ⟨mc, ec, c2⟩ := wy_all HB hp
    have hr := rcS_b ho hp
    have hq := ho.2.2 p hp
    obtain ⟨f, L, _, _, _, _, g4, -⟩ := brute (t := toS v 0 p) hr.1 hr.2 (show v (52 + p) < 10 by omega)
    have hh : (wyL (toS v 0 p) (rcS v p) (v (52 + p)) (v (52 + p) + 1)).getD 0 0 = cvS (tdS v p) (rcS v p) (v (52 + p)) := g4
    rw [hh] at ec
    refine ⟨nI (cvS (tdS v p) (rcS v p) (v (52 + p))), mb, mc, ?_, ?_, ⟨v, IV_FR hV (F1.tr (FR_sm c2 (by decide)))⟩⟩
    · unfold fX7_ways
      rw [e7 m c.1.2.1]
      dsimp only [bI]
      rw [if_neg (by decide), eb]
    · unfold fX8_ways
      rw [e8 mb (by rw [F1.1 81 (by decide)]; exact d.1.2.1)]
      dsimp only [bI, li]
      have hl := (HB.1.2.2 p hp).2.2.2
      rw [Nat.zero_add] at hl
      rw [if_neg (by decide), show (20 : Int32) + (3 : Int32) * nI p + (2 : Int32) = nI (20 + 3 * p + 2) from i32, ga_nI (by omega) (by decide), nI_tn (by omega), hl, show nI (v (52 + p)) + (1 : Int32) = nI (v (52 + p) + 1) from nI_1 _]
      exact ec
  · refine ⟨-1, m, m, ?_, ?_, ⟨v, hV⟩⟩
    · unfold fX7_ways
      rw [e7 m c.1.2.1]
      rfl
    · unfold fX8_ways
      rw [e8 m d.1.2.1]
      rfl
