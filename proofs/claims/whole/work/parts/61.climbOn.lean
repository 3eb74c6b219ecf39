/-! PURE FACTS: the reference's climbOn -/
theorem grP_nodup (t : Nat) : ∀ (L : List Nat) (pos need : Nat), (grP t L pos need).Nodup
  | [], _, _ => List.nodup_nil
  | x :: L, pos, need => by
    unfold grP
    split
    · split
      · simp
      · rw [List.nodup_cons]
        exact ⟨fun h => by have := (grP_ge t L (pos + 1) (need - 1) pos h).1; omega, grP_nodup t L (pos + 1) (need - 1)⟩
    · exact grP_nodup t L (pos + 1) need
theorem grP_asc (t : Nat) : ∀ (L : List Nat) (pos need : Nat), (grP t L pos need).Pairwise (· < ·)
  | [], _, _ => List.Pairwise.nil
  | x :: L, pos, need => by
    unfold grP
    split
    · split
      · simp
      · rw [List.pairwise_cons]
        exact ⟨fun i h => by have := (grP_ge t L (pos + 1) (need - 1) i h).1; omega, grP_asc t L (pos + 1) (need - 1)⟩
    · exact grP_asc t L (pos + 1) need
theorem co_in {m0 : mMem} {P o p : Nat} {v : Nat → Nat} (h0 : HO m0 P o v) (hp : p < v 1) {top r j k x many i : Nat} (htop : top < v 0) (hj : j ≤ top) (hk : k ≤ j) (hm : many < 100) (hi : i < many) (hi10 : i < 10) (hx : many - i = x) (hs : ∀ q, q < k → ((toS v o p).testBit (top - j + q) && (fwL (toS v o p) r top j).getD q 0 + 1 == x) = false) (hf : ((toS v o p).testBit (top - j + k) && (fwL (toS v o p) r top j).getD k 0 + 1 == x) = true) {m : mMem} (h1 : SM [91, 92] m0 m) (hF : ∀ q, q ≤ top + 1 → m.1 91 q = nI ((fwL (toS v o p) r top (top + 1)).getD q 0)) :
    ∀ k33, lp (bX8_climbOn_45 k33 (nI P) (nI p) (nI many) (nI i)) FU (nI (top + 1 - j), m) = k33 (nI (top + 1 - j + k), nI (i + 1), si m 92 i (nI (top - j + k))) := by
  have ho := h0.2.1
  have hb := ho.1
  have hD := fwL_drop (toS v o p) r top (top + 1) (top + 1 - j) (by omega)
  rw [show top + 1 - (top + 1 - j) = j by omega] at hD
  have hat : ∀ q, q ≤ j → m.1 91 (top + 1 - j + q) = nI ((fwL (toS v o p) r top j).getD q 0) := fun q hq => by
    rw [hF _ (by omega), ← hD]
    congr 1
    simp [List.getD, List.getElem?_drop]
  have hle : ∀ q, (fwL (toS v o p) r top j).getD q 0 ≤ 100 := fun q => fw_getD _ _ _ _ _
  have hx1 : nI many - nI i - 1 = nI (x - 1) := by
    rw [nI_sub (by omega), hx, show (1 : Int32) = nI 1 from rfl, nI_sub (by omega)]
  intro k33
  have hst : ∀ q, q ≤ k → fX8_mayTread (nI P) (nI p) (nI (top + 1 - j + q) - 1) m = some (some (.int (if (toS v o p).testBit (top - j + q) then 1 else 0)), m) := fun q hq => by
    rw [show top + 1 - j + q = top - j + q + 1 by omega, sub1, fX8_mayTread_eq (HO_sm h0 h1 (by decide)) hp (show top - j + q < v 0 by omega), toS_bit (show top - j + q < v 0 by omega)]
  refine lp_0 (fun q => (nI (top + 1 - j + q), m)) k _ (by omega) (fun kk => ?_) (fun q hq kk => ?_)
  · unfold bX8_climbOn_45
    dsimp only [li, lt]
    rw [hst k (Nat.le_refl _)]
    dsimp only [bI]
    rw [Bool.and_eq_true, beq_iff_eq] at hf
    have e2 : nI ((fwL (toS v o p) r top j).getD k 0) = nI (x - 1) := by congr 1; omega
    rw [hf.1, if_neg (show ¬ (if true = true then (1 : Int32) else 0) = 0 by decide), ga_nI (i := top + 1 - j + k) (by omega) (by decide), nI_tn (n := top + 1 - j + k) (by omega), hat k hk, hx1, if_pos e2, ga_nI hi10 (by decide), nI_tn (by omega), show nI i + 1 = nI (i + 1) from nI_1 _, show top + 1 - j + k = top - j + k + 1 by omega, sub1]
  · unfold bX8_climbOn_45
    dsimp only [li, lt]
    rw [hst q (by omega)]
    dsimp only [bI]
    rw [show nI (top + 1 - j + q) + 1 = nI (top + 1 - j + (q + 1)) from nI_1 _]
    have hq0 := hs q hq
    cases htb : (toS v o p).testBit (top - j + q)
    · rw [if_pos (show (if false = true then (1 : Int32) else 0) = 0 from rfl)]
    · rw [if_neg (show ¬ (if true = true then (1 : Int32) else 0) = 0 by decide), ga_nI (i := top + 1 - j + q) (by omega) (by decide), nI_tn (n := top + 1 - j + q) (by omega), hat q (by omega), hx1]
      rw [htb, Bool.true_and, beq_eq_false_iff_ne] at hq0
      have hq1 := hle q
      rw [if_neg (by rw [nI_eq (by omega) (by omega)]; omega)]
theorem fX8_climbOn_eq {m0 : mMem} {P o p : Nat} {v : Nat → Nat} (h0 : HO m0 P o v) (hp : p < v 1) : ∃ m', fX8_climbOn (nI P) (nI p) m0 = some (some (.int (if phO v o p = 0 then (-4 : Int32) else nI (popc (phO v o p)))), m') ∧ SM [91, 92] m0 m' ∧ (phO v o p ≠ 0 → ∃ G : List Nat, G.length = popc (phO v o p) ∧ (∀ i, (phO v o p).testBit i = decide (i ∈ G)) ∧ (∀ k, k < G.length → m'.1 92 k = nI (G.getD k 0)) ∧ (∀ i ∈ G, i ≤ v (52 + p)) ∧ G.Nodup ∧ G.Pairwise (· < ·)) := by
  have ho := h0.2.1
  have hb := ho.1
  have hq := ho.2.2 p hp
  have hr := rcS_b ho hp
  obtain ⟨m1, e, h1, h2⟩ := fX8_layFewest_eq h0 hp
  obtain ⟨f, L, hF, g1, g2, g3, g4, g5, g6, g7⟩ := brute (t := toS v o p) hr.1 hr.2 (show v (52 + p) < 10 by omega)
  have hall : ∀ q, q ≤ v (52 + p) + 1 → m1.1 91 q = nI ((fwL (toS v o p) (rcS v p) (v (52 + p)) (v (52 + p) + 1)).getD q 0) := fun q hq => FW_all h2 hq
  have hf1 : m1.1 91 0 = nI f := by rw [hall 0 (by omega), hF]; rfl
  have hfl : f ≤ 100 := by
    have := fw_getD (toS v o p) (rcS v p) (v (52 + p)) (v (52 + p) + 1) 0
    rw [hF] at this
    exact this
  have hL : L = fwL (toS v o p) (rcS v p) (v (52 + p)) (v (52 + p)) := by
    have : fwL (toS v o p) (rcS v p) (v (52 + p)) (v (52 + p) + 1) = mnF (toS v o p) (rcS v p) (v (52 + p) - v (52 + p)) (fwL (toS v o p) (rcS v p) (v (52 + p)) (v (52 + p))) 100 :: fwL (toS v o p) (rcS v p) (v (52 + p)) (v (52 + p)) := rfl
    rw [this] at hF
    injection hF with _ h
    exact h.symm
  unfold fX8_climbOn
  rw [e]
  dsimp only [bV, li]
  rw [show (0 : Int32) = nI 0 from rfl, ga_nI (by decide) (by decide), ga_nI (by decide) (by decide), nI_tn (by decide), hf1, show (100 : Int32) = nI 100 from rfl]
  have hph : phO v o p = pvS (toS v o p) (rcS v p) (v (52 + p)) := rfl
  by_cases hz : 100 ≤ f
  · refine ⟨m1, ?_, h1.mono (by simp), fun q => absurd (g2 hz) q⟩
    rw [if_neg (nI_nlt hz (by omega)), if_pos (show phO v o p = 0 from g2 hz)]
  · obtain ⟨a1, a2, a3⟩ := g1 (by omega)
    rw [if_pos (nI_lt (by omega) (by omega)), if_neg (show ¬ phO v o p = 0 from a3), hph, a2]
    have hfb : f ≤ 10 := by rw [← a2]; exact popc_le _
    generalize hG : grP (toS v o p) L 0 f = G
    have hGb : ∀ i, (pvS (toS v o p) (rcS v p) (v (52 + p))).testBit i = decide (i ∈ G) := fun i => by rw [← a1, grP_bit, hG]
    have hGm : ∀ i ∈ G, i ≤ v (52 + p) := fun i hi => by
      rw [← hG] at hi
      have := (grP_ge _ _ _ _ _ hi).2
      rw [hL, fwL_len] at this
      omega
    have key := lp_rel0 (body := bX8_climbOn_33 (nI P) (nI p) (nI f)) (fun i s => ∃ j m', s = (nI (v (52 + p) + 1 - j), nI i, m') ∧ j ≤ v (52 + p) + 1 ∧ SM [91, 92] m0 m' ∧ (∀ q, q ≤ v (52 + p) + 1 → m'.1 91 q = nI ((fwL (toS v o p) (rcS v p) (v (52 + p)) (v (52 + p) + 1)).getD q 0)) ∧ (fwL (toS v o p) (rcS v p) (v (52 + p)) j).getD 0 0 = f - i ∧ (∀ k, k < i → m'.1 92 k = nI (G.getD k 0)) ∧ i ≤ G.length ∧ G.drop i = (if f - i = 0 then [] else grP (toS v o p) (fwL (toS v o p) (rcS v p) (v (52 + p)) (j - 1)) (v (52 + p) + 1 - j) (f - i))) f (fun res => ∃ m', res = some (some (.int (nI f)), m') ∧ SM [91, 92] m0 m' ∧ G.length = f ∧ ∀ k, k < f → m'.1 92 k = nI (G.getD k 0)) (nI 0, nI 0, m1) (by omega) ⟨v (52 + p) + 1, m1, by rw [Nat.sub_self], Nat.le_refl _, h1.mono (by simp), hall, by rw [hF]; rfl, fun k hk => absurd hk (Nat.not_lt_zero _), Nat.zero_le _, by
        have hf0 : f ≠ 0 := fun z => by
          have := a2.trans z
          obtain ⟨hx, -⟩ := fw_next (t := toS v o p) (r := rcS v p) (top := v (52 + p)) (j := v (52 + p)) (x := f) (Nat.le_refl _) (by rw [hF]; rfl) (by omega)
          omega
        rw [Nat.sub_zero, if_neg hf0, Nat.add_sub_cancel, Nat.sub_self, ← hL, hG]
        rfl⟩ (fun s k => ?_) (fun i s hi => ?_)
    · obtain ⟨m', e1, e2, e3, e4⟩ := key
      exact ⟨m', e1, e2, fun _ => ⟨G, e3, hGb, by rw [e3]; exact e4, hGm, by rw [← hG]; exact grP_nodup _ _ _ _, by rw [← hG]; exact grP_asc _ _ _ _⟩⟩
    · rintro ⟨j, m', rfl, c1, c2, c3, c4, c5, c6, c7⟩
      unfold bX8_climbOn_33
      dsimp only
      rw [if_pos (nI_le (Nat.le_refl _) (by omega))]
      refine ⟨m', rfl, c2, ?_, c5⟩
      rw [Nat.sub_self, if_pos rfl] at c7
      have := congrArg List.length c7
      simp at this
      omega
    · rintro ⟨j, m', rfl, c1, c2, c3, c4, c5, c6, c7⟩
      have hj0 : j ≠ 0 := fun z => by
        subst z
        have : (fwL (toS v o p) (rcS v p) (v (52 + p)) 0).getD 0 0 = 0 := rfl
        omega
      obtain ⟨j', rfl⟩ : ∃ j', j = j' + 1 := ⟨j - 1, by omega⟩
      obtain ⟨d1, k, d2, d3, d4, d5⟩ := fw_next (t := toS v o p) (r := rcS v p) (top := v (52 + p)) (j := j') (x := f - i) (by omega) c4 (by omega)
      have hco := co_in h0 hp (top := v (52 + p)) (r := rcS v p) (j := j') (k := k) (x := f - i) (many := f) (i := i) (by omega) (by omega) d2 (by omega) hi (by omega) rfl d3 d4 c2 c3
      rw [if_neg (by omega), Nat.add_sub_cancel, show v (52 + p) + 1 - (j' + 1) = v (52 + p) - j' by omega, grP_skip _ k _ _ _ (by rw [fwL_len]; omega) d3 d4] at c7
      have hcons : ∃ T, G.drop i = (v (52 + p) - j' + k) :: T ∧ T = (if f - i = 1 then [] else grP (toS v o p) ((fwL (toS v o p) (rcS v p) (v (52 + p)) j').drop (k + 1)) (v (52 + p) - j' + k + 1) (f - i - 1)) := by
        rw [c7]
        by_cases h1 : f - i = 1
        · rw [if_pos h1]; exact ⟨_, rfl, by rw [if_pos h1]⟩
        · rw [if_neg h1]; exact ⟨_, rfl, by rw [if_neg h1]⟩
      obtain ⟨T, hT1, hT2⟩ := hcons
      have hlen : i < G.length := by
        have := congrArg List.length hT1
        simp at this
        omega
      have hGi : G.getD i 0 = v (52 + p) - j' + k := by
        have h3 := List.drop_eq_getElem_cons hlen
        rw [hT1] at h3
        injection h3 with h4 _
        rw [gd_at hlen, ← h4]
      have hGd : G.drop (i + 1) = T := by
        have h3 := List.drop_eq_getElem_cons hlen
        rw [hT1] at h3
        injection h3 with _ h5
        exact h5.symm
      refine ⟨(nI (v (52 + p) + 1 - (j' - k)), nI (i + 1), si m' 92 i (nI (v (52 + p) - j' + k))), ⟨j' - k, _, rfl, by omega, c2.tr (SM_si (by simp)), fun q hq => ?_, ?_, fun q hq => ?_, by omega, ?_⟩, fun kk => ?_⟩
      · rw [si_ne _ _ (Or.inl (by decide))]
        exact c3 q hq
      · rw [d5]
        omega
      · by_cases hqi : q = i
        · subst hqi
          rw [si_same, hGi]
        · rw [si_ne _ _ (Or.inr hqi)]
          exact c5 q (by omega)
      · rw [hGd, hT2]
        by_cases h1 : f - i = 1
        · rw [if_pos h1, if_pos (by omega)]
        · rw [if_neg h1, if_neg (by omega), show f - (i + 1) = f - i - 1 by omega]
          rw [fwL_drop _ _ _ _ _ (show k + 1 ≤ j' from by
            rcases Nat.lt_or_ge k j' with z | z
            · exact z
            · exfalso
              have hkj : k = j' := by omega
              rw [hkj, Nat.sub_self] at d5
              have : (fwL (toS v o p) (rcS v p) (v (52 + p)) 0).getD 0 0 = 0 := rfl
              omega)]
          congr 1
          omega
      · unfold bX8_climbOn_33
        dsimp only [li]
        rw [if_neg (nI_ge hi (by omega)), show nI (v (52 + p) + 1 - (j' + 1)) + 1 = nI (v (52 + p) + 1 - j') from by
          rw [show v (52 + p) + 1 - j' = v (52 + p) + 1 - (j' + 1) + 1 by omega]
          exact nI_1 _, hco kk]
        congr 3
        omega
