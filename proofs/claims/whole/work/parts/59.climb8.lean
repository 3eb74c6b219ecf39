/-! PURE FACTS: the reference's fewest, hasClimb, homes -/
theorem lp_one {σ : Type} {body : (σ → mR) → σ → mR} {s : σ} : lp body FU s = body (lp body 19999) s := rfl
theorem fX8_layFewest_eq {m0 : mMem} {P o p : Nat} {v : Nat → Nat} (h0 : HO m0 P o v) (hp : p < v 1) : ∃ m', fX8_layFewest (nI P) (nI p) m0 = some (none, m') ∧ SM [91] m0 m' ∧ FW m' (v (52 + p)) (fwL (toS v o p) (rcS v p) (v (52 + p)) (v (52 + p) + 1)) := by
  have ho := h0.2.1
  have hb := ho.1
  have hq := ho.2.2 p hp
  have hr := rcS_b ho hp
  have hl := h0.1.2.2 p hp
  have hP := h0.2.2.1
  unfold fX8_layFewest
  dsimp only [li]
  rw [P_idx3, show nI (P + 20 + 3 * p) + (2 : Int32) = nI (P + 20 + 3 * p + 2) from nI_add _ 2, ga_nI (by omega) (by decide), nI_tn (by omega), hl.2.2.2, fX8_reachOn_eq h0 hp]
  dsimp only [bI]
  rw [show nI (v (52 + p)) + (1 : Int32) = nI (v (52 + p) + 1) from nI_1 _]
  refine lp_rel0 (fun i s => ∃ m', s = ((if i = v (52 + p) + 2 then (-1 : Int32) else nI (v (52 + p) + 1 - i)), m') ∧ SM [91] m0 m' ∧ (1 ≤ i → FW m' (v (52 + p)) (fwL (toS v o p) (rcS v p) (v (52 + p)) (i - 1)))) (v (52 + p) + 2) (fun r => ∃ m', r = some (none, m') ∧ SM [91] m0 m' ∧ FW m' (v (52 + p)) (fwL (toS v o p) (rcS v p) (v (52 + p)) (v (52 + p) + 1))) _ (by omega) ⟨m0, by rw [if_neg (by omega)]; rfl, SM.rf, fun h => absurd h (by decide)⟩ (fun s k => ?_) (fun i s hi => ?_)
  · rintro ⟨m', rfl, h1, h2⟩
    rw [if_pos rfl]
    unfold bX8_layFewest_29
    dsimp only
    rw [if_pos (by decide)]
    exact ⟨m', rfl, h1, h2 (by omega)⟩
  · rintro ⟨m', rfl, h1, h2⟩
    have hne : ¬ i = v (52 + p) + 2 := Nat.ne_of_lt hi
    rw [if_neg hne]
    by_cases hi0 : i = 0
    · subst hi0
      refine ⟨(nI (v (52 + p)), si m' 91 (v (52 + p) + 1) (nI 0)), ⟨si m' 91 (v (52 + p) + 1) (nI 0), by rw [if_neg (by omega)]; rfl, h1.tr (SM_si (by simp)), fun _ k hk => ?_⟩, fun kk => ?_⟩
      · have hk0 : k = 0 := by
          have : k < 1 := hk
          omega
        subst hk0
        exact si_same _ _ _ _
      · unfold bX8_layFewest_29 jX8_layFewest_54
        dsimp only [li, lt]
        rw [Nat.sub_zero, show nI (v (52 + p)) + (1 : Int32) = nI (v (52 + p) + 1) from nI_1 _, if_neg (nI_pos (by omega)), if_pos rfl, ga_nI (by omega) (by decide), nI_tn (by omega), lp_one]
        unfold bX8_layFewest_61
        dsimp only [li]
        rw [show nI (v (52 + p) + 1) + (1 : Int32) = nI (v (52 + p) + 2) from nI_1 _, show nI (v (52 + p)) + (1 : Int32) = nI (v (52 + p) + 1) from nI_1 _, nI_add, if_neg (nI_nlt (by omega) (by omega)), if_pos (nI_lt (by omega) (by omega))]
        rw [show nI (v (52 + p) + 1) + (-1 : Int32) = nI (v (52 + p)) from by
          have := sb_m1 (p := v (52 + p) + 1) (by omega)
          rw [Nat.add_sub_cancel] at this
          exact this]
        rfl
    · obtain ⟨j, rfl⟩ : ∃ j, i = j + 1 := ⟨i - 1, by omega⟩
      have hF := h2 (by omega)
      rw [Nat.add_sub_cancel] at hF
      have e1 : v (52 + p) + 1 - (j + 1) = v (52 + p) - j := by omega
      rw [e1]
      have hlen := fwL_len (toS v o p) (rcS v p) (v (52 + p)) j
      obtain ⟨m2, hk, a1, a2⟩ := lay_in h0 hp j (by omega) (si m' 91 (v (52 + p) - j) (nI 100)) (h1.tr (SM_si (by simp))) (fun k hk => by rw [si_ne _ _ (Or.inr (by omega))]; exact hF k hk) (si_same _ _ _ _)
      refine ⟨(nI (v (52 + p) - j) + (-1 : Int32), m2), ⟨m2, ?_, a1, fun _ => by rw [Nat.add_sub_cancel]; exact a2⟩, fun kk => ?_⟩
      · by_cases hz : j = v (52 + p)
        · rw [if_pos (by omega), show v (52 + p) - j = 0 by omega]
          rfl
        · rw [if_neg (by omega), sb_m1 (by omega)]
          congr 2
          omega
      · unfold bX8_layFewest_29 jX8_layFewest_54
        dsimp only [li, lt]
        rw [show nI (v (52 + p)) + (1 : Int32) = nI (v (52 + p) + 1) from nI_1 _, if_neg (nI_pos (by omega)), if_neg (by rw [nI_eq (by omega) (by omega)]; omega), ga_nI (by omega) (by decide), nI_tn (by omega), show nI (v (52 + p) - j) + (1 : Int32) = nI (v (52 + p) - j + 1) from nI_1 _]
        exact hk kk
