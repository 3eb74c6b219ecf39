/-! PURE FACTS: the class reads the tape, II -/
def ltF (u : Nat → Nat) : Bool := (List.range (u 1)).any (fun p => decide (u 0 ≤ u (52 + p)))
theorem lt_iff {u : Nat → Nat} : ltF u = false ↔ ∀ p, p < u 1 → u (52 + p) < u 0 := by
  unfold ltF
  rw [List.any_eq_false]
  constructor
  · intro h p hp
    have := h p (List.mem_range.mpr hp)
    simpa using this
  · intro h p hp
    have := h p (List.mem_range.mp hp)
    simpa using this
def rnF (b : Nat → Nat) (L : Nat) : Nat → Nat → (Nat → Nat) → Bool → Bool → Nat → (Nat × Nat × Nat) × (Nat → Nat)
  | 0, _, u, _, _, n => ((9, 0, n), u)
  | f + 1, p, u, g, h, n => if tkK b L p = 0 then (if ltF u then ((6, L, n), u) else ((0, 0, n), u)) else if (lnR b L p u g h).1.1 ≠ 0 then (((lnR b L p u g h).1.1, (lnR b L p u g h).1.2.1, n), u) else rnF b L f (lnR b L p u g h).1.2.2 (upU u (lnF b L p) (lnR b L p u g h).2) (g || lnF b L p == 5) (h || lnF b L p == 6) (n + 1)
theorem lnR_pos {b : Nat → Nat} {L p : Nat} {u : Nat → Nat} {g h : Bool} (hp : p ≤ L) (hz : (lnR b L p u g h).1.1 = 0) : p + 2 ≤ (lnR b L p u g h).1.2.2 ∧ (lnR b L p u g h).1.2.2 ≤ L := by
  unfold lnR at hz ⊢
  by_cases h7 : lnF b L p = 7
  · rw [if_pos h7] at hz
    exact absurd hz (by decide : (2 : Nat) ≠ 0)
  · rw [if_neg h7] at hz ⊢
    by_cases ht : tmF u g h (lnF b L p) ≠ 0
    · rw [if_pos ht] at hz
      exact absurd hz ht
    · rw [if_neg ht] at hz ⊢
      dsimp only at hz ⊢
      have hk1 : tkK b L p = 1 := by
        unfold lnF at h7
        by_cases q : tkK b L p = 1
        · exact q
        · rw [if_neg q] at h7
          exact absurd rfl h7
      obtain ⟨te1, te2, te3⟩ := tkE_s (b := b) hp
      have hpe := te3 (by omega) (by omega)
      have hpos := nbR_pos (b := b) (L := L) (ln := lnF b L p) (nuN (lnF b L p)) 0 (0, 0, tkE b L p) te2
      generalize (nbR b L (lnF b L p) (nuN (lnF b L p)) 0 (0, 0, tkE b L p)).1 = S at *
      obtain ⟨qc, qa, qp⟩ := S
      dsimp only at hpos
      have hnx : ∀ S : Nat × Nat × Nat, (nxF b L S).1 = 0 → S.1 = 0 ∧ nxF b L S = S := fun S hS => by
        unfold nxF at hS ⊢
        by_cases q : S.1 ≠ 0
        · rw [if_pos q] at hS
          exact absurd hS q
        · rw [if_neg q] at hS ⊢
          by_cases q4 : tkK b L S.2.2 = 4
          · rw [if_pos q4] at hS
            exact absurd hS (by decide : (1 : Nat) ≠ 0)
          · rw [if_neg q4]
            exact ⟨by omega, rfl⟩
      obtain ⟨n1, n2⟩ := hnx _ hz
      rw [n2]
      unfold clF at n1 ⊢
      dsimp only at n1 ⊢
      by_cases q : qc ≠ 0
      · rw [if_pos q] at n1
        exact absurd n1 q
      · rw [if_neg q] at n1 ⊢
        by_cases q4 : tkK b L qp = 4
        · rw [if_pos q4] at n1
          exact absurd n1 (by decide : (1 : Nat) ≠ 0)
        · rw [if_neg q4] at n1 ⊢
          by_cases q3 : tkK b L qp ≠ 3
          · rw [if_pos q3] at n1
            exact absurd n1 (by decide : (2 : Nat) ≠ 0)
          · rw [if_neg q3]
            obtain ⟨ue1, ue2, ue3⟩ := tkE_s (b := b) (p := qp) hpos.1
            have := ue3 (by omega) (by omega)
            have h2 : tkE b L p ≤ qp := hpos.2
            dsimp only
            omega
theorem lost7 {m : mMem} {u : Nat → Nat} (hC : HC m 8 u) (ho : OKT u) : fX6_hasLostFloor 8 m = some (some (.int (bF (ltF u))), m) := by
  have hb := ho.1
  unfold fX6_hasLostFloor
  refine lp_or0 (body := bX6_hasLostFloor_2 8) (fun i s => s = (nI i, m) ∧ ∀ p, p < i → u (52 + p) < u 0) (u 1) (fun r => r = some (some (.int (bF (ltF u))), m)) _ (by omega) ⟨rfl, fun p hp => absurd hp (Nat.not_lt_zero _)⟩ (fun s k => ?_) (fun i s hi => ?_)
  · rintro ⟨rfl, hh⟩
    unfold bX6_hasLostFloor_2
    dsimp only
    rw [hC.1.2.1, if_pos (nI_le (Nat.le_refl _) (by omega)), lt_iff.mpr hh]
    rfl
  · rintro ⟨rfl, hh⟩
    have hf := (ho.2.2 i hi).2.2.2.2
    have body : ∀ k, bX6_hasLostFloor_2 8 k (nI i, m) = if nI (u (52 + i)) < nI (u 0) then k (nI (i + 1), m) else some (some (.int (1 : Int32)), m) := fun k => by
      unfold bX6_hasLostFloor_2
      dsimp only [li]
      rw [hC.1.2.1, if_neg (nI_ge hi (by omega)), ga_nI (by omega) (by decide), nI_tn (by omega), (hC.2.2 i hi).2.2.2, hC.1.1, show nI i + 1 = nI (i + 1) from nI_1 _]
    by_cases q : u (52 + i) < u 0
    · left
      refine ⟨(nI (i + 1), m), ⟨rfl, fun p hp => ?_⟩, fun k => by rw [body, if_pos (nI_lt q (by omega))]⟩
      by_cases e : p = i
      · subst e; exact q
      · exact hh p (by omega)
    · right
      intro k
      have : ltF u = true := by
        cases hz : ltF u
        · exact absurd (lt_iff.mp hz i hi) q
        · rfl
      rw [body, if_neg (nI_nlt (by omega) (by omega)), this]
      rfl
def ansF (c at0 n : Nat) : Int32 := if c = 0 then nI n else (-10 : Int32) - nI at0
theorem j96_eq {m : mMem} {c at0 n : Nat} (hc : c ≤ 9) (h1 : m.1 49 1 = nI c) (h2 : c ≠ 0 → m.1 49 2 = nI at0) : jX6_tell_96 (nI n) m = some (some (.int (ansF c at0 n)), si m 49 0 0) := by
  unfold jX6_tell_96 ansF
  dsimp only [lt]
  rw [si_ne _ _ (Or.inr (show (1 : Nat) ≠ 0 by decide)), si_ne _ _ (Or.inr (show (2 : Nat) ≠ 0 by decide)), h1]
  by_cases q : c = 0
  · subst q
    rw [if_pos (show nI 0 = (0 : Int32) from rfl), if_pos rfl]
  · rw [if_neg (c_ne c hc q), if_neg q, h2 q]
theorem b35 (r1 : Nat) (K : Int32 × mMem → mR) (x2 : Int32) (m : mMem) : bX6_tell_35 r1 K (x2, m) = (if (m.1 49 1) = (0 : Int32) then if (m.1 49 6) = (4 : Int32) then jX6_tell_72 r1 x2 m else if (160 : Int32) ≤ x2 then jX6_tell_72 r1 x2 m else bV (fX6_takeLine r1 m) (fun m13 => bV (fX6_takeTokenIfSound m13) (fun m14 => K (x2 + 1, m14))) else jX6_tell_72 r1 x2 m) := rfl
def E7 (m m' : mMem) (R : (Nat × Nat × Nat) × (Nat → Nat)) : Prop := G7 m m' ∧ m'.1 49 0 = 0 ∧ m'.1 49 1 = nI R.1.1 ∧ R.1.1 ≤ 9 ∧ (R.1.1 = 0 → HC m' 8 R.2 ∧ OKT R.2 ∧ ltF R.2 = false)
theorem tl7 {b : Nat → Nat} {L : Nat} (hL : L ≤ 160) : ∀ (f p : Nat) (u : Nat → Nat) (g h : Bool) (n : Nat) (m : mMem) (F : Nat), f + n = 81 → 2 * n ≤ p → p ≤ L → f + 1 < F → C7 m b L p u g h → tkK b L p ≠ 4 → ∃ m', lp (bX6_tell_35 8) F (nI n, m) = some (some (.int (ansF (rnF b L f p u g h n).1.1 (rnF b L f p u g h n).1.2.1 (rnF b L f p u g h n).1.2.2)), m') ∧ E7 m m' (rnF b L f p u g h n)
  | 0, p, u, g, h, n, m, F, hf, hn, hp, _, _, _ => by omega
  | f + 1, p, u, g, h, n, m, F + 1, hf, hn, hp, hF, hC, hK => by
    have hC' := hC
    obtain ⟨hT, c1, c5, c6, c7, c8, c9, hH, hO⟩ := hC
    have hKle := tkK_le b L p
    show ∃ m', bX6_tell_35 8 (lp (bX6_tell_35 8) F) (nI n, m) = _ ∧ _
    have hrn : rnF b L (f + 1) p u g h n = if tkK b L p = 0 then (if ltF u then ((6, L, n), u) else ((0, 0, n), u)) else if (lnR b L p u g h).1.1 ≠ 0 then (((lnR b L p u g h).1.1, (lnR b L p u g h).1.2.1, n), u) else rnF b L f (lnR b L p u g h).1.2.2 (upU u (lnF b L p) (lnR b L p u g h).2) (g || lnF b L p == 5) (h || lnF b L p == 6) (n + 1) := rfl
    rw [hrn, b35, c1, if_pos rfl, c6]
    by_cases k0 : tkK b L p = 0
    · rw [if_pos k0, if_pos k0, if_pos (show nI 4 = (4 : Int32) from rfl)]
      unfold jX6_tell_72
      rw [c1, if_pos rfl, lost7 hH hO]
      dsimp only [bI]
      cases hlt : ltF u
      · rw [if_pos (show bF false = (0 : Int32) from rfl), j96_eq (c := 0) (at0 := 0) (by decide) c1 (fun z => absurd rfl z)]
        refine ⟨_, rfl, fun z hz => si_c _ (fun e => hz (by simp [e])), si_same _ _ _ _, by rw [si_ne _ _ (Or.inr (by decide))]; exact c1, (by decide : 0 ≤ 9), fun _ => ⟨HC_fr hH (fun z _ hz => si_c _ (by omega)), hO, hlt⟩⟩
      · rw [if_neg (show ¬ bF true = (0 : Int32) by decide)]
        obtain ⟨m2, r1, r2, r3, r4⟩ := ref7 (m := m) (c := 6) (a := L)
        have r1' : fX6_refuse (6 : Int32) (nI L) m = some (none, m2) := r1
        rw [hT.1, r1']
        dsimp only [bV]
        rw [j96_eq (c := 6) (at0 := L) (by decide) r3 (fun _ => r4)]
        refine ⟨_, rfl, fun z hz => ?_, si_same _ _ _ _, by rw [si_ne _ _ (Or.inr (by decide))]; exact r3, (by decide : 6 ≤ 9), fun z => absurd z (by decide : (6 : Nat) ≠ 0)⟩
        rw [si_c _ (fun e => hz (by simp [e]))]
        exact r2.1 z (fun e => hz (by simp [e]))
    · rw [if_neg k0, if_neg (show ¬ nI (tkK b L p) = (4 : Int32) by
        rw [show (4 : Int32) = nI 4 from rfl, nI_eq (by omega) (by decide)]
        exact hK), if_neg (show ¬ (160 : Int32) ≤ nI n from nI_ge (b := 160) (by omega) (by decide)), if_neg k0]
      obtain ⟨m1, m2, e1, e2, G2, L2, good, bad⟩ := line7 hL hp hC' k0 hK
      rw [e1]
      dsimp only [bV]
      rw [e2]
      dsimp only
      rw [show nI n + 1 = nI (n + 1) from nI_1 _]
      by_cases hz : (lnR b L p u g h).1.1 = 0
      · obtain ⟨g1, g2⟩ := good hz
        obtain ⟨p1, p2⟩ := lnR_pos hp hz
        rw [if_neg (show ¬ ((lnR b L p u g h).1.1 ≠ 0) from fun z => z hz)]
        obtain ⟨m3, e3, E3⟩ := tl7 hL f _ _ _ _ (n + 1) m2 F (by omega) (by omega) p2 (by omega) g1 g2
        exact ⟨m3, e3, G2.tr E3.1, E3.2⟩
      · obtain ⟨b1, b2, b3⟩ := bad hz
        rw [if_pos hz]
        obtain ⟨F', rfl⟩ : ∃ F', F = F' + 1 := ⟨F - 1, by omega⟩
        have hne : ¬ m2.1 49 1 = 0 := by rw [b2]; exact c_ne _ b1 hz
        have hfin : bX6_tell_35 8 (lp (bX6_tell_35 8) F') (nI (n + 1), m2) = some (some (.int (ansF (lnR b L p u g h).1.1 (lnR b L p u g h).1.2.1 (n + 1))), si m2 49 0 0) := by
          rw [b35, if_neg hne]
          unfold jX6_tell_72
          rw [if_neg hne, j96_eq b1 b2 (fun _ => b3)]
        have hans : ansF (lnR b L p u g h).1.1 (lnR b L p u g h).1.2.1 (n + 1) = ansF (lnR b L p u g h).1.1 (lnR b L p u g h).1.2.1 n := by
          unfold ansF
          rw [if_neg hz, if_neg hz]
        rw [hans] at hfin
        refine ⟨_, hfin, fun z hzz => ?_, si_same _ _ _ _, by rw [si_ne _ _ (Or.inr (by decide))]; exact b2, b1, fun z => absurd z hz⟩
        rw [si_c _ (fun e => hzz (by simp [e]))]
        exact G2 z hzz
  | _ + 1, _, _, _, _, _, _, 0, _, _, _, h, _, _ => absurd h (Nat.not_lt_zero _)
def u0F : Nat → Nat := fun j => if j = 2 then 1 else if j = 3 then 30 else 0
theorem u0_OK : OKT u0F := ⟨by decide, fun i hi => absurd hi (Nat.not_lt_zero _), fun i hi => absurd hi (Nat.not_lt_zero _)⟩
def txF (b : Nat → Nat) (L : Nat) : (Nat × Nat × Nat) × (Nat → Nat) := if tkK b L 0 = 4 then ((1, tkA b L 0, 0), u0F) else rnF b L 81 0 u0F false false 0
theorem text7 {m : mMem} {b : Nat → Nat} {L : Nat} (hL : L ≤ 160) (hT : TB7 m b L) : ∃ m', fX6_tell 8 m = some (some (.int (ansF (txF b L).1.1 (txF b L).1.2.1 (txF b L).1.2.2)), m') ∧ E7 m m' (txF b L) := by
  obtain ⟨m1, hm1⟩ : ∃ m1, m1 = si (si (si (si (si m 8 0 0) 8 1 0) 8 2 1) 8 3 30) 8 4 0 := ⟨_, rfl⟩
  have hH1 : HC m1 8 u0F := by
    rw [hm1]
    refine ⟨⟨?_, ?_, ?_, ?_, ?_⟩, fun i hi => absurd hi (Nat.not_lt_zero _), fun i hi => absurd hi (Nat.not_lt_zero _)⟩
    · rw [si_ne _ _ (Or.inr (by decide)), si_ne _ _ (Or.inr (by decide)), si_ne _ _ (Or.inr (by decide)), si_ne _ _ (Or.inr (by decide)), si_same]; rfl
    · rw [si_ne _ _ (Or.inr (by decide)), si_ne _ _ (Or.inr (by decide)), si_ne _ _ (Or.inr (by decide)), si_same]; rfl
    · rw [si_ne _ _ (Or.inr (by decide)), si_ne _ _ (Or.inr (by decide)), si_same]; rfl
    · rw [si_ne _ _ (Or.inr (by decide)), si_same]; rfl
    · rw [si_same]; rfl
  obtain ⟨m2, hm2⟩ : ∃ m2, m2 = si (si (si (si (si m1 49 1 0) 49 2 0) 49 5 0) 49 8 0) 49 9 0 := ⟨_, rfl⟩
  have x1 : ∀ z, z ≠ 8 → m1.1 z = m.1 z := fun z hz => by rw [hm1, si_c _ hz, si_c _ hz, si_c _ hz, si_c _ hz, si_c _ hz]
  have x2 : SWx 49 [1, 2, 5, 8, 9] m1 m2 := by rw [hm2]; exact ((((SWx_si (by simp)).tr (SWx_si (by simp))).tr (SWx_si (by simp))).tr (SWx_si (by simp))).tr (SWx_si (by simp))
  have hT2 : TB7 m2 b L := TB7_sx ⟨by rw [x1 49 (by decide)]; exact hT.1, fun i hi => by rw [x1 50 (by decide)]; exact hT.2 i hi⟩ x2 (by decide)
  have w1 : m2.1 49 1 = 0 := by rw [hm2, si_ne _ _ (Or.inr (by decide)), si_ne _ _ (Or.inr (by decide)), si_ne _ _ (Or.inr (by decide)), si_ne _ _ (Or.inr (by decide)), si_same]
  have w5 : m2.1 49 5 = nI 0 := by rw [hm2, si_ne _ _ (Or.inr (by decide)), si_ne _ _ (Or.inr (by decide)), si_same]; rfl
  have w8 : m2.1 49 8 = bF false := by rw [hm2, si_ne _ _ (Or.inr (by decide)), si_same]; rfl
  have w9 : m2.1 49 9 = bF false := by rw [hm2, si_same]; rfl
  obtain ⟨m3, e3, x3, y7, y4, y0⟩ := tok7 hL (Nat.zero_le _) hT2 w5
  have G3 : G7 m m3 := fun z hz => by
    rw [x3.1 z (fun e => hz (by simp [e])), x2.1 z (fun e => hz (by simp [e])), x1 z (fun e => hz (by simp [e]))]
  have hrun : fX6_tell 8 m = lp (bX6_tell_35 8) FU ((0 : Int32), m3) := by
    unfold fX6_tell fX4_empty
    dsimp only [lt, bV]
    rw [← hm1, ← hm2, e3]
  rw [hrun]
  unfold txF
  by_cases k4 : tkK b L 0 = 4
  · obtain ⟨z1, z2⟩ := y4 k4
    rw [if_pos k4]
    have hne : ¬ m3.1 49 1 = 0 := by rw [z1]; decide
    have hfin : lp (bX6_tell_35 8) FU ((0 : Int32), m3) = some (some (.int (ansF 1 (tkA b L 0) 0)), si m3 49 0 0) := by
      rw [lp_one, b35, if_neg hne]
      unfold jX6_tell_72
      rw [if_neg hne]
      exact j96_eq (c := 1) (n := 0) (by decide) z1 (fun _ => z2)
    exact ⟨_, hfin, fun z hz => by rw [si_c _ (fun e => hz (by simp [e]))]; exact G3 z hz, si_same _ _ _ _, by rw [si_ne _ _ (Or.inr (by decide))]; exact z1, (by decide : 1 ≤ 9), fun z => absurd z (by decide : (1 : Nat) ≠ 0)⟩
  · obtain ⟨z1, z2, z5, z6⟩ := y0 k4
    rw [if_neg k4]
    have f3 : F7 m2 m3 := F7_sx x3 (by simp)
    have hC3 : C7 m3 b L 0 u0F false false := ⟨TB7_f hT2 f3, z1.trans w1, z5, z6, y7, (f3.2 8 (by decide)).trans w8, (f3.2 9 (by decide)).trans w9, HC_fr hH1 (fun z _ hz => by rw [f3.1 z (by omega) (by omega), x2.1 z (by omega)]), u0_OK⟩
    obtain ⟨m4, e4, E4⟩ := tl7 hL 81 0 u0F false false 0 m3 FU (by decide) (by decide) (Nat.zero_le _) (by decide) hC3 k4
    exact ⟨m4, e4, G3.tr E4.1, E4.2⟩
