/-! PURE FACTS: lodge -/
theorem tk_snoc {L : List Nat} {p : Nat} (h : p < L.length) : L.take (p + 1) = L.take p ++ [L.getD p 0] := by
  rw [gd_at h]
  simp
/-- best behind the codes below c -/
def lbS (v : Nat → Nat) (c : Nat) : Nat × Nat × List Nat := ((List.range c).flatMap (glS (v 1))).foldl (ldU (lcS v)) (0, 0, [])
theorem lbS_s (v : Nat → Nat) (c : Nat) : lbS v (c + 1) = if vdS (v 1) c then ldU (lcS v) (lbS v c) (dgL (v 1) c) else lbS v c := by
  unfold lbS
  rw [List.range_succ, List.flatMap_append, List.foldl_append]
  simp only [List.flatMap_cons, List.flatMap_nil, List.append_nil, glS]
  cases vdS (v 1) c <;> rfl
def LQ (v : Nat → Nat) (c : Nat) (s : Int32 × Int32 × Int32 × Int32 × mMem) (mb : mMem) : Prop := ∃ m' cd, s = (nI (lbS v c).1 - 1, nI (lbS v c).2.1, nI cd, nI c, m') ∧ cd < 256 ∧ ((lbS v c).1 ≠ 0 → vdS (v 1) cd = true ∧ (lbS v c).2.2 = dgL (v 1) cd) ∧ (lbS v c).1 ≤ 5 ∧ (lbS v c).2.1 ≤ 40 ∧ LPg m' v ∧ FR mb m'
theorem ld_in {m0 mb : mMem} {c cd : Nat} {v : Nat → Nat} {X1 X2 : Int32} (h : HO m0 175 0 (pfS v (dgL (v 1) c))) (hL : LPg m0 v) (hF : FR mb m0) (ho : OK v) (hv : vdS (v 1) c = true) (hc : c < 256) (hcd : cd < 256) (hB : (lbS v c).1 ≠ 0 → vdS (v 1) cd = true ∧ (lbS v c).2.2 = dgL (v 1) cd) (h5 : (lbS v c).1 ≤ 5) (h40 : (lbS v c).2.1 ≤ 40) : ∃ u : Int32 × Int32 × Int32 × Int32 × mMem, LQ v (c + 1) u mb ∧ ∀ k72, lp (bX8_lodge_96 k72 X1 X2 (nI (lbS v c).1 - 1) (nI (lbS v c).2.1) (nI cd) (nI c)) FU ((0 : Int32), (0 : Int32), (0 : Int32), m0) = k72 u := by
  have hb := ho.1
  have hlc : ∀ p q, lcS v p q ≤ 10 := fun p q => popc_le _
  have hlen := dgL_len (v 1) c
  have hs1 := lbS_s v c
  rw [hv, if_pos rfl] at hs1
  generalize hLL : dgL (v 1) c = L at h hlen hs1
  refine lp_relK0 (body := fun k72 => bX8_lodge_96 k72 X1 X2 (nI (lbS v c).1 - 1) (nI (lbS v c).2.1) (nI cd) (nI c)) (fun p s => ∃ m', s = (nI (ldH (lcS v) 0 (L.take p)), nI (ldT (lcS v) 0 (L.take p)), nI p, m') ∧ SM [91] m0 m') (v 1) (fun u => LQ v (c + 1) u mb) _ (by omega) ⟨m0, rfl, SM.rf⟩ (fun s => ?_) (fun p s hp => ?_)
  · rintro ⟨m', rfl, a1⟩
    have e81 : m'.1 81 4 = nI (v 1) := by rw [(a1 81 (by decide)).1]; exact hL.1.1.1.2.1
    have hH := ldH_le (lcS v) L 0
    have hT := ldT_le hlc L 0
    rw [show L.take (v 1) = L by rw [← hlen]; exact List.take_length]
    obtain ⟨c1, c2⟩ := ld_cmp (lbS v c).1 h5 (ldH (lcS v) 0 L) (by omega)
    have hLm : LPg m' v := LPg_sm hL a1 (by decide)
    have hFm : FR mb m' := hF.tr (FR_sm a1 (by decide))
    by_cases q : (lbS v c).1 < ldH (lcS v) 0 L + 1 ∨ (ldH (lcS v) 0 L + 1 = (lbS v c).1 ∧ ldT (lcS v) 0 L < (lbS v c).2.1)
    · have e : lbS v (c + 1) = (ldH (lcS v) 0 L + 1, ldT (lcS v) 0 L, L) := by rw [hs1]; unfold ldU; rw [if_pos q]
      refine ⟨(nI (ldH (lcS v) 0 L), nI (ldT (lcS v) 0 L), nI c, nI (c + 1), m'), ⟨m', c, by rw [e]; show _ = (nI (ldH (lcS v) 0 L + 1) - 1, _, _, _, _); rw [sub1], hc, fun _ => ⟨hv, by rw [e, hLL]⟩, by rw [e]; show ldH (lcS v) 0 L + 1 ≤ 5; omega, by rw [e]; show ldT (lcS v) 0 L ≤ 40; omega, hLm, hFm⟩, fun ko k => ?_⟩
      have hgo : jX8_lodge_176 ko X1 X2 (nI (lbS v c).1 - 1) (nI (lbS v c).2.1) (nI cd) (nI c) (nI (ldH (lcS v) 0 L)) (nI (ldT (lcS v) 0 L)) m' = ko (nI (ldH (lcS v) 0 L), nI (ldT (lcS v) 0 L), nI c, nI (c + 1), m') := by
        unfold jX8_lodge_176 jX8_lodge_181 jX8_lodge_195 jX8_lodge_208
        dsimp only [li]
        rw [if_neg (by decide), if_neg (by decide), if_neg (by decide), show nI c + 1 = nI (c + 1) from nI_1 _]
      unfold bX8_lodge_96
      dsimp only
      rw [e81, if_pos (nI_le (Nat.le_refl _) (by omega)), hgo]
      rcases q with q | ⟨q1, q2⟩
      · rw [if_pos (c1.mpr q)]
      · rw [if_neg (fun z => by have := c1.mp z; omega), if_pos (c2.mpr q1), if_neg (nI_ge q2 (by omega))]
    · have e : lbS v (c + 1) = lbS v c := by rw [hs1]; unfold ldU; rw [if_neg q]
      refine ⟨(nI (lbS v c).1 - 1, nI (lbS v c).2.1, nI cd, nI (c + 1), m'), ⟨m', cd, by rw [e], hcd, by rw [e]; exact hB, by rw [e]; exact h5, by rw [e]; exact h40, hLm, hFm⟩, fun ko k => ?_⟩
      have hgo : jX8_lodge_180 ko X1 X2 (nI (lbS v c).1 - 1) (nI (lbS v c).2.1) (nI cd) (nI c) (nI (ldH (lcS v) 0 L)) (nI (ldT (lcS v) 0 L)) m' = ko (nI (lbS v c).1 - 1, nI (lbS v c).2.1, nI cd, nI (c + 1), m') := by
        unfold jX8_lodge_180 jX8_lodge_181 jX8_lodge_195 jX8_lodge_208
        dsimp only [li]
        rw [if_pos rfl, if_pos rfl, if_pos rfl, show nI c + 1 = nI (c + 1) from nI_1 _]
      unfold bX8_lodge_96
      dsimp only
      rw [e81, if_pos (nI_le (Nat.le_refl _) (by omega)), hgo, if_neg (fun z => q (Or.inl (c1.mp z)))]
      by_cases q1 : ldH (lcS v) 0 L + 1 = (lbS v c).1
      · rw [if_pos (c2.mpr q1), if_pos (nI_le (by
          rcases Nat.lt_or_ge (ldT (lcS v) 0 L) (lbS v c).2.1 with z | z
          · exact absurd (Or.inr ⟨q1, z⟩) q
          · exact z) (by omega))]
      · rw [if_neg (fun z => q1 (c2.mp z))]
  · rintro ⟨m', rfl, a1⟩
    have e81 : m'.1 81 4 = nI (v 1) := by rw [(a1 81 (by decide)).1]; exact hL.1.1.1.2.1
    have hp' : p < pfS v L 1 := by rw [pfS_o (by omega)]; exact hp
    obtain ⟨m2, e, b1, b2⟩ := fX8_hasClimb_eq (HO_sm h a1 (by decide)) hp'
    have e' : fX8_hasClimb (175 : Int32) (nI p) m' = _ := e
    rw [pfS_ph ho hp] at e' b2
    have hcst : lcS v p (L.getD p 0) = popc (pvS (tdS v p) (rcS v p) (v (52 + L.getD p 0))) := rfl
    rw [← hcst] at b2
    have hpc0 : lcS v p (L.getD p 0) = 0 ↔ pvS (tdS v p) (rcS v p) (v (52 + L.getD p 0)) = 0 := by
      have hlt : pvS (tdS v p) (rcS v p) (v (52 + L.getD p 0)) < 1024 := by
        have hr := rcS_b ho hp
        have hdig : L.getD p 0 < v 1 := by
          rw [← hLL, dgL_at hp]
          exact lfG_true (v 1) c (v 1) hv _ (by omega)
        have := (ho.2.2 _ hdig).2.2.2.2
        exact pvS_lt hr.1 hr.2 (by omega)
      rw [hcst]
      constructor
      · intro z
        have : ∀ a, a < 1024 → popc a = 0 → a = 0 := by decide +kernel
        exact this _ hlt z
      · intro z
        rw [z]
        rfl
    have ht1 := ldH_snoc (lcS v) (L.getD p 0) (L.take p) 0
    have ht2 := ldT_snoc (lcS v) (L.getD p 0) (L.take p) 0
    rw [← tk_snoc (by omega), Nat.zero_add, show (L.take p).length = p by simp; omega] at ht1 ht2
    refine ⟨(nI (ldH (lcS v) 0 (L.take (p + 1))), nI (ldT (lcS v) 0 (L.take (p + 1))), nI (p + 1), m2), ⟨m2, rfl, a1.tr b1⟩, fun ko k => ?_⟩
    unfold bX8_lodge_96
    dsimp only
    rw [e81, if_neg (nI_ge hp (by omega)), e']
    dsimp only [bI]
    unfold jX8_lodge_128
    dsimp only [li]
    rw [ht1, ht2]
    by_cases hz : lcS v p (L.getD p 0) = 0
    · rw [if_pos (hpc0.mp hz), if_pos rfl, if_pos rfl, if_pos hz, hz, show nI p + 1 = nI (p + 1) from nI_1 _, show nI (ldH (lcS v) 0 (L.take p)) + (0 : Int32) = nI (ldH (lcS v) 0 (L.take p) + 0) from nI_add _ 0, show nI (ldT (lcS v) 0 (L.take p)) + (0 : Int32) = nI (ldT (lcS v) 0 (L.take p) + 0) from nI_add _ 0]
    · have hz' : ¬ pvS (tdS v p) (rcS v p) (v (52 + L.getD p 0)) = 0 := fun z => hz (hpc0.mpr z)
      rw [if_neg hz', if_neg (by decide), if_neg (by decide), if_neg hz, show ∀ r : mR, ga (0 : Int32) 11 r = r from fun r => ga_nI (i := 0) (by decide) (by decide), show ((0 : Int32)).toNatClampNeg = 0 from rfl, b2 hz', show nI p + 1 = nI (p + 1) from nI_1 _, show nI (ldH (lcS v) 0 (L.take p)) + (1 : Int32) = nI (ldH (lcS v) 0 (L.take p) + 1) from nI_1 _, nI_add]
theorem LB_eq {v : Nat → Nat} (hn : v 1 ≤ 4) : lbS v (4 ^ v 1) = LB v ∧ (LB v).1 ≠ 0 := by
  obtain ⟨h1, h2⟩ := lex_eq (v 1) hn
  constructor
  · unfold lbS LB
    rw [h1]
  · unfold LB
    generalize exS (v 1) (v 1) [] = X at h2
    have : ∀ (X : List (List Nat)) (B : Nat × Nat × List Nat), B.1 ≠ 0 → (X.foldl (ldU (lcS v)) B).1 ≠ 0 := fun X => by
      induction X with
      | nil => exact fun B h => h
      | cons x X ih => exact fun B _ => ih _ (ldU_ne _ _ _)
    cases X with
    | nil => exact absurd rfl h2
    | cons x X => exact this X _ (ldU_ne _ _ _)
theorem ok_lodge (u0 : Int32) : okI Inv (fX7_lodge u0) (fX8_lodge u0) := by
  rintro m ⟨v, hV⟩
  have ho := hV.1.2.2.1
  have hb := ho.1
  have c := IV_c hV
  have d := IV_m hV
  obtain ⟨mb, eb, b1, b2⟩ := fX3_arrange_eq hV.1.1 ho
  have FR1 : FR m mb := FR_sm b1 (by decide)
  have HB := HO_fr (IV_HO hV) FR1 (by decide)
  obtain ⟨hLB, hne⟩ := LB_eq (v := v) hb.2.1
  have h256 := p4_lt (v 1) hb.2.1
  -- the reference up to its answer
  have R8 : ∃ m' cd, vdS (v 1) cd = true ∧ (LB v).2.2 = dgL (v 1) cd ∧ HO m' 175 0 (pfS v (dgL (v 1) cd)) ∧ FR mb m' ∧ jX8_lodge_31 u0 mb = (if u0 = (0 : Int32) then some (some (.int (nI (LB v).1 - 1)), m') else if u0 = (1 : Int32) then some (some (.int (nI (LB v).2.1)), m') else ga (((195 : Int32) + ((3 : Int32) * (u0 - (10 : Int32)))) + (2 : Int32)) 210 (some (some (.int (m'.1 82 ((((195 : Int32) + ((3 : Int32) * (u0 - (10 : Int32)))) + (2 : Int32))).toNatClampNeg)), m'))) := by
    obtain ⟨mc, ec, c1, c2, c3⟩ := cp8 (P := 175) HB (by decide) (by decide)
    have ec' : fX8_copies (0 : Int32) (175 : Int32) mb = some (none, mc) := ec
    have Fc : FR mb mc := FR_pg c2 (by decide) c3 (by decide)
    have hLc : LPg mc v := ⟨HO_fr HB Fc (by decide), v, c1.1, fun _ _ => rfl⟩
    have L72 := lp_rel0 (body := bX8_lodge_72 u0 (nI (4 ^ v 1))) (fun k s => LQ v k s mb) (4 ^ v 1) (fun r => ∃ m' cd, vdS (v 1) cd = true ∧ (LB v).2.2 = dgL (v 1) cd ∧ HO m' 175 0 (pfS v (dgL (v 1) cd)) ∧ FR mb m' ∧ r = (if u0 = (0 : Int32) then some (some (.int (nI (LB v).1 - 1)), m') else if u0 = (1 : Int32) then some (some (.int (nI (LB v).2.1)), m') else ga (((195 : Int32) + ((3 : Int32) * (u0 - (10 : Int32)))) + (2 : Int32)) 210 (some (some (.int (m'.1 82 ((((195 : Int32) + ((3 : Int32) * (u0 - (10 : Int32)))) + (2 : Int32))).toNatClampNeg)), m')))) ((-1 : Int32), (0 : Int32), (0 : Int32), (0 : Int32), mc) (by omega) ⟨mc, 0, rfl, by decide, fun z => absurd rfl z, Nat.zero_le 5, Nat.zero_le 40, hLc, Fc⟩ (fun s k => ?_) (fun i s hi => ?_)
    · obtain ⟨m', cd, r1, r2, r3, r4, r5⟩ := L72
      refine ⟨m', cd, r1, r2, r3, r4, ?_⟩
      rw [← r5]
      unfold jX8_lodge_31
      refine lp_0 (fun i => (nI (4 ^ i), nI i, mb)) (v 1) _ (by omega) (fun k => ?_) (fun i hi k => ?_)
      · unfold bX8_lodge_35
        dsimp only
        rw [HB.1.1.2.1, if_pos (nI_le (Nat.le_refl _) (by omega)), ec']
        rfl
      · unfold bX8_lodge_35
        dsimp only [li]
        rw [HB.1.1.2.1, if_neg (nI_ge hi (by omega)), show nI (4 ^ i) * (4 : Int32) = nI (4 ^ i * 4) from nI_mul _ 4, show nI i + 1 = nI (i + 1) from nI_1 _]
        rfl
    · rintro ⟨m', cd, rfl, q1, q2, q3, q4, q5, q6⟩
      rw [hLB] at q2 q3 q4 ⊢
      obtain ⟨q7, q8⟩ := q2 hne
      obtain ⟨m2, e, x1, x2, x3, x4⟩ := lf_eq q1 q5
      unfold bX8_lodge_72
      dsimp only
      rw [if_pos (nI_le (Nat.le_refl _) (by omega)), e]
      exact ⟨m2, cd, q7, q8, x4 q7, q6.tr (FR_pg x2 (by decide) x3 (by decide)), rfl⟩
    · rintro ⟨m', cd, rfl, q1, q2, q3, q4, q5, q6⟩
      obtain ⟨m2, e, x1, x2, x3, x4⟩ := lf_eq (c := i) (by omega) q5
      have F2 : FR mb m2 := q6.tr (FR_pg x2 (by decide) x3 (by decide))
      cases hv : vdS (v 1) i
      · rw [hv] at e
        have hs := lbS_s v i
        rw [hv] at hs
        have hs' : lbS v (i + 1) = lbS v i := hs
        refine ⟨(nI (lbS v i).1 - 1, nI (lbS v i).2.1, nI cd, nI (i + 1), m2), ⟨m2, cd, by rw [hs'], q1, by rw [hs']; exact q2, by rw [hs']; exact q3, by rw [hs']; exact q4, x1, F2⟩, fun k => ?_⟩
        unfold bX8_lodge_72
        dsimp only [li]
        rw [if_neg (nI_ge hi (by omega)), e]
        dsimp only [bI]
        rw [show (if false = true then (1 : Int32) else 0) = 0 from rfl, if_pos rfl, show nI i + 1 = nI (i + 1) from nI_1 _]
      · rw [hv] at e
        obtain ⟨u, hu, hk⟩ := ld_in (X1 := u0) (X2 := nI (4 ^ v 1)) (x4 hv) x1 F2 ho hv (by omega) q1 q2 q3 q4
        refine ⟨u, hu, fun k => ?_⟩
        unfold bX8_lodge_72
        dsimp only [li]
        rw [if_neg (nI_ge hi (by omega)), e]
        dsimp only [bI]
        rw [show (if true = true then (1 : Int32) else 0) = 1 from rfl, if_neg (by decide)]
        exact hk k
  obtain ⟨md, cd, r1, r2, r3, r4, r5⟩ := R8
  have hI : Inv md := ⟨v, IV_FR hV (FR1.tr r4)⟩
  have hdig : ∀ k, k < v 1 → (dgL (v 1) cd).getD k 0 < v 1 := fun k hk => by
    rw [dgL_at hk]
    exact lfG_true (v 1) cd (v 1) r1 _ (by omega)
  have in1 : ∀ x : Int32, fX8_in u0.toInt64 (10 : Int64) (((9 : Int32) + nI (v 1))).toInt64 mb = some (some (.int (if (10 : Int32) ≤ u0 ∧ u0 ≤ (9 : Int32) + nI (v 1) then 1 else 0)), mb) := fun _ => fX8_in_eq u0 10 _ mb
  rcases rng_cases u0 0 1 (a := 0) (b := 1) (A := 0) (B := 1) rfl rfl rfl rfl (by decide) (by decide) with ⟨n, -, hn, hu, f7, f8⟩ | ⟨f7, f8⟩
  · have main : ∀ r : Int32, (u0 = 0 ∧ r = nI (LB v).1 - 1) ∨ (u0 = 1 ∧ r = nI (LB v).2.1) → ∃ r μ1 μ2, fX7_lodge u0 m = some (some (.int r), μ1) ∧ fX8_lodge u0 μ1 = some (some (.int r), μ2) ∧ Inv μ2 := fun r hr => by
      refine ⟨r, mb, md, ?_, ?_, hI⟩
      · unfold fX7_lodge jX7_lodge_24
        dsimp only [li]
        rw [f7]
        dsimp only [bI]
        rw [if_neg (by decide), eb]
        dsimp only [bV]
        rw [b2.1, b2.2.1]
        rcases hr with ⟨h1, h2⟩ | ⟨h1, h2⟩
        · rw [if_pos h1, h2]
        · rw [if_neg (by rw [h1]; decide), if_pos h1, h2]
      · unfold fX8_lodge
        rw [f8]
        dsimp only [bI]
        rw [if_neg (by decide), r5]
        rcases hr with ⟨h1, h2⟩ | ⟨h1, h2⟩
        · rw [if_pos h1, h2]
        · rw [if_neg (by rw [h1]; decide), if_pos h1, h2]
    have : n = 0 ∨ n = 1 := by omega
    rcases this with rfl | rfl
    · exact main _ (Or.inl ⟨hu, rfl⟩)
    · exact main _ (Or.inr ⟨hu, rfl⟩)
  · rcases off_cases u0 (n := v 1) (by omega) with ⟨i, hi, e1, e2, e3, e4⟩ | ⟨e3, e4⟩
    · have q0 : ¬ u0 = 0 := fun q => by rw [q] at e4; exact absurd e4.1 (by decide)
      have q1 : ¬ u0 = 1 := fun q => by rw [q] at e4; exact absurd e4.1 (by decide)
      have hd := hdig i hi
      have h58 : mb.1 58 i = nI ((dgL (v 1) cd).getD i 0) := by rw [b2.2.2.1 hne i hi, r2]
      have h7 : mb.1 7 ((dgL (v 1) cd).getD i 0) = nI (v (52 + (dgL (v 1) cd).getD i 0)) := by
        rw [FR1.1 7 (by decide)]
        exact (hV.1.1.2.2 _ hd).2.2.2
      refine ⟨nI (v (52 + (dgL (v 1) cd).getD i 0)), mb, md, ?_, ?_, hI⟩
      · unfold fX7_lodge fX7_isLodger jX7_lodge_24
        dsimp only [li]
        rw [f7]
        dsimp only [bI]
        rw [if_pos rfl, c.1.2.1, wi_eq, if_pos e3]
        dsimp only
        rw [gb_1]
        dsimp only
        rw [if_neg (by decide), eb]
        dsimp only [bV]
        rw [if_neg q0, if_neg q1, e2, ga_nI (by omega) (by decide), nI_tn (by omega), h58, ga_nI (by omega) (by decide), nI_tn (by omega), h7]
      · unfold fX8_lodge
        rw [f8]
        dsimp only [bI]
        have hf := (r3.1.2.2 i (by rw [pfS_o (by omega)]; exact hi)).2.2.2
        rw [pfS_f hi] at hf
        rw [if_pos rfl, HB.1.1.2.1, in1 0, if_pos e4]
        dsimp only
        rw [if_neg (by decide), r5, if_neg q0, if_neg q1, e2, i195, ga_nI (by omega) (by decide), nI_tn (by omega), show 175 + (20 + 3 * i + 2) = 175 + 20 + 3 * i + 2 by omega, hf]
    · refine ⟨-1, m, m, ?_, ?_, ⟨v, hV⟩⟩
      · unfold fX7_lodge fX7_isLodger
        dsimp only [li]
        rw [f7]
        dsimp only [bI]
        rw [if_pos rfl, c.1.2.1, wi_eq, if_neg e3]
        rfl
      · unfold fX8_lodge
        rw [f8]
        dsimp only [bI]
        rw [if_pos rfl, d.1.2.1, show (10 : Int64) = (10 : Int32).toInt64 from rfl, fX8_in_eq, if_neg e4]
        rfl
