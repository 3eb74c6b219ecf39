/-! PURE FACTS: a line of the reference -/
def R8 (m : mMem) (b : Nat → Nat) (L p : Nat) (u : Nat → Nat) (g h : Bool) : Prop := TB8 m b L ∧ NM8 m ∧ TS8 m b L p ∧ tkK b L p ≠ 4 ∧ (∃ w, m.1 81 11 = nI w ∧ w < 128 ∧ w.testBit 5 = g ∧ w.testBit 6 = h) ∧ HS8 m u ∧ OKT u
theorem HS8_fr {m m' : mMem} {u : Nat → Nat} (h : HS8 m u) (e9 : m'.1 81 9 = m.1 81 9) (e10 : m'.1 81 10 = m.1 81 10) (e12 : m'.1 81 12 = m.1 81 12) (e85 : m'.1 85 = m.1 85) (e86 : m'.1 86 = m.1 86) (e87 : m'.1 87 = m.1 87) : HS8 m' u := by
  unfold HS8
  rw [e9, e10, e12, e85, e86, e87]
  exact h
theorem in06 (z : Int32) (m : mMem) : fX8_in z.toInt64 (0 : Int64) (6 : Int64) m = some (some (.int (if (0 : Int32) ≤ z ∧ z ≤ (6 : Int32) then 1 else 0)), m) := fX8_in_eq z 0 6 m
theorem j77_bad {m : mMem} {x : Int32} {c a : Nat} (hc : c ≤ 9) (h0 : c ≠ 0) (h : m.1 81 16 = nI c) (h17 : m.1 81 17 = nI a) : ∃ m', jX8_readLine_77 x m = some (none, m') ∧ K8 m m' ∧ m'.1 81 16 = nI c ∧ m'.1 81 17 = nI a := by
  obtain ⟨m1, hm1⟩ : ∃ m1, m1 = si m 81 11 ((m.1 81 11) ||| ((1 : Int32) <<< (x &&& 31))) := ⟨_, rfl⟩
  have q16 : m1.1 81 16 = nI c := by rw [hm1, si_ne _ _ (Or.inr (by decide))]; exact h
  have q17 : m1.1 81 17 = nI a := by rw [hm1, si_ne _ _ (Or.inr (by decide))]; exact h17
  refine ⟨m1, ?_, by rw [hm1]; exact K8_sx (SWx_si (S := [11]) (by simp)) (by decide), q16, q17⟩
  unfold jX8_readLine_77
  dsimp only [lt]
  rw [← hm1, go_bad hc h0 q16]
  dsimp only [bV]
  rw [q16, if_neg (show ¬ nI c ≤ (0 : Int32) from nI_ge (a := 0) (by omega) (by omega))]
theorem j126_bad {m : mMem} {c : Nat} (hc : c ≤ 9) (h0 : c ≠ 0) (h : m.1 81 16 = nI c) : jX8_readLine_126 m = some (none, m) := by
  unfold jX8_readLine_126
  rw [go_bad hc h0 h]
  rfl
theorem nb_first {b : Nat → Nat} {L ln p : Nat} (hln : ln < 7) (k4 : tkK b L p = 4) : (nbR b L ln (nuN ln) 0 (0, 0, p)).1 = (1, tkA b L p, p) := by
  obtain ⟨-, -, n3⟩ := tb_nu ln hln
  obtain ⟨r, hr⟩ : ∃ r, nuN ln = r + 1 := ⟨nuN ln - 1, by omega⟩
  rw [hr]
  show (nbR b L ln r 1 (nb1 b L (loN ln 0) (hiN ln 0) (0, 0, p)).1).1 = _
  have e : nb1 b L (loN ln 0) (hiN ln 0) (0, 0, p) = ((1, tkA b L p, p), loN ln 0) := by
    unfold nb1
    rw [if_neg (by simp)]
    exact if_pos k4
  rw [e]
  exact nbR_bad r 1 _ (by decide : (1 : Nat) ≠ 0)
theorem told_bit {w ln : Nat} (hw : w < 128) (hln : ln < 7) : w ||| 2 ^ ln < 128 ∧ (w ||| 2 ^ ln).testBit 5 = (w.testBit 5 || ln == 5) ∧ (w ||| 2 ^ ln).testBit 6 = (w.testBit 6 || ln == 6) := by
  have hp : ∀ ln, ln < 7 → 2 ^ ln < 2 ^ 7 ∧ (2 ^ ln).testBit 5 = (ln == 5) ∧ (2 ^ ln).testBit 6 = (ln == 6) := by decide
  obtain ⟨h1, h2, h3⟩ := hp ln hln
  exact ⟨Nat.or_lt_two_pow (n := 7) hw h1, by rw [Nat.testBit_or, h2], by rw [Nat.testBit_or, h3]⟩
theorem j77_ok {m : mMem} {b : Nat → Nat} {L p : Nat} {u : Nat → Nat} {g h : Bool} (hL : L ≤ 160) (hp : p ≤ L) (hR : R8 m b L p u g h) (hln : lnF b L p < 7) (ht : tmF u g h (lnF b L p) = 0) : ∃ m', jX8_readLine_77 (nI (lnF b L p)) m = some (none, m') ∧ K8 m m' ∧ ((lnR b L p u g h).1.1 = 0 → R8 m' b L (lnR b L p u g h).1.2.2 (upU u (lnF b L p) (lnR b L p u g h).2) (g || lnF b L p == 5) (h || lnF b L p == 6)) ∧ ((lnR b L p u g h).1.1 ≠ 0 → (lnR b L p u g h).1.1 ≤ 9 ∧ m'.1 81 16 = nI (lnR b L p u g h).1.1 ∧ m'.1 81 17 = nI (lnR b L p u g h).1.2.1) := by
  obtain ⟨hT, hNM, hTS, hK4, ⟨w, w1, w2, w3, w4⟩, hS, hO⟩ := hR
  obtain ⟨te1, te2, -⟩ := tkE_s (b := b) hp
  have hRt : m.1 81 16 = 0 ∧ m.1 81 18 = nI (tkE b L p) := by
    rcases hTS with ⟨z, -⟩ | ⟨-, z1, z2, -⟩
    · exact absurd z hK4
    · exact ⟨z1, z2⟩
  have hlR : lnR b L p u g h = (nxF b L (clF b L (nbR b L (lnF b L p) (nuN (lnF b L p)) 0 (0, 0, tkE b L p)).1), (nbR b L (lnF b L p) (nuN (lnF b L p)) 0 (0, 0, tkE b L p)).2) := by
    unfold lnR
    rw [if_neg (by omega), if_neg (by simp [ht])]
  rw [hlR]
  generalize lnF b L p = ln at *
  obtain ⟨t0, t1⟩ := tm_0 ht
  obtain ⟨m9, hm9⟩ : ∃ m9, m9 = si m 81 11 (nI (w ||| 2 ^ ln)) := ⟨_, rfl⟩
  have x9 : SWx 81 [11] m m9 := by rw [hm9]; exact SWx_si (by simp)
  have k9 : K8 m m9 := K8_sx x9 (by decide)
  obtain ⟨m10, e10, x10, t10⟩ := go_ok (m := m9) hL te2 (TB8_k hT k9) (by rw [x9.2 18 (by decide)]; exact hRt.2) (by rw [x9.2 16 (by decide)]; exact hRt.1)
  have k10 : K8 m m10 := k9.tr (K8_sx x10 (by decide))
  obtain ⟨o9, o10, o12, o11, o85, o86, o87⟩ := slo8 x10
  have w10 : m10.1 81 11 = nI (w ||| 2 ^ ln) := by rw [o11, hm9, si_same]
  have hS10 : HS8 m10 u := HS8_fr hS (by rw [o9, x9.2 9 (by decide)]) (by rw [o10, x9.2 10 (by decide)]) (by rw [o12, x9.2 12 (by decide)]) (by rw [o85, x9.1 85 (by decide)]) (by rw [o86, x9.1 86 (by decide)]) (by rw [o87, x9.1 87 (by decide)])
  have head : ∀ r, (if (m10.1 81 16) ≤ (0 : Int32) then bV (fX8_readMore (nI ln) m10) (fun m11 => if (m11.1 81 16) = (0 : Int32) then if (m11.1 81 20) = (3 : Int32) then jX8_readLine_126 m11 else bV (fX8_fails (2 : Int32) m11) (fun m13 => jX8_readLine_126 m13) else jX8_readLine_126 m11) else some (none, m10)) = r → jX8_readLine_77 (nI ln) m = r := fun r hr => by
    unfold jX8_readLine_77
    dsimp only [lt]
    rw [w1, nI_shl1 ln (by omega), nI_or, ← hm9, e10]
    exact hr
  by_cases k4 : tkK b L (tkE b L p) = 4
  · have hz : m10.1 81 16 = 1 ∧ m10.1 81 17 = nI (tkA b L (tkE b L p)) := by
      rcases t10 with ⟨-, z1, z2⟩ | ⟨z, -⟩
      · exact ⟨z1, z2⟩
      · exact absurd k4 z
    rw [nb_first hln k4, show clF b L (1, tkA b L (tkE b L p), tkE b L p) = (1, tkA b L (tkE b L p), tkE b L p) from if_pos (by decide : (1 : Nat) ≠ 0), show nxF b L (1, tkA b L (tkE b L p), tkE b L p) = (1, tkA b L (tkE b L p), tkE b L p) from if_pos (by decide : (1 : Nat) ≠ 0)]
    refine ⟨m10, head _ (by rw [hz.1, if_neg (by decide)]), k10, fun z => absurd z (by decide : (1 : Nat) ≠ 0), fun _ => ⟨(by decide : 1 ≤ 9), hz.1, hz.2⟩⟩
  · have hz16 : m10.1 81 16 = 0 := by
      rcases t10 with ⟨z, -⟩ | ⟨-, z1, -⟩
      · exact absurd z k4
      · exact z1
    obtain ⟨m11, e11, k11, v11, N11, H11⟩ := rm8 (m := m10) (ln := ln) hL hln te2 (TB8_k hT k10) (Or.inl ⟨rfl, t10⟩) hS10 hO t0 t1
    have hin := nbR_in (b := b) (L := L) (ln := ln) (nuN ln) 0 (0, 0, tkE b L p)
    have hpos := nbR_pos (b := b) (L := L) (ln := ln) (nuN ln) 0 (0, 0, tkE b L p) te2
    generalize nbR b L ln (nuN ln) 0 (0, 0, tkE b L p) = Q at *
    obtain ⟨⟨qc, qa, qp⟩, vs⟩ := Q
    dsimp only at N11 H11 hin hpos ⊢
    have kk : K8 m m11 := k10.tr k11
    have head2 : ∀ r, (if (m11.1 81 16) = (0 : Int32) then if (m11.1 81 20) = (3 : Int32) then jX8_readLine_126 m11 else bV (fX8_fails (2 : Int32) m11) (fun m13 => jX8_readLine_126 m13) else jX8_readLine_126 m11) = r → jX8_readLine_77 (nI ln) m = r := fun r hr => head r (by
      rw [hz16, if_pos (by decide), e11]
      exact hr)
    have faulted : ∀ c a, c ≤ 9 → c ≠ 0 → m11.1 81 16 = nI c → m11.1 81 17 = nI a → nxF b L (clF b L (qc, qa, qp)) = (c, a, qp) → ∃ m', jX8_readLine_77 (nI ln) m = some (none, m') ∧ K8 m m' ∧ ((nxF b L (clF b L (qc, qa, qp))).1 = 0 → R8 m' b L (nxF b L (clF b L (qc, qa, qp))).2.2 (upU u ln vs) (g || ln == 5) (h || ln == 6)) ∧ ((nxF b L (clF b L (qc, qa, qp))).1 ≠ 0 → (nxF b L (clF b L (qc, qa, qp))).1 ≤ 9 ∧ m'.1 81 16 = nI (nxF b L (clF b L (qc, qa, qp))).1 ∧ m'.1 81 17 = nI (nxF b L (clF b L (qc, qa, qp))).2.1) := fun c a hc hc0 h16 h17 hr => by
      rw [hr]
      refine ⟨m11, head2 _ ?_, kk, fun z => absurd z hc0, fun _ => ⟨hc, h16, h17⟩⟩
      rw [if_neg (by rw [h16]; exact c_ne c hc hc0), j126_bad hc hc0 h16]
    rcases N11 with ⟨q0, hT11⟩ | ⟨q0, q1, q2, q3⟩
    · have hq0 : qc = 0 := q0
      subst hq0
      have hcl : clF b L (0, qa, qp) = if tkK b L qp = 4 then (1, tkA b L qp, qp) else if tkK b L qp ≠ 3 then (2, tkA b L qp, qp) else (0, 0, tkE b L qp) := by
        unfold clF
        rw [if_neg (by simp)]
      rcases hT11 with ⟨y4, z1, z2⟩ | ⟨y4, z16, z18, z19, z20, -⟩
      · refine faulted 1 (tkA b L qp) (by decide) (by decide) z1 z2 ?_
        rw [hcl, if_pos y4]
        exact if_pos (by decide : (1 : Nat) ≠ 0)
      · dsimp only at y4 z16 z18 z19 z20
        have hkl := tkK_le b L qp
        by_cases k3 : tkK b L qp = 3
        · obtain ⟨ue1, ue2, -⟩ := tkE_s (b := b) (p := qp) hpos.1
          obtain ⟨m12, e12, x12, t12⟩ := go_ok (m := m11) hL ue2 (TB8_k hT kk) z18 z16
          have k12 : K8 m m12 := kk.tr (K8_sx x12 (by decide))
          have run : jX8_readLine_77 (nI ln) m = some (none, m12) := head2 _ (by
            rw [z16, if_pos rfl, z20, k3, if_pos (show nI 3 = (3 : Int32) from rfl)]
            unfold jX8_readLine_126
            rw [e12]
            rfl)
          have hnx : nxF b L (clF b L (0, qa, qp)) = if tkK b L (tkE b L qp) = 4 then (1, tkA b L (tkE b L qp), tkE b L qp) else (0, 0, tkE b L qp) := by
            rw [hcl, if_neg y4, if_neg (show ¬ (tkK b L qp ≠ 3) from fun z => z k3)]
            unfold nxF
            rw [if_neg (by simp)]
          rw [hnx]
          by_cases kk4 : tkK b L (tkE b L qp) = 4
          · rw [if_pos kk4]
            have hz : m12.1 81 16 = 1 ∧ m12.1 81 17 = nI (tkA b L (tkE b L qp)) := by
              rcases t12 with ⟨-, z1, z2⟩ | ⟨z, -⟩
              · exact ⟨z1, z2⟩
              · exact absurd kk4 z
            exact ⟨m12, run, k12, fun z => absurd z (by decide : (1 : Nat) ≠ 0), fun _ => ⟨(by decide : 1 ≤ 9), hz.1, hz.2⟩⟩
          · rw [if_neg kk4]
            obtain ⟨r9, r10, r12, r11, r85, r86, r87⟩ := slo8 x12
            obtain ⟨b1, b2, b3⟩ := told_bit w2 hln
            refine ⟨m12, run, k12, fun _ => ⟨TB8_k hT k12, NM8_k hNM k12, t12, kk4, ⟨w ||| 2 ^ ln, by rw [r11, v11]; exact w10, b1, by rw [b2, w3], by rw [b3, w4]⟩, HS8_fr (H11 rfl) r9 r10 r12 r85 r86 r87, up_OK hO hln t0 t1 (fun j hj => by have := (hin rfl).2 j hj; rw [Nat.zero_add] at this; exact this)⟩, fun z => absurd rfl z⟩
        · obtain ⟨m12, r1, r2, r3, r4⟩ := fl_ok (c := 2) z16 z19
          have r1' : fX8_fails (2 : Int32) m11 = some (none, m12) := r1
          have hnx : nxF b L (clF b L (0, qa, qp)) = (2, tkA b L qp, qp) := by
            rw [hcl, if_neg y4, if_pos (show tkK b L qp ≠ 3 from k3)]
            exact if_pos (by decide : (2 : Nat) ≠ 0)
          rw [hnx]
          refine ⟨m12, head2 _ ?_, kk.tr (K8_sx r2 (by decide)), fun z => absurd z (by decide : (2 : Nat) ≠ 0), fun _ => ⟨(by decide : 2 ≤ 9), r3, r4⟩⟩
          rw [z16, if_pos rfl, z20, if_neg (show ¬ nI (tkK b L qp) = (3 : Int32) by rw [show (3 : Int32) = nI 3 from rfl, nI_eq (by omega) (by decide)]; exact k3), r1']
          exact j126_bad (c := 2) (by decide) (by decide) r3
    · refine faulted qc qa q1 q0 q2 q3 ?_
      rw [show clF b L (qc, qa, qp) = (qc, qa, qp) from if_pos q0]
      exact if_pos q0
theorem rl8 {m : mMem} {b : Nat → Nat} {L p : Nat} {u : Nat → Nat} {g h : Bool} (hL : L ≤ 160) (hp : p ≤ L) (hR : R8 m b L p u g h) : ∃ m', fX8_readLine m = some (none, m') ∧ K8 m m' ∧ ((lnR b L p u g h).1.1 = 0 → R8 m' b L (lnR b L p u g h).1.2.2 (upU u (lnF b L p) (lnR b L p u g h).2) (g || lnF b L p == 5) (h || lnF b L p == 6)) ∧ ((lnR b L p u g h).1.1 ≠ 0 → (lnR b L p u g h).1.1 ≤ 9 ∧ m'.1 81 16 = nI (lnR b L p u g h).1.1 ∧ m'.1 81 17 = nI (lnR b L p u g h).1.2.1) := by
  have hR' := hR
  obtain ⟨hT, hNM, hTS, hK4, ⟨w, w1, w2, w3, w4⟩, hS, hO⟩ := hR
  obtain ⟨te1, te2, -⟩ := tkE_s (b := b) hp
  obtain ⟨z16, z18, z19, z20⟩ : m.1 81 16 = 0 ∧ m.1 81 18 = nI (tkE b L p) ∧ m.1 81 19 = nI (tkA b L p) ∧ m.1 81 20 = nI (tkK b L p) := by
    rcases hTS with ⟨z, -⟩ | ⟨-, z1, z2, z3, z4, -⟩
    · exact absurd z hK4
    · exact ⟨z1, z2, z3, z4⟩
  have hKle := tkK_le b L p
  have hname : fX8_nameHere m = some (some (.int (if lnF b L p = 7 then -4 else nI (lnF b L p))), m) := by
    unfold lnF
    by_cases k1 : tkK b L p = 1
    · rw [if_pos k1]
      exact name8 hL te1 te2 hT hNM z18 z19 (by rw [z20, k1]; rfl)
    · rw [if_neg k1, if_pos rfl]
      exact name8_no (by rw [z20, show (1 : Int32) = nI 1 from rfl, nI_eq (by omega) (by decide)]; exact k1)
  have hln7 := lnF_le b L p
  have hS' := hS
  obtain ⟨⟨s9, s10, s12, -, -, -⟩, -, -⟩ := hS'
  by_cases hln : lnF b L p < 7
  · -- the fault of one too many
    have tooMany : ∀ c, tmF u g h (lnF b L p) = c → c ≠ 0 → ∃ m', bV (fX8_fails (nI c) m) (fun m14 => jX8_readLine_77 (nI (lnF b L p)) m14) = some (none, m') ∧ K8 m m' ∧ ((lnR b L p u g h).1.1 = 0 → R8 m' b L (lnR b L p u g h).1.2.2 (upU u (lnF b L p) (lnR b L p u g h).2) (g || lnF b L p == 5) (h || lnF b L p == 6)) ∧ ((lnR b L p u g h).1.1 ≠ 0 → (lnR b L p u g h).1.1 ≤ 9 ∧ m'.1 81 16 = nI (lnR b L p u g h).1.1 ∧ m'.1 81 17 = nI (lnR b L p u g h).1.2.1) := fun c hc hc0 => by
      have hc5 : c ≤ 5 := by rw [← hc]; exact tm_le _ _ _ _
      obtain ⟨m2, r1, r2, r3, r4⟩ := fl_ok (c := c) z16 z19
      obtain ⟨m3, e3, k3, q16, q17⟩ := j77_bad (x := nI (lnF b L p)) (by omega) hc0 r3 r4
      have hlr : (lnR b L p u g h).1 = (c, tkA b L p, p) := by
        unfold lnR
        rw [if_neg (by omega), hc, if_pos hc0]
      rw [hlr, r1]
      exact ⟨m3, e3, (K8_sx r2 (by decide)).tr k3, fun z => absurd z hc0, fun _ => ⟨by show c ≤ 9; omega, q16, q17⟩⟩
    have ok77 := fun ht => j77_ok hL hp hR' hln ht
    have hb := hO.1
    unfold fX8_readLine
    rw [hname]
    dsimp only [bI]
    rw [if_neg (show ¬ lnF b L p = 7 by omega), in06]
    dsimp only
    rw [if_pos (show (0 : Int32) ≤ nI (lnF b L p) ∧ nI (lnF b L p) ≤ (6 : Int32) from ⟨nI_pos' (by omega), nI_le (b := 6) (by omega) (by decide)⟩), if_neg (by decide), s9]
    generalize lnF b L p = ln at *
    by_cases c4 : ln < 4
    · rw [if_neg (show ¬ (3 : Int32) < nI ln from nI_nlt (a := 3) (by omega) (by decide))]
      by_cases c10 : u 0 = 10
      · rw [if_pos (show nI (u 0) = (10 : Int32) by rw [c10]; rfl)]
        have ht : tmF u g h ln = 5 := by unfold tmF; rw [if_neg (by omega), if_pos (by omega)]
        unfold jX8_readLine_50 jX8_readLine_55
        simp only [if_pos (show nI ln < (5 : Int32) from nI_lt (b := 5) (by omega) (by decide))]
        exact tooMany 5 ht (by decide)
      · rw [if_neg (show ¬ nI (u 0) = (10 : Int32) by rw [show (10 : Int32) = nI 10 from rfl, nI_eq (by omega) (by decide)]; exact c10)]
        have ht : tmF u g h ln = 0 := by unfold tmF; rw [if_neg (by omega), if_neg (by omega)]
        unfold jX8_readLine_37 jX8_readLine_55
        rw [if_neg (show ¬ nI ln = (4 : Int32) by rw [show (4 : Int32) = nI 4 from rfl, nI_eq (by omega) (by decide)]; omega), if_pos (show nI ln < (5 : Int32) from nI_lt (b := 5) (by omega) (by decide))]
        exact ok77 ht
    · rw [if_pos (show (3 : Int32) < nI ln from nI_lt (a := 3) (by omega) (by omega))]
      unfold jX8_readLine_37
      by_cases c5 : ln = 4
      · rw [if_pos (show nI ln = (4 : Int32) by rw [c5]; rfl), s10]
        by_cases c10 : u 1 = 4
        · rw [if_pos (show nI (u 1) = (4 : Int32) by rw [c10]; rfl)]
          have ht : tmF u g h ln = 5 := by unfold tmF; rw [if_neg (by omega), if_pos (by omega)]
          unfold jX8_readLine_50 jX8_readLine_55
          simp only [if_pos (show nI ln < (5 : Int32) from nI_lt (b := 5) (by omega) (by decide))]
          exact tooMany 5 ht (by decide)
        · rw [if_neg (show ¬ nI (u 1) = (4 : Int32) by rw [show (4 : Int32) = nI 4 from rfl, nI_eq (by omega) (by decide)]; exact c10)]
          have ht : tmF u g h ln = 0 := by unfold tmF; rw [if_neg (by omega), if_neg (by omega)]
          unfold jX8_readLine_55
          rw [if_pos (show nI ln < (5 : Int32) from nI_lt (b := 5) (by omega) (by decide))]
          exact ok77 ht
      · rw [if_neg (show ¬ nI ln = (4 : Int32) by rw [show (4 : Int32) = nI 4 from rfl, nI_eq (by omega) (by decide)]; exact c5)]
        unfold jX8_readLine_55
        rw [if_neg (show ¬ nI ln < (5 : Int32) from nI_nlt (b := 5) (by omega) (by omega)), w1]
        have hbit : w.testBit ln = if ln = 5 then g else h := by
          by_cases q : ln = 5
          · rw [if_pos q, q, w3]
          · rw [if_neg q, show ln = 6 by omega, w4]
        by_cases hq : w.testBit ln = true
        · rw [if_pos ((bit1 (by omega) (by omega)).mpr hq)]
          have ht : tmF u g h ln = 4 := by
            unfold tmF
            rw [if_pos]
            rw [hbit] at hq
            by_cases q : ln = 5
            · rw [if_pos q] at hq; exact Or.inl ⟨q, hq⟩
            · rw [if_neg q] at hq; exact Or.inr ⟨by omega, hq⟩
          exact tooMany 4 ht (by decide)
        · rw [if_neg (fun z => hq ((bit1 (by omega) (by omega)).mp z))]
          have ht : tmF u g h ln = 0 := by
            unfold tmF
            rw [if_neg, if_neg (by omega)]
            rintro (⟨q1, q2⟩ | ⟨q1, q2⟩)
            · rw [hbit, if_pos q1] at hq; exact hq q2
            · rw [hbit, if_neg (by omega)] at hq; exact hq q2
          exact ok77 ht
  · have h7 : lnF b L p = 7 := by omega
    obtain ⟨m2, r1, r2, r3, r4⟩ := fl_ok (c := 2) z16 z19
    have r1' : fX8_fails (2 : Int32) m = some (none, m2) := r1
    have hlr : (lnR b L p u g h).1 = (2, tkA b L p, p) := by
      unfold lnR
      rw [if_pos h7]
    rw [hlr]
    refine ⟨m2, ?_, K8_sx r2 (by decide), fun z => absurd z (by decide : (2 : Nat) ≠ 0), fun _ => ⟨(by decide : 2 ≤ 9), r3, r4⟩⟩
    unfold fX8_readLine
    rw [hname, if_pos h7]
    dsimp only [bI]
    rw [in06, if_neg (fun z => absurd z.1 (by decide))]
    dsimp only
    rw [if_pos rfl, r1']
    rfl
