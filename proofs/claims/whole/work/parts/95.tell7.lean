/-! PURE FACTS: the class reads the tape -/
def G7 (m m' : mMem) : Prop := ∀ z, z ∉ [8, 9, 10, 11, 12, 13, 14, 15, 49, 51] → m'.1 z = m.1 z
theorem G7.tr {m1 m2 m3 : mMem} (h1 : G7 m1 m2) (h2 : G7 m2 m3) : G7 m1 m3 := fun z hz => (h2 z hz).trans (h1 z hz)
theorem F7.g {m m' : mMem} (h : F7 m m') : G7 m m' := fun z hz => h.1 z (fun e => hz (by simp [e])) (fun e => hz (by simp [e]))
theorem T7.g {m m' : mMem} (h : T7 m m') : G7 m m' := fun z hz => h.1 z (fun e => hz (by simp at e; simp [e]; omega))
def C7 (m : mMem) (b : Nat → Nat) (L p : Nat) (u : Nat → Nat) (g h : Bool) : Prop := TB7 m b L ∧ m.1 49 1 = 0 ∧ m.1 49 5 = nI (tkE b L p) ∧ m.1 49 6 = nI (if tkK b L p = 0 then 4 else tkK b L p) ∧ m.1 49 7 = nI (tkA b L p) ∧ m.1 49 8 = bF g ∧ m.1 49 9 = bF h ∧ HC m 8 u ∧ OKT u
theorem tts_bad {m : mMem} (h : ¬ m.1 49 1 = 0) : fX6_takeTokenIfSound m = some (none, m) := by
  unfold fX6_takeTokenIfSound
  rw [if_neg h]
theorem j102_bad {m : mMem} {x : Int32} (h : ¬ m.1 49 1 = 0) : jX6_takeLine_102 8 x m = some (none, m) := by
  unfold jX6_takeLine_102
  rw [if_neg h]
theorem j74_bad {m : mMem} {x : Int32} (h : ¬ m.1 49 1 = 0) : jX6_takeLine_74 8 x m = some (none, m) := by
  unfold jX6_takeLine_74
  rw [tts_bad h]
  dsimp only [bV]
  rw [if_neg h, j102_bad h]
theorem rom7 {m : mMem} {u : Nat → Nat} {g h : Bool} {ln a : Nat} (hln : ln < 7) (h0 : m.1 8 0 = nI (u 0)) (h1 : m.1 8 1 = nI (u 1)) (b0 : u 0 ≤ 10) (b1 : u 1 ≤ 4) (h7 : m.1 49 7 = nI a) (hg : m.1 49 8 = bF g) (hh : m.1 49 9 = bF h) : fX6_refuseOneTooMany 8 (nI ln) m = if tmF u g h ln = 0 then some (none, m) else bV (fX6_refuse (nI (tmF u g h ln)) (nI a) m) (fun m1 => some (none, m1)) := by
  unfold fX6_refuseOneTooMany jX6_refuseOneTooMany_12 jX6_refuseOneTooMany_25 jX6_refuseOneTooMany_37 jX6_refuseOneTooMany_51 jX6_refuseOneTooMany_64
  rw [hg, hh, h7, h0, h1]
  have hb : ∀ x : Bool, (bF x = (0 : Int32)) ↔ x = false := fun x => by cases x <;> simp [bF]
  have nln : ∀ k, k < 7 → (nI ln = nI k ↔ ln = k) := fun k hk => nI_eq (by omega) (by omega)
  have c5 : (nI ln = (5 : Int32)) ↔ ln = 5 := nln 5 (by decide)
  have c6 : (nI ln = (6 : Int32)) ↔ ln = 6 := nln 6 (by decide)
  have c4 : (nI ln = (4 : Int32)) ↔ ln = 4 := nln 4 (by decide)
  have l4 : ((4 : Int32) ≤ nI ln) ↔ 4 ≤ ln := nI_leI (a := 4) (by decide) (by omega)
  have l10 : ((10 : Int32) ≤ nI (u 0)) ↔ 10 ≤ u 0 := nI_leI (a := 10) (by decide) (by omega)
  have lu1 : (nI (u 1) < (4 : Int32)) ↔ u 1 < 4 := by
    constructor
    · intro z
      rcases Nat.lt_or_ge (u 1) 4 with w | w
      · exact w
      · exact absurd z (nI_nlt (b := 4) w (by omega))
    · intro z
      exact nI_lt (b := 4) z (by decide)
  unfold tmF
  have hcase : ln < 4 ∨ ln = 4 ∨ ln = 5 ∨ ln = 6 := by omega
  rcases hcase with q | q | q | q
  · rw [if_neg (show ¬ nI ln = (5 : Int32) from fun z => by have := c5.mp z; omega), if_neg (show ¬ nI ln = (6 : Int32) from fun z => by have := c6.mp z; omega), if_neg (show ¬ (4 : Int32) ≤ nI ln from fun z => by have := l4.mp z; omega), if_neg (show ¬ nI ln = (4 : Int32) from fun z => by have := c4.mp z; omega), if_neg (show ¬ ((ln = 5 ∧ g = true) ∨ (ln = 6 ∧ h = true)) by omega)]
    by_cases w : 10 ≤ u 0
    · rw [if_pos (l10.mpr w), if_pos (show (ln < 4 ∧ 10 ≤ u 0) ∨ (ln = 4 ∧ 4 ≤ u 1) from Or.inl ⟨q, w⟩), if_neg (by decide)]
      rfl
    · rw [if_neg (fun z => w (l10.mp z)), if_neg (show ¬ ((ln < 4 ∧ 10 ≤ u 0) ∨ (ln = 4 ∧ 4 ≤ u 1)) by omega), if_pos rfl]
  · rw [if_neg (show ¬ nI ln = (5 : Int32) from fun z => by have := c5.mp z; omega), if_neg (show ¬ nI ln = (6 : Int32) from fun z => by have := c6.mp z; omega), if_pos (show (4 : Int32) ≤ nI ln from l4.mpr (by omega)), if_pos (show nI ln = (4 : Int32) from c4.mpr q), if_neg (show ¬ ((ln = 5 ∧ g = true) ∨ (ln = 6 ∧ h = true)) by omega)]
    by_cases w : u 1 < 4
    · rw [if_pos (lu1.mpr w), if_neg (show ¬ ((ln < 4 ∧ 10 ≤ u 0) ∨ (ln = 4 ∧ 4 ≤ u 1)) by omega), if_pos rfl]
    · rw [if_neg (fun z => w (lu1.mp z)), if_pos (show (ln < 4 ∧ 10 ≤ u 0) ∨ (ln = 4 ∧ 4 ≤ u 1) by omega), if_neg (by decide)]
      rfl
  · rw [if_pos (show nI ln = (5 : Int32) from c5.mpr q), if_neg (show ¬ nI ln = (6 : Int32) from fun z => by have := c6.mp z; omega), if_pos (show (4 : Int32) ≤ nI ln from l4.mpr (by omega)), if_neg (show ¬ nI ln = (4 : Int32) from fun z => by have := c4.mp z; omega), if_neg (show ¬ ((ln < 4 ∧ 10 ≤ u 0) ∨ (ln = 4 ∧ 4 ≤ u 1)) by omega)]
    cases g
    · rw [if_pos ((hb false).mpr rfl), if_neg (show ¬ ((ln = 5 ∧ false = true) ∨ (ln = 6 ∧ h = true)) from fun z => by
        rcases z with ⟨-, z⟩ | ⟨z, -⟩
        · cases z
        · omega), if_pos rfl]
    · rw [if_neg (fun z => absurd ((hb true).mp z) (by decide)), if_pos (Or.inl ⟨q, rfl⟩), if_neg (by decide)]
      rfl
  · rw [if_neg (show ¬ nI ln = (5 : Int32) from fun z => by have := c5.mp z; omega), if_pos (show nI ln = (6 : Int32) from c6.mpr q), if_pos (show (4 : Int32) ≤ nI ln from l4.mpr (by omega)), if_neg (show ¬ nI ln = (4 : Int32) from fun z => by have := c4.mp z; omega), if_neg (show ¬ ((ln < 4 ∧ 10 ≤ u 0) ∨ (ln = 4 ∧ 4 ≤ u 1)) by omega)]
    cases h
    · rw [if_pos ((hb false).mpr rfl), if_neg (show ¬ ((ln = 5 ∧ g = true) ∨ (ln = 6 ∧ false = true)) from fun z => by
        rcases z with ⟨z, -⟩ | ⟨-, z⟩
        · omega
        · cases z), if_pos rfl]
    · rw [if_neg (fun z => absurd ((hb true).mp z) (by decide)), if_pos (Or.inr ⟨q, rfl⟩), if_neg (by decide)]
      rfl
theorem tkK_le (b : Nat → Nat) (L p : Nat) : tkK b L p ≤ 4 := by
  have := kdB_le (b (tkA b L p))
  unfold tkK
  repeat' split
  all_goals omega
theorem tm_le (u : Nat → Nat) (g h : Bool) (ln : Nat) : tmF u g h ln ≤ 5 := by
  unfold tmF
  repeat' split
  all_goals omega
theorem tm_0 {u : Nat → Nat} {g h : Bool} {ln : Nat} (hz : tmF u g h ln = 0) : (ln < 4 → u 0 < 10) ∧ (ln = 4 → u 1 < 4) := by
  unfold tmF at hz
  split at hz
  · omega
  · split at hz
    · omega
    · rename_i _ q
      constructor
      · intro z
        rcases Nat.lt_or_ge (u 0) 10 with w | w
        · exact w
        · exact absurd (Or.inl ⟨z, w⟩) q
      · intro z
        rcases Nat.lt_or_ge (u 1) 4 with w | w
        · exact w
        · exact absurd (Or.inr ⟨z, w⟩) q
theorem lnF_le (b : Nat → Nat) (L p : Nat) : lnF b L p ≤ 7 := by
  unfold lnF
  split
  · exact nmF_le _ _ _
  · omega
theorem line7 {m : mMem} {b : Nat → Nat} {L p : Nat} {u : Nat → Nat} {g h : Bool} (hL : L ≤ 160) (hp : p ≤ L) (hC : C7 m b L p u g h) (hK0 : tkK b L p ≠ 0) (hK4 : tkK b L p ≠ 4) : ∃ m1 m2, fX6_takeLine 8 m = some (none, m1) ∧ fX6_takeTokenIfSound m1 = some (none, m2) ∧ G7 m m2 ∧ m2.1 49 0 = nI L ∧ ((lnR b L p u g h).1.1 = 0 → C7 m2 b L (lnR b L p u g h).1.2.2 (upU u (lnF b L p) (lnR b L p u g h).2) (g || lnF b L p == 5) (h || lnF b L p == 6) ∧ tkK b L (lnR b L p u g h).1.2.2 ≠ 4) ∧ ((lnR b L p u g h).1.1 ≠ 0 → (lnR b L p u g h).1.1 ≤ 9 ∧ m2.1 49 1 = nI (lnR b L p u g h).1.1 ∧ m2.1 49 2 = nI (lnR b L p u g h).1.2.1) := by
  obtain ⟨hT, c1, c5, c6, c7, c8, c9, hH, hO⟩ := hC
  obtain ⟨ta1, ta2, -, -⟩ := tkA_s (b := b) hp
  obtain ⟨te1, te2, te3⟩ := tkE_s (b := b) hp
  have hKle := tkK_le b L p
  rw [if_neg hK0] at c6
  have hln7 := lnF_le b L p
  have hj17 : fX6_takeLine 8 m = jX6_takeLine_17 8 (nI (lnF b L p)) m := by
    unfold fX6_takeLine lnF
    rw [c6]
    by_cases k1 : tkK b L p = 1
    · rw [if_pos (show nI (tkK b L p) = (1 : Int32) by rw [k1]; rfl), if_pos k1, lineOf7 hL te1 te2 hT c5 c7]
      rfl
    · rw [if_neg (show ¬ nI (tkK b L p) = (1 : Int32) by rw [show (1 : Int32) = nI 1 from rfl, nI_eq (by omega) (by decide)]; exact k1), if_neg k1]
      rfl
  rw [hj17]
  generalize hlnv : lnF b L p = ln at *
  unfold jX6_takeLine_17
  have hR : lnR b L p u g h = if ln = 7 then ((2, tkA b L p, p), []) else if tmF u g h ln ≠ 0 then ((tmF u g h ln, tkA b L p, p), []) else (nxF b L (clF b L (nbR b L ln (nuN ln) 0 (0, 0, tkE b L p)).1), (nbR b L ln (nuN ln) 0 (0, 0, tkE b L p)).2) := by
    unfold lnR
    rw [hlnv]
  rw [hR]
  by_cases hln : ln < 7
  · rw [if_pos (show nI ln < (7 : Int32) from nI_lt (b := 7) hln (by decide)), rom7 hln hH.1.1 hH.1.2.1 hO.1.1 hO.1.2.1 c7 c8 c9, if_neg (show ¬ ln = 7 by omega)]
    have htm := tm_le u g h ln
    obtain ⟨n1, n2, n3⟩ := tb_nu ln hln
    by_cases ht : tmF u g h ln = 0
    · rw [if_pos ht, if_neg (by simp [ht])]
      dsimp only [bV]
      obtain ⟨m3, e3, f3, o3, N3, v3⟩ := nbs7 hL hln (nuN ln) 0 (0, 0, tkE b L p) m FU (by omega) (by show nuN ln + 1 < 20000; omega) rfl te2 hT (Or.inl ⟨rfl, c1, c5⟩)
      have e3' : lp (bX6_takeLine_42 8 (nI ln)) FU ((0 : Int32), m) = _ := e3
      rw [e3']
      have hin := nbR_in (b := b) (L := L) (ln := ln) (nuN ln) 0 (0, 0, tkE b L p)
      have hpos := nbR_pos (b := b) (L := L) (ln := ln) (nuN ln) 0 (0, 0, tkE b L p) te2
      generalize hNB : nbR b L ln (nuN ln) 0 (0, 0, tkE b L p) = Q at *
      obtain ⟨⟨qc, qa, qp⟩, vs⟩ := Q
      dsimp only at N3 v3 hin hpos ⊢
      have hT3 := TB7_f hT f3
      by_cases hqc : qc = 0
      · subst hqc
        have h35 : m3.1 49 1 = 0 ∧ m3.1 49 5 = nI qp := by
          rcases N3 with ⟨-, a, a'⟩ | ⟨a, -⟩
          · exact ⟨a, a'⟩
          · exact absurd rfl a
        obtain ⟨m4, e4, x4, y7, y4, y0⟩ := tok7 hL hpos.1 hT3 h35.2
        have f4 : F7 m m4 := f3.tr (F7_sx x4 (by simp))
        have etts : fX6_takeTokenIfSound m3 = some (none, m4) := by
          unfold fX6_takeTokenIfSound
          rw [h35.1, if_pos rfl, e4]
          rfl
        have hcl : clF b L (0, qa, qp) = if tkK b L qp = 4 then (1, tkA b L qp, qp) else if tkK b L qp ≠ 3 then (2, tkA b L qp, qp) else (0, 0, tkE b L qp) := by
          unfold clF
          rw [if_neg (by simp)]
        unfold jX6_takeLine_74
        rw [etts, hcl]
        dsimp only [bV]
        by_cases k4 : tkK b L qp = 4
        · obtain ⟨z1, z2⟩ := y4 k4
          have hne : ¬ m4.1 49 1 = 0 := by rw [z1]; decide
          rw [if_pos k4, if_neg hne, j102_bad hne, show nxF b L (1, tkA b L qp, qp) = (1, tkA b L qp, qp) from if_pos (by decide : (1 : Nat) ≠ 0)]
          exact ⟨m4, m4, rfl, tts_bad hne, f4.g, (f4.2 0 (by decide)).trans hT.1, fun z => absurd z (by decide : (1 : Nat) ≠ 0), fun _ => ⟨(by decide : 1 ≤ 9), z1, z2⟩⟩
        · obtain ⟨z1, z2, z5, z6⟩ := y0 k4
          rw [h35.1] at z1
          rw [if_neg k4, z1, if_pos rfl]
          have hk4' := tkK_le b L qp
          by_cases k3 : tkK b L qp = 3
          · rw [if_neg (show ¬ (tkK b L qp ≠ 3) from fun z => z k3)]
            rw [k3, if_neg (by decide)] at z6
            rw [z6, if_pos (show nI 3 = (3 : Int32) from rfl)]
            have hH4 : HC m4 8 u := HC_fr hH (fun z a b => f4.1 z (by omega) (by omega))
            have g51 : m4.1 51 = m3.1 51 := x4.1 51 (by decide)
            obtain ⟨t0, t1⟩ := tm_0 ht
            obtain ⟨-, hvb⟩ := hin rfl
            obtain ⟨m5, e5, H5, T5, w8, w9⟩ := tell7 (vs := vs) (g := g) (h := h) hH4 hO hln t0 t1 (fun j hj => by rw [g51]; have := v3 rfl j hj; rw [Nat.zero_add] at this; exact this) (by rw [f4.2 8 (by decide)]; exact c8) (by rw [f4.2 9 (by decide)]; exact c9)
            have hO5 : OKT (upU u ln vs) := up_OK hO hln t0 t1 (fun j hj => by have := hvb j hj; rw [Nat.zero_add] at this; exact this)
            have T50 : TB7 m5 b L := ⟨(T5.2 0 (by decide) (by decide)).trans (TB7_f hT f4).1, fun i hi => by rw [T5.1 50 (by decide)]; exact (TB7_f hT f4).2 i hi⟩
            have w1 : m5.1 49 1 = 0 := (T5.2 1 (by decide) (by decide)).trans z1
            have w5 : m5.1 49 5 = nI (tkE b L qp) := (T5.2 5 (by decide) (by decide)).trans z5
            obtain ⟨te1', te2', -⟩ := tkE_s (b := b) hpos.1
            obtain ⟨m6, e6, x6, yy7, yy4, yy0⟩ := tok7 hL te2' T50 w5
            have f6 : F7 m5 m6 := F7_sx x6 (by simp)
            have GG : G7 m m6 := (f4.g.tr T5.g).tr f6.g
            have L6 : m6.1 49 0 = nI L := (f6.2 0 (by decide)).trans T50.1
            have e102 : jX6_takeLine_102 8 (nI ln) m4 = some (none, m5) := by
              unfold jX6_takeLine_102
              rw [z1, if_pos rfl, e5]
              rfl
            have e66 : fX6_takeTokenIfSound m5 = some (none, m6) := by
              unfold fX6_takeTokenIfSound
              rw [w1, if_pos rfl, e6]
              rfl
            rw [e102]
            have hnx : nxF b L (0, 0, tkE b L qp) = if tkK b L (tkE b L qp) = 4 then (1, tkA b L (tkE b L qp), tkE b L qp) else (0, 0, tkE b L qp) := by
              unfold nxF
              rw [if_neg (by simp)]
            rw [hnx]
            by_cases kk4 : tkK b L (tkE b L qp) = 4
            · obtain ⟨u1, u2⟩ := yy4 kk4
              rw [if_pos kk4]
              exact ⟨m5, m6, rfl, e66, GG, L6, fun z => absurd z (by decide : (1 : Nat) ≠ 0), fun _ => ⟨(by decide : 1 ≤ 9), u1, u2⟩⟩
            · obtain ⟨u1, u2, u5, u6⟩ := yy0 kk4
              rw [if_neg kk4]
              refine ⟨m5, m6, rfl, e66, GG, L6, fun _ => ⟨⟨TB7_f T50 f6, u1.trans w1, u5, u6, yy7, (f6.2 8 (by decide)).trans w8, (f6.2 9 (by decide)).trans w9, HC_fr H5 (fun z a b => f6.1 z (by omega) (by omega)), hO5⟩, kk4⟩, fun z => absurd rfl z⟩
          · rw [if_pos (show tkK b L qp ≠ 3 from k3), z6, if_neg (show ¬ nI (if tkK b L qp = 0 then 4 else tkK b L qp) = (3 : Int32) by
              rw [show (3 : Int32) = nI 3 from rfl, nI_eq (by split <;> omega) (by decide)]
              split <;> omega), y7]
            obtain ⟨m5, r1, r2, r3, r4⟩ := ref7 (m := m4) (c := 2) (a := tkA b L qp)
            have r1' : fX6_refuse (2 : Int32) (nI (tkA b L qp)) m4 = some (none, m5) := r1
            have hne : ¬ m5.1 49 1 = 0 := by rw [r3]; decide
            have f5 : F7 m m5 := f4.tr (F7_sx r2 (by simp))
            rw [r1']
            dsimp only
            rw [j102_bad hne, show nxF b L (2, tkA b L qp, qp) = (2, tkA b L qp, qp) from if_pos (by decide : (2 : Nat) ≠ 0)]
            exact ⟨m5, m5, rfl, tts_bad hne, f5.g, (f5.2 0 (by decide)).trans hT.1, fun z => absurd z (by decide : (2 : Nat) ≠ 0), fun _ => ⟨(by decide : 2 ≤ 9), r3, r4⟩⟩
      · have h3 : qc ≤ 9 ∧ m3.1 49 1 = nI qc ∧ m3.1 49 2 = nI qa := by
          rcases N3 with ⟨a, -⟩ | ⟨-, a, a', a''⟩
          · exact absurd a hqc
          · exact ⟨a, a', a''⟩
        have hne : ¬ m3.1 49 1 = 0 := by rw [h3.2.1]; exact c_ne _ h3.1 hqc
        rw [j74_bad hne, show clF b L (qc, qa, qp) = (qc, qa, qp) from if_pos hqc, show nxF b L (qc, qa, qp) = (qc, qa, qp) from if_pos hqc]
        exact ⟨m3, m3, rfl, tts_bad hne, f3.g, (f3.2 0 (by decide)).trans hT.1, fun z => absurd z hqc, fun _ => h3⟩
    · rw [if_neg ht, if_pos ht]
      obtain ⟨m4, r1, r2, r3, r4⟩ := ref7 (m := m) (c := tmF u g h ln) (a := tkA b L p)
      have hne : ¬ m4.1 49 1 = 0 := by rw [r3]; exact c_ne _ (by omega) ht
      rw [r1]
      dsimp only [bV]
      have e0 : lp (bX6_takeLine_42 8 (nI ln)) FU ((0 : Int32), m4) = some (none, m4) := by
        rw [lp_one, b42, ga_nI hln (by decide), nI_tn (by omega), n1, if_neg (show ¬ nI (nuN ln) ≤ (0 : Int32) from nI_ge (a := 0) (by omega) (by omega)), if_neg hne, j74_bad hne]
      rw [e0]
      have f4 : F7 m m4 := F7_sx r2 (by simp)
      exact ⟨m4, m4, rfl, tts_bad hne, f4.g, (f4.2 0 (by decide)).trans hT.1, fun z => absurd z ht, fun _ => ⟨show tmF u g h ln ≤ 9 by omega, r3, r4⟩⟩
  · have hl7 : ln = 7 := by omega
    rw [if_neg (show ¬ nI ln < (7 : Int32) from nI_nlt (b := 7) (by omega) (by omega)), if_pos hl7, c7]
    obtain ⟨m4, r1, r2, r3, r4⟩ := ref7 (m := m) (c := 2) (a := tkA b L p)
    have r1' : fX6_refuse (2 : Int32) (nI (tkA b L p)) m = some (none, m4) := r1
    have hne : ¬ m4.1 49 1 = 0 := by rw [r3]; decide
    have f4 : F7 m m4 := F7_sx r2 (by simp)
    rw [r1']
    exact ⟨m4, m4, rfl, tts_bad hne, f4.g, (f4.2 0 (by decide)).trans hT.1, fun z => absurd z (by decide : (2 : Nat) ≠ 0), fun _ => ⟨(by decide : 2 ≤ 9), r3, r4⟩⟩
