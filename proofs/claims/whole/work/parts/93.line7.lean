/-! PURE FACTS: lines of the tape; the class -/
def loL : List Nat := [0, 0, 0, 0, 0, 0, 0, 0, 0, 0, 0, 0, 0, 0, 0, 0, 1, 0, 0, 0, 0, 0, 0, 0, 1, 0, 0, 0]
def hiL : List Nat := [60, 99, 0, 0, 60, 99, 0, 0, 60, 99, 0, 0, 60, 99, 0, 0, 4, 3, 9, 9, 3, 0, 0, 0, 99, 0, 0, 0]
def nuN (ln : Nat) : Nat := if ln < 4 then 2 else if ln = 4 then 4 else 1
def loN (ln k : Nat) : Nat := loL.getD (4 * ln + k) 0
def hiN (ln k : Nat) : Nat := hiL.getD (4 * ln + k) 0
theorem tb_lo : ∀ ln, ln < 7 → ∀ k, k < 4 → tb115.getD (4 * ln + k) 0 = nI (loN ln k) ∧ tb116.getD (4 * ln + k) 0 = nI (hiN ln k) ∧ loN ln k ≤ 1 ∧ hiN ln k ≤ 99 := by decide +kernel
theorem tb_nu : ∀ ln, ln < 7 → tb114.getD ln 0 = nI (nuN ln) ∧ nuN ln ≤ 4 ∧ 1 ≤ nuN ln := by decide +kernel
/-- one number: state (fault, its place, the place to read from) -/
def nb1 (b : Nat → Nat) (L lo hi : Nat) (S : Nat × Nat × Nat) : (Nat × Nat × Nat) × Nat := if S.1 ≠ 0 then (S, lo) else if tkK b L S.2.2 = 4 then ((1, tkA b L S.2.2, S.2.2), lo) else if tkK b L S.2.2 ≠ 2 then ((2, tkA b L S.2.2, S.2.2), lo) else if vlF b (tkA b L S.2.2) (tkE b L S.2.2) < lo ∨ hi < vlF b (tkA b L S.2.2) (tkE b L S.2.2) then ((3, tkA b L S.2.2, S.2.2), lo) else ((0, 0, tkE b L S.2.2), vlF b (tkA b L S.2.2) (tkE b L S.2.2))
def nbR (b : Nat → Nat) (L ln : Nat) : Nat → Nat → Nat × Nat × Nat → (Nat × Nat × Nat) × List Nat
  | 0, _, S => (S, [])
  | r + 1, k, S => ((nbR b L ln r (k + 1) (nb1 b L (loN ln k) (hiN ln k) S).1).1, (nb1 b L (loN ln k) (hiN ln k) S).2 :: (nbR b L ln r (k + 1) (nb1 b L (loN ln k) (hiN ln k) S).1).2)
theorem nb1_bad {b : Nat → Nat} {L lo hi : Nat} {S : Nat × Nat × Nat} (h : S.1 ≠ 0) : nb1 b L lo hi S = (S, lo) := by unfold nb1; rw [if_pos h]
theorem nbR_bad {b : Nat → Nat} {L ln : Nat} : ∀ (r k : Nat) (S : Nat × Nat × Nat), S.1 ≠ 0 → (nbR b L ln r k S).1 = S
  | 0, _, _, _ => rfl
  | r + 1, k, S, h => by
    show (nbR b L ln r (k + 1) (nb1 b L (loN ln k) (hiN ln k) S).1).1 = S
    rw [nb1_bad h]
    exact nbR_bad r (k + 1) S h
/-- the close of a line -/
def clF (b : Nat → Nat) (L : Nat) (S : Nat × Nat × Nat) : Nat × Nat × Nat := if S.1 ≠ 0 then S else if tkK b L S.2.2 = 4 then (1, tkA b L S.2.2, S.2.2) else if tkK b L S.2.2 ≠ 3 then (2, tkA b L S.2.2, S.2.2) else (0, 0, tkE b L S.2.2)
/-- the place behind is sound -/
def nxF (b : Nat → Nat) (L : Nat) (S : Nat × Nat × Nat) : Nat × Nat × Nat := if S.1 ≠ 0 then S else if tkK b L S.2.2 = 4 then (1, tkA b L S.2.2, S.2.2) else S
def lnF (b : Nat → Nat) (L p : Nat) : Nat := if tkK b L p = 1 then nmF b (tkA b L p) (tkE b L p) else 7
def tmF (u : Nat → Nat) (g h : Bool) (ln : Nat) : Nat := if (ln = 5 ∧ g = true) ∨ (ln = 6 ∧ h = true) then 4 else if (ln < 4 ∧ 10 ≤ u 0) ∨ (ln = 4 ∧ 4 ≤ u 1) then 5 else 0
def upU (u : Nat → Nat) (ln : Nat) (vs : List Nat) : Nat → Nat := if ln = 4 then uv (uv (uv (uv (uv u (40 + u 1) (vs.getD 0 0)) (44 + u 1) (vs.getD 1 0)) (48 + u 1) (vs.getD 2 0)) (52 + u 1) (vs.getD 3 0)) 1 (u 1 + 1) else if ln = 5 then uv u 2 (vs.getD 0 0) else if ln = 6 then uv u 3 (vs.getD 0 0) else uv (uv (uv (uv u (10 + u 0) ln) (20 + u 0) (vs.getD 0 0)) (30 + u 0) (vs.getD 1 0)) 0 (u 0 + 1)
/-- a line: fault, its place, the place of the token behind; the numbers -/
def lnR (b : Nat → Nat) (L p : Nat) (u : Nat → Nat) (g h : Bool) : (Nat × Nat × Nat) × List Nat := if lnF b L p = 7 then ((2, tkA b L p, p), []) else if tmF u g h (lnF b L p) ≠ 0 then ((tmF u g h (lnF b L p), tkA b L p, p), []) else (nxF b L (clF b L (nbR b L (lnF b L p) (nuN (lnF b L p)) 0 (0, 0, tkE b L p)).1), (nbR b L (lnF b L p) (nuN (lnF b L p)) 0 (0, 0, tkE b L p)).2)
theorem nb1_pos {b : Nat → Nat} {L lo hi : Nat} {S : Nat × Nat × Nat} (h : S.2.2 ≤ L) : (nb1 b L lo hi S).1.2.2 ≤ L ∧ S.2.2 ≤ (nb1 b L lo hi S).1.2.2 := by
  have he := tkE_s (b := b) h
  have ha := tkA_s (b := b) h
  unfold nb1
  repeat' split
  all_goals dsimp only
  all_goals omega
theorem nbR_pos {b : Nat → Nat} {L ln : Nat} : ∀ (r k : Nat) (S : Nat × Nat × Nat), S.2.2 ≤ L → (nbR b L ln r k S).1.2.2 ≤ L ∧ S.2.2 ≤ (nbR b L ln r k S).1.2.2
  | 0, _, _, h => ⟨h, Nat.le_refl _⟩
  | r + 1, k, S, h => by
    have h1 := nb1_pos (b := b) (lo := loN ln k) (hi := hiN ln k) h
    have h2 := nbR_pos (b := b) (ln := ln) r (k + 1) (nb1 b L (loN ln k) (hiN ln k) S).1 h1.1
    show (nbR b L ln r (k + 1) (nb1 b L (loN ln k) (hiN ln k) S).1).1.2.2 ≤ L ∧ S.2.2 ≤ (nbR b L ln r (k + 1) (nb1 b L (loN ln k) (hiN ln k) S).1).1.2.2
    omega
/-- the class's memory: state S -/
def N7 (m : mMem) (S : Nat × Nat × Nat) : Prop := (S.1 = 0 ∧ m.1 49 1 = 0 ∧ m.1 49 5 = nI S.2.2) ∨ (S.1 ≠ 0 ∧ S.1 ≤ 9 ∧ m.1 49 1 = nI S.1 ∧ m.1 49 2 = nI S.2.1)
/-- nothing but the tape's own places and the numbers -/
def F7 (m m' : mMem) : Prop := (∀ z, z ≠ 49 → z ≠ 51 → m'.1 z = m.1 z) ∧ ∀ j, j ∉ [1, 2, 5, 6, 7] → m'.1 49 j = m.1 49 j
theorem F7.rf {m : mMem} : F7 m m := ⟨fun _ _ _ => rfl, fun _ _ => rfl⟩
theorem F7.tr {m1 m2 m3 : mMem} (h1 : F7 m1 m2) (h2 : F7 m2 m3) : F7 m1 m3 := ⟨fun z a b => (h2.1 z a b).trans (h1.1 z a b), fun j a => (h2.2 j a).trans (h1.2 j a)⟩
theorem F7_sx {m m' : mMem} {S : List Nat} (h : SWx 49 S m m') (hs : ∀ j ∈ S, j ∈ [1, 2, 5, 6, 7]) : F7 m m' := ⟨fun z a _ => h.1 z a, fun j a => h.2 j (fun z => a (hs j z))⟩
theorem F7_51 {m : mMem} {k : Nat} {x : Int32} : F7 m (si m 51 k x) := ⟨fun z _ a => si_c _ a, fun j _ => by rw [si_c _ (by decide)]⟩
theorem TB7_f {m m' : mMem} {b : Nat → Nat} {L : Nat} (h : TB7 m b L) (f : F7 m m') : TB7 m' b L := ⟨(f.2 0 (by decide)).trans h.1, fun i hi => by rw [f.1 50 (by decide) (by decide)]; exact h.2 i hi⟩
theorem ref7 {m : mMem} {c a : Nat} : ∃ m', fX6_refuse (nI c) (nI a) m = some (none, m') ∧ SWx 49 [1, 2] m m' ∧ m'.1 49 1 = nI c ∧ m'.1 49 2 = nI a := by
  unfold fX6_refuse
  dsimp only [lt]
  exact ⟨_, rfl, (SWx_si (by simp)).tr (SWx_si (by simp)), by rw [si_ne _ _ (Or.inr (by decide)), si_same], si_same _ _ _ _⟩
theorem c_ne : ∀ c, c ≤ 9 → c ≠ 0 → ¬ nI c = (0 : Int32) := by decide +kernel
theorem vl_lt {b : Nat → Nat} {a e : Nat} (h0 : b a ≤ 57) (h1 : b (a + 1) ≤ 57 ∨ e = a + 1) : vlF b a e ≤ 99 := by
  unfold vlF
  split <;> omega
/-- a number token: one or two figures -/
theorem tk2 {b : Nat → Nat} {L p : Nat} (hp : p ≤ L) (h : tkK b L p = 2) : tkA b L p < L ∧ tkE b L p = tkR b L (tkA b L p) ∧ tkA b L p < tkE b L p ∧ tkE b L p ≤ tkA b L p + 2 ∧ tkE b L p ≤ L ∧ ∀ j, tkA b L p ≤ j → j < tkE b L p → 48 ≤ b j ∧ b j ≤ 57 := by
  have ha : tkA b L p < L := by
    rcases Nat.lt_or_ge (tkA b L p) L with z | z
    · exact z
    · unfold tkK at h
      rw [if_pos z] at h
      omega
  have hk : kdB (b (tkA b L p)) = 2 ∧ ¬ 2 < tkR b L (tkA b L p) - tkA b L p := by
    unfold tkK at h
    rw [if_neg (by omega)] at h
    by_cases q : kdB (b (tkA b L p)) = 2 ∧ 2 < tkR b L (tkA b L p) - tkA b L p
    · rw [if_pos q] at h; omega
    · rw [if_neg q] at h
      exact ⟨h, fun z => q ⟨h, z⟩⟩
  obtain ⟨r1, r2, r3, r4⟩ := tkR_s (b := b) ha
  have he : tkE b L p = tkR b L (tkA b L p) := by unfold tkE; rw [if_neg (by omega), if_neg (by omega), if_neg (by omega)]
  refine ⟨ha, he, by omega, by omega, by omega, fun j h1 h2 => ?_⟩
  exact kd2 (by rw [r3 j h1 (by omega), hk.1])
theorem vl_99 {b : Nat → Nat} {L p : Nat} (hp : p ≤ L) (h : tkK b L p = 2) : vlF b (tkA b L p) (tkE b L p) ≤ 99 := by
  obtain ⟨h1, h2, h3, h4, h5, h6⟩ := tk2 hp h
  refine vl_lt (h6 _ (Nat.le_refl _) h3).2 ?_
  by_cases e : tkE b L p = tkA b L p + 1
  · exact Or.inr e
  · exact Or.inl (h6 _ (by omega) (by omega)).2
theorem num7 {m : mMem} {b : Nat → Nat} {L ln k : Nat} {S : Nat × Nat × Nat} (hL : L ≤ 160) (hS : S.1 = 0) (hp : S.2.2 ≤ L) (hT : TB7 m b L) (hN : N7 m S) (hln : ln < 7) (hk : k < 4) : ∃ m1 m2, fX6_takeToken m = some (none, m1) ∧ fX6_takeNumber (nI ln) (nI k) m1 = some (none, m2) ∧ F7 m m2 ∧ (∀ j, j ≠ k → m2.1 51 j = m.1 51 j) ∧ N7 m2 (nb1 b L (loN ln k) (hiN ln k) S).1 ∧ ((nb1 b L (loN ln k) (hiN ln k) S).1.1 = 0 → m2.1 51 k = nI (nb1 b L (loN ln k) (hiN ln k) S).2) := by
  obtain ⟨c, at0, p⟩ := S
  have hc : c = 0 := hS
  subst hc
  have hp' : p ≤ L := hp
  have h15 : m.1 49 1 = 0 ∧ m.1 49 5 = nI p := by
    rcases hN with ⟨-, a, b⟩ | ⟨a, -⟩
    · exact ⟨a, b⟩
    · exact absurd rfl a
  obtain ⟨m1, e1, x1, y7, y4, y0⟩ := tok7 hL hp' hT h15.2
  obtain ⟨t1, t2, t3, t4⟩ := tb_lo ln hln k hk
  have f1 : F7 m m1 := F7_sx x1 (by simp)
  have hnb : nb1 b L (loN ln k) (hiN ln k) (0, at0, p) = if tkK b L p = 4 then ((1, tkA b L p, p), loN ln k) else if tkK b L p ≠ 2 then ((2, tkA b L p, p), loN ln k) else if vlF b (tkA b L p) (tkE b L p) < loN ln k ∨ hiN ln k < vlF b (tkA b L p) (tkE b L p) then ((3, tkA b L p, p), loN ln k) else ((0, 0, tkE b L p), vlF b (tkA b L p) (tkE b L p)) := by
    unfold nb1
    rw [if_neg (by simp)]
  rw [hnb]
  have g51 : m1.1 51 = m.1 51 := x1.1 51 (by decide)
  by_cases k4 : tkK b L p = 4
  · rw [if_pos k4]
    obtain ⟨z1, z2⟩ := y4 k4
    refine ⟨m1, m1, e1, ?_, f1, fun j _ => by rw [g51], Or.inr ⟨(by decide : (1 : Nat) ≠ 0), (by decide : 1 ≤ 9), z1, z2⟩, fun z => absurd z (by decide : (1 : Nat) ≠ 0)⟩
    unfold fX6_takeNumber
    rw [z1, if_neg (by decide)]
  · rw [if_neg k4]
    obtain ⟨z1, z2, z5, z6⟩ := y0 k4
    rw [h15.1] at z1
    by_cases k2 : tkK b L p = 2
    · rw [if_neg (by simp [k2])]
      rw [k2, if_neg (by decide)] at z6
      obtain ⟨q1, q2, q3, q4, q5, q6⟩ := tk2 hp' k2
      have hv99 := vl_99 hp' k2
      generalize hA : tkA b L p = a at *
      generalize hE : tkE b L p = e at *
      have hT1 := TB7_f hT f1
      have run : ∀ r, (∀ kk, bX6_takeNumber_34 (nI ln) (nI k) kk (nI (vlF b a e), nI e, m1) = r) → fX6_takeNumber (nI ln) (nI k) m1 = r := fun r hr => by
        unfold fX6_takeNumber
        dsimp only [li]
        rw [z1, if_pos rfl, z6, if_pos (show nI 2 = (2 : Int32) from rfl), y7]
        have hend : vaF b a (e - a) = vlF b a e := by
          unfold vaF
          rw [if_neg (by omega), Nat.min_eq_left (by omega), show a + (e - a) = e by omega]
        refine lp_0 (fun i => (nI (vaF b a i), nI (a + i), m1)) (e - a) _ (by omega) (fun kk => ?_) (fun i hi kk => ?_)
        · rw [hend, show a + (e - a) = e by omega]
          exact hr kk
        · have hbi := hT1.2 (a + i) (by omega)
          have hdi := q6 (a + i) (by omega) (by omega)
          unfold bX6_takeNumber_34
          dsimp only [li]
          rw [z5, if_neg (nI_ge (by omega) (by omega)), ga_nI (by omega) (by decide), nI_tn (by omega), hbi.1, show nI (vaF b a i) * (10 : Int32) = nI (vaF b a i * 10) from nI_mul _ 10, nI_add, show nI (vaF b a i * 10 + b (a + i)) - (48 : Int32) = nI (vaF b a i * 10 + b (a + i) - 48) from nI_sub (b := 48) (by omega), show nI (a + i) + 1 = nI (a + (i + 1)) from nI_1 _]
          have : vaF b a i * 10 + b (a + i) - 48 = vaF b a (i + 1) := by
            have : i = 0 ∨ i = 1 := by omega
            rcases this with rfl | rfl
            · unfold vaF vlF
              simp
            · unfold vaF vlF
              simp
              omega
          rw [this]
      have hb34 : ∀ kk, bX6_takeNumber_34 (nI ln) (nI k) kk (nI (vlF b a e), nI e, m1) = if vlF b a e < loN ln k ∨ hiN ln k < vlF b a e then jX6_takeNumber_92 (nI k) (nI (vlF b a e)) m1 else some (none, si m1 51 k (nI (vlF b a e))) := fun kk => by
        unfold bX6_takeNumber_34
        dsimp only [li, lt]
        rw [z5, if_pos (nI_le (Nat.le_refl _) (by omega)), show nI ln * (4 : Int32) + nI k = nI (4 * ln + k) by rw [show nI ln * (4 : Int32) = nI (ln * 4) from nI_mul _ 4, nI_add, Nat.mul_comm], ga_nI (by omega) (by decide), ga_nI (by omega) (by decide), nI_tn (by omega), t1, t2, ga_nI hk (by decide), nI_tn (by omega)]
        by_cases w1 : vlF b a e < loN ln k
        · rw [if_pos (nI_lt w1 (by omega)), if_pos (Or.inl w1)]
        · rw [if_neg (nI_nlt (by omega) (by omega))]
          by_cases w2 : hiN ln k < vlF b a e
          · rw [if_neg (nI_ge w2 (by omega)), if_pos (Or.inr w2)]
          · rw [if_pos (nI_le (by omega) (by omega)), if_neg (by omega)]
      by_cases w : vlF b a e < loN ln k ∨ hiN ln k < vlF b a e
      · rw [if_pos w]
        obtain ⟨m2, r1, r2, r3, r4⟩ := ref7 (m := m1) (c := 3) (a := a)
        have r1' : fX6_refuse (3 : Int32) (nI a) m1 = some (none, m2) := r1
        refine ⟨m1, si m2 51 k (nI (vlF b a e)), e1, run _ (fun kk => ?_), (f1.tr (F7_sx r2 (by simp))).tr F7_51, fun j hj => by rw [si_ne _ _ (Or.inr hj), r2.1 51 (by decide), g51], Or.inr ⟨(by decide : (3 : Nat) ≠ 0), (by decide : 3 ≤ 9), by rw [si_c _ (by decide)]; exact r3, by rw [si_c _ (by decide)]; exact r4⟩, fun z => absurd z (by decide : (3 : Nat) ≠ 0)⟩
        rw [hb34 kk, if_pos w]
        unfold jX6_takeNumber_92
        rw [y7, r1']
        dsimp only [bV, lt]
        rw [ga_nI hk (by decide), nI_tn (by omega)]
      · rw [if_neg w]
        exact ⟨m1, si m1 51 k (nI (vlF b a e)), e1, run _ (fun kk => by rw [hb34 kk, if_neg w]), f1.tr F7_51, fun j hj => by rw [si_ne _ _ (Or.inr hj), g51], Or.inl ⟨rfl, by rw [si_c _ (by decide)]; exact z1, by rw [si_c _ (by decide)]; exact z5⟩, fun _ => si_same _ _ _ _⟩
    · rw [if_pos (by simpa using k2)]
      obtain ⟨m2, r1, r2, r3, r4⟩ := ref7 (m := m1) (c := 2) (a := tkA b L p)
      have r1' : fX6_refuse (2 : Int32) (nI (tkA b L p)) m1 = some (none, m2) := r1
      refine ⟨m1, m2, e1, ?_, f1.tr (F7_sx r2 (by simp)), fun j _ => by rw [r2.1 51 (by decide), g51], Or.inr ⟨(by decide : (2 : Nat) ≠ 0), (by decide : 2 ≤ 9), r3, r4⟩, fun z => absurd z (by decide : (2 : Nat) ≠ 0)⟩
      have hk4 : tkK b L p ≤ 4 := by
        have := kdB_le (b (tkA b L p))
        unfold tkK
        repeat' split
        all_goals omega
      unfold fX6_takeNumber
      rw [z1, if_pos rfl, z6, if_neg (show ¬ nI (if tkK b L p = 0 then 4 else tkK b L p) = (2 : Int32) by
        rw [show (2 : Int32) = nI 2 from rfl, nI_eq (by split <;> omega) (by decide)]
        split <;> omega), y7, r1']
      rfl
