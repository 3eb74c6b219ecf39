/-! PURE FACTS: lodge, the reference -/
def dgL (n c : Nat) : List Nat := (List.range n).map (fun i => c / 4 ^ (n - 1 - i) % 4)
theorem dgL_len (n c : Nat) : (dgL n c).length = n := by simp [dgL]
theorem dgL_at {n c i : Nat} (hi : i < n) : (dgL n c).getD i 0 = c / 4 ^ (n - 1 - i) % 4 := by
  rw [gd_at (by rw [dgL_len]; exact hi)]
  simp [dgL]
/-- digits from the last on: mask, and whether all is well -/
def lfG (n c : Nat) : Nat → Nat × Bool
  | 0 => (0, true)
  | k + 1 => ((lfG n c k).1 ||| 2 ^ (c / 4 ^ k % 4), (lfG n c k).2 && decide (c / 4 ^ k % 4 < n) && !((lfG n c k).1.testBit (c / 4 ^ k % 4)))
def vdS (n c : Nat) : Bool := (lfG n c n).2
theorem lfG_lt (n c : Nat) : ∀ k, (lfG n c k).1 < 16
  | 0 => by show 0 < 16; decide
  | k + 1 => Nat.or_lt_two_pow (n := 4) (lfG_lt n c k) ((by decide : ∀ x, x < 4 → 2 ^ x < 2 ^ 4) _ (Nat.mod_lt _ (by decide)))
theorem lfG_true (n c : Nat) : ∀ k, (lfG n c k).2 = true → ∀ j, j < k → c / 4 ^ j % 4 < n
  | 0, _, j, hj => absurd hj (Nat.not_lt_zero _)
  | k + 1, h, j, hj => by
    have h' : ((lfG n c k).2 && decide (c / 4 ^ k % 4 < n) && !((lfG n c k).1.testBit (c / 4 ^ k % 4))) = true := h
    rw [Bool.and_eq_true, Bool.and_eq_true] at h'
    by_cases e : j = k
    · subst e
      exact of_decide_eq_true h'.1.2
    · exact lfG_true n c k h'.1.1 j (by omega)
def glS (n c : Nat) : List (List Nat) := if vdS n c then [dgL n c] else []
theorem lex_eq : ∀ n, n ≤ 4 → (List.range (4 ^ n)).flatMap (glS n) = exS n n [] ∧ exS n n [] ≠ [] := by decide +kernel
theorem p4_lt : ∀ n, n ≤ 4 → 4 ^ n ≤ 256 := by decide
theorem lf_in {m0 : mMem} {n c : Nat} (hn : n ≤ 4) (hc : c < 256) (h4 : m0.1 81 4 = nI n) : ∃ u : Int32 × mMem, (∃ m', u = (nI (if vdS n c then 1 else 0), m') ∧ SM [94] m0 m' ∧ ∀ i, i < n → m'.1 94 i = nI ((dgL n c).getD i 0)) ∧ fX8_laysFloors (nI c) m0 = lp (bX8_laysFloors_95 u.1) FU ((0 : Int32), u.2) := by
  have key := lp_relC0 (body := fun (_ : Unit) => bX8_laysFloors_15) (fun k s => ∃ m', s = (nI (c / 4 ^ k), nI (lfG n c k).1, nI (if (lfG n c k).2 then 1 else 0), (if k = n then (-1 : Int32) else nI (n - 1 - k)), m') ∧ SM [94] m0 m' ∧ ∀ i, n - k ≤ i → i < n → m'.1 94 i = nI ((dgL n c).getD i 0)) n (fun res => ∃ m', res = lp (bX8_laysFloors_95 (nI (if vdS n c then 1 else 0))) FU ((0 : Int32), m') ∧ SM [94] m0 m' ∧ ∀ i, i < n → m'.1 94 i = nI ((dgL n c).getD i 0)) (nI c, (0 : Int32), (1 : Int32), nI n - 1, m0) (by omega) ⟨m0, by
      have e1 : c / 4 ^ 0 = c := by simp
      rw [e1]
      have e2 : nI n - 1 = (if 0 = n then (-1 : Int32) else nI (n - 1 - 0)) := by
        by_cases z : 0 = n
        · subst z; rfl
        · rw [if_neg z, Nat.sub_zero]
          exact nI_sub (b := 1) (by omega)
      rw [← e2]
      rfl, SM.rf, fun i h1 h2 => absurd h2 (by omega)⟩ (fun s => ?_) (fun k s hk => ?_)
  · obtain ⟨res, ⟨m', e, a1, a2⟩, hr⟩ := key
    refine ⟨(nI (if vdS n c then 1 else 0), m'), ⟨m', rfl, a1, a2⟩, ?_⟩
    unfold fX8_laysFloors
    dsimp only [li]
    rw [h4]
    exact (hr ()).trans e
  · rintro ⟨m', rfl, a1, a2⟩
    refine ⟨_, ⟨m', rfl, a1, fun i hi => a2 i (by omega) hi⟩, fun ko k => ?_⟩
    unfold bX8_laysFloors_15
    dsimp only
    rw [if_pos rfl, if_pos (by decide)]
    rfl
  · rintro ⟨m', rfl, a1, a2⟩
    have hd4 : c / 4 ^ k % 4 < 4 := Nat.mod_lt _ (by decide)
    have hck : c / 4 ^ k < 256 := Nat.lt_of_le_of_lt (Nat.div_le_self _ _) hc
    have hmk := lfG_lt n c k
    have hdig : (dgL n c).getD (n - 1 - k) 0 = c / 4 ^ k % 4 := by
      rw [dgL_at (by omega), show n - 1 - (n - 1 - k) = k by omega]
    have e81 : m'.1 81 4 = nI n := by rw [(a1 81 (by decide)).1]; exact h4
    refine ⟨(nI (c / 4 ^ (k + 1)), nI (lfG n c (k + 1)).1, nI (if (lfG n c (k + 1)).2 then 1 else 0), (if k + 1 = n then (-1 : Int32) else nI (n - 1 - (k + 1))), si m' 94 (n - 1 - k) (nI (c / 4 ^ k % 4))), ⟨_, rfl, a1.tr (SM_si (by simp)), fun i h1 h2 => ?_⟩, fun ko kk => ?_⟩
    · by_cases ei : i = n - 1 - k
      · subst ei
        rw [si_same, hdig]
      · rw [si_ne _ _ (Or.inr ei)]
        exact a2 i (by omega) h2
    · have hstep : (if k + 1 = n then (-1 : Int32) else nI (n - 1 - (k + 1))) = nI (n - 1 - k) + (-1 : Int32) := by
        by_cases z : k + 1 = n
        · rw [if_pos z, show n - 1 - k = 0 by omega]
          rfl
        · rw [if_neg z, sb_m1 (by omega)]
          congr 1
      have hdiv : nI (c / 4 ^ k) / (4 : Int32) = nI (c / 4 ^ (k + 1)) := by
        rw [show (4 : Int32) = nI 4 from rfl, nI_div (by omega) (by decide), Nat.div_div_eq_div_mul, Nat.pow_succ]
      have hrem : nI (c / 4 ^ k) - nI (c / 4 ^ k) / (4 : Int32) * (4 : Int32) = nI (c / 4 ^ k % 4) := rem_eq (n := 4) (by omega) (by decide)
      unfold bX8_laysFloors_15 jX8_laysFloors_71 jX8_laysFloors_72
      dsimp only [li, lt]
      rw [if_neg (show ¬ k = n by omega), if_neg (nI_pos (by omega)), g0i_ne (by decide), g0i_ne (by decide), hrem, hdiv]
      simp only [ga_nI (show n - 1 - k < 4 by omega) (show 4 < 2 ^ 31 by decide), nI_tn (show n - 1 - k < 2 ^ 31 by omega), si_same]
      rw [si_c _ (show (81 : Nat) ≠ 94 by decide), e81, nI_shl1 _ (by omega), nI_or, ← hstep]
      have h1 : (lfG n c (k + 1)).1 = (lfG n c k).1 ||| 2 ^ (c / 4 ^ k % 4) := rfl
      have h2 : (lfG n c (k + 1)).2 = ((lfG n c k).2 && decide (c / 4 ^ k % 4 < n) && !((lfG n c k).1.testBit (c / 4 ^ k % 4))) := rfl
      rw [h1, h2]
      cases hz : (lfG n c k).2
      · rw [if_pos (by rfl)]
        rfl
      · rw [if_neg (by decide)]
        by_cases hy : c / 4 ^ k % 4 < n
        · rw [if_neg (nI_ge hy (by omega))]
          cases hb : (lfG n c k).1.testBit (c / 4 ^ k % 4)
          · rw [if_pos ((bit0 (by omega) (by omega)).mpr hb)]
            simp [hy]
            rfl
          · rw [if_neg (fun z => by
              have := (bit0 (by omega) (by omega)).mp z
              rw [hb] at this
              cases this)]
            simp [hy]
            rfl
        · rw [if_pos (nI_le (by omega) (by omega))]
          simp [hy]
          rfl
/-- floors changed -/
def wfS (u v : Nat → Nat) (L : List Nat) (i : Nat) : Nat → Nat := fun j => if 52 ≤ j ∧ j < 52 + i then v (52 + L.getD (j - 52) 0) else u j
def pfS (v : Nat → Nat) (L : List Nat) : Nat → Nat := wfS v v L (v 1)
def AG (u v : Nat → Nat) : Prop := ∀ j, (j < 52 ∨ 52 + v 1 ≤ j) → u j = v j
theorem wfS_0 (u v : Nat → Nat) (L : List Nat) : wfS u v L 0 = u := by
  funext j
  unfold wfS
  rw [if_neg (by omega)]
theorem wfS_s (u v : Nat → Nat) (L : List Nat) (i : Nat) : uv (wfS u v L i) (52 + i) (v (52 + L.getD i 0)) = wfS u v L (i + 1) := by
  funext j
  by_cases e : j = 52 + i
  · subst e
    rw [uv_s]
    unfold wfS
    rw [if_pos (by omega), show 52 + i - 52 = i by omega]
  · rw [uv_n e]
    unfold wfS
    by_cases h : 52 ≤ j ∧ j < 52 + i
    · rw [if_pos h, if_pos (by omega)]
    · rw [if_neg h, if_neg (by omega)]
theorem wfS_e {u v : Nat → Nat} {L : List Nat} (h : AG u v) : wfS u v L (v 1) = pfS v L := by
  funext j
  unfold pfS wfS
  by_cases q : 52 ≤ j ∧ j < 52 + v 1
  · rw [if_pos q, if_pos q]
  · rw [if_neg q, if_neg q]
    exact h j (by omega)
theorem pfS_o {v : Nat → Nat} {L : List Nat} {j : Nat} (h : j < 52 ∨ 52 + v 1 ≤ j) : pfS v L j = v j := by
  unfold pfS wfS
  rw [if_neg (by omega)]
theorem pfS_f {v : Nat → Nat} {L : List Nat} {p : Nat} (h : p < v 1) : pfS v L (52 + p) = v (52 + L.getD p 0) := by
  unfold pfS wfS
  rw [if_pos (by omega), show 52 + p - 52 = p by omega]
theorem pfS_AG (v : Nat → Nat) (L : List Nat) : AG (pfS v L) v := fun _ h => pfS_o h
theorem pfS_OK {v : Nat → Nat} {L : List Nat} (ho : OK v) (hL : ∀ k, k < v 1 → L.getD k 0 < v 1) : OK (pfS v L) := by
  have hb := ho.1
  have e : ∀ j, j < 52 → pfS v L j = v j := fun j hj => pfS_o (Or.inl hj)
  unfold OK
  rw [e 0 (by decide), e 1 (by decide), e 2 (by decide), e 3 (by decide), e 4 (by decide)]
  refine ⟨hb, fun i hi => ?_, fun p hp => ?_⟩
  · rw [e (10 + i) (by omega), e (20 + i) (by omega), e (30 + i) (by omega)]
    exact ho.2.1 i hi
  · rw [e (40 + p) (by omega), e (44 + p) (by omega), e (48 + p) (by omega), pfS_f hp]
    have h1 := ho.2.2 p hp
    have h2 := ho.2.2 _ (hL p hp)
    exact ⟨h1.1, h1.2.1, h1.2.2.1, h1.2.2.2.1, h2.2.2.2.2⟩
theorem pfS_ph {v : Nat → Nat} {L : List Nat} {p : Nat} (ho : OK v) (hp : p < v 1) : phO (pfS v L) 0 p = pvS (tdS v p) (rcS v p) (v (52 + L.getD p 0)) := by
  have hb := ho.1
  have e : ∀ j, j < 52 → pfS v L j = v j := fun j hj => pfS_o (Or.inl hj)
  have ht : toS (pfS v L) 0 p = tdS v p := by
    unfold toS tdS
    rw [e 0 (by decide)]
    apply Nat.eq_of_testBit_eq
    intro i
    rw [bitsN_bit, bitsN_bit]
    by_cases hi : i < v 0
    · unfold trS brS nrS
      rw [e 3 (by decide), e 2 (by decide), e (30 + i) (by omega), e (10 + i) (by omega), e (20 + i) (by omega), e (44 + p) (by omega)]
    · simp [hi]
  have hr : rcS (pfS v L) p = rcS v p := by
    unfold rcS
    rw [e (48 + p) (by omega), e (40 + p) (by omega)]
  unfold phO
  rw [ht, hr, pfS_f hp]
/-- the reference's page of trials -/
def LPg (m : mMem) (v : Nat → Nat) : Prop := HO m 0 0 v ∧ ∃ u, HM m 175 u ∧ AG u v
theorem LPg_sm {m m' : mMem} {v : Nat → Nat} {C : List Nat} (h : LPg m v) (s : SM C m m') (hc : 81 ∉ C ∧ 82 ∉ C ∧ 83 ∉ C ∧ 84 ∉ C) : LPg m' v := by
  obtain ⟨h1, u, h2, h3⟩ := h
  refine ⟨HO_sm h1 s hc, u, ?_, h3⟩
  unfold HM
  rw [(s 81 hc.1).1, (s 82 hc.2.1).1, (s 83 hc.2.2.1).1, (s 84 hc.2.2.2).1]
  exact h2
theorem i195 {p : Nat} : ((195 : Int32) + (3 : Int32) * nI p) + (2 : Int32) = nI (175 + (20 + 3 * p + 2)) := by
  rw [show (3 : Int32) * nI p = nI (3 * p) from nI_mul 3 p, show (195 : Int32) + nI (3 * p) = nI (195 + 3 * p) from nI_add 195 _, show nI (195 + 3 * p) + (2 : Int32) = nI (195 + 3 * p + 2) from nI_add _ 2]
  congr 1
  omega
theorem lf_eq {m0 : mMem} {c : Nat} {v : Nat → Nat} (hc : c < 256) (h : LPg m0 v) : ∃ m', fX8_laysFloors (nI c) m0 = some (some (.int (if vdS (v 1) c then 1 else 0)), m') ∧ LPg m' v ∧ SM [82, 94] m0 m' ∧ PG 175 m0 m' ∧ (vdS (v 1) c = true → HO m' 175 0 (pfS v (dgL (v 1) c))) := by
  obtain ⟨h1, u, h2, h3⟩ := h
  have ho := h1.2.1
  have hb := ho.1
  obtain ⟨w, ⟨m1, rfl, a1, a2⟩, e⟩ := lf_in (n := v 1) (c := c) hb.2.1 hc h1.1.1.2.1
  rw [e]
  dsimp only
  have e0 : m1.1 81 4 = nI (v 1) := by rw [(a1 81 (by decide)).1]; exact h1.1.1.2.1
  have hLP : LPg m1 v := LPg_sm ⟨h1, u, h2, h3⟩ a1 (by decide)
  cases hv : vdS (v 1) c
  · refine ⟨m1, ?_, hLP, a1.mono (by simp), PG_sm a1 (by decide), fun z => absurd z (by decide)⟩
    rw [lp_one]
    unfold bX8_laysFloors_95
    dsimp only
    rw [e0, show nI (if false = true then 1 else 0) = (0 : Int32) from rfl, if_pos rfl]
    split <;> exact gb_0
  · have hdig : ∀ k, k < v 1 → (dgL (v 1) c).getD k 0 < v 1 := fun k hk => by
      rw [dgL_at hk]
      exact lfG_true (v 1) c (v 1) hv _ (by omega)
    obtain ⟨q1, u1, q2, q3⟩ := hLP
    have u0 : u1 0 = v 0 := q3 0 (by omega)
    have u11 : u1 1 = v 1 := q3 1 (by omega)
    have key := lp_rel0 (body := bX8_laysFloors_95 (1 : Int32)) (fun i s => ∃ m', s = (nI i, m') ∧ HM m' 175 (wfS u1 v (dgL (v 1) c) i) ∧ SM [82] m1 m' ∧ PG 175 m1 m') (v 1) (fun res => ∃ m', res = some (some (.int (1 : Int32)), m') ∧ HM m' 175 (wfS u1 v (dgL (v 1) c) (v 1)) ∧ SM [82] m1 m' ∧ PG 175 m1 m') ((0 : Int32), m1) (by omega) ⟨m1, rfl, by rw [wfS_0]; exact q2, SM.rf, fun _ _ => rfl⟩ (fun s k => ?_) (fun i s hi => ?_)
    · obtain ⟨m', r1, r2, r3, r4⟩ := key
      rw [wfS_e q3] at r2
      have S : SM [82, 94] m0 m' := (a1.mono (by simp)).tr (r3.mono (by simp))
      have P : PG 175 m0 m' := (PG_sm a1 (by decide)).tr r4
      have H0 : HO m' 0 0 v := ⟨HM_fr q1.1 hb.1 hb.2.1 (by rw [(r3 81 (by decide)).1]) (by rw [(r3 81 (by decide)).1]) (r3 83 (by decide)).1 (r3 84 (by decide)).1 (fun q _ hq => r4 q (by omega)), ho, by decide, by rw [(r3 81 (by decide)).1]; exact q1.2.2.2.1, by decide⟩
      exact ⟨m', r1, ⟨H0, _, r2, pfS_AG _ _⟩, S, P, fun _ => ⟨r2, pfS_OK ho hdig, by decide, H0.2.2.2.1, by decide⟩⟩
    · rintro ⟨m', rfl, b1, b2, b3⟩
      unfold bX8_laysFloors_95
      dsimp only
      rw [(b2 81 (by decide)).1, e0, if_pos (nI_le (Nat.le_refl _) (by omega)), gb_1]
      exact ⟨m', rfl, b1, b2, b3⟩
    · rintro ⟨m', rfl, b1, b2, b3⟩
      have hd := hdig i hi
      have e94 : m'.1 94 i = nI ((dgL (v 1) c).getD i 0) := by rw [(b2 94 (by decide)).1]; exact a2 i hi
      have e82 : m'.1 82 (20 + 3 * (dgL (v 1) c).getD i 0 + 2) = nI (v (52 + (dgL (v 1) c).getD i 0)) := by
        rw [b3 _ (by omega)]
        have := (q1.1.2.2 _ hd).2.2.2
        rw [Nat.zero_add] at this
        exact this
      have hw0 : wfS u1 v (dgL (v 1) c) i 0 = v 0 := by unfold wfS; rw [if_neg (by omega)]; exact u0
      have hw1 : wfS u1 v (dgL (v 1) c) i 1 = v 1 := by unfold wfS; rw [if_neg (by omega)]; exact u11
      have hs := HM_set (q := 20 + 3 * i + 2) (j := 52 + i) (x := v (52 + (dgL (v 1) c).getD i 0)) b1 (by rw [hw0]; exact hb.1) (by rw [hw1]; exact hb.2.1) (by unfold RM; omega)
      rw [wfS_s] at hs
      refine ⟨(nI (i + 1), si m' 82 (175 + (20 + 3 * i + 2)) (nI (v (52 + (dgL (v 1) c).getD i 0)))), ⟨_, rfl, hs, b2.tr (SM_si (by simp)), fun q hq => by rw [si_ne _ _ (Or.inr (by omega))]; exact b3 q hq⟩, fun k => ?_⟩
      unfold bX8_laysFloors_95
      dsimp only [li, lt]
      rw [(b2 81 (by decide)).1, e0, if_neg (nI_ge hi (by omega)), if_neg (by decide), ga_nI (by omega) (by decide), nI_tn (by omega), e94, i32, ga_nI (by omega) (by decide), nI_tn (by omega), e82, i195, ga_nI (by omega) (by decide), nI_tn (by omega), show nI i + 1 = nI (i + 1) from nI_1 _]
