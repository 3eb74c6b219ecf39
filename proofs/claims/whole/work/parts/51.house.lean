/-! PURE FACTS: the class's House -/
theorem rk_eq : ∀ k, k ≤ 3 → ∀ y, y ≤ 60 → imin (nI y / 10) 3 = nI (min (y / 10) 3) ∧ imin (nI (min (y / 10) 3) + 1) 3 = nI (min (min (y / 10) 3 + 1) 3) := by decide +kernel
theorem fX4_rankOfStep_eq {m : mMem} {b i : Nat} {v : Nat → Nat} (h : HC m b v) (ho : OK v) (hi : i < v 0) : fX4_rankOfStep b (nI i) m = some (some (.int (nI (rkS (v (10 + i)) (v (20 + i))))), m) := by
  have hb := ho.1
  have hc := ho.2.1 i hi
  have hm := h.2.1 i hi
  obtain ⟨r1, r2⟩ := rk_eq (v (10 + i)) hc.1 (v (20 + i)) hc.2.1
  unfold fX4_rankOfStep
  dsimp only [li]
  rw [ga_nI (by omega) (by decide), g0i_ne (by decide), ga_nI (by omega) (by decide), nI_tn (by omega), hm.1, hm.2.1, r1, r2]
  unfold rkS
  by_cases h0 : v (10 + i) = 0
  · rw [if_pos (by rw [h0]; rfl), if_pos h0]
  · rw [if_neg (by rw [show (0 : Int32) = nI 0 from rfl, nI_eq (by omega) (by decide)]; exact h0), if_neg h0]
    by_cases h2 : v (10 + i) = 2
    · rw [if_pos (by rw [h2]; rfl), if_pos h2]
      rfl
    · rw [if_neg (by rw [show (2 : Int32) = nI 2 from rfl, nI_eq (by omega) (by decide)]; exact h2), if_neg h2]
theorem fX4_isBroken_eq {m : mMem} {b i : Nat} {v : Nat → Nat} (h : HC m b v) (ho : OK v) (hi : i < v 0) : fX4_isBroken b (nI i) m = some (some (.int (if brS v i then 1 else 0)), m) := by
  have hb := ho.1
  have hc := ho.2.1 i hi
  have hm := h.2.1 i hi
  unfold fX4_isBroken brS
  rw [ga_nI (by omega) (by decide), nI_tn (by omega), hm.2.2, h.1.2.2.2.1]
  by_cases hz : v 3 ≤ v (30 + i)
  · rw [if_neg (nI_nlt hz (by omega))]
    simp [hz]
  · rw [if_pos (nI_lt (by omega) (by omega))]
    simp [hz]
theorem ab_eq : ∀ r, r ≤ 3 → ∀ k, k ≤ 3 → ∀ g, g ≤ 3 → ((nI g < iabs (nI r - nI k)) ↔ ¬ (r ≤ k + g ∧ k ≤ r + g)) := by decide +kernel
theorem rkS_le (k y : Nat) : rkS k y ≤ 3 := by
  unfold rkS
  split
  · exact Nat.min_le_right _ _
  · split
    · exact Nat.zero_le _
    · exact Nat.min_le_right _ _
theorem fX4_isNear_eq {m : mMem} {b p i : Nat} {v : Nat → Nat} (h : HC m b v) (ho : OK v) (hp : p < v 1) (hi : i < v 0) : fX4_isNear b (nI p) (nI i) m = some (some (.int (if nrS v p i then 1 else 0)), m) := by
  have hb := ho.1
  have hc := ho.2.1 i hi
  have hm := h.2.1 i hi
  have hq := ho.2.2 p hp
  have hl := h.2.2 p hp
  unfold fX4_isNear nrS
  rw [ga_nI (by omega) (by decide), fX4_rankOfStep_eq h ho hi, nI_tn (by omega), hm.1]
  show (if nI (v (10 + i)) = (3 : Int32) then _ else ga (nI p) 4 _) = _
  rw [ga_nI (by omega) (by decide), nI_tn (by omega), hl.2.1, h.1.2.2.1]
  by_cases h3 : v (10 + i) = 3
  · rw [if_pos (by rw [h3]; rfl)]
    simp [h3]
  · rw [if_neg (by rw [show (3 : Int32) = nI 3 from rfl, nI_eq (by omega) (by decide)]; exact h3)]
    have ha := ab_eq _ (rkS_le (v (10 + i)) (v (20 + i))) (v (44 + p)) hq.2.2.1 (v 2) hb.2.2.1
    by_cases hz : rkS (v (10 + i)) (v (20 + i)) ≤ v (44 + p) + v 2 ∧ v (44 + p) ≤ rkS (v (10 + i)) (v (20 + i)) + v 2
    · rw [if_neg (fun q => (ha.mp q) hz)]
      simp [h3, hz.1, hz.2]
    · rw [if_pos (ha.mpr hz)]
      have : (decide (rkS (v (10 + i)) (v (20 + i)) ≤ v (44 + p) + v 2) && decide (v (44 + p) ≤ rkS (v (10 + i)) (v (20 + i)) + v 2)) = false := by
        rw [← Bool.not_eq_true]
        intro q
        simp at q
        exact hz q
      simp [h3, this]
theorem fX4_isHeavy_eq {m : mMem} {b p : Nat} {v : Nat → Nat} (h : HC m b v) (ho : OK v) (hp : p < v 1) : fX4_isHeavy b (nI p) m = some (some (.int (if 5 ≤ v (48 + p) then 1 else 0)), m) := by
  have hb := ho.1
  have hq := ho.2.2 p hp
  have hl := h.2.2 p hp
  unfold fX4_isHeavy
  rw [ga_nI (by omega) (by decide), nI_tn (by omega), hl.2.2.1, show (5 : Int32) = nI 5 from rfl]
  by_cases hz : 5 ≤ v (48 + p)
  · rw [if_neg (nI_nlt hz (by omega)), if_pos hz]
  · rw [if_pos (nI_lt (by omega) (by omega)), if_neg hz]
theorem mx_eq : ∀ l, l ≤ 4 → 1 ≤ l → imax (nI l - 1) 1 = nI (max (l - 1) 1) := by decide +kernel
theorem fX4_reachOf_eq {m : mMem} {b p : Nat} {v : Nat → Nat} (h : HC m b v) (ho : OK v) (hp : p < v 1) : fX4_reachOf b (nI p) m = some (some (.int (nI (rcS v p))), m) := by
  have hb := ho.1
  have hq := ho.2.2 p hp
  have hl := h.2.2 p hp
  unfold fX4_reachOf rcS
  rw [fX4_isHeavy_eq h ho hp]
  show (if (if 5 ≤ v (48 + p) then (1 : Int32) else 0) = 0 then ga (nI p) 4 _ else ga (nI p) 4 _) = _
  rw [ga_nI (by omega) (by decide), ga_nI (by omega) (by decide), nI_tn (by omega), hl.1, mx_eq _ hq.2.1 hq.1]
  by_cases hz : 5 ≤ v (48 + p)
  · simp [hz]
  · simp [hz]
/-- bits of steps, gathered by the class's loops -/
theorem nI_setbit {f : Nat → Bool} {i : Nat} (hi : i < 31) : nI (bitsN f i) ||| ((1 : Int32) <<< (nI i &&& 31)) = nI (bitsN f i ||| 2 ^ i) := by rw [nI_shl1 i hi, nI_or]
theorem fX4_brokenBits_eq {m : mMem} {b : Nat} {v : Nat → Nat} (h : HC m b v) (ho : OK v) : fX4_brokenBits b m = some (some (.int (nI (bitsN (brS v) (v 0)))), m) := by
  have hb := ho.1
  unfold fX4_brokenBits
  refine lp_0 (fun i => (nI (bitsN (brS v) i), nI i, m)) (v 0) _ (by omega) (fun k => ?_) (fun i hi k => ?_)
  · unfold bX4_brokenBits_4
    dsimp only
    rw [h.1.1, if_pos (nI_le (Nat.le_refl _) (by omega))]
  · unfold bX4_brokenBits_4 li
    dsimp only
    rw [h.1.1, if_neg (nI_ge hi (by omega)), fX4_isBroken_eq h ho hi]
    show (if (if brS v i = true then (1 : Int32) else 0) = 0 then _ else _) = _
    rw [nI_setbit (by omega), show nI i + 1 = nI (i + 1) from nI_1 i]
    rw [show bitsN (brS v) (i + 1) = if brS v i then bitsN (brS v) i ||| 2 ^ i else bitsN (brS v) i from rfl]
    cases hz : brS v i <;> simp
theorem fX4_treadBits_eq {m : mMem} {b p : Nat} {v : Nat → Nat} (h : HC m b v) (ho : OK v) (hp : p < v 1) : fX4_treadBits b (nI p) m = some (some (.int (nI (bitsN (trS v 0 p) (v 0)))), m) := by
  have hb := ho.1
  unfold fX4_treadBits
  refine lp_0 (fun i => (nI (bitsN (trS v 0 p) i), nI i, m)) (v 0) _ (by omega) (fun k => ?_) (fun i hi k => ?_)
  · unfold bX4_treadBits_4
    dsimp only
    rw [h.1.1, if_pos (nI_le (Nat.le_refl _) (by omega))]
  · unfold bX4_treadBits_4 li
    dsimp only
    rw [h.1.1, if_neg (nI_ge hi (by omega)), fX4_isBroken_eq h ho hi]
    show (if (if brS v i = true then (1 : Int32) else 0) = 0 then bI (fX4_isNear b (nI p) (nI i) m) _ else _) = _
    rw [fX4_isNear_eq h ho hp hi]
    show (if (if brS v i = true then (1 : Int32) else 0) = 0 then (if (if nrS v p i = true then (1 : Int32) else 0) = 0 then _ else _) else _) = _
    rw [nI_setbit (by omega), show nI i + 1 = nI (i + 1) from nI_1 i]
    rw [show bitsN (trS v 0 p) (i + 1) = if trS v 0 p i then bitsN (trS v 0 p) i ||| 2 ^ i else bitsN (trS v 0 p) i from rfl]
    rw [show trS v 0 p i = (!(brS v i) && nrS v p i) by simp [trS]]
    cases hz : brS v i <;> cases hn : nrS v p i <;> simp
/-- where one can stand: the loop of getsHomeBy -/
def stS (t sp : Nat) : Nat → Nat
  | 0 => 1
  | i + 1 => 2 * stS t sp i ||| (if t.testBit i && decide (stS t sp i &&& sp ≠ 0) then 1 else 0)
theorem stS_lt (t sp : Nat) : ∀ i, stS t sp i < 2 ^ (i + 1)
  | 0 => by show 1 < 2 ^ 1; decide
  | i + 1 => by
    unfold stS
    have h := stS_lt t sp i
    have h2 : 2 ^ (i + 1 + 1) = 2 ^ (i + 1) + 2 ^ (i + 1) := by rw [Nat.pow_succ]; omega
    have h3 : 1 < 2 ^ (i + 1 + 1) := Nat.one_lt_two_pow (by omega)
    refine Nat.or_lt_two_pow (by omega) ?_
    split <;> omega
def hmB (t r top : Nat) : Bool := stS t (2 ^ r - 1) (top + 1) % 2 == 1
theorem sp_eq : ∀ r, r ≤ 4 → ((1 : Int32) <<< (nI r &&& 31)) - 1 = nI (2 ^ r - 1) := by decide +kernel
theorem shl1_eq {s : Nat} (h : s < 2 ^ 20) : nI s <<< ((1 : Int32) &&& 31) = nI (2 * s) := by
  rw [pk_shlN (n := s) ((1 : Int32) &&& 31) 1 (by decide +kernel) (by omega)]
  congr 1
  omega
theorem fX4_getsHomeBy_eq {m : mMem} {b p t : Nat} {v : Nat → Nat} (h : HC m b v) (ho : OK v) (hp : p < v 1) (ht : t < 1024) : fX4_getsHomeBy b (nI p) (nI t) m = some (some (.int (if hmB t (rcS v p) (v (52 + p)) then 1 else 0)), m) := by
  have hb := ho.1
  have hq := ho.2.2 p hp
  have hl := h.2.2 p hp
  have hr : rcS v p ≤ 4 := by
    unfold rcS
    split
    · have : max (v (40 + p) - 1) 1 ≤ 4 := by omega
      exact this
    · omega
  unfold fX4_getsHomeBy
  rw [fX4_reachOf_eq h ho hp]
  dsimp only [bI, li]
  rw [sp_eq _ hr]
  refine lp_0 (fun i => (nI (stS t (2 ^ rcS v p - 1) i), nI i, m)) (v (52 + p) + 1) _ (by omega) (fun k => ?_) (fun i hi k => ?_)
  · unfold bX4_getsHomeBy_16
    dsimp only
    rw [ga_nI (by omega) (by decide), nI_tn (by omega), hl.2.2.2, if_pos (nI_lt (by omega) (by omega))]
    rw [show (1 : Int32) = nI 1 from rfl, nI_and, Nat.and_one_is_mod, show (0 : Int32) = nI 0 from rfl]
    have hlt := Nat.mod_lt (stS t (2 ^ rcS v p - 1) (v (52 + p) + 1)) (show 0 < 2 by decide)
    unfold hmB
    by_cases hz : stS t (2 ^ rcS v p - 1) (v (52 + p) + 1) % 2 = 0
    · rw [hz]; simp
    · rw [show stS t (2 ^ rcS v p - 1) (v (52 + p) + 1) % 2 = 1 by omega]
      rw [if_neg (by decide)]
      simp
  · have hs := stS_lt t (2 ^ rcS v p - 1) i
    have hs2 : 2 ^ (i + 1) ≤ 2 ^ 11 := Nat.pow_le_pow_right (by decide) (by omega)
    unfold bX4_getsHomeBy_16
    dsimp only
    rw [ga_nI (by omega) (by decide), nI_tn (by omega), hl.2.2.2, if_neg (nI_nlt (by omega) (by omega))]
    unfold jX4_getsHomeBy_47 jX4_getsHomeBy_48
    dsimp only [li]
    rw [shl1_eq (by omega), show nI i + 1 = nI (i + 1) from nI_1 i, nI_and]
    rw [show stS t (2 ^ rcS v p - 1) (i + 1) = 2 * stS t (2 ^ rcS v p - 1) i ||| (if t.testBit i && decide (stS t (2 ^ rcS v p - 1) i &&& (2 ^ rcS v p - 1) ≠ 0) then 1 else 0) from rfl]
    by_cases hz : t.testBit i = false
    · rw [if_pos ((bit0 (by omega) (by omega)).mpr hz), hz]
      rw [if_pos rfl]
      show k (nI _ ||| nI 0, _, _) = _
      rw [nI_or]
      simp
    · rw [if_neg (fun q => hz ((bit0 (by omega) (by omega)).mp q))]
      have hz' : t.testBit i = true := by simpa using hz
      have hand : stS t (2 ^ rcS v p - 1) i &&& (2 ^ rcS v p - 1) < 2 ^ 31 := Nat.lt_of_le_of_lt Nat.and_le_left (by omega)
      by_cases hy : stS t (2 ^ rcS v p - 1) i &&& (2 ^ rcS v p - 1) = 0
      · rw [if_pos (by rw [hy]; rfl), hz']
        rw [if_pos rfl]
        show k (nI _ ||| nI 0, _, _) = _
        rw [nI_or]
        simp [hy]
      · rw [if_neg (by rw [show (0 : Int32) = nI 0 from rfl, nI_eq hand (by decide)]; exact hy), hz']
        rw [if_neg (by decide)]
        show k (nI _ ||| nI 1, _, _) = _
        rw [nI_or, show (true && decide (stS t (2 ^ rcS v p - 1) i &&& (2 ^ rcS v p - 1) ≠ 0)) = true by rw [Bool.true_and]; exact decide_eq_true hy]
        rfl
theorem bt_lt {f : Nat → Bool} {n : Nat} (h : n ≤ 10) : bitsN f n < 1024 := Nat.lt_of_lt_of_le (bitsN_lt f n) (Nat.pow_le_pow_right (by decide) h)
theorem fX4_getsHome_eq {m : mMem} {b p : Nat} {v : Nat → Nat} (h : HC m b v) (ho : OK v) (hp : p < v 1) : fX4_getsHome b (nI p) m = some (some (.int (if hmB (bitsN (trS v 0 p) (v 0)) (rcS v p) (v (52 + p)) then 1 else 0)), m) := by
  unfold fX4_getsHome
  rw [fX4_treadBits_eq h ho hp]
  show bI (fX4_getsHomeBy b (nI p) (nI _) m) _ = _
  rw [fX4_getsHomeBy_eq h ho hp (bt_lt ho.1.1)]
  cases hmB (bitsN (trS v 0 p) (v 0)) (rcS v p) (v (52 + p)) <;> rfl
/-! ## copies -/
theorem fX4_copyFrom_eq {m : mMem} {a b : Nat} {v : Nat → Nat} (hab : a + 8 ≤ b ∨ b + 8 ≤ a) (h : HC m a v) (ho : OK v) : ∃ m', fX4_copyFrom b a m = some (none, m') ∧ HC m' b v ∧ SM [b, b + 1, b + 2, b + 3, b + 4, b + 5, b + 6, b + 7] m m' := by
  have hb := ho.1
  unfold fX4_copyFrom
  dsimp only [lt]
  refine ⟨_, rfl, ⟨⟨?_, ?_, ?_, ?_, ?_⟩, fun i hi => ⟨?_, ?_, ?_⟩, fun p hp => ⟨?_, ?_, ?_, ?_⟩⟩, ?_⟩
  · rw [ci_1, if_neg (by omega), ci_1, if_neg (by omega), ci_1, if_neg (by omega), ci_1, if_neg (by omega), ci_1, if_neg (by omega), ci_1, if_neg (by omega), ci_1, if_neg (by omega), si_1, if_neg (by omega), si_1, if_neg (by omega), si_1, if_neg (by omega), si_1, if_neg (by omega), si_1, if_pos (by omega), h.1.1]
  · rw [ci_1, if_neg (by omega), ci_1, if_neg (by omega), ci_1, if_neg (by omega), ci_1, if_neg (by omega), ci_1, if_neg (by omega), ci_1, if_neg (by omega), ci_1, if_neg (by omega), si_1, if_neg (by omega), si_1, if_neg (by omega), si_1, if_neg (by omega), si_1, if_pos (by omega), si_1, if_neg (by omega), h.1.2.1]
  · rw [ci_1, if_neg (by omega), ci_1, if_neg (by omega), ci_1, if_neg (by omega), ci_1, if_neg (by omega), ci_1, if_neg (by omega), ci_1, if_neg (by omega), ci_1, if_neg (by omega), si_1, if_neg (by omega), si_1, if_neg (by omega), si_1, if_pos (by omega), si_1, if_neg (by omega), si_1, if_neg (by omega), h.1.2.2.1]
  · rw [ci_1, if_neg (by omega), ci_1, if_neg (by omega), ci_1, if_neg (by omega), ci_1, if_neg (by omega), ci_1, if_neg (by omega), ci_1, if_neg (by omega), ci_1, if_neg (by omega), si_1, if_neg (by omega), si_1, if_pos (by omega), si_1, if_neg (by omega), si_1, if_neg (by omega), si_1, if_neg (by omega), h.1.2.2.2.1]
  · rw [ci_1, if_neg (by omega), ci_1, if_neg (by omega), ci_1, if_neg (by omega), ci_1, if_neg (by omega), ci_1, if_neg (by omega), ci_1, if_neg (by omega), ci_1, if_neg (by omega), si_1, if_pos (by omega), si_1, if_neg (by omega), si_1, if_neg (by omega), si_1, if_neg (by omega), si_1, if_neg (by omega), h.1.2.2.2.2]
  · rw [ci_1, if_neg (by omega), ci_1, if_neg (by omega), ci_1, if_neg (by omega), ci_1, if_neg (by omega), ci_1, if_neg (by omega), ci_1, if_neg (by omega), ci_1, if_pos (by omega), si_1, if_neg (by omega), si_1, if_neg (by omega), si_1, if_neg (by omega), si_1, if_neg (by omega), si_1, if_neg (by omega), (h.2.1 i hi).1]
  · rw [ci_1, if_neg (by omega), ci_1, if_neg (by omega), ci_1, if_neg (by omega), ci_1, if_neg (by omega), ci_1, if_neg (by omega), ci_1, if_pos (by omega), ci_1, if_neg (by omega), si_1, if_neg (by omega), si_1, if_neg (by omega), si_1, if_neg (by omega), si_1, if_neg (by omega), si_1, if_neg (by omega), (h.2.1 i hi).2.1]
  · rw [ci_1, if_neg (by omega), ci_1, if_neg (by omega), ci_1, if_neg (by omega), ci_1, if_neg (by omega), ci_1, if_pos (by omega), ci_1, if_neg (by omega), ci_1, if_neg (by omega), si_1, if_neg (by omega), si_1, if_neg (by omega), si_1, if_neg (by omega), si_1, if_neg (by omega), si_1, if_neg (by omega), (h.2.1 i hi).2.2]
  · rw [ci_1, if_neg (by omega), ci_1, if_neg (by omega), ci_1, if_neg (by omega), ci_1, if_pos (by omega), ci_1, if_neg (by omega), ci_1, if_neg (by omega), ci_1, if_neg (by omega), si_1, if_neg (by omega), si_1, if_neg (by omega), si_1, if_neg (by omega), si_1, if_neg (by omega), si_1, if_neg (by omega), (h.2.2 p hp).1]
  · rw [ci_1, if_neg (by omega), ci_1, if_neg (by omega), ci_1, if_pos (by omega), ci_1, if_neg (by omega), ci_1, if_neg (by omega), ci_1, if_neg (by omega), ci_1, if_neg (by omega), si_1, if_neg (by omega), si_1, if_neg (by omega), si_1, if_neg (by omega), si_1, if_neg (by omega), si_1, if_neg (by omega), (h.2.2 p hp).2.1]
  · rw [ci_1, if_neg (by omega), ci_1, if_pos (by omega), ci_1, if_neg (by omega), ci_1, if_neg (by omega), ci_1, if_neg (by omega), ci_1, if_neg (by omega), ci_1, if_neg (by omega), si_1, if_neg (by omega), si_1, if_neg (by omega), si_1, if_neg (by omega), si_1, if_neg (by omega), si_1, if_neg (by omega), (h.2.2 p hp).2.2.1]
  · rw [ci_1, if_pos (by omega), ci_1, if_neg (by omega), ci_1, if_neg (by omega), ci_1, if_neg (by omega), ci_1, if_neg (by omega), ci_1, if_neg (by omega), ci_1, if_neg (by omega), si_1, if_neg (by omega), si_1, if_neg (by omega), si_1, if_neg (by omega), si_1, if_neg (by omega), si_1, if_neg (by omega), (h.2.2 p hp).2.2.2]
  · exact SM.tr (SM.tr (SM.tr (SM.tr (SM.tr (SM.tr (SM.tr (SM.tr (SM.tr (SM.tr (SM.tr (SM_si (by simp)) (SM_si (by simp))) (SM_si (by simp))) (SM_si (by simp))) (SM_si (by simp))) (SM_ci (by simp))) (SM_ci (by simp))) (SM_ci (by simp))) (SM_ci (by simp))) (SM_ci (by simp))) (SM_ci (by simp))) (SM_ci (by simp))
