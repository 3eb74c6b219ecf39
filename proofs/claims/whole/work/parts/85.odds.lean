/-! PURE FACTS: odds, mean -/
def aS (v : Nat → Nat) (u i : Nat) : Nat := if v (10 + i) = 3 then 0 else u
theorem aS_le {v : Nat → Nat} {u : Nat} (h : u ≤ 10) (i : Nat) : aS v u i ≤ 10 := by
  unfold aS
  split <;> omega
def spS (v : Nat → Nat) (p : Nat) : Nat := 2 ^ rcS v p - 1
theorem spS_lt {v : Nat → Nat} {p : Nat} (ho : OK v) (hp : p < v 1) : spS v p < 16 := by
  have hr := rcS_b ho hp
  unfold spS
  exact (by decide : ∀ r, r ≤ 4 → 2 ^ r - 1 < 16) _ hr.2
/-- the class's number, of 10^10 -/
def coS (v : Nat → Nat) (u p : Nat) : Nat := smN (fun x => x % 2 * dvS (aS v u) (tdS v p) (spS v p) (v (52 + p) + 1) x) 16
theorem odd_sum (D : Nat → Nat) : smN (fun j => D (2 * j + 1)) 8 = smN (fun x => x % 2 * D x) 16 := by simp [smN]
theorem fX0_ofHome_eq {m : mMem} {u p : Nat} {v : Nat → Nat} (h : HC m 0 v) (ho : OK v) (hp : p < v 1) (hu : u ≤ 10) : ∃ m', fX0_ofHome 0 (nI p) (nI u) m = some (some (.long (nL (coS v u p))), m') ∧ SM [63, 64] m m' := by
  have hb := ho.1
  have hq := ho.2.2 p hp
  have hr := rcS_b ho hp
  have hsp := spS_lt ho hp
  have ht : tdS v p < 1024 := bt_lt hb.1
  have htb : fX4_treadBits 0 (nI p) m = some (some (.int (nI (tdS v p))), m) := fX4_treadBits_eq h ho hp
  obtain ⟨m1, e, a1, a2⟩ := fillL_eq (r := 63) (n := 16) 0 m (by decide)
  unfold fX0_ofHome
  rw [htb]
  dsimp only [bI]
  rw [fX4_reachOf_eq h ho hp]
  dsimp only [li]
  rw [sp_eq _ hr.2, e]
  dsimp only [bV, lt]
  rw [show ∀ r : mR, ga (1 : Int32) 16 r = r from fun r => ga_nI (i := 1) (by decide) (by decide), show ((1 : Int32)).toNatClampNeg = 1 from rfl]
  change ∃ m', lp (bX0_ofHome_38 0 (nI p) (nI u) (nI (tdS v p)) (nI (spS v p))) FU ((0 : Int32), sl m1 63 1 (10000000000 : Int64)) = _ ∧ _
  refine lp_rel0 (body := bX0_ofHome_38 0 (nI p) (nI u) (nI (tdS v p)) (nI (spS v p))) (fun i s => ∃ m', s = (nI i, m') ∧ SM [63, 64] m m' ∧ ∀ x, x < 16 → m'.2 63 x = nL (dvS (aS v u) (tdS v p) (spS v p) i x)) (v (52 + p) + 1) (fun res => ∃ m', res = some (some (.long (nL (coS v u p))), m') ∧ SM [63, 64] m m') _ (by omega) ⟨_, rfl, (a1.mono (by simp)).tr (SM_sl (by simp)), fun x hx => ?_⟩ (fun s k => ?_) (fun i s hi => ?_)
  · rw [sl_1]
    by_cases e1 : x = 1
    · rw [if_pos ⟨rfl, e1⟩, e1]
      rfl
    · rw [if_neg (fun z => e1 z.2), a2 x hx]
      show (0 : Int64) = nL (if x = 1 then 10000000000 else 0)
      rw [if_neg e1]
      rfl
  · rintro ⟨m', rfl, b1, b2⟩
    have e7 : m'.1 (0 + 7) p = nI (v (52 + p)) := by rw [(b1 (0 + 7) (by decide)).1]; exact (h.2.2 p hp).2.2.2
    unfold bX0_ofHome_38
    dsimp only
    rw [ga_nI (by omega) (by decide), nI_tn (by omega), e7, if_pos (nI_lt (by omega) (by omega))]
    refine ⟨m', ?_, b1⟩
    unfold coS
    rw [← odd_sum]
    refine lp_0 (fun j => (nL (smN (fun j => dvS (aS v u) (tdS v p) (spS v p) (v (52 + p) + 1) (2 * j + 1)) j), nI (2 * j + 1), m')) 8 _ (by decide) (fun kk => ?_) (fun j hj kk => ?_)
    · unfold bX0_ofHome_101
      dsimp only
      rw [if_pos (by decide)]
    · unfold bX0_ofHome_101
      dsimp only [ll, li]
      rw [if_neg (show ¬ (16 : Int32) ≤ nI (2 * j + 1) from nI_ge (b := 16) (by omega) (by decide)), ga_nI (by omega) (by decide), nI_tn (by omega), b2 _ (by omega), nL_add, show nI (2 * j + 1) + (2 : Int32) = nI (2 * (j + 1) + 1) from by
        rw [show nI (2 * j + 1) + (2 : Int32) = nI (2 * j + 1 + 2) from nI_add _ 2]
        congr 1]
      rfl
  · rintro ⟨m', rfl, b1, b2⟩
    have e7 : m'.1 (0 + 7) p = nI (v (52 + p)) := by rw [(b1 (0 + 7) (by decide)).1]; exact (h.2.2 p hp).2.2.2
    have hc := ho.2.1 i (by omega)
    have e1 : m'.1 (0 + 1) i = nI (v (10 + i)) := by rw [(b1 (0 + 1) (by decide)).1]; exact (h.2.1 i (by omega)).1
    obtain ⟨m2, f, c1, c2⟩ := fX0_passStep_eq (m := m') (sp := if (tdS v p).testBit i then spS v p else 0) (o := aS v u i) (D := dvS (aS v u) (tdS v p) (spS v p) i) (by split <;> omega) (aS_le hu i) (fun x hx => dv_le (aS_le hu) (by omega) hx) b2
    refine ⟨(nI (i + 1), m2), ⟨m2, rfl, b1.tr c1, fun x hx => c2 x hx⟩, fun k => ?_⟩
    have run : ∀ od : Int32, od = nI (aS v u i) → jX0_ofHome_65 k 0 (nI p) (nI u) (nI (tdS v p)) (nI (spS v p)) (nI i) od m' = k (nI (i + 1), m2) := fun od hod => by
      unfold jX0_ofHome_65 jX0_ofHome_84
      rw [hod]
      by_cases hz : (tdS v p).testBit i = false
      · rw [hz] at f
        rw [if_pos ((bit0 (by omega) (by omega)).mpr hz)]
        have f' : fX0_passStep (0 : Int32) (nI (aS v u i)) m' = some (none, m2) := f
        rw [f']
        dsimp only [bV, li]
        rw [show nI i + 1 = nI (i + 1) from nI_1 _]
      · have hz' : (tdS v p).testBit i = true := by simpa using hz
        rw [hz', if_pos rfl] at f
        rw [if_neg (fun z => hz ((bit0 (by omega) (by omega)).mp z)), f]
        dsimp only [bV, li]
        rw [show nI i + 1 = nI (i + 1) from nI_1 _]
    unfold bX0_ofHome_38
    dsimp only
    rw [ga_nI (by omega) (by decide), nI_tn (by omega), e7, if_neg (nI_nlt (by omega) (by omega)), ga_nI (i := i) (by omega) (by decide), nI_tn (n := i) (by omega), e1]
    by_cases h3 : v (10 + i) = 3
    · rw [if_pos (show nI (v (10 + i)) = (3 : Int32) by rw [h3]; rfl)]
      exact run _ (by unfold aS; rw [if_pos h3]; rfl)
    · rw [if_neg (by rw [show (3 : Int32) = nI 3 from rfl, nI_eq (by omega) (by decide)]; exact h3)]
      exact run _ (by unfold aS; rw [if_neg h3])
/-! ## what the number is -/
def gpS (v : Nat → Nat) (p X : Nat) : Nat := if phO v X p = 0 then 0 else 1
theorem gp_ss {v : Nat → Nat} {p : Nat} (ho : OK v) (hp : p < v 1) (X : Nat) : ssS (tdS v p) (spS v p) X (v (52 + p) + 1) % 2 = gpS v p X := by
  have hq := ho.2.2 p hp
  have hr := rcS_b ho hp
  have hb := ho.1
  have hT : ∀ j, (toS v X p).testBit j = ((tdS v p).testBit j && !(X.testBit j)) := fun j => by
    unfold toS tdS
    rw [bitsN_bit, bitsN_bit]
    by_cases hj : j < v 0
    · unfold trS
      cases X.testBit j <;> simp [hj]
    · simp [hj]
  have h1 := st_ss (sp := spS v p) (spS_lt ho hp) hT (v (52 + p) + 1)
  obtain ⟨f, L, _, _, _, g3, -⟩ := brute (t := toS v X p) hr.1 hr.2 (show v (52 + p) < 10 by omega)
  have h2 : hmB (toS v X p) (rcS v p) (v (52 + p)) = (stS (toS v X p) (spS v p) (v (52 + p) + 1) % 2 == 1) := rfl
  have h3 : phO v X p = pvS (toS v X p) (rcS v p) (v (52 + p)) := rfl
  rw [← h1]
  unfold gpS
  rw [h3]
  rw [g3] at h2
  have hm : stS (toS v X p) (spS v p) (v (52 + p) + 1) % 16 % 2 = stS (toS v X p) (spS v p) (v (52 + p) + 1) % 2 := by omega
  rw [hm]
  have hl := Nat.mod_lt (stS (toS v X p) (spS v p) (v (52 + p) + 1)) (show 0 < 2 by decide)
  by_cases hz : pvS (toS v X p) (rcS v p) (v (52 + p)) = 0
  · rw [if_pos hz]
    rw [hz] at h2
    have : ¬ stS (toS v X p) (spS v p) (v (52 + p) + 1) % 2 = 1 := fun z => by rw [z] at h2; simp at h2
    omega
  · rw [if_neg hz]
    have : (pvS (toS v X p) (rcS v p) (v (52 + p)) != 0) = true := by simp [hz]
    rw [this] at h2
    simpa using h2.symm
/-- steps above the floor count for nothing -/
theorem sum_up {a : Nat → Nat} (ha : ∀ i, a i ≤ 10) {t sp N : Nat} : ∀ d, smN (fun X => wtS a X (N + d) * (ssS t sp X N % 2)) (2 ^ (N + d)) = 10 ^ d * smN (fun X => wtS a X N * (ssS t sp X N % 2)) (2 ^ N)
  | 0 => by simp
  | d + 1 => by
    rw [show N + (d + 1) = N + d + 1 by omega, show 2 ^ (N + d + 1) = 2 ^ (N + d) + 2 ^ (N + d) by rw [Nat.pow_succ]; omega, smN_app, ← smN_add, smN_congr (g := fun X => 10 * (wtS a X (N + d) * (ssS t sp X N % 2))) _ (fun X hX => ?_), smN_mul, sum_up ha d, Nat.pow_succ, ← Nat.mul_assoc, Nat.mul_comm 10 (10 ^ d)]
    show wtS a X (N + d) * (if X.testBit (N + d) then a (N + d) else 10 - a (N + d)) * (ssS t sp X N % 2) + wtS a (2 ^ (N + d) + X) (N + d) * (if (2 ^ (N + d) + X).testBit (N + d) then a (N + d) else 10 - a (N + d)) * (ssS t sp (2 ^ (N + d) + X) N % 2) = _
    rw [wt_hi _ (Nat.le_refl _), ss_hi _ (by omega), tb_eq hX, Nat.testBit_lt_two_pow hX]
    simp only [Bool.false_eq_true, if_false, if_true]
    have := ha (N + d)
    rw [← Nat.add_mul, ← Nat.mul_add, show 10 - a (N + d) + a (N + d) = 10 by omega, Nat.mul_comm _ 10, Nat.mul_assoc]
/-- the reference's weights and denominator -/
def wrT (v : Nat → Nat) (u X : Nat) : Nat → Nat
  | 0 => 1
  | i + 1 => wrT v u X i * (if v (10 + i) = 3 then (if X.testBit i then 0 else 1) else if X.testBit i then u else 10 - u)
def lnS (v : Nat → Nat) : Nat → Nat
  | 0 => 0
  | i + 1 => lnS v i + (if v (10 + i) = 3 then 1 else 0)
def dnS (v : Nat → Nat) : Nat → Nat
  | 0 => 1
  | i + 1 => dnS v i * (if v (10 + i) = 3 then 1 else 10)
theorem wt_wr (v : Nat → Nat) (u X : Nat) : ∀ i, wtS (aS v u) X i = 10 ^ lnS v i * wrT v u X i
  | 0 => rfl
  | i + 1 => by
    show wtS (aS v u) X i * (if X.testBit i then aS v u i else 10 - aS v u i) = 10 ^ (lnS v i + (if v (10 + i) = 3 then 1 else 0)) * (wrT v u X i * (if v (10 + i) = 3 then (if X.testBit i then 0 else 1) else if X.testBit i then u else 10 - u))
    rw [wt_wr v u X i]
    unfold aS
    by_cases h3 : v (10 + i) = 3
    · rw [if_pos h3, if_pos h3, if_pos h3]
      cases X.testBit i
      · simp only [Bool.false_eq_true, if_false]
        rw [Nat.pow_succ, Nat.mul_one, Nat.sub_zero, Nat.mul_assoc, Nat.mul_assoc, Nat.mul_comm (wrT v u X i) 10]
      · simp
    · rw [if_neg h3, if_neg h3, if_neg h3, Nat.add_zero, Nat.mul_assoc]
theorem dn_ln (v : Nat → Nat) : ∀ i, dnS v i * 10 ^ lnS v i = 10 ^ i
  | 0 => rfl
  | i + 1 => by
    show dnS v i * (if v (10 + i) = 3 then 1 else 10) * 10 ^ (lnS v i + (if v (10 + i) = 3 then 1 else 0)) = _
    rw [Nat.pow_succ 10 i, ← dn_ln v i]
    by_cases h3 : v (10 + i) = 3
    · rw [if_pos h3, if_pos h3, Nat.mul_one, Nat.pow_succ, Nat.mul_assoc]
    · rw [if_neg h3, if_neg h3, Nat.add_zero, Nat.mul_assoc, Nat.mul_assoc, Nat.mul_comm 10]
def roS (v : Nat → Nat) (u p : Nat) : Nat := smN (fun X => wrT v u X (v 0) * gpS v p X) (2 ^ v 0)
def kkS (v : Nat → Nat) : Nat := 10 ^ (10 - v 0) * 10 ^ lnS v (v 0)
theorem co_ro {v : Nat → Nat} {u p : Nat} (ho : OK v) (hp : p < v 1) (hu : u ≤ 10) : coS v u p = kkS v * roS v u p ∧ coS v u p ≤ 10000000000 := by
  have hb := ho.1
  have hq := ho.2.2 p hp
  have h1 := dv_sum (aS_le (v := v) hu) (t := tdS v p) (sp := spS v p) (v (52 + p) + 1) (by omega) (fun x => x % 2)
  have h1' : coS v u p = 10 ^ (10 - (v (52 + p) + 1)) * luS (aS v u) (tdS v p) (spS v p) (v (52 + p) + 1) (fun x => x % 2) := h1
  constructor
  · rw [h1']
    have h2 := sum_up (aS_le (v := v) hu) (t := tdS v p) (sp := spS v p) (N := v (52 + p) + 1) (v 0 - (v (52 + p) + 1))
    rw [show v (52 + p) + 1 + (v 0 - (v (52 + p) + 1)) = v 0 by omega] at h2
    have h3 : smN (fun X => wtS (aS v u) X (v 0) * (ssS (tdS v p) (spS v p) X (v (52 + p) + 1) % 2)) (2 ^ v 0) = 10 ^ lnS v (v 0) * roS v u p := by
      unfold roS
      rw [← smN_mul]
      apply smN_congr
      intro X _
      rw [gp_ss ho hp X, wt_wr, Nat.mul_assoc]
    rw [h3] at h2
    unfold kkS
    rw [Nat.mul_assoc, h2]
    show _ = 10 ^ (10 - v 0) * (10 ^ (v 0 - (v (52 + p) + 1)) * luS (aS v u) (tdS v p) (spS v p) (v (52 + p) + 1) (fun x => x % 2))
    rw [← Nat.mul_assoc, ← Nat.pow_add, show 10 - v 0 + (v 0 - (v (52 + p) + 1)) = 10 - (v (52 + p) + 1) by omega]
  · rw [h1']
    have h2 := lu_le (aS_le (v := v) hu) (t := tdS v p) (sp := spS v p) (i := v (52 + p) + 1) (h := fun x => x % 2) (fun x => by show x % 2 ≤ 1; omega)
    have h3 : 10 ^ (10 - (v (52 + p) + 1)) * 10 ^ (v (52 + p) + 1) = 10000000000 := by rw [← Nat.pow_add, show 10 - (v (52 + p) + 1) + (v (52 + p) + 1) = 10 by omega]
    rw [← h3]
    exact Nat.mul_le_mul_left _ h2
theorem kk_dn {v : Nat → Nat} (h0 : v 0 ≤ 10) : kkS v * dnS v (v 0) = 10000000000 ∧ 0 < kkS v ∧ 0 < dnS v (v 0) ∧ dnS v (v 0) ≤ 10000000000 := by
  have h := dn_ln v (v 0)
  have e : kkS v * dnS v (v 0) = 10000000000 := by
    unfold kkS
    rw [Nat.mul_assoc, Nat.mul_comm (10 ^ lnS v (v 0)), h, ← Nat.pow_add, show 10 - v 0 + v 0 = 10 by omega]
  have hk : 0 < kkS v := Nat.pos_of_ne_zero (fun z => by rw [z] at e; simp at e)
  have hd : 0 < dnS v (v 0) := Nat.pos_of_ne_zero (fun z => by rw [z] at e; simp at e)
  refine ⟨e, hk, hd, ?_⟩
  rw [← e]
  exact Nat.le_mul_of_pos_left _ hk
