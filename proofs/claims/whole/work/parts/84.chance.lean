/-! PURE FACTS: longs; chances of the class -/
def nL (n : Nat) : Int64 := Int64.ofNat n
theorem nL_toInt {n : Nat} (h : n < 2 ^ 63) : (nL n).toInt = n := Int64.toInt_ofNat_of_lt h
theorem nL_add (a b : Nat) : nL a + nL b = nL (a + b) := (Int64.ofNat_add a b).symm
theorem nL_mul (a b : Nat) : nL a * nL b = nL (a * b) := (Int64.ofNat_mul a b).symm
theorem nL_sub {a b : Nat} (h : b ≤ a) : nL a - nL b = nL (a - b) := by
  have e : nL a = nL (a - b) + nL b := by rw [nL_add]; congr 1; omega
  rw [e, Int64.add_sub_cancel]
theorem nL_div {a b : Nat} (ha : a < 2 ^ 63) (hb : b < 2 ^ 63) : nL a / nL b = nL (a / b) := by
  apply Int64.toInt_inj.mp
  rw [Int64.toInt_div_of_ne_left, nL_toInt ha, nL_toInt hb, nL_toInt (Nat.lt_of_le_of_lt (Nat.div_le_self _ _) ha)]
  · rfl
  · intro e
    have := congrArg Int64.toInt e
    rw [nL_toInt ha] at this
    simp at this
theorem nL_0 {n : Nat} (h : n < 2 ^ 63) : nL n = (0 : Int64) ↔ n = 0 := by
  constructor
  · intro e
    have := congrArg Int64.toInt e
    rw [nL_toInt h] at this
    have h0 : (0 : Int64).toInt = 0 := rfl
    omega
  · intro e
    rw [e]
    rfl
theorem lgc0 (x : Int64) : lg_cmp x 0 = (0 : Int32) ↔ x = 0 := by
  unfold lg_cmp
  constructor
  · intro h
    by_cases h1 : x > 0
    · rw [if_pos h1] at h
      exact absurd h (by decide)
    · rw [if_neg h1] at h
      by_cases h2 : x = 0
      · exact h2
      · rw [if_neg h2] at h
        exact absurd h (by decide)
  · intro h
    subst h
    rfl
theorem nI_L {k : Nat} (h : k < 2 ^ 31) : (nI k).toInt64 = nL k := by
  apply Int64.toInt_inj.mp
  rw [Int32.toInt_toInt64, nI_toInt h, nL_toInt (by omega)]
theorem nL_mod {a b : Nat} (ha : a < 2 ^ 63) (hb : b < 2 ^ 63) : nL a - nL a / nL b * nL b = nL (a % b) := by
  have h : a / b * b ≤ a := Nat.div_mul_le_self a b
  rw [nL_div ha hb, nL_mul, nL_sub h]
  congr 1
  rw [Nat.mod_def, Nat.mul_comm]
/-! ## Euclid -/
theorem mod_half {b c : Nat} (hc : 0 < c) (h : c < b) : 2 * (b % c) < b := by
  have h1 := Nat.mod_lt b hc
  have h2 : b % c ≤ b - c := by
    rw [Nat.mod_eq_sub_mod (Nat.le_of_lt h)]
    exact Nat.mod_le _ _
  omega
theorem b10 (x0 : Int64) (x2 : Int32) (K : Int64 × Int64 × Int32 × mMem → mR) (x3 x5 : Int64) (x7 : Int32) (m : mMem) : bX0_lowest_10 x0 x2 K (x3, x5, x7, m) = (if (100 : Int32) ≤ x7 then jX0_lowest_43 x0 x2 x3 m else if (lg_cmp x5 (0 : Int64)) = (0 : Int32) then jX0_lowest_43 x0 x2 x3 m else g0l x5 (K (x5, x3 - x3 / x5 * x5, x7 + 1, m))) := rfl
theorem b6 (x0 x2 : Int64) (x4 : Int32) (K : Int64 × Int64 × mMem → mR) (x5 x7 : Int64) (m : mMem) : bX8_lowest_6 x0 x2 x4 K (x5, x7, m) = (if (lg_cmp x7 (0 : Int64)) = (0 : Int32) then if x4 = (0 : Int32) then g0l x5 (some (some (.long (x0 / x5)), m)) else g0l x5 (some (some (.long (x2 / x5)), m)) else g0l x7 (K (x7, x5 - x5 / x7 * x7, m))) := rfl
theorem eu_7 {x0 : Int64} {x2 : Int32} : ∀ (k a b i : Nat) (m : mMem) (F : Nat), a < 2 ^ 62 → b < 2 ^ k → k ≤ 40 → i + 2 * k ≤ 90 → 2 * k < F → lp (bX0_lowest_10 x0 x2) F (nL a, nL b, nI i, m) = jX0_lowest_43 x0 x2 (nL (Nat.gcd a b)) m
  | k, a, b, i, m, F + 1, ha, hb, hk, hi, hF => by
    have hk2 : 2 ^ k ≤ 2 ^ 40 := Nat.pow_le_pow_right (by decide) hk
    show bX0_lowest_10 x0 x2 (lp (bX0_lowest_10 x0 x2) F) (nL a, nL b, nI i, m) = _
    rw [b10, if_neg (show ¬ (100 : Int32) ≤ nI i from nI_ge (b := 100) (by omega) (by decide))]
    by_cases h0 : b = 0
    · rw [if_pos ((lgc0 _).mpr ((nL_0 (by omega)).mpr h0)), h0, Nat.gcd_zero_right]
    · have hb0 : ¬ nL b = (0 : Int64) := fun z => h0 ((nL_0 (by omega)).mp z)
      rw [if_neg (fun z => hb0 ((lgc0 _).mp z)), g0l_ne hb0, nL_mod (by omega) (by omega), show nI i + 1 = nI (i + 1) from nI_1 _]
      obtain ⟨k', rfl⟩ : ∃ k', k = k' + 1 := ⟨k - 1, by
        rcases Nat.eq_zero_or_pos k with z | z
        · subst z
          simp at hb
          omega
        · omega⟩
      obtain ⟨F', rfl⟩ : ∃ F', F = F' + 1 := ⟨F - 1, by omega⟩
      have hml := Nat.mod_lt a (Nat.pos_of_ne_zero h0)
      show bX0_lowest_10 x0 x2 (lp (bX0_lowest_10 x0 x2) F') (nL b, nL (a % b), nI (i + 1), m) = _
      rw [b10, if_neg (show ¬ (100 : Int32) ≤ nI (i + 1) from nI_ge (b := 100) (by omega) (by decide))]
      have hg : Nat.gcd a b = Nat.gcd b (a % b) := by rw [Nat.gcd_comm a b, Nat.gcd_rec b a, Nat.gcd_comm]
      by_cases h1 : a % b = 0
      · rw [if_pos ((lgc0 _).mpr ((nL_0 (by omega)).mpr h1)), hg, h1, Nat.gcd_zero_right]
      · have hb1 : ¬ nL (a % b) = (0 : Int64) := fun z => h1 ((nL_0 (by omega)).mp z)
        rw [if_neg (fun z => hb1 ((lgc0 _).mp z)), g0l_ne hb1, nL_mod (by omega) (by omega), show nI (i + 1) + 1 = nI (i + 2) from nI_1 _]
        have hh := mod_half (Nat.pos_of_ne_zero h1) hml
        have h2k : 2 ^ (k' + 1) = 2 * 2 ^ k' := by rw [Nat.pow_succ]; omega
        rw [eu_7 k' (a % b) (b % (a % b)) (i + 2) m F' (by omega) (by omega) (by omega) (by omega) (by omega), hg, Nat.gcd_comm b (a % b), Nat.gcd_rec (a % b) b, Nat.gcd_comm]
  | _, _, _, _, _, 0, _, _, _, _, h => absurd h (Nat.not_lt_zero _)
theorem fX0_lowest_eq {c : Nat} (x2 : Int32) (m : mMem) (hc : c ≤ 40000000000) : fX0_lowest (nL c) x2 m = some (some (.long (if x2 = (0 : Int32) then nL (c / Nat.gcd 10000000000 c) else nL (10000000000 / Nat.gcd 10000000000 c))), m) := by
  unfold fX0_lowest
  have h := eu_7 (x0 := nL c) (x2 := x2) 40 10000000000 c 0 m FU (by decide) (Nat.lt_of_le_of_lt hc (by decide)) (by decide) (by decide) (by decide)
  have h' : lp (bX0_lowest_10 (nL c) x2) FU ((10000000000 : Int64), nL c, (0 : Int32), m) = _ := h
  rw [h']
  have hg0 : 0 < Nat.gcd 10000000000 c := Nat.gcd_pos_of_pos_left _ (by decide)
  have hgl : Nat.gcd 10000000000 c ≤ 10000000000 := Nat.gcd_le_left _ (by decide)
  unfold jX0_lowest_43
  have hz : ¬ nL (Nat.gcd 10000000000 c) = (0 : Int64) := fun z => by
    have := (nL_0 (by omega)).mp z
    omega
  rw [if_neg (fun z => hz ((lgc0 _).mp z)), g0l_ne hz, g0l_ne hz, nL_div (by omega) (by omega), show (10000000000 : Int64) / nL (Nat.gcd 10000000000 c) = nL (10000000000 / Nat.gcd 10000000000 c) from nL_div (a := 10000000000) (by decide) (by omega)]
  split <;> rfl
theorem eu_8 {x0 x2 : Int64} {x4 : Int32} : ∀ (k a b : Nat) (m : mMem) (F : Nat), a < 2 ^ 62 → b < 2 ^ k → k ≤ 40 → 2 * k < F → 0 < Nat.gcd a b → lp (bX8_lowest_6 x0 x2 x4) F (nL a, nL b, m) = if x4 = (0 : Int32) then some (some (.long (x0 / nL (Nat.gcd a b))), m) else some (some (.long (x2 / nL (Nat.gcd a b))), m)
  | k, a, b, m, F + 1, ha, hb, hk, hF, hg0 => by
    have hk2 : 2 ^ k ≤ 2 ^ 40 := Nat.pow_le_pow_right (by decide) hk
    show bX8_lowest_6 x0 x2 x4 (lp (bX8_lowest_6 x0 x2 x4) F) (nL a, nL b, m) = _
    rw [b6]
    by_cases h0 : b = 0
    · subst h0
      rw [Nat.gcd_zero_right] at hg0 ⊢
      have hz : ¬ nL a = (0 : Int64) := fun z => by
        have := (nL_0 (by omega)).mp z
        omega
      rw [if_pos ((lgc0 (nL 0)).mpr rfl), g0l_ne hz, g0l_ne hz]
    · have hb0 : ¬ nL b = (0 : Int64) := fun z => h0 ((nL_0 (by omega)).mp z)
      rw [if_neg (fun z => hb0 ((lgc0 _).mp z)), g0l_ne hb0, nL_mod (by omega) (by omega)]
      obtain ⟨k', rfl⟩ : ∃ k', k = k' + 1 := ⟨k - 1, by
        rcases Nat.eq_zero_or_pos k with z | z
        · subst z
          simp at hb
          omega
        · omega⟩
      obtain ⟨F', rfl⟩ : ∃ F', F = F' + 1 := ⟨F - 1, by omega⟩
      have hml := Nat.mod_lt a (Nat.pos_of_ne_zero h0)
      show bX8_lowest_6 x0 x2 x4 (lp (bX8_lowest_6 x0 x2 x4) F') (nL b, nL (a % b), m) = _
      rw [b6]
      have hg : Nat.gcd a b = Nat.gcd b (a % b) := by rw [Nat.gcd_comm a b, Nat.gcd_rec b a, Nat.gcd_comm]
      by_cases h1 : a % b = 0
      · rw [if_pos ((lgc0 _).mpr ((nL_0 (by omega)).mpr h1)), g0l_ne hb0, g0l_ne hb0, hg, h1, Nat.gcd_zero_right]
      · have hb1 : ¬ nL (a % b) = (0 : Int64) := fun z => h1 ((nL_0 (by omega)).mp z)
        rw [if_neg (fun z => hb1 ((lgc0 _).mp z)), g0l_ne hb1, nL_mod (by omega) (by omega)]
        have hh := mod_half (Nat.pos_of_ne_zero h1) hml
        have h2k : 2 ^ (k' + 1) = 2 * 2 ^ k' := by rw [Nat.pow_succ]; omega
        have hg2 : Nat.gcd (a % b) (b % (a % b)) = Nat.gcd a b := by rw [hg, Nat.gcd_comm b (a % b), Nat.gcd_rec (a % b) b, Nat.gcd_comm]
        rw [eu_8 k' (a % b) (b % (a % b)) m F' (by omega) (by omega) (by omega) (by omega) (by rw [hg2]; exact hg0), hg2]
  | _, _, _, _, 0, _, _, _, h, _ => absurd h (Nat.not_lt_zero _)
theorem fX8_lowest_eq {c d : Nat} (x2 : Int32) (m : mMem) (hc : c ≤ 40000000000) (hd : 0 < d) (hd2 : d ≤ 10000000000) : fX8_lowest (nL c) (nL d) x2 m = some (some (.long (if x2 = (0 : Int32) then nL (c / Nat.gcd c d) else nL (d / Nat.gcd c d))), m) := by
  have hg0 : 0 < Nat.gcd c d := Nat.gcd_pos_of_pos_right _ hd
  have hgl : Nat.gcd c d ≤ d := Nat.gcd_le_right _ hd
  unfold fX8_lowest
  rw [eu_8 40 c d m FU (by omega) (by omega) (by decide) (by decide) hg0, nL_div (by omega) (by omega), nL_div (by omega) (by omega)]
  split <;> rfl
theorem low_same {K R d : Nat} (hK : 0 < K) (hd : 0 < d) : K * R / Nat.gcd (K * d) (K * R) = R / Nat.gcd R d ∧ K * d / Nat.gcd (K * d) (K * R) = d / Nat.gcd R d := by
  rw [Nat.gcd_mul_left, Nat.gcd_comm d R]
  exact ⟨Nat.mul_div_mul_left _ _ hK, Nat.mul_div_mul_left _ _ hK⟩
/-! ## memory of longs -/
theorem sl_1 (m : mMem) (b k : Nat) (x : Int64) (c j : Nat) : (sl m b k x).2 c j = if c = b ∧ j = k then x else m.2 c j := by
  by_cases h : c = b
  · subst h
    by_cases h2 : j = k
    · simp [sl, vp_updL, h2]
    · simp [sl, vp_updL, h2]
  · simp [sl, h]
theorem cl_1 (m : mMem) (a b n c j : Nat) : (cl m a b 0 0 n).2 c j = if c = b ∧ j < n then m.2 a j else m.2 c j := by
  by_cases h : c = b
  · subst h
    by_cases h2 : j < n
    · simp [cl, va_cpy, h2]
    · simp [cl, va_cpy, h2]
  · simp [cl, h]
theorem fillL_eq {r n : Nat} (x : Int64) (m : mMem) (hn : n < 1000) : ∃ m', fJ7_fill_d0a16 r n x m = some (none, m') ∧ SM [r] m m' ∧ ∀ j, j < n → m'.2 r j = x := by
  unfold fJ7_fill_d0a16
  dsimp only [li]
  refine lp_rel0 (body := bJ7_fill_d0a16_6 r n x (Int32.ofNat n)) (fun i s => ∃ m', s = (nI i, m') ∧ SM [r] m m' ∧ ∀ j, j < i → m'.2 r j = x) n (fun res => ∃ m', res = some (none, m') ∧ SM [r] m m' ∧ ∀ j, j < n → m'.2 r j = x) _ (by omega) ⟨m, rfl, SM.rf, fun j hj => absurd hj (Nat.not_lt_zero _)⟩ (fun s k => ?_) (fun i s hi => ?_)
  · rintro ⟨m', rfl, a1, a2⟩
    unfold bJ7_fill_d0a16_6
    dsimp only
    rw [if_pos (show Int32.ofNat n ≤ nI n from nI_le (Nat.le_refl _) (by omega))]
    exact ⟨m', rfl, a1, a2⟩
  · rintro ⟨m', rfl, a1, a2⟩
    refine ⟨(nI (i + 1), sl m' r i x), ⟨_, rfl, a1.tr (SM_sl (by simp)), fun j hj => ?_⟩, fun k => ?_⟩
    · rw [sl_1]
      by_cases e : j = i
      · rw [if_pos ⟨rfl, e⟩]
      · rw [if_neg (fun z => e z.2)]
        exact a2 j (by omega)
    · unfold bJ7_fill_d0a16_6
      dsimp only [li, lt]
      rw [if_neg (show ¬ Int32.ofNat n ≤ nI i from nI_ge hi (by omega)), ga_nI hi (by omega), nI_tn (by omega), show nI i + 1 = nI (i + 1) from nI_1 _]
/-! ## passStep -/
theorem y0_eq : ∀ x, x < 16 → (nI x <<< ((1 : Int32) &&& 31)) &&& (15 : Int32) = nI (y0S x) ∧ nI (y0S x) ||| (1 : Int32) = nI (y0S x + 1) := by decide +kernel
theorem fX0_passStep_eq {m : mMem} {sp o : Nat} {D : Nat → Nat} (hsp : sp < 16) (ho : o ≤ 10) (hD : ∀ x, x < 16 → D x ≤ 10000000000) (h63 : ∀ x, x < 16 → m.2 63 x = nL (D x)) : ∃ m', fX0_passStep (nI sp) (nI o) m = some (none, m') ∧ SM [63, 64] m m' ∧ ∀ x, x < 16 → m'.2 63 x = nL (acS sp o D 16 x) := by
  obtain ⟨m1, e, a1, a2⟩ := fillL_eq (r := 64) (n := 16) 0 m (by decide)
  unfold fX0_passStep
  rw [e]
  dsimp only [bV]
  refine lp_rel0 (body := bX0_passStep_10 (nI sp) (nI o)) (fun k s => ∃ m', s = (nI k, m') ∧ SM [63, 64] m m' ∧ (∀ x, x < 16 → m'.2 63 x = nL (D x)) ∧ ∀ y, y < 16 → m'.2 64 y = nL (acS sp o D k y)) 16 (fun res => ∃ m', res = some (none, m') ∧ SM [63, 64] m m' ∧ ∀ x, x < 16 → m'.2 63 x = nL (acS sp o D 16 x)) _ (by decide) ⟨m1, rfl, a1.mono (by simp), fun x hx => by rw [(a1 63 (by decide)).2]; exact h63 x hx, fun y hy => a2 y hy⟩ (fun s k => ?_) (fun k s hk => ?_)
  · rintro ⟨m', rfl, b1, b2, b3⟩
    unfold bX0_passStep_10
    dsimp only [lt]
    rw [if_pos (by decide)]
    exact ⟨_, rfl, b1.tr (SM_cl (by simp)), fun x hx => by rw [cl_1, if_pos ⟨rfl, hx⟩]; exact b3 x hx⟩
  · rintro ⟨m', rfl, b1, b2, b3⟩
    obtain ⟨y1, y2⟩ := y0_eq k hk
    have hy := y0_lt k
    have hDk := hD k hk
    have hstep : ∀ y, acS sp o D (k + 1) y = acS sp o D k y + (if y = y0S k then (pqS sp o D k).1 else 0) + (if y = y0S k + 1 then (pqS sp o D k).2 else 0) := fun y => rfl
    by_cases hz : k &&& sp = 0
    · have hpq : pqS sp o D k = (D k, 0) := by unfold pqS; rw [if_pos hz]
      refine ⟨(nI (k + 1), sl m' 64 (y0S k) (nL (acS sp o D k (y0S k) + D k))), ⟨_, rfl, b1.tr (SM_sl (by simp)), fun x hx => by rw [sl_1, if_neg (fun z => absurd z.1 (by decide))]; exact b2 x hx, fun y hyy => ?_⟩, fun kk => ?_⟩
      · rw [sl_1, hstep, hpq]
        by_cases e : y = y0S k
        · rw [if_pos ⟨rfl, e⟩, e, if_pos rfl, if_neg (by omega)]
          rfl
        · rw [if_neg (fun z => e z.2), if_neg e, b3 y hyy]
          dsimp only
          split <;> rfl
      · unfold bX0_passStep_10
        dsimp only [li, lt]
        rw [if_neg (show ¬ (16 : Int32) ≤ nI k from nI_ge (b := 16) hk (by decide)), y1, nI_and, if_pos (show nI (k &&& sp) = (0 : Int32) by rw [hz]; rfl), ga_nI (i := y0S k) (by omega) (by decide), ga_nI hk (by decide), ga_nI (i := y0S k) (by omega) (by decide), nI_tn (by omega), nI_tn (by omega), b3 _ (by omega), b2 k hk, nL_add, show nI k + 1 = nI (k + 1) from nI_1 _]
    · have hpq : pqS sp o D k = (D k / 10 * o, D k - D k / 10 * o) := by unfold pqS; rw [if_neg hz]
      have hle : D k / 10 * o ≤ D k := by
        have h1 : D k / 10 * o ≤ D k / 10 * 10 := Nat.mul_le_mul_left _ ho
        have h2 := Nat.div_mul_le_self (D k) 10
        omega
      have hand : k &&& sp < 2 ^ 31 := Nat.lt_of_le_of_lt Nat.and_le_left (by omega)
      obtain ⟨m2, hm2⟩ : ∃ m2, m2 = sl m' 64 (y0S k) (nL (acS sp o D k (y0S k) + D k / 10 * o)) := ⟨_, rfl⟩
      have c1 : m2.2 64 (y0S k + 1) = nL (acS sp o D k (y0S k + 1)) := by
        rw [hm2, sl_1, if_neg (fun z => by have := z.2; omega)]
        exact b3 _ hy
      have c2 : m2.2 63 k = nL (D k) := by
        rw [hm2, sl_1, if_neg (fun z => absurd z.1 (by decide))]
        exact b2 k hk
      refine ⟨(nI (k + 1), sl m2 64 (y0S k + 1) (nL (acS sp o D k (y0S k + 1) + (D k - D k / 10 * o)))), ⟨_, rfl, by rw [hm2]; exact (b1.tr (SM_sl (by simp))).tr (SM_sl (by simp)), fun x hx => by rw [sl_1, if_neg (fun z => absurd z.1 (by decide)), hm2, sl_1, if_neg (fun z => absurd z.1 (by decide))]; exact b2 x hx, fun y hyy => ?_⟩, fun kk => ?_⟩
      · rw [sl_1, hstep, hpq, hm2, sl_1]
        by_cases e : y = y0S k + 1
        · rw [if_pos ⟨rfl, e⟩, e, if_neg (by omega), if_pos rfl]
          rfl
        · rw [if_neg (fun z => e z.2), if_neg e]
          by_cases e2 : y = y0S k
          · rw [if_pos ⟨rfl, e2⟩, e2, if_pos rfl]
            rfl
          · rw [if_neg (fun z => e2 z.2), if_neg e2, b3 y hyy]
            rfl
      · unfold bX0_passStep_10
        dsimp only [li, lt, ll]
        have hdiv : m'.2 63 k / (10 : Int64) * (nI o).toInt64 = nL (D k / 10 * o) := by
          rw [b2 k hk, nI_L (by omega), show nL (D k) / (10 : Int64) = nL (D k / 10) from nL_div (b := 10) (by omega) (by decide), nL_mul]
        rw [if_neg (show ¬ (16 : Int32) ≤ nI k from nI_ge (b := 16) hk (by decide)), y1, nI_and, if_neg (fun z => hz ((nI_0iff hand).mp z)), ga_nI hk (by decide), g0l_ne (by decide), ga_nI (i := y0S k) (by omega) (by decide), ga_nI (i := y0S k) (by omega) (by decide), nI_tn (show y0S k < 2 ^ 31 by omega), nI_tn (show k < 2 ^ 31 by omega), hdiv, b3 _ (by omega), nL_add, ← hm2, y2, ga_nI (i := y0S k + 1) hy (by decide), ga_nI hk (by decide), ga_nI (i := y0S k + 1) hy (by decide), nI_tn (show y0S k + 1 < 2 ^ 31 by omega), c1, c2, nL_sub hle, nL_add, show nI k + 1 = nI (k + 1) from nI_1 _]
