/-! PURE FACTS: sums over sets of steps that are out -/
def smN (f : Nat → Nat) : Nat → Nat
  | 0 => 0
  | n + 1 => smN f n + f n
theorem smN_congr {f g : Nat → Nat} : ∀ n, (∀ i, i < n → f i = g i) → smN f n = smN g n
  | 0, _ => rfl
  | n + 1, h => by
    show smN f n + f n = smN g n + g n
    rw [smN_congr n (fun i hi => h i (by omega)), h n (by omega)]
theorem smN_add (f g : Nat → Nat) : ∀ n, smN (fun i => f i + g i) n = smN f n + smN g n
  | 0 => rfl
  | n + 1 => by
    show smN (fun i => f i + g i) n + (f n + g n) = smN f n + f n + (smN g n + g n)
    rw [smN_add f g n]
    omega
theorem smN_mul (c : Nat) (f : Nat → Nat) : ∀ n, smN (fun i => c * f i) n = c * smN f n
  | 0 => rfl
  | n + 1 => by
    show smN (fun i => c * f i) n + c * f n = c * (smN f n + f n)
    rw [smN_mul c f n, Nat.mul_add]
theorem smN_zero : ∀ n, smN (fun _ => 0) n = 0
  | 0 => rfl
  | n + 1 => by show smN (fun _ => 0) n + 0 = 0; rw [smN_zero n]
theorem smN_le {f g : Nat → Nat} : ∀ n, (∀ i, i < n → f i ≤ g i) → smN f n ≤ smN g n
  | 0, _ => Nat.le_refl _
  | n + 1, h => Nat.add_le_add (smN_le n (fun i hi => h i (by omega))) (h n (by omega))
theorem smN_app (f : Nat → Nat) (a : Nat) : ∀ b, smN f (a + b) = smN f a + smN (fun i => f (a + i)) b
  | 0 => rfl
  | b + 1 => by
    show smN f (a + b) + f (a + b) = smN f a + (smN (fun i => f (a + i)) b + f (a + b))
    rw [smN_app f a b]
    omega
/-- one place only -/
theorem smN_one (c k : Nat) : ∀ n, smN (fun i => if i = k then c else 0) n = if k < n then c else 0
  | 0 => by simp [smN]
  | n + 1 => by
    show smN (fun i => if i = k then c else 0) n + (if n = k then c else 0) = _
    rw [smN_one c k n]
    by_cases h : k < n
    · rw [if_pos h, if_neg (by omega), if_pos (by omega), Nat.add_zero]
    · by_cases e : n = k
      · rw [if_neg h, if_pos e, if_pos (by omega)]
        omega
      · rw [if_neg h, if_neg e, if_neg (by omega)]
/-! ## one step of the class's vectors -/
def y0S (x : Nat) : Nat := 2 * x % 16
def pqS (sp o : Nat) (D : Nat → Nat) (x : Nat) : Nat × Nat := if x &&& sp = 0 then (D x, 0) else (D x / 10 * o, D x - D x / 10 * o)
def acS (sp o : Nat) (D : Nat → Nat) : Nat → Nat → Nat
  | 0 => fun _ => 0
  | k + 1 => fun y => acS sp o D k y + (if y = y0S k then (pqS sp o D k).1 else 0) + (if y = y0S k + 1 then (pqS sp o D k).2 else 0)
theorem y0_lt (x : Nat) : y0S x + 1 < 16 := by unfold y0S; omega
theorem ac_sum (sp o : Nat) (D h : Nat → Nat) : ∀ k, smN (fun y => h y * acS sp o D k y) 16 = smN (fun x => h (y0S x) * (pqS sp o D x).1 + h (y0S x + 1) * (pqS sp o D x).2) k
  | 0 => by
    show smN (fun y => h y * 0) 16 = 0
    rw [smN_congr (g := fun _ => 0) 16 (fun i _ => Nat.mul_zero _), smN_zero]
  | k + 1 => by
    show smN (fun y => h y * (acS sp o D k y + (if y = y0S k then (pqS sp o D k).1 else 0) + (if y = y0S k + 1 then (pqS sp o D k).2 else 0))) 16 = smN (fun x => h (y0S x) * (pqS sp o D x).1 + h (y0S x + 1) * (pqS sp o D x).2) k + (h (y0S k) * (pqS sp o D k).1 + h (y0S k + 1) * (pqS sp o D k).2)
    have hy := y0_lt k
    rw [← ac_sum sp o D h k, smN_congr (g := fun y => (h y * acS sp o D k y + (if y = y0S k then h (y0S k) * (pqS sp o D k).1 else 0)) + (if y = y0S k + 1 then h (y0S k + 1) * (pqS sp o D k).2 else 0)) 16 (fun y _ => ?_), smN_add, smN_add, smN_one, smN_one, if_pos (by omega), if_pos hy]
    · omega
    · rw [Nat.mul_add, Nat.mul_add]
      congr 1
      · congr 1
        by_cases e : y = y0S k
        · rw [if_pos e, if_pos e, e]
        · rw [if_neg e, if_neg e, Nat.mul_zero]
      · by_cases e : y = y0S k + 1
        · rw [if_pos e, if_pos e, e]
        · rw [if_neg e, if_neg e, Nat.mul_zero]
/-! ## weights; a i: tenths by which step i is out -/
def wtS (a : Nat → Nat) (X : Nat) : Nat → Nat
  | 0 => 1
  | i + 1 => wtS a X i * (if X.testBit i then a i else 10 - a i)
/-- the last four places, when the steps of X are out -/
def ssS (t sp X : Nat) : Nat → Nat
  | 0 => 1
  | i + 1 => y0S (ssS t sp X i) + (if t.testBit i && !(X.testBit i) && decide (ssS t sp X i &&& sp ≠ 0) then 1 else 0)
theorem ssS_lt (t sp X : Nat) : ∀ i, ssS t sp X i < 16
  | 0 => by show 1 < 16; decide
  | i + 1 => by
    have := y0_lt (ssS t sp X i)
    show y0S (ssS t sp X i) + (if _ then 1 else 0) < 16
    split <;> omega
theorem tb_hi {i j X : Nat} (h : j < i) : (2 ^ i + X).testBit j = X.testBit j := Nat.testBit_two_pow_add_gt h X
theorem tb_eq {i X : Nat} (h : X < 2 ^ i) : (2 ^ i + X).testBit i = true := by
  rw [Nat.testBit_two_pow_add_eq, Nat.testBit_lt_two_pow h]
  rfl
theorem wt_hi {a : Nat → Nat} {n X : Nat} : ∀ i, i ≤ n → wtS a (2 ^ n + X) i = wtS a X i
  | 0, _ => rfl
  | i + 1, h => by
    show wtS a (2 ^ n + X) i * (if (2 ^ n + X).testBit i then a i else 10 - a i) = wtS a X i * (if X.testBit i then a i else 10 - a i)
    rw [wt_hi i (by omega), tb_hi (by omega)]
theorem ss_hi {t sp n X : Nat} : ∀ i, i ≤ n → ssS t sp (2 ^ n + X) i = ssS t sp X i
  | 0, _ => rfl
  | i + 1, h => by
    show y0S (ssS t sp (2 ^ n + X) i) + (if t.testBit i && !((2 ^ n + X).testBit i) && decide (ssS t sp (2 ^ n + X) i &&& sp ≠ 0) then 1 else 0) = y0S (ssS t sp X i) + (if t.testBit i && !(X.testBit i) && decide (ssS t sp X i &&& sp ≠ 0) then 1 else 0)
    rw [ss_hi i (by omega), tb_hi (by omega)]
/-- the weighed sum of h over the sets of the first i steps -/
def luS (a : Nat → Nat) (t sp i : Nat) (h : Nat → Nat) : Nat := smN (fun X => wtS a X i * h (ssS t sp X i)) (2 ^ i)
def gsS (a : Nat → Nat) (t sp i : Nat) (h : Nat → Nat) (x : Nat) : Nat := if t.testBit i && decide (x &&& sp ≠ 0) then a i * h (y0S x) + (10 - a i) * h (y0S x + 1) else 10 * h (y0S x)
theorem lu_step {a : Nat → Nat} {t sp i : Nat} (ha : a i ≤ 10) (h : Nat → Nat) : luS a t sp (i + 1) h = luS a t sp i (gsS a t sp i h) := by
  unfold luS
  rw [show 2 ^ (i + 1) = 2 ^ i + 2 ^ i by rw [Nat.pow_succ]; omega, smN_app, ← smN_add]
  apply smN_congr
  intro X hX
  show wtS a X i * (if X.testBit i then a i else 10 - a i) * h (y0S (ssS t sp X i) + (if t.testBit i && !(X.testBit i) && decide (ssS t sp X i &&& sp ≠ 0) then 1 else 0)) + wtS a (2 ^ i + X) i * (if (2 ^ i + X).testBit i then a i else 10 - a i) * h (y0S (ssS t sp (2 ^ i + X) i) + (if t.testBit i && !((2 ^ i + X).testBit i) && decide (ssS t sp (2 ^ i + X) i &&& sp ≠ 0) then 1 else 0)) = _
  rw [wt_hi i (Nat.le_refl _), ss_hi i (Nat.le_refl _), tb_eq hX, Nat.testBit_lt_two_pow hX]
  unfold gsS
  by_cases hz : (t.testBit i && decide (ssS t sp X i &&& sp ≠ 0)) = true
  · rw [if_pos hz]
    have hz2 : t.testBit i = true ∧ decide (ssS t sp X i &&& sp ≠ 0) = true := by simpa using hz
    rw [hz2.1, hz2.2]
    simp only [Bool.not_false, Bool.and_true, Bool.not_true, Bool.and_false, Bool.false_and, if_true, Bool.false_eq_true, if_false, Nat.add_zero]
    rw [Nat.mul_add, Nat.mul_assoc, Nat.mul_assoc, Nat.add_comm]
  · rw [if_neg hz]
    have h1 : (t.testBit i && !false && decide (ssS t sp X i &&& sp ≠ 0)) = false := by
      cases ht : t.testBit i <;> cases hd : decide (ssS t sp X i &&& sp ≠ 0) <;> simp_all
    have h2 : (t.testBit i && !true && decide (ssS t sp X i &&& sp ≠ 0)) = false := by simp
    rw [h1, h2]
    simp only [Bool.false_eq_true, if_false, if_true, Nat.add_zero]
    rw [Nat.mul_assoc, Nat.mul_assoc, ← Nat.mul_add, ← Nat.add_mul]
    congr 2
    omega
theorem lu_one {a : Nat → Nat} (ha : ∀ i, a i ≤ 10) (t sp : Nat) : ∀ i, luS a t sp i (fun _ => 1) = 10 ^ i
  | 0 => rfl
  | i + 1 => by
    rw [lu_step (ha i)]
    have : luS a t sp i (gsS a t sp i (fun _ => 1)) = luS a t sp i (fun x => 10 * 1) := by
      unfold luS
      apply smN_congr
      intro X _
      show _ * gsS a t sp i (fun _ => 1) _ = _ * (10 * 1)
      congr 1
      unfold gsS
      dsimp only
      have := ha i
      split <;> omega
    rw [this]
    unfold luS
    rw [smN_congr (g := fun X => 10 * (wtS a X i * 1)) (2 ^ i) (fun X _ => by
      show wtS a X i * (10 * 1) = 10 * (wtS a X i * 1)
      omega), smN_mul]
    have := lu_one ha t sp i
    unfold luS at this
    rw [this, Nat.pow_succ]
    omega
theorem lu_le {a : Nat → Nat} (ha : ∀ i, a i ≤ 10) {t sp i : Nat} {h : Nat → Nat} (hh : ∀ x, h x ≤ 1) : luS a t sp i h ≤ 10 ^ i := by
  rw [← lu_one ha t sp i]
  unfold luS
  exact smN_le _ (fun X _ => Nat.mul_le_mul_left _ (hh _))
/-- the class's vectors -/
def dvS (a : Nat → Nat) (t sp : Nat) : Nat → Nat → Nat
  | 0 => fun x => if x = 1 then 10000000000 else 0
  | i + 1 => acS (if t.testBit i then sp else 0) (a i) (dvS a t sp i) 16
theorem dv_sum {a : Nat → Nat} (ha : ∀ i, a i ≤ 10) {t sp : Nat} : ∀ i, i ≤ 10 → ∀ h : Nat → Nat, smN (fun x => h x * dvS a t sp i x) 16 = 10 ^ (10 - i) * luS a t sp i h
  | 0, _, h => by
    show smN (fun x => h x * (if x = 1 then 10000000000 else 0)) 16 = 10 ^ 10 * (0 + 1 * h 1)
    rw [smN_congr (g := fun x => if x = 1 then h 1 * 10000000000 else 0) 16 (fun x _ => by
      by_cases e : x = 1
      · rw [if_pos e, if_pos e, e]
      · rw [if_neg e, if_neg e, Nat.mul_zero]), smN_one, if_pos (by decide)]
    omega
  | i + 1, hi, h => by
    have ih := dv_sum ha (t := t) (sp := sp) i (by omega)
    -- each entry is 10 times a number
    have hd : ∀ x, x < 16 → dvS a t sp i x = 10 * (10 ^ (9 - i) * luS a t sp i (fun y => if y = x then 1 else 0)) := fun x hx => by
      have := ih (fun y => if y = x then 1 else 0)
      rw [smN_congr (g := fun y => if y = x then dvS a t sp i x else 0) 16 (fun y _ => by
        by_cases e : y = x
        · rw [if_pos e, if_pos e, e, Nat.one_mul]
        · rw [if_neg e, if_neg e, Nat.zero_mul]), smN_one, if_pos hx] at this
      rw [this, show 10 - i = 9 - i + 1 by omega, Nat.pow_succ, Nat.mul_comm (10 ^ (9 - i)) 10, Nat.mul_assoc]
    have key : 10 * smN (fun y => h y * dvS a t sp (i + 1) y) 16 = 10 ^ (10 - i) * luS a t sp (i + 1) h := by
      rw [lu_step (ha i), ← ih, ← smN_mul]
      have hs := ac_sum (if t.testBit i then sp else 0) (a i) (dvS a t sp i) h 16
      rw [smN_mul]
      show 10 * smN (fun y => h y * acS (if t.testBit i then sp else 0) (a i) (dvS a t sp i) 16 y) 16 = _
      rw [hs, ← smN_mul]
      apply smN_congr
      intro x hx
      obtain ⟨d, hdx⟩ : ∃ d, d = 10 ^ (9 - i) * luS a t sp i (fun y => if y = x then 1 else 0) := ⟨_, rfl⟩
      have hD : dvS a t sp i x = 10 * d := by rw [hdx]; exact hd x hx
      have hai := ha i
      unfold gsS pqS
      rw [hD]
      have hdiv : 10 * d / 10 = d := by omega
      have hsub : 10 * d - d * a i = d * (10 - a i) := by
        rw [Nat.mul_sub, Nat.mul_comm d 10]
      rw [hdiv, hsub]
      cases ht : t.testBit i
      · simp only [Bool.false_eq_true, if_false, Nat.and_zero, if_true, Bool.false_and]
        rw [Nat.mul_zero, Nat.add_zero]
        rw [show 10 * (h (y0S x) * (10 * d)) = 10 * h (y0S x) * (10 * d) by rw [Nat.mul_assoc]]
      · simp only [if_true, Bool.true_and]
        by_cases hz : x &&& sp = 0
        · rw [if_pos hz, if_neg (by simp [hz])]
          simp only [Nat.mul_zero, Nat.add_zero]
          rw [show 10 * (h (y0S x) * (10 * d)) = 10 * h (y0S x) * (10 * d) by rw [Nat.mul_assoc]]
        · rw [if_neg hz, if_pos (by simp [hz])]
          show 10 * (h (y0S x) * (d * a i) + h (y0S x + 1) * (d * (10 - a i))) = (a i * h (y0S x) + (10 - a i) * h (y0S x + 1)) * (10 * d)
          rw [Nat.add_mul, Nat.mul_add]
          congr 1
          · rw [Nat.mul_comm d (a i), ← Nat.mul_assoc (h (y0S x)), Nat.mul_comm (h (y0S x)) (a i), Nat.mul_left_comm]
          · rw [Nat.mul_comm d (10 - a i), ← Nat.mul_assoc (h (y0S x + 1)), Nat.mul_comm (h (y0S x + 1)) (10 - a i), Nat.mul_left_comm]
    have hp : 10 ^ (10 - i) = 10 * 10 ^ (10 - (i + 1)) := by rw [show 10 - i = 10 - (i + 1) + 1 by omega, Nat.pow_succ, Nat.mul_comm]
    rw [hp, Nat.mul_assoc] at key
    exact Nat.eq_of_mul_eq_mul_left (by decide) key
theorem dv_le {a : Nat → Nat} (ha : ∀ i, a i ≤ 10) {t sp i x : Nat} (hi : i ≤ 10) (hx : x < 16) : dvS a t sp i x ≤ 10000000000 := by
  have := dv_sum ha (t := t) (sp := sp) i hi (fun y => if y = x then 1 else 0)
  rw [smN_congr (g := fun y => if y = x then dvS a t sp i x else 0) 16 (fun y _ => by
    by_cases e : y = x
    · rw [if_pos e, if_pos e, e, Nat.one_mul]
    · rw [if_neg e, if_neg e, Nat.zero_mul]), smN_one, if_pos hx] at this
  rw [this]
  have h1 := lu_le ha (t := t) (sp := sp) (i := i) (h := fun y => if y = x then 1 else 0) (fun y => by
    show (if y = x then 1 else 0) ≤ 1
    split <;> decide)
  have h2 : 10 ^ (10 - i) * 10 ^ i = 10000000000 := by rw [← Nat.pow_add, show 10 - i + i = 10 by omega]
  rw [← h2]
  exact Nat.mul_le_mul_left _ h1
/-- the bits of getsHomeBy, by the last four places -/
theorem st_ss {t sp X T : Nat} (hsp : sp < 16) (hT : ∀ j, T.testBit j = (t.testBit j && !(X.testBit j))) : ∀ i, stS T sp i % 16 = ssS t sp X i
  | 0 => rfl
  | i + 1 => by
    have ih := st_ss hsp hT i
    have hand : stS T sp i &&& sp = ssS t sp X i &&& sp := by
      rw [← ih]
      have h16 : stS T sp i % 16 = stS T sp i &&& 15 := (Nat.and_two_pow_sub_one_eq_mod (stS T sp i) 4).symm
      have hs : 15 &&& sp = sp := by
        rw [Nat.and_comm]
        exact Nat.and_two_pow_sub_one_of_lt_two_pow (n := 4) hsp
      rw [h16, Nat.and_assoc, hs]
    have e : stS T sp (i + 1) = 2 * stS T sp i ||| (if T.testBit i && decide (stS T sp i &&& sp ≠ 0) then 1 else 0) := rfl
    have e2 : ssS t sp X (i + 1) = y0S (ssS t sp X i) + (if t.testBit i && !(X.testBit i) && decide (ssS t sp X i &&& sp ≠ 0) then 1 else 0) := rfl
    rw [e, e2, hT, hand]
    have hor : ∀ c, c ≤ 1 → 2 * stS T sp i ||| c = 2 * stS T sp i + c := fun c hc => by
      have := Nat.two_pow_add_eq_or_of_lt (i := 1) (b := c) (by omega) (stS T sp i)
      rw [Nat.pow_one] at this
      exact this.symm
    have hy : y0S (ssS t sp X i) = 2 * stS T sp i % 16 := by
      unfold y0S
      rw [← ih]
      omega
    generalize (t.testBit i && !(X.testBit i) && decide (ssS t sp X i &&& sp ≠ 0)) = b
    rw [hy]
    cases b
    · rw [if_neg (by decide), hor 0 (by decide)]
      omega
    · rw [if_pos rfl, hor 1 (by decide)]
      omega
