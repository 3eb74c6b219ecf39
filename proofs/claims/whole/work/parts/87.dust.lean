/-! PURE FACTS: floors by the dust, numbers -/
def smO (f : Nat → Nat) : Nat → Nat
  | 0 => 0
  | n + 1 => smO f n ||| f n
theorem smO_congr {f g : Nat → Nat} : ∀ n, (∀ i, i < n → f i = g i) → smO f n = smO g n
  | 0, _ => rfl
  | n + 1, h => by
    show smO f n ||| f n = smO g n ||| g n
    rw [smO_congr n (fun i hi => h i (by omega)), h n (by omega)]
theorem smO_app (f : Nat → Nat) (a : Nat) : ∀ b, smO f (a + b) = smO f a ||| smO (fun i => f (a + i)) b
  | 0 => by show smO f a = smO f a ||| 0; rw [Nat.or_zero]
  | b + 1 => by
    show smO f (a + b) ||| f (a + b) = smO f a ||| (smO (fun i => f (a + i)) b ||| f (a + b))
    rw [smO_app f a b, Nat.or_assoc]
theorem smO_prod (h : Nat → Nat) (b : Nat) : ∀ a, smO h (a * b) = smO (fun f => smO (fun c => h (f * b + c)) b) a
  | 0 => by rw [Nat.zero_mul]; rfl
  | a + 1 => by
    show _ = smO (fun f => smO (fun c => h (f * b + c)) b) a ||| smO (fun c => h (a * b + c)) b
    rw [Nat.succ_mul, smO_app, smO_prod h b a]
theorem smN_prod (h : Nat → Nat) (b : Nat) : ∀ a, smN h (a * b) = smN (fun f => smN (fun c => h (f * b + c)) b) a
  | 0 => by rw [Nat.zero_mul]; rfl
  | a + 1 => by
    show _ = smN (fun f => smN (fun c => h (f * b + c)) b) a + smN (fun c => h (a * b + c)) b
    rw [Nat.succ_mul, smN_app, smN_prod h b a]
theorem smO_in {h : Nat → Nat} {k : Nat} : ∀ n, k < n → smO h n ||| h k = smO h n
  | 0, hk => absurd hk (Nat.not_lt_zero _)
  | n + 1, hk => by
    show smO h n ||| h n ||| h k = smO h n ||| h n
    by_cases e : k = n
    · subst e
      rw [Nat.or_assoc, Nat.or_self]
    · rw [Nat.or_assoc, Nat.or_comm (h n), ← Nat.or_assoc, smO_in n (by omega)]
theorem smO_lt {h : Nat → Nat} {k : Nat} (hh : ∀ i, h i < 2 ^ k) : ∀ n, smO h n < 2 ^ k
  | 0 => Nat.two_pow_pos k
  | n + 1 => Nat.or_lt_two_pow (smO_lt hh n) (hh n)
theorem smO_ite (P : Nat → Bool) (A : Nat) : ∀ n, smO (fun c => if P c then A else 0) n = if smN (fun c => if P c then 1 else 0) n = 0 then 0 else A
  | 0 => rfl
  | n + 1 => by
    show smO (fun c => if P c then A else 0) n ||| (if P n then A else 0) = if smN (fun c => if P c then 1 else 0) n + (if P n then 1 else 0) = 0 then 0 else A
    rw [smO_ite P A n]
    by_cases h1 : smN (fun c => if P c then 1 else 0) n = 0
    · rw [h1]
      cases P n <;> simp
    · cases P n <;> simp [h1]
theorem smN_ite0 (P : Nat → Bool) : ∀ n, (∀ c, c < n → P c = false) → smN (fun c => if P c then 1 else 0) n = 0
  | 0, _ => rfl
  | n + 1, h => by
    show smN (fun c => if P c then 1 else 0) n + (if P n then 1 else 0) = 0
    rw [smN_ite0 P n (fun c hc => h c (by omega)), h n (by omega)]
    rfl
theorem smO_ite0 {f : Nat → Nat} : ∀ n, (∀ c, c < n → f c = 0) → smO f n = 0
  | 0, _ => rfl
  | n + 1, h => by
    show smO f n ||| f n = 0
    rw [smO_ite0 n (fun c hc => h c (by omega)), h n (by omega)]
    rfl
theorem smN_ite_le (P : Nat → Bool) : ∀ n, smN (fun c => if P c then 1 else 0) n ≤ n
  | 0 => Nat.le_refl _
  | n + 1 => by
    have := smN_ite_le P n
    show smN (fun c => if P c then 1 else 0) n + (if P n then 1 else 0) ≤ n + 1
    split <;> omega
/-! ## one lodger's way to a floor -/
def stF (x : Nat → Nat) (p f : Nat) : Nat → Nat := wrS x p (pvS (tdS x p) (rcS x p) f)
def itF : Nat → Nat → (Nat → Nat) → (Nat → Nat) → Nat → Nat
  | 0, _, x, _ => x
  | r + 1, p, x, F => itF r (p + 1) (stF x p (F p)) F
theorem itF_congr {F G : Nat → Nat} : ∀ (r p : Nat) (x : Nat → Nat), (∀ q, p ≤ q → q < p + r → F q = G q) → itF r p x F = itF r p x G
  | 0, _, _, _ => rfl
  | r + 1, p, x, h => by
    show itF r (p + 1) (stF x p (F p)) F = itF r (p + 1) (stF x p (G p)) G
    rw [h p (Nat.le_refl _) (by omega), itF_congr r (p + 1) _ (fun q h1 h2 => h q (by omega) (by omega))]
theorem stF_OK {x : Nat → Nat} {p f : Nat} (ho : OK x) : OK (stF x p f) := wrS_OK ho
theorem stF_o {x : Nat → Nat} {p f j : Nat} (h : j < 30 ∨ 40 ≤ j) (ho : OK x) : stF x p f j = x j := wrS_o h ho
theorem stF_w {x : Nat → Nat} {p f i : Nat} (ho : OK x) (hi : i < x 0) : x (30 + i) ≤ stF x p f (30 + i) ∧ stF x p f (30 + i) ≤ x (30 + i) + 3 := by
  have h := ho.2.1 i hi
  unfold stF
  rw [wrS_w hi]
  split
  · rename_i q
    have := q.2
    unfold wrN
    constructor
    · exact Nat.le_min.mpr ⟨by omega, h.2.2⟩
    · refine Nat.le_trans (Nat.min_le_left _ _) ?_
      split <;> omega
  · exact ⟨Nat.le_refl _, by omega⟩
theorem itF_w : ∀ (r p : Nat) (x F : Nat → Nat) (i : Nat), OK x → i < x 0 → x (30 + i) ≤ itF r p x F (30 + i) ∧ itF r p x F (30 + i) ≤ x (30 + i) + 3 * r
  | 0, _, _, _, _, _, _ => ⟨Nat.le_refl _, Nat.le_refl _⟩
  | r + 1, p, x, F, i, ho, hi => by
    have h1 := stF_w (p := p) (f := F p) ho hi
    have h2 := itF_w r (p + 1) (stF x p (F p)) F i (stF_OK ho) (by rw [stF_o (by omega) ho]; exact hi)
    show x (30 + i) ≤ itF r (p + 1) (stF x p (F p)) F (30 + i) ∧ itF r (p + 1) (stF x p (F p)) F (30 + i) ≤ _
    omega
/-- digit of lodger q -/
def dgF (a n c q : Nat) : Nat := c / a ^ (n - 1 - q) % a
theorem dgF_hi {a n r f c p : Nat} (ha : 0 < a) (hp : p + r + 1 = n) (hf : f < a) (hc : c < a ^ r) : dgF a n (f * a ^ r + c) p = f := by
  unfold dgF
  have hr : 0 < a ^ r := Nat.pow_pos ha
  rw [show n - 1 - p = r by omega, Nat.mul_comm f, Nat.mul_add_div hr, Nat.div_eq_of_lt hc, Nat.add_zero, Nat.mod_eq_of_lt hf]
theorem dgF_lo {a n r f c p q : Nat} (ha : 0 < a) (hp : p + r + 1 = n) (hq : p < q) (hq2 : q < n) : dgF a n (f * a ^ r + c) q = dgF a n c q := by
  unfold dgF
  generalize hj : n - 1 - q = j
  have hjr : j < r := by omega
  have e : f * a ^ r = a ^ j * (f * a ^ (r - j - 1) * a) := by
    have : a ^ r = a ^ j * (a ^ (r - j - 1) * a) := by
      rw [← Nat.pow_succ, ← Nat.pow_add]
      congr 1
      omega
    rw [this, Nat.mul_left_comm, Nat.mul_assoc f]
  rw [e, Nat.mul_add_div (Nat.pow_pos ha), Nat.mul_add_mod_self_right]
/-- what was seen: s places with a step and how much more -/
def ftS (v : Nat → Nat) (s : Nat) (I M : Nat → Nat) (x : Nat → Nat) : Bool := (List.range s).all (fun k => x (30 + I k) == v (30 + I k) + M k)
theorem ft_iff {v : Nat → Nat} {s : Nat} {I M x : Nat → Nat} : ftS v s I M x = true ↔ ∀ k, k < s → x (30 + I k) = v (30 + I k) + M k := by
  unfold ftS
  rw [List.all_eq_true]
  constructor
  · intro h k hk
    have := h k (List.mem_range.mpr hk)
    simpa using this
  · intro h k hk
    have := h k (List.mem_range.mp hk)
    simpa using this
/-- how many floors of the lodgers from p on fit; n lodgers, a floors -/
def cnF (T : (Nat → Nat) → Bool) (a n r p : Nat) (x : Nat → Nat) : Nat := smN (fun c => if T (itF r p x (dgF a n c)) then 1 else 0) (a ^ r)
def foF (T : (Nat → Nat) → Bool) (a n r p : Nat) (x : Nat → Nat) (q : Nat) : Nat := smO (fun c => if T (itF r p x (dgF a n c)) then 2 ^ dgF a n c q else 0) (a ^ r)
theorem it_dg {T : (Nat → Nat) → Bool} {a n r p f c : Nat} {x : Nat → Nat} (ha : 0 < a) (hp : p + r + 1 = n) (hf : f < a) (hc : c < a ^ r) : T (itF (r + 1) p x (dgF a n (f * a ^ r + c))) = T (itF r (p + 1) (stF x p f) (dgF a n c)) := by
  show T (itF r (p + 1) (stF x p (dgF a n (f * a ^ r + c) p)) (dgF a n (f * a ^ r + c))) = _
  rw [dgF_hi ha hp hf hc, itF_congr r (p + 1) _ (fun q h1 h2 => dgF_lo ha hp (by omega) (by omega))]
theorem cn_rec {T : (Nat → Nat) → Bool} {a n r p : Nat} {x : Nat → Nat} (ha : 0 < a) (hp : p + r + 1 = n) : cnF T a n (r + 1) p x = smN (fun f => cnF T a n r (p + 1) (stF x p f)) a := by
  unfold cnF
  rw [Nat.pow_succ, Nat.mul_comm, smN_prod]
  apply smN_congr
  intro f hf
  apply smN_congr
  intro c hc
  rw [it_dg (T := T) (x := x) ha hp hf hc]
theorem fo_hi {T : (Nat → Nat) → Bool} {a n r p : Nat} {x : Nat → Nat} (ha : 0 < a) (hp : p + r + 1 = n) : foF T a n (r + 1) p x p = smO (fun f => if cnF T a n r (p + 1) (stF x p f) = 0 then 0 else 2 ^ f) a := by
  unfold foF cnF
  rw [Nat.pow_succ, Nat.mul_comm, smO_prod]
  apply smO_congr
  intro f hf
  rw [← smO_ite]
  apply smO_congr
  intro c hc
  rw [it_dg (T := T) (x := x) ha hp hf hc, dgF_hi ha hp hf hc]
theorem fo_lo {T : (Nat → Nat) → Bool} {a n r p q : Nat} {x : Nat → Nat} (ha : 0 < a) (hp : p + r + 1 = n) (hq : p < q) (hq2 : q < n) : foF T a n (r + 1) p x q = smO (fun f => foF T a n r (p + 1) (stF x p f) q) a := by
  unfold foF
  rw [Nat.pow_succ, Nat.mul_comm, smO_prod]
  apply smO_congr
  intro f hf
  apply smO_congr
  intro c hc
  rw [it_dg (T := T) (x := x) ha hp hf hc, dgF_lo ha hp hq hq2]
theorem fo_lt {T : (Nat → Nat) → Bool} {a n r p q : Nat} {x : Nat → Nat} (ha : 0 < a) (ha10 : a ≤ 10) : foF T a n r p x q < 2 ^ 10 := by
  unfold foF
  refine smO_lt (fun c => ?_) _
  split
  · have h1 : dgF a n c q < a := Nat.mod_lt _ ha
    exact Nat.pow_lt_pow_right (by decide) (by omega)
  · decide
theorem cn_none {T : (Nat → Nat) → Bool} {a n r p : Nat} {x : Nat → Nat} (h : ∀ F, T (itF r p x F) = false) : cnF T a n r p x = 0 ∧ ∀ q, foF T a n r p x q = 0 := by
  constructor
  · exact smN_ite0 _ _ (fun c _ => h _)
  · intro q
    unfold foF
    exact smO_ite0 _ (fun c _ => by rw [h]; rfl)
theorem cn_le {T : (Nat → Nat) → Bool} {a n r p : Nat} {x : Nat → Nat} (ha : a ≤ 10) (hr : r ≤ 4) : cnF T a n r p x ≤ 10000 := by
  unfold cnF
  refine Nat.le_trans (smN_ite_le _ _) ?_
  refine Nat.le_trans (Nat.pow_le_pow_left ha r) ?_
  exact (Nat.pow_le_pow_right (by decide) hr : 10 ^ r ≤ 10 ^ 4)
/-- can it be so: nothing too much, nothing that can't come yet -/
def cbF (v : Nat → Nat) (s : Nat) (I M : Nat → Nat) (r : Nat) (x : Nat → Nat) : Bool := (List.range s).all (fun k => decide (x (30 + I k) ≤ v (30 + I k) + M k) && decide (v (30 + I k) + M k ≤ x (30 + I k) + 3 * r))
theorem cb_iff {v : Nat → Nat} {s r : Nat} {I M x : Nat → Nat} : cbF v s I M r x = true ↔ ∀ k, k < s → x (30 + I k) ≤ v (30 + I k) + M k ∧ v (30 + I k) + M k ≤ x (30 + I k) + 3 * r := by
  unfold cbF
  rw [List.all_eq_true]
  constructor
  · intro h k hk
    have := h k (List.mem_range.mpr hk)
    simpa using this
  · intro h k hk
    have := h k (List.mem_range.mp hk)
    simpa using this
theorem cb_no {v : Nat → Nat} {s r p : Nat} {I M x : Nat → Nat} (ho : OK x) (hI : ∀ k, k < s → I k < x 0) (h : cbF v s I M r x = false) (F : Nat → Nat) : ftS v s I M (itF r p x F) = false := by
  rw [Bool.eq_false_iff] at h ⊢
  intro z
  apply h
  rw [cb_iff]
  intro k hk
  have h1 := ft_iff.mp z k hk
  have h2 := itF_w r p x F (I k) ho (hI k hk)
  omega
theorem cb_end {v : Nat → Nat} {s : Nat} {I M x : Nat → Nat} : cbF v s I M 0 x = ftS v s I M x := by
  rw [Bool.eq_iff_iff, cb_iff, ft_iff]
  constructor
  · intro h k hk
    have := h k hk
    omega
  · intro h k hk
    have := h k hk
    omega
theorem cn_0 (T : (Nat → Nat) → Bool) (a n p : Nat) (x : Nat → Nat) : cnF T a n 0 p x = if T x then 1 else 0 := by
  show 0 + (if T x then 1 else 0) = _
  rw [Nat.zero_add]
