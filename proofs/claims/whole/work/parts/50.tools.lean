/-! PURE FACTS: tools -/
theorem lp_for {σ : Type} {body : (σ → mR) → σ → mR} (st : Nat → σ) (N : Nat) (fin : mR) (hend : ∀ k, body k (st N) = fin) (hstep : ∀ i, i < N → ∀ k, body k (st i) = k (st (i + 1))) : ∀ (r i F : Nat), i + r = N → r < F → lp body F (st i) = fin
  | 0, i, F + 1, h, _ => by
    have e : i = N := by omega
    subst e
    exact hend _
  | r + 1, i, F + 1, h, hF => by
    show body (lp body F) (st i) = fin
    rw [hstep i (by omega)]
    exact lp_for st N fin hend hstep r (i + 1) F (by omega) (by omega)
  | _, _, 0, _, hF => absurd hF (Nat.not_lt_zero _)
theorem lp_0 {σ : Type} {body : (σ → mR) → σ → mR} (st : Nat → σ) (N : Nat) (fin : mR) (hN : N < 20000) (hend : ∀ k, body k (st N) = fin) (hstep : ∀ i, i < N → ∀ k, body k (st i) = k (st (i + 1))) : lp body FU (st 0) = fin := lp_for st N fin hend hstep N 0 FU (by omega) hN
theorem lp_i {σ : Type} {body : (σ → mR) → σ → mR} (st : Nat → σ) (i N : Nat) (fin : mR) (hi : i ≤ N) (hN : N < 20000) (hend : ∀ k, body k (st N) = fin) (hstep : ∀ i, i < N → ∀ k, body k (st i) = k (st (i + 1))) : lp body FU (st i) = fin := lp_for st N fin hend hstep (N - i) i FU (by omega) (show N - i < 20000 by omega)
theorem ga_nI {i n : Nat} {r : mR} (h : i < n) (hn : n < 2 ^ 31) : ga (nI i) n r = r := if_pos (vp_in_nI h hn)
theorem ga_in {x : Int32} {n : Nat} {r : mR} (h : vp_in x n) : ga x n r = r := if_pos h
theorem g0i_ne {y : Int32} {r : mR} (h : ¬ y = 0) : g0i y r = r := if_pos h
theorem g0l_ne {y : Int64} {r : mR} (h : ¬ y = 0) : g0l y r = r := if_pos h
theorem gb_0 {r : mR} : gb 0 r = r := if_pos (Or.inl rfl)
theorem gb_1 {r : mR} : gb 1 r = r := if_pos (Or.inr rfl)
theorem nI_mul (a b : Nat) : nI a * nI b = nI (a * b) := pk_mul a b
theorem nI_sub {a b : Nat} (h : b ≤ a) : nI a - nI b = nI (a - b) := by
  have e : nI a = nI (a - b) + nI b := by rw [nI_add]; congr 1; omega
  rw [e, Int32.add_sub_cancel]
theorem nI_tn {n : Nat} (h : n < 2 ^ 31) : (nI n).toNatClampNeg = n := nI_clamp h
theorem nI_div {a b : Nat} (ha : a < 2 ^ 31) (hb : b < 2 ^ 31) : nI a / nI b = nI (a / b) := by
  apply Int32.toInt_inj.mp
  rw [Int32.toInt_div_of_ne_left, nI_toInt ha, nI_toInt hb, nI_toInt (Nat.lt_of_le_of_lt (Nat.div_le_self _ _) ha)]
  · rfl
  · intro e
    have := congrArg Int32.toInt e
    rw [nI_toInt ha] at this
    simp at this
theorem nI_or (a b : Nat) : nI a ||| nI b = nI (a ||| b) := by
  apply Int32.toBitVec_inj.1
  show BitVec.ofNat 32 a ||| BitVec.ofNat 32 b = BitVec.ofNat 32 (a ||| b)
  apply BitVec.eq_of_getLsbD_eq
  intro i hi
  simp [hi]
theorem nI_and (a b : Nat) : nI a &&& nI b = nI (a &&& b) := by
  apply Int32.toBitVec_inj.1
  show BitVec.ofNat 32 a &&& BitVec.ofNat 32 b = BitVec.ofNat 32 (a &&& b)
  apply BitVec.eq_of_getLsbD_eq
  intro i hi
  simp [hi]
theorem nI_31 : ∀ i, i < 32 → nI i &&& 31 = nI i := by decide +kernel
theorem nI_shl1 : ∀ i, i < 31 → (1 : Int32) <<< (nI i &&& 31) = nI (2 ^ i) := by decide +kernel
theorem s_l5 : ∀ n, n < 32 → ((nI n &&& 31).toBitVec.smod 32).toNat = n := by decide +kernel
theorem nI_shr {t i : Nat} (ht : t < 2 ^ 31) (hi : i < 32) : nI t >>> (nI i &&& 31) = nI (t / 2 ^ i) := pk_shrN ht _ i (s_l5 i hi)
theorem bit0 {t i : Nat} (ht : t < 2 ^ 31) (hi : i < 32) : ((nI t >>> (nI i &&& 31)) &&& (1 : Int32)) = (0 : Int32) ↔ t.testBit i = false := by
  rw [nI_shr ht hi]
  show nI (t / 2 ^ i) &&& nI 1 = nI 0 ↔ _
  rw [nI_and, Nat.and_one_is_mod, nI_eq (by have := Nat.mod_lt (t / 2 ^ i) (show 0 < 2 by decide); omega) (by decide), Nat.testBit_eq_decide_div_mod_eq]
  have := Nat.mod_lt (t / 2 ^ i) (show 0 < 2 by decide)
  constructor
  · intro h
    simp [h]
  · intro h
    simp at h
    omega
/-- cells outside C are as they were -/
def SM (C : List Nat) (m m' : mMem) : Prop := ∀ c, c ∉ C → m'.1 c = m.1 c ∧ m'.2 c = m.2 c
theorem SM.rf {C : List Nat} {m : mMem} : SM C m m := fun _ _ => ⟨rfl, rfl⟩
theorem SM.tr {C : List Nat} {m1 m2 m3 : mMem} (h1 : SM C m1 m2) (h2 : SM C m2 m3) : SM C m1 m3 := fun c hc => ⟨(h2 c hc).1.trans (h1 c hc).1, (h2 c hc).2.trans (h1 c hc).2⟩
theorem SM.mono {C C' : List Nat} {m m' : mMem} (h : SM C m m') (hs : ∀ c ∈ C, c ∈ C') : SM C' m m' := fun c hc => h c (fun z => hc (hs c z))
theorem SM_si {C : List Nat} {m : mMem} {b k : Nat} {x : Int32} (hb : b ∈ C) : SM C m (si m b k x) := fun c hc => si_o m b k x c (fun e => hc (e ▸ hb))
theorem SM_sl {C : List Nat} {m : mMem} {b k : Nat} {x : Int64} (hb : b ∈ C) : SM C m (sl m b k x) := fun c hc => sl_o m b k x c (fun e => hc (e ▸ hb))
theorem SM_ci {C : List Nat} {m : mMem} {a b n : Nat} (hb : b ∈ C) : SM C m (ci m a b 0 0 n) := fun c hc => ⟨by
  have : c ≠ b := fun e => hc (e ▸ hb)
  simp [ci, this], rfl⟩
theorem SM_cl {C : List Nat} {m : mMem} {a b n : Nat} (hb : b ∈ C) : SM C m (cl m a b 0 0 n) := fun c hc => ⟨rfl, by
  have : c ≠ b := fun e => hc (e ▸ hb)
  simp [cl, this]⟩
theorem si_1 (m : mMem) (b k : Nat) (x : Int32) (c j : Nat) : (si m b k x).1 c j = if c = b ∧ j = k then x else m.1 c j := by
  by_cases h : c = b
  · subst h
    by_cases h2 : j = k
    · simp [si, upd, h2]
    · simp [si, upd, h2]
  · simp [si, h]
theorem si_same (m : mMem) (b k : Nat) (x : Int32) : (si m b k x).1 b k = x := by rw [si_1]; simp
theorem si_ne (m : mMem) {b k : Nat} (x : Int32) {c j : Nat} (h : c ≠ b ∨ j ≠ k) : (si m b k x).1 c j = m.1 c j := by
  rw [si_1, if_neg]
  rintro ⟨h1, h2⟩
  rcases h with h | h
  · exact h h1
  · exact h h2
theorem ci_1 (m : mMem) (a b n c j : Nat) : (ci m a b 0 0 n).1 c j = if c = b ∧ j < n then m.1 a j else m.1 c j := by
  by_cases h : c = b
  · subst h
    by_cases h2 : j < n
    · simp [ci, va_cpy, h2]
    · simp [ci, va_cpy, h2]
  · simp [ci, h]
theorem si_2 (m : mMem) (b k : Nat) (x : Int32) : (si m b k x).2 = m.2 := rfl
theorem ci_2 (m : mMem) (a b n : Nat) : (ci m a b 0 0 n).2 = m.2 := rfl
/-! ## a house, as numbers: v 0 steps, 1 lodgers, 2 gap, 3 hold, 4 day; 10+i kind, 20+i years, 30+i wear of step i; 40+p legs, 44+p rank, 48+p load, 52+p floor of lodger p -/
def HC (m : mMem) (b : Nat) (v : Nat → Nat) : Prop :=
  (m.1 b 0 = nI (v 0) ∧ m.1 b 1 = nI (v 1) ∧ m.1 b 2 = nI (v 2) ∧ m.1 b 3 = nI (v 3) ∧ m.1 b 4 = nI (v 4)) ∧ (∀ i, i < v 0 → m.1 (b + 1) i = nI (v (10 + i)) ∧ m.1 (b + 2) i = nI (v (20 + i)) ∧ m.1 (b + 3) i = nI (v (30 + i))) ∧ (∀ p, p < v 1 → m.1 (b + 4) p = nI (v (40 + p)) ∧ m.1 (b + 5) p = nI (v (44 + p)) ∧ m.1 (b + 6) p = nI (v (48 + p)) ∧ m.1 (b + 7) p = nI (v (52 + p)))
def HM (m : mMem) (P : Nat) (v : Nat → Nat) : Prop :=
  (m.1 81 2 = nI (v 0) ∧ m.1 81 4 = nI (v 1) ∧ m.1 82 (P + 32) = nI (v 2) - 1 ∧ m.1 82 (P + 33) = nI (v 3) - 30 ∧ m.1 82 (P + 34) = nI (v 4)) ∧ (∀ i, i < v 0 → m.1 83 i = nI (v (10 + i)) ∧ m.1 82 (P + 2 * i) = nI (v (20 + i)) ∧ m.1 82 (P + 2 * i + 1) = nI (v (30 + i))) ∧ (∀ p, p < v 1 → m.1 84 p = nI (v (40 + p)) ∧ m.1 82 (P + 20 + 3 * p) = nI (v (44 + p)) ∧ m.1 82 (P + 20 + 3 * p + 1) = nI (v (48 + p)) ∧ m.1 82 (P + 20 + 3 * p + 2) = nI (v (52 + p)))
def OK (v : Nat → Nat) : Prop :=
  (v 0 ≤ 10 ∧ v 1 ≤ 4 ∧ v 2 ≤ 3 ∧ 1 ≤ v 3 ∧ v 3 ≤ 100 ∧ v 4 ≤ 2000) ∧ (∀ i, i < v 0 → v (10 + i) ≤ 3 ∧ v (20 + i) ≤ 60 ∧ v (30 + i) ≤ 99) ∧ (∀ p, p < v 1 → 1 ≤ v (40 + p) ∧ v (40 + p) ≤ 4 ∧ v (44 + p) ≤ 3 ∧ v (48 + p) ≤ 9 ∧ v (52 + p) < v 0)
/-- rank of a step by kind and years -/
def rkS (k y : Nat) : Nat := if k = 0 then min (y / 10) 3 else if k = 2 then 0 else min (min (y / 10) 3 + 1) 3
def nrS (v : Nat → Nat) (p i : Nat) : Bool := v (10 + i) == 3 || (decide (rkS (v (10 + i)) (v (20 + i)) ≤ v (44 + p) + v 2) && decide (v (44 + p) ≤ rkS (v (10 + i)) (v (20 + i)) + v 2))
def brS (v : Nat → Nat) (i : Nat) : Bool := decide (v 3 ≤ v (30 + i))
/-- may tread, o: the bits of steps that are out -/
def trS (v : Nat → Nat) (o p i : Nat) : Bool := !(o.testBit i) && !(brS v i) && nrS v p i
def rcS (v : Nat → Nat) (p : Nat) : Nat := if 5 ≤ v (48 + p) then max (v (40 + p) - 1) 1 else v (40 + p)
def bitsN (f : Nat → Bool) : Nat → Nat
  | 0 => 0
  | i + 1 => if f i then bitsN f i ||| 2 ^ i else bitsN f i
theorem bitsN_lt (f : Nat → Bool) : ∀ n, bitsN f n < 2 ^ n
  | 0 => Nat.zero_lt_one
  | n + 1 => by
    unfold bitsN
    have h := bitsN_lt f n
    have h2 : 2 ^ (n + 1) = 2 ^ n + 2 ^ n := by rw [Nat.pow_succ]; omega
    split
    · exact Nat.or_lt_two_pow (by omega) (by omega)
    · omega
theorem bitsN_bit (f : Nat → Bool) : ∀ n i, (bitsN f n).testBit i = (decide (i < n) && f i)
  | 0, i => by simp [bitsN]
  | n + 1, i => by
    unfold bitsN
    by_cases hi : i = n
    · subst hi
      have h0 : (bitsN f i).testBit i = false := Nat.testBit_lt_two_pow (bitsN_lt f i)
      by_cases hf : f i
      · simp [hf, Nat.testBit_or, Nat.testBit_two_pow_self]
      · simp [hf, h0]
    · have e : (decide (i < n + 1)) = decide (i < n) := by
        by_cases h : i < n
        · simp [h, Nat.lt_succ_of_lt h]
        · simp [h, show ¬ i < n + 1 by omega]
      rw [e, ← bitsN_bit f n i]
      by_cases hf : f n
      · simp [hf, Nat.testBit_or, Nat.testBit_two_pow_of_ne (Ne.symm hi)]
      · simp [hf]
