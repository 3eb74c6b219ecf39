/-! PURE FACTS: lodge, the class -/
/-- homes and steps of an order of floors: lodger i + k takes the floor of the k-th of the list -/
def ldH (c : Nat → Nat → Nat) : Nat → List Nat → Nat
  | _, [] => 0
  | i, x :: L => (if c i x = 0 then 0 else 1) + ldH c (i + 1) L
def ldT (c : Nat → Nat → Nat) : Nat → List Nat → Nat
  | _, [] => 0
  | i, x :: L => c i x + ldT c (i + 1) L
theorem ldH_snoc (c : Nat → Nat → Nat) (f : Nat) : ∀ (P : List Nat) (i : Nat), ldH c i (P ++ [f]) = ldH c i P + (if c (i + P.length) f = 0 then 0 else 1)
  | [], i => by simp [ldH]
  | x :: P, i => by
    show (if c i x = 0 then 0 else 1) + ldH c (i + 1) (P ++ [f]) = (if c i x = 0 then 0 else 1) + ldH c (i + 1) P + _
    rw [ldH_snoc c f P (i + 1), show i + 1 + P.length = i + (x :: P).length by simp; omega, Nat.add_assoc]
theorem ldT_snoc (c : Nat → Nat → Nat) (f : Nat) : ∀ (P : List Nat) (i : Nat), ldT c i (P ++ [f]) = ldT c i P + c (i + P.length) f
  | [], i => by simp [ldT]
  | x :: P, i => by
    show c i x + ldT c (i + 1) (P ++ [f]) = c i x + ldT c (i + 1) P + _
    rw [ldT_snoc c f P (i + 1), show i + 1 + P.length = i + (x :: P).length by simp; omega, Nat.add_assoc]
theorem ldH_le (c : Nat → Nat → Nat) : ∀ (P : List Nat) (i : Nat), ldH c i P ≤ P.length
  | [], _ => Nat.le_refl _
  | x :: P, i => by
    have := ldH_le c P (i + 1)
    show (if c i x = 0 then 0 else 1) + ldH c (i + 1) P ≤ P.length + 1
    split <;> omega
theorem ldT_le {c : Nat → Nat → Nat} (hc : ∀ p q, c p q ≤ 10) : ∀ (P : List Nat) (i : Nat), ldT c i P ≤ 10 * P.length
  | [], _ => Nat.le_refl _
  | x :: P, i => by
    have := ldT_le hc P (i + 1)
    have := hc i x
    show c i x + ldT c (i + 1) P ≤ 10 * (P.length + 1)
    omega
/-- the better of the best so far and one more -/
def ldU (c : Nat → Nat → Nat) (B : Nat × Nat × List Nat) (L : List Nat) : Nat × Nat × List Nat := if B.1 < ldH c 0 L + 1 ∨ (ldH c 0 L + 1 = B.1 ∧ ldT c 0 L < B.2.1) then (ldH c 0 L + 1, ldT c 0 L, L) else B
theorem ldU_ne (c : Nat → Nat → Nat) (B : Nat × Nat × List Nat) (L : List Nat) : (ldU c B L).1 ≠ 0 := by
  unfold ldU
  split
  · show ldH c 0 L + 1 ≠ 0
    omega
  · rename_i h
    intro z
    exact h (Or.inl (by omega))
def mkS (P : List Nat) : Nat := P.foldl (fun a x => a ||| 2 ^ x) 0
theorem mkS_snoc (P : List Nat) (f : Nat) : mkS (P ++ [f]) = mkS P ||| 2 ^ f := by
  unfold mkS
  rw [List.foldl_append]
  rfl
theorem mk_bit : ∀ (P : List Nat) (a i : Nat), (P.foldl (fun a x => a ||| 2 ^ x) a).testBit i = (a.testBit i || decide (i ∈ P))
  | [], a, i => by simp
  | x :: P, a, i => by
    show (P.foldl (fun a x => a ||| 2 ^ x) (a ||| 2 ^ x)).testBit i = _
    rw [mk_bit P (a ||| 2 ^ x) i, Nat.testBit_or]
    by_cases h : i = x
    · subst h
      simp [Nat.testBit_two_pow_self]
    · simp [Nat.testBit_two_pow_of_ne (Ne.symm h), h]
theorem mkS_bit (P : List Nat) (i : Nat) : (mkS P).testBit i = decide (i ∈ P) := by
  unfold mkS
  rw [mk_bit]
  simp
theorem mk_lt : ∀ (P : List Nat) (a : Nat), a < 16 → (∀ x ∈ P, x < 4) → P.foldl (fun a x => a ||| 2 ^ x) a < 16
  | [], a, h, _ => h
  | x :: P, a, h, hP => mk_lt P (a ||| 2 ^ x) (Nat.or_lt_two_pow (n := 4) h ((by decide : ∀ x, x < 4 → 2 ^ x < 2 ^ 4) x (hP x List.mem_cons_self))) (fun y hy => hP y (List.mem_cons_of_mem _ hy))
/-- all ways to go on, in order -/
def exS (n : Nat) : Nat → List Nat → List (List Nat)
  | 0, P => [P]
  | r + 1, P => (List.range n).flatMap (fun f => if f ∈ P then [] else exS n r (P ++ [f]))
def BT (m : mMem) (n : Nat) (B : Nat × Nat × List Nat) : Prop := m.1 57 0 = nI B.1 - 1 ∧ m.1 57 1 = nI B.2.1 ∧ (B.1 ≠ 0 → ∀ k, k < n → m.1 58 k = nI (B.2.2.getD k 0)) ∧ B.1 ≤ 5 ∧ B.2.1 ≤ 40
def PF (m : mMem) (P : List Nat) : Prop := ∀ k, k < P.length → m.1 59 k = nI (P.getD k 0)
theorem ld_cmp : ∀ h, h ≤ 5 → ∀ k, k ≤ 4 → ((nI h - 1 < nI k ↔ h < k + 1) ∧ (nI k = nI h - 1 ↔ k + 1 = h)) := by decide +kernel
theorem gdA {P : List Nat} {f k : Nat} (hk : k < P.length) : (P ++ [f]).getD k 0 = P.getD k 0 := by
  rw [gd_at (by simp; omega), gd_at hk, List.getElem_append_left hk]
theorem gdB {P : List Nat} {f : Nat} : (P ++ [f]).getD P.length 0 = f := by
  rw [gd_at (by simp)]
  simp
theorem tk_leaf {m : mMem} {n : Nat} {c : Nat → Nat → Nat} {B : Nat × Nat × List Nat} {P : List Nat} (rec : Int32 → Int32 → Int32 → Int32 → Int32 → mMem → mR) (hn : n ≤ 4) (hc : ∀ p q, c p q ≤ 10) (hl : P.length = n) (hP : PF m P) (hB : BT m n B) : ∃ m', jX3_takeFrom_10 rec (nI (ldH c 0 P)) (nI (ldT c 0 P)) m = some (none, m') ∧ SM [57, 58, 59] m m' ∧ BT m' n (ldU c B P) ∧ PF m' P := by
  have h1 := ldH_le c P 0
  have h2 := ldT_le hc P 0
  obtain ⟨b1, b2, b3, b4, b5⟩ := hB
  obtain ⟨c1, c2⟩ := ld_cmp B.1 b4 (ldH c 0 P) (by omega)
  have take : ∀ B', B' = (ldH c 0 P + 1, ldT c 0 P, P) → ∃ m', jX3_takeFrom_37 rec (nI (ldH c 0 P)) (nI (ldT c 0 P)) m = some (none, m') ∧ SM [57, 58, 59] m m' ∧ BT m' n B' ∧ PF m' P := fun B' e => by
    subst e
    unfold jX3_takeFrom_37
    dsimp only [lt]
    refine ⟨_, rfl, ((SM_si (by simp)).tr (SM_si (by simp))).tr (SM_ci (by simp)), ⟨?_, ?_, fun _ k hk => ?_, by show ldH c 0 P + 1 ≤ 5; omega, by show ldT c 0 P ≤ 40; omega⟩, fun k hk => ?_⟩
    · rw [ci_1, if_neg (by omega), si_ne _ _ (Or.inr (by decide)), si_same]
      show nI (ldH c 0 P) = nI (ldH c 0 P + 1) - 1
      rw [sub1]
    · rw [ci_1, if_neg (by omega), si_same]
    · rw [ci_1, if_pos (by omega), si_ne _ _ (Or.inl (by decide)), si_ne _ _ (Or.inl (by decide))]
      exact hP k (by omega)
    · rw [ci_1, if_neg (by omega), si_ne _ _ (Or.inl (by decide)), si_ne _ _ (Or.inl (by decide))]
      exact hP k hk
  unfold jX3_takeFrom_10 ldU
  rw [b1, b2]
  by_cases q1 : B.1 < ldH c 0 P + 1
  · rw [if_pos (c1.mpr q1), if_pos (Or.inl q1)]
    exact take _ rfl
  · rw [if_neg (fun z => q1 (c1.mp z))]
    by_cases q2 : ldH c 0 P + 1 = B.1
    · rw [if_pos (c2.mpr q2)]
      by_cases q3 : B.2.1 ≤ ldT c 0 P
      · rw [if_pos (nI_le q3 (by omega)), if_neg (fun z => by
          rcases z with z | ⟨_, z⟩ <;> omega)]
        exact ⟨m, rfl, SM.rf, ⟨b1, b2, b3, b4, b5⟩, hP⟩
      · rw [if_neg (nI_ge (by omega) (by omega)), if_pos (Or.inr ⟨q2, by omega⟩)]
        exact take _ rfl
    · rw [if_neg (fun z => q2 (c2.mp z)), if_neg (fun z => by
        rcases z with z | ⟨z, _⟩ <;> omega)]
      exact ⟨m, rfl, SM.rf, ⟨b1, b2, b3, b4, b5⟩, hP⟩
theorem tk_eq {n : Nat} {c : Nat → Nat → Nat} (hn : n ≤ 4) (hc : ∀ p q, c p q ≤ 10) : ∀ (d r : Nat) (P : List Nat) (m : mMem) (B : Nat × Nat × List Nat), P.length + r = n → r < d → (∀ x ∈ P, x < n) → (∀ p q, p < n → q < n → m.1 61 (4 * p + q) = nI (c p q)) → PF m P → BT m n B → ∃ m', fX3_takeFrom d (nI P.length) (nI n) (nI (mkS P)) (nI (ldH c 0 P)) (nI (ldT c 0 P)) m = some (none, m') ∧ SM [57, 58, 59] m m' ∧ BT m' n ((exS n r P).foldl (ldU c) B) ∧ PF m' P
  | 0, _, _, _, _, _, h, _, _, _, _ => absurd h (Nat.not_lt_zero _)
  | d + 1, 0, P, m, B, hl, _, hx, ht, hP, hB => by
    show ∃ m', FX3_takeFrom (fX3_takeFrom d) (nI P.length) (nI n) (nI (mkS P)) (nI (ldH c 0 P)) (nI (ldT c 0 P)) m = some (none, m') ∧ _
    unfold FX3_takeFrom
    rw [if_pos (nI_le (by omega) (by omega))]
    exact tk_leaf _ hn hc hl hP hB
  | d + 1, r + 1, P, m, B, hl, hd, hx, ht, hP, hB => by
    have hmk : mkS P < 16 := mk_lt P 0 (by decide) (fun x h => by have := hx x h; omega)
    have h1 := ldH_le c P 0
    have h2 := ldT_le hc P 0
    show ∃ m', FX3_takeFrom (fX3_takeFrom d) (nI P.length) (nI n) (nI (mkS P)) (nI (ldH c 0 P)) (nI (ldT c 0 P)) m = some (none, m') ∧ _
    unfold FX3_takeFrom
    rw [if_neg (nI_ge (by omega) (by omega)), if_pos (show nI P.length < (4 : Int32) from nI_lt (b := 4) (by omega) (by decide))]
    obtain ⟨g, hg⟩ : ∃ g : Nat → List (List Nat), g = fun f => if f ∈ P then [] else exS n r (P ++ [f]) := ⟨_, rfl⟩
    have hex : exS n (r + 1) P = (List.range n).flatMap g := by rw [hg]; rfl
    rw [hex]
    refine lp_rel0 (body := bX3_takeFrom_67 (fX3_takeFrom d) (nI P.length) (nI n) (nI (mkS P)) (nI (ldH c 0 P)) (nI (ldT c 0 P))) (fun f s => ∃ m', s = (nI f, m') ∧ SM [57, 58, 59] m m' ∧ BT m' n (((List.range f).flatMap g).foldl (ldU c) B) ∧ PF m' P) n (fun res => ∃ m', res = some (none, m') ∧ SM [57, 58, 59] m m' ∧ BT m' n (((List.range n).flatMap g).foldl (ldU c) B) ∧ PF m' P) _ (by omega) ⟨m, rfl, SM.rf, hB, hP⟩ (fun s k => ?_) (fun f s hf => ?_)
    · rintro ⟨m', rfl, a1, a2, a3⟩
      unfold bX3_takeFrom_67
      dsimp only
      rw [if_pos (nI_le (Nat.le_refl _) (by omega))]
      exact ⟨m', rfl, a1, a2, a3⟩
    · rintro ⟨m', rfl, a1, a2, a3⟩
      have hgs : (List.range (f + 1)).flatMap g = (List.range f).flatMap g ++ g f := by
        rw [List.range_succ, List.flatMap_append]
        simp
      rw [hgs, List.foldl_append]
      have hbit : (mkS P).testBit f = decide (f ∈ P) := mkS_bit P f
      by_cases hm : f ∈ P
      · have e : g f = [] := by rw [hg]; exact if_pos hm
        refine ⟨(nI (f + 1), m'), ⟨m', rfl, a1, by rw [e]; exact a2, a3⟩, fun k => ?_⟩
        unfold bX3_takeFrom_67
        dsimp only [li]
        rw [if_neg (nI_ge hf (by omega)), if_neg (fun z => by
          have := (bit0 (by omega) (by omega)).mp z
          rw [hbit, decide_eq_true hm] at this
          cases this), show nI f + 1 = nI (f + 1) from nI_1 _]
      · have e : g f = exS n r (P ++ [f]) := by rw [hg]; exact if_neg hm
        have hct := ht P.length f (by omega) hf
        have h61 : m'.1 61 (4 * P.length + f) = nI (c P.length f) := by rw [(a1 61 (by decide)).1]; exact hct
        have hcl := hc P.length f
        have hPF : PF (si m' 59 P.length (nI f)) (P ++ [f]) := fun k hk => by
          simp at hk
          by_cases ek : k = P.length
          · subst ek
            rw [si_same, gdB]
          · rw [si_ne _ _ (Or.inr ek), gdA (by omega)]
            exact a3 k (by omega)
        have hBT : BT (si m' 59 P.length (nI f)) n (((List.range f).flatMap g).foldl (ldU c) B) := by
          obtain ⟨b1, b2, b3, b4, b5⟩ := a2
          exact ⟨by rw [si_ne _ _ (Or.inl (by decide))]; exact b1, by rw [si_ne _ _ (Or.inl (by decide))]; exact b2, fun z k hk => by rw [si_ne _ _ (Or.inl (by decide))]; exact b3 z k hk, b4, b5⟩
        obtain ⟨m2, r1, r2, r3, r4⟩ := tk_eq hn hc d r (P ++ [f]) (si m' 59 P.length (nI f)) _ (by simp; omega) (by omega) (fun x hx' => by
          rcases List.mem_append.mp hx' with z | z
          · exact hx x z
          · simp at z; omega) (fun p q hp hq => by rw [si_ne _ _ (Or.inl (by decide)), (a1 61 (by decide)).1]; exact ht p q hp hq) hPF hBT
        rw [mkS_snoc, ldH_snoc, ldT_snoc, Nat.zero_add, show (P ++ [f]).length = P.length + 1 by simp] at r1
        refine ⟨(nI (f + 1), m2), ⟨m2, rfl, (a1.tr (SM_si (by simp))).tr r2, by rw [e]; exact r3, fun k hk => by rw [r4 k (by simp; omega), gdA hk]⟩, fun k => ?_⟩
        unfold bX3_takeFrom_67 jX3_takeFrom_126
        dsimp only [li, lt]
        rw [if_neg (nI_ge hf (by omega)), if_pos ((bit0 (by omega) (by omega)).mpr (by rw [hbit]; exact decide_eq_false hm)), show nI P.length * (4 : Int32) + nI f = nI (4 * P.length + f) by rw [show nI P.length * (4 : Int32) = nI (P.length * 4) from nI_mul _ 4, nI_add, Nat.mul_comm], ga_nI (by omega) (by decide), ga_nI (i := P.length) (by omega) (by decide), nI_tn (by omega), nI_tn (by omega), h61, nI_shl1 f (by omega), nI_or, show nI P.length + 1 = nI (P.length + 1) from nI_1 _, show nI f + 1 = nI (f + 1) from nI_1 _, nI_add]
        by_cases hz : c P.length f = 0
        · rw [if_pos hz] at r1
          rw [if_pos (show nI (c P.length f) ≤ (0 : Int32) from nI_le (b := 0) (by omega) (by decide)), show nI (ldH c 0 P) + (0 : Int32) = nI (ldH c 0 P + 0) from nI_add _ 0, r1]
          rfl
        · rw [if_neg hz] at r1
          rw [if_neg (show ¬ nI (c P.length f) ≤ (0 : Int32) from nI_ge (a := 0) (by omega) (by omega)), show nI (ldH c 0 P) + (1 : Int32) = nI (ldH c 0 P + 1) from nI_1 _, r1]
          rfl
/-- steps of lodger p to the floor of lodger q -/
def lcS (v : Nat → Nat) (p q : Nat) : Nat := popc (pvS (tdS v p) (rcS v p) (v (52 + q)))
def LB (v : Nat → Nat) : Nat × Nat × List Nat := (exS (v 1) (v 1) []).foldl (ldU (lcS v)) (0, 0, [])
theorem ar_in {m : mMem} {p : Nat} {v : Nat → Nat} (h : HC m 0 v) (ho : OK v) (hp : p < v 1) (h60 : ∀ i, i < v 0 → m.1 60 i = nI (pvS (tdS v p) (rcS v p) i)) : ∃ u : Int32 × mMem, (∃ m', u = (nI (p + 1), m') ∧ SM [61] m m' ∧ (∀ q, q < v 1 → m'.1 61 (4 * p + q) = nI (lcS v p q)) ∧ ∀ j, (j < 4 * p ∨ 4 * p + v 1 ≤ j) → m'.1 61 j = m.1 61 j) ∧ ∀ k2, lp (bX3_arrange_35 k2 0 (nI p)) FU ((0 : Int32), m) = k2 u := by
  have hb := ho.1
  have hr := rcS_b ho hp
  refine lp_relK0 (body := fun k2 => bX3_arrange_35 k2 0 (nI p)) (fun i s => ∃ m', s = (nI i, m') ∧ SM [61] m m' ∧ (∀ q, q < i → m'.1 61 (4 * p + q) = nI (lcS v p q)) ∧ ∀ j, (j < 4 * p ∨ 4 * p + i ≤ j) → m'.1 61 j = m.1 61 j) (v 1) (fun u => ∃ m', u = (nI (p + 1), m') ∧ SM [61] m m' ∧ (∀ q, q < v 1 → m'.1 61 (4 * p + q) = nI (lcS v p q)) ∧ ∀ j, (j < 4 * p ∨ 4 * p + v 1 ≤ j) → m'.1 61 j = m.1 61 j) _ (by omega) ⟨m, rfl, SM.rf, fun q hq => absurd hq (Nat.not_lt_zero _), fun _ _ => rfl⟩ (fun s => ?_) (fun i s hi => ?_)
  · rintro ⟨m', rfl, a1, a2, a3⟩
    refine ⟨_, ⟨m', rfl, a1, a2, a3⟩, fun ko k => ?_⟩
    unfold bX3_arrange_35
    dsimp only [li]
    rw [(a1 0 (by decide)).1, h.1.2.1, if_pos (nI_le (Nat.le_refl _) (by omega)), show nI p + 1 = nI (p + 1) from nI_1 _]
  · rintro ⟨m', rfl, a1, a2, a3⟩
    have hfl := (ho.2.2 i hi).2.2.2.2
    have e7 : m'.1 (0 + 7) i = nI (v (52 + i)) := by rw [(a1 (0 + 7) (by decide)).1]; exact (h.2.2 i hi).2.2.2
    have e60 : m'.1 60 (v (52 + i)) = nI (pvS (tdS v p) (rcS v p) (v (52 + i))) := by rw [(a1 60 (by decide)).1]; exact h60 _ hfl
    refine ⟨(nI (i + 1), si m' 61 (4 * p + i) (nI (lcS v p i))), ⟨_, rfl, a1.tr (SM_si (by simp)), fun q hq => ?_, fun j hj => ?_⟩, fun ko k => ?_⟩
    · by_cases eq : q = i
      · subst eq
        rw [si_same]
      · rw [si_ne _ _ (Or.inr (by omega))]
        exact a2 q (by omega)
    · rw [si_ne _ _ (Or.inr (by omega))]
      exact a3 j (by omega)
    · unfold bX3_arrange_35
      dsimp only [li, lt]
      rw [(a1 0 (by decide)).1, h.1.2.1, if_neg (nI_ge hi (by omega)), ga_nI (by omega) (by decide), nI_tn (by omega), e7, ga_nI (by omega) (by decide), nI_tn (by omega), e60, fJ6_bitCount_eq _ (pvS_lt hr.1 hr.2 (by omega))]
      dsimp only [bI]
      rw [show nI p * (4 : Int32) + nI i = nI (4 * p + i) by rw [show nI p * (4 : Int32) = nI (p * 4) from nI_mul _ 4, nI_add, Nat.mul_comm], ga_nI (by omega) (by decide), nI_tn (by omega), show nI i + 1 = nI (i + 1) from nI_1 _]
      rfl
theorem fX3_arrange_eq {m : mMem} {v : Nat → Nat} (h : HC m 0 v) (ho : OK v) : ∃ m', fX3_arrange 0 m = some (none, m') ∧ SM [57, 58, 59, 60, 61] m m' ∧ BT m' (v 1) (LB v) := by
  have hb := ho.1
  have hlc : ∀ p q, lcS v p q ≤ 10 := fun p q => popc_le _
  unfold fX3_arrange
  refine lp_rel0 (body := bX3_arrange_2 0) (fun p s => ∃ m', s = (nI p, m') ∧ SM [57, 58, 59, 60, 61] m m' ∧ ∀ p' q, p' < p → q < v 1 → m'.1 61 (4 * p' + q) = nI (lcS v p' q)) (v 1) (fun res => ∃ m', res = some (none, m') ∧ SM [57, 58, 59, 60, 61] m m' ∧ BT m' (v 1) (LB v)) _ (by omega) ⟨m, rfl, SM.rf, fun _ _ hp => absurd hp (Nat.not_lt_zero _)⟩ (fun s k => ?_) (fun p s hp => ?_)
  · rintro ⟨m', rfl, a1, a2⟩
    obtain ⟨m2, r1, r2, r3, r4⟩ := tk_eq (n := v 1) (c := lcS v) hb.2.1 hlc 8 (v 1) [] (si (si m' 57 0 (-1 : Int32)) 57 1 (0 : Int32)) (0, 0, []) (by simp) (by omega) (fun x hx => by cases hx) (fun p q hp hq => by rw [si_ne _ _ (Or.inl (by decide)), si_ne _ _ (Or.inl (by decide))]; exact a2 p q hp hq) (fun k hk => absurd hk (Nat.not_lt_zero _)) ⟨by rw [si_ne _ _ (Or.inr (by decide)), si_same]; rfl, by rw [si_same]; rfl, fun z => absurd rfl z, by decide, by decide⟩
    have r1' : fX3_takeFrom 8 (0 : Int32) (nI (v 1)) (0 : Int32) (0 : Int32) (0 : Int32) (si (si m' 57 0 (-1 : Int32)) 57 1 (0 : Int32)) = some (none, m2) := r1
    unfold bX3_arrange_2
    dsimp only [lt]
    rw [(a1 0 (by decide)).1, h.1.2.1, if_pos (nI_le (Nat.le_refl _) (by omega)), si_ne _ _ (Or.inl (by decide)), si_ne _ _ (Or.inl (by decide)), (a1 0 (by decide)).1, h.1.2.1, r1']
    exact ⟨m2, rfl, ((a1.tr (SM_si (by simp))).tr (SM_si (by simp))).tr (r2.mono (by simp)), r3⟩
  · rintro ⟨m', rfl, a1, a2⟩
    have hC : HC m' 0 v := HC_sm h a1 (by decide)
    have hr := rcS_b ho hp
    have hfl := (ho.2.2 p hp).2.2.2.2
    have htb : fX4_treadBits 0 (nI p) m' = some (some (.int (nI (tdS v p))), m') := fX4_treadBits_eq hC ho hp
    obtain ⟨m1, hm1⟩ : ∃ m1, m1 = pM 60 (tdS v p) (rcS v p) m' (v 0 - 1 + 1) := ⟨_, rfl⟩
    have hs1 : SM [60] m' m1 := by rw [hm1]; exact pM_SM _ _ _ _ _
    obtain ⟨u, ⟨m2, rfl, b1, b2, b3⟩, hk⟩ := ar_in (m := m1) (p := p) (HC_sm hC hs1 (by decide)) ho hp (fun i hi => by rw [hm1]; exact pM_at _ _ _ _ _ _ (by omega))
    refine ⟨(nI (p + 1), m2), ⟨m2, rfl, (a1.tr (hs1.mono (by simp))).tr (b1.mono (by simp)), fun p' q hp' hq => ?_⟩, fun k => ?_⟩
    · by_cases ep : p' = p
      · subst ep
        exact b2 q hq
      · rw [b3 _ (by omega), (hs1 61 (by decide)).1]
        exact a2 p' q (by omega) hq
    · unfold bX3_arrange_2
      dsimp only
      rw [(a1 0 (by decide)).1, h.1.2.1, if_neg (nI_ge hp (by omega)), htb]
      dsimp only [bI]
      rw [fX4_reachOf_eq hC ho hp]
      dsimp only
      rw [hC.1.1, show nI (v 0) - 1 = nI (v 0 - 1) from nI_sub (b := 1) (by omega), fX1_findPaths_eq (t := tdS v p) (top := v 0 - 1) (bt_lt hb.1) hr.1 hr.2 (by omega), ← hm1]
      dsimp only [bV]
      exact hk k
