/-! PURE FACTS: the class's search -/
def SEs (m : mMem) (s : Nat) (I M : Nat → Nat) : Prop := m.1 65 0 = nI s ∧ ∀ k, k < s → m.1 67 k = nI (I k) ∧ m.1 68 k = nI (M k)
theorem rf69 : ∀ j, j < 5 → rf 69 j = 70 + j := by decide +kernel
theorem rf75 : ∀ j, j < 4 → rf 75 j = 76 + j := by decide +kernel
theorem nI_neg {a b : Nat} (ha : a ≤ 100) (hb : b ≤ 100) : (nI a - nI b < (0 : Int32)) ↔ a < b := by
  by_cases h : b ≤ a
  · rw [nI_sub h]
    constructor
    · intro z
      exact absurd z (nI_pos (by omega))
    · intro z; omega
  · have : (nI a - nI b).toInt = (a : Int) - b := by
      rw [Int32.toInt_sub, nI_toInt (by omega), nI_toInt (by omega), Int.bmod_eq_of_le (by omega) (by omega)]
    rw [Int32.lt_iff_toInt_lt, this]
    have h0 : (0 : Int32).toInt = 0 := rfl
    omega
theorem fX2_canBeSo_eq {m : mMem} {v x : Nat → Nat} {s p r : Nat} {I M : Nat → Nat} (hp : p + r = v 1) (h1 : v 1 ≤ 4) (h10 : v 0 ≤ 10) (hs : s ≤ 6) (hS : SEs m s I M) (hI : ∀ k, k < s → I k < v 0 ∧ M k ≤ 40) (hx : ∀ i, i < v 0 → v (30 + i) ≤ x (30 + i) ∧ x (30 + i) ≤ 99) (h32 : m.1 32 1 = nI (v 1)) (w0 : ∀ i, i < v 0 → m.1 70 i = nI (v (30 + i))) (wp : ∀ i, i < v 0 → m.1 (70 + p) i = nI (x (30 + i))) : fX2_canBeSo (nI p) m = some (some (.int (if cbF v s I M r x then 1 else 0)), m) := by
  unfold fX2_canBeSo
  dsimp only [li]
  rw [h32, nI_sub (by omega), show (3 : Int32) * nI (v 1 - p) = nI (3 * (v 1 - p)) from nI_mul 3 _, show v 1 - p = r by omega]
  refine lp_or0 (body := bX2_canBeSo_14 (nI p) (nI (3 * r))) (fun k st => st = (nI k, m) ∧ ∀ j, j < k → x (30 + I j) ≤ v (30 + I j) + M j ∧ v (30 + I j) + M j ≤ x (30 + I j) + 3 * r) s (fun res => res = some (some (.int (if cbF v s I M r x then 1 else 0)), m)) _ (by omega) ⟨rfl, fun j hj => absurd hj (Nat.not_lt_zero _)⟩ (fun st k => ?_) (fun k st hk => ?_)
  · rintro ⟨rfl, h⟩
    unfold bX2_canBeSo_14
    dsimp only
    rw [hS.1, if_pos (nI_le (Nat.le_refl _) (by omega)), cb_iff.mpr h]
    rfl
  · rintro ⟨rfl, h⟩
    obtain ⟨i1, i2⟩ := hI k hk
    obtain ⟨a1, a2⟩ := hx _ i1
    obtain ⟨e1, e2⟩ := hS.2 k hk
    have hno : ¬ (x (30 + I k) ≤ v (30 + I k) + M k ∧ v (30 + I k) + M k ≤ x (30 + I k) + 3 * r) → cbF v s I M r x = false := fun q => by
      rw [Bool.eq_false_iff]
      intro z
      exact q (cb_iff.mp z k hk)
    have body : ∀ K, bX2_canBeSo_14 (nI p) (nI (3 * r)) K (nI k, m) = (if nI (M k) - nI (x (30 + I k) - v (30 + I k)) < (0 : Int32) then some (some (.int (0 : Int32)), m) else if nI (M k) - nI (x (30 + I k) - v (30 + I k)) ≤ nI (3 * r) then K (nI (k + 1), m) else some (some (.int (0 : Int32)), m)) := fun K => by
      unfold bX2_canBeSo_14
      dsimp only [li]
      rw [hS.1, if_neg (nI_ge hk (by omega)), ga_nI (i := k) (by omega) (by decide), nI_tn (n := k) (by omega), e1, e2, ga_nI (i := k) (by omega) (by decide), ga_nI (i := p) (by omega) (by decide), ga_nI (i := I k) (by omega) (by decide), show ∀ r : mR, ga (0 : Int32) 5 r = r from fun r => ga_nI (i := 0) (by decide) (by decide), ga_nI (i := I k) (by omega) (by decide), nI_tn (n := I k) (by omega), nI_tn (n := p) (by omega), show ((0 : Int32)).toNatClampNeg = 0 from rfl, rf69 p (by omega), rf69 0 (by decide), wp _ i1, w0 _ i1, nI_sub a1, show nI k + 1 = nI (k + 1) from nI_1 _]
    by_cases q1 : M k < x (30 + I k) - v (30 + I k)
    · right
      intro K
      rw [body, if_pos ((nI_neg (by omega) (by omega)).mpr q1), hno (by omega)]
      rfl
    · have hge : x (30 + I k) - v (30 + I k) ≤ M k := by omega
      by_cases q2 : M k - (x (30 + I k) - v (30 + I k)) ≤ 3 * r
      · left
        refine ⟨(nI (k + 1), m), ⟨rfl, fun j hj => ?_⟩, fun K => ?_⟩
        · by_cases e : j = k
          · subst e; omega
          · exact h j (by omega)
        · rw [body, if_neg (fun z => q1 ((nI_neg (by omega) (by omega)).mp z)), nI_sub hge, if_pos (nI_le q2 (by omega))]
      · right
        intro K
        rw [body, if_neg (fun z => q1 ((nI_neg (by omega) (by omega)).mp z)), nI_sub hge, if_neg (nI_ge (by omega) (by omega)), hno (by omega)]
        rfl
theorem HC_w {m m' : mMem} {x : Nat → Nat} (h : HC m 32 x) (e : ∀ c, 32 ≤ c → c < 40 → c ≠ 35 → m'.1 c = m.1 c) (w : ∀ i, i < x 0 → m'.1 35 i = nI (x (30 + i))) : HC m' 32 x := by
  unfold HC
  rw [e 32 (by omega) (by omega) (by omega), e (32 + 1) (by omega) (by omega) (by omega), e (32 + 2) (by omega) (by omega) (by omega), e (32 + 4) (by omega) (by omega) (by omega), e (32 + 5) (by omega) (by omega) (by omega), e (32 + 6) (by omega) (by omega) (by omega), e (32 + 7) (by omega) (by omega) (by omega)]
  exact ⟨h.1, fun i hi => ⟨(h.2.1 i hi).1, (h.2.1 i hi).2.1, w i hi⟩, h.2.2⟩
def SCc : List Nat := [35, 66, 71, 72, 73, 74, 76, 77, 78, 79]
/-- what the search finds at (p, x), over the bits B so far -/
def SR (v : Nat → Nat) (T : (Nat → Nat) → Bool) (r p : Nat) (x : Nat → Nat) (B : Nat → Nat) (m m' : mMem) : Prop := SM SCc m m' ∧ (∀ j, j ≤ p → m'.1 (70 + j) = m.1 (70 + j)) ∧ (∀ j, j < p → m'.1 (76 + j) = m.1 (76 + j)) ∧ ∀ q, q < v 1 → m'.1 66 q = nI (if p ≤ q then B q ||| foF T (v 0) (v 1) r p x q else B q)
theorem in70 : ∀ j, 1 ≤ j → j ≤ 4 → 70 + j ∈ SCc := by
  intro j h1 h2
  have : j = 1 ∨ j = 2 ∨ j = 3 ∨ j = 4 := by omega
  rcases this with rfl | rfl | rfl | rfl <;> decide
theorem in76 : ∀ j, j ≤ 3 → 76 + j ∈ SCc := by
  intro j h2
  have : j = 0 ∨ j = 1 ∨ j = 2 ∨ j = 3 := by omega
  rcases this with rfl | rfl | rfl | rfl <;> decide
theorem se_eq {v : Nat → Nat} {s : Nat} {I M : Nat → Nat} (hv : OK v) (hs : s ≤ 6) (hI : ∀ k, k < s → I k < v 0 ∧ M k ≤ 40) : ∀ (d r p : Nat) (x : Nat → Nat) (m : mMem) (B : Nat → Nat), p + r = v 1 → r < d → OK x → (∀ j, j < 30 ∨ 40 ≤ j → x j = v j) → (∀ i, i < v 0 → v (30 + i) ≤ x (30 + i)) → HC m 32 x → SEs m s I M → (∀ i, i < v 0 → m.1 70 i = nI (v (30 + i))) → (∀ i, i < v 0 → m.1 (70 + p) i = nI (x (30 + i))) → (∀ q, q < v 1 → m.1 66 q = nI (B q) ∧ B q < 1024) → ∃ m', fX2_searchFrom d (nI p) m = some (some (.int (nI (cnF (ftS v s I M) (v 0) (v 1) r p x))), m') ∧ SR v (ftS v s I M) r p x B m m'
  | 0, _, _, _, _, _, _, h, _, _, _, _, _, _, _, _ => absurd h (Nat.not_lt_zero _)
  | d + 1, r, p, x, m, B, hp, hd, ho, ha, hm, hC, hS, w0, wp, hB => by
    have hb := hv.1
    have hx0 : x 0 = v 0 := ha 0 (by omega)
    have hx1 : x 1 = v 1 := ha 1 (by omega)
    have h32 : m.1 32 1 = nI (v 1) := by rw [← hx1]; exact hC.1.2.1
    have h320 : m.1 32 0 = nI (v 0) := by rw [← hx0]; exact hC.1.1
    have hcb := fX2_canBeSo_eq (r := r) hp hb.2.1 hb.1 hs hS hI (fun i hi => ⟨hm i hi, (ho.2.1 i (by omega)).2.2⟩) h32 w0 wp
    generalize hT : ftS v s I M = T
    show ∃ m', FX2_searchFrom (fX2_searchFrom d) (nI p) m = some (some (.int (nI (cnF T (v 0) (v 1) r p x))), m') ∧ _
    unfold FX2_searchFrom
    rw [hcb]
    dsimp only [bI]
    cases hcv : cbF v s I M r x
    · have hno := cn_none (T := T) (a := v 0) (n := v 1) (r := r) (p := p) (x := x) (fun F => by rw [← hT]; exact cb_no ho (fun k hk => by rw [hx0]; exact (hI k hk).1) hcv F)
      refine ⟨m, ?_, SM.rf, fun _ _ => rfl, fun _ _ => rfl, fun q hq => ?_⟩
      · rw [hno.1, if_pos (by rfl)]
        rfl
      · rw [hno.2 q, Nat.or_zero, (hB q hq).1]
        split <;> rfl
    · rw [if_neg (by decide), h32]
      cases r with
      | zero =>
        refine ⟨m, ?_, SM.rf, fun _ _ => rfl, fun _ _ => rfl, fun q hq => ?_⟩
        · rw [if_pos (nI_le (by omega) (by omega)), cn_0]
          rw [cb_end, hT] at hcv
          rw [hcv]
          rfl
        · rw [if_neg (by omega), (hB q hq).1]
      | succ r =>
        have hp4 : p < 4 := by omega
        have hpx : p < x 1 := by omega
        have hr := rcS_b ho hpx
        have hv0 : 0 < v 0 := by have := (hv.2.2 p (by omega)).2.2.2.2; omega
        have htb : fX4_treadBits 32 (nI p) m = some (some (.int (nI (tdS x p))), m) := fX4_treadBits_eq hC ho hpx
        have ht : tdS x p < 1024 := bt_lt (by omega)
        obtain ⟨m1, hm1⟩ : ∃ m1, m1 = pM (76 + p) (tdS x p) (rcS x p) m (v 0 - 1 + 1) := ⟨_, rfl⟩
        have hs1 : SM [76 + p] m m1 := by rw [hm1]; exact pM_SM _ _ _ _ _
        have hpath : ∀ i, i < v 0 → m1.1 (76 + p) i = nI (pvS (tdS x p) (rcS x p) i) := fun i hi => by rw [hm1]; exact pM_at _ _ _ _ _ _ (by omega)
        rw [if_neg (nI_ge (by omega) (by omega)), if_pos (show nI p < (4 : Int32) from nI_lt (b := 4) hp4 (by decide)), ga_nI hp4 (by decide), htb]
        dsimp only
        rw [fX4_reachOf_eq hC ho hpx]
        dsimp only
        rw [h320, show nI (v 0) - 1 = nI (v 0 - 1) from nI_sub (b := 1) (by omega), nI_tn (by omega), rf75 p hp4, fX1_findPaths_eq (A := 76 + p) ht hr.1 hr.2 (by omega), ← hm1]
        dsimp only [bV]
        obtain ⟨cf, hcf⟩ : ∃ cf : Nat → Nat, cf = fun f => cnF T (v 0) (v 1) r (p + 1) (stF x p f) := ⟨_, rfl⟩
        obtain ⟨of, hof⟩ : ∃ of : Nat → Nat → Nat, of = fun q f => foF T (v 0) (v 1) r (p + 1) (stF x p f) q := ⟨_, rfl⟩
        have hcfl : ∀ f, cf f ≤ 10000 := fun f => by rw [hcf]; exact cn_le hb.1 (by omega)
        have hofl : ∀ q f, of q f < 2 ^ 10 := fun q f => by rw [hof]; exact fo_lt hv0 hb.1
        have hbl : ∀ f, (if cf f = 0 then 0 else 2 ^ f) < 2 ^ 10 ∨ 10 ≤ f := fun f => by
          by_cases z : f < 10
          · left
            split
            · decide
            · exact Nat.pow_lt_pow_right (by decide) z
          · right; omega
        have hcn : cnF T (v 0) (v 1) (r + 1) p x = smN cf (v 0) := by rw [hcf]; exact cn_rec hv0 (by omega)
        have hsumle : ∀ i, i ≤ 10 → smN cf i ≤ i * 10000 := fun i hi => by
          induction i with
          | zero => exact Nat.le_refl _
          | succ i ih =>
            have := ih (by omega)
            have := hcfl i
            show smN cf i + cf i ≤ _
            omega
        -- the bits behind i floors
        obtain ⟨bt, hbt⟩ : ∃ bt : Nat → Nat → Nat, bt = fun i q => if p < q then B q ||| smO (of q) i else if q = p then B q ||| smO (fun f => if cf f = 0 then 0 else 2 ^ f) i else B q := ⟨_, rfl⟩
        have hsame : ∀ f g, pvS (tdS x p) (rcS x p) f = pvS (tdS x p) (rcS x p) g → cf f = cf g ∧ ∀ q, of q f = of q g := fun f g e => by
          have : stF x p f = stF x p g := by unfold stF; rw [e]
          rw [hcf, hof]
          dsimp only
          rw [this]
          exact ⟨rfl, fun _ => rfl⟩
        have key := lp_rel0 (body := bX2_searchFrom_72 (fX2_searchFrom d) (nI p) (76 + p)) (fun i st => ∃ m' x4, st = (nI (smN cf i), x4, nI i, m') ∧ ((x4 = -1 ∧ ∀ f, f < i → pvS (tdS x p) (rcS x p) f ≠ 0) ∨ ∃ f, f < i ∧ pvS (tdS x p) (rcS x p) f = 0 ∧ x4 = nI (cf f)) ∧ SM SCc m1 m' ∧ (∀ j, j ≤ p → m'.1 (70 + j) = m1.1 (70 + j)) ∧ (∀ j, j ≤ p → m'.1 (76 + j) = m1.1 (76 + j)) ∧ ∀ q, q < v 1 → m'.1 66 q = nI (bt i q)) (v 0) (fun res => ∃ m', res = some (some (.int (nI (smN cf (v 0)))), m') ∧ SM SCc m1 m' ∧ (∀ j, j ≤ p → m'.1 (70 + j) = m1.1 (70 + j)) ∧ (∀ j, j ≤ p → m'.1 (76 + j) = m1.1 (76 + j)) ∧ ∀ q, q < v 1 → m'.1 66 q = nI (bt (v 0) q)) ((0 : Int32), (-1 : Int32), (0 : Int32), m1) (by omega) ⟨m1, -1, rfl, Or.inl ⟨rfl, fun f hf => absurd hf (Nat.not_lt_zero _)⟩, SM.rf, fun _ _ => rfl, fun _ _ => rfl, fun q hq => ?_⟩ (fun st k => ?_) (fun i st hi => ?_)
        · obtain ⟨m', e, a1, a2, a3, a4⟩ := key
          refine ⟨m', by rw [e, hcn], ?_, fun j hj => ?_, fun j hj => ?_, fun q hq => ?_⟩
          · exact (hs1.mono (fun z hz => by simp at hz; subst hz; exact in76 p (by omega))).tr a1
          · rw [a2 j hj, (hs1 _ (by simp; omega)).1]
          · rw [a3 j (by omega), (hs1 _ (by simp; omega)).1]
          · rw [a4 q hq, hbt]
            dsimp only
            by_cases q1 : p < q
            · rw [if_pos q1, if_pos (by omega), fo_lo hv0 (by omega) q1 hq, hof]
            · rw [if_neg q1]
              by_cases q2 : q = p
              · rw [if_pos q2, if_pos (by omega), q2, fo_hi hv0 (by omega), hcf]
              · rw [if_neg q2, if_neg (by omega)]
        · rw [(hs1 66 (by simp; omega)).1, (hB q hq).1, hbt]
          dsimp only
          split
          · show nI (B q) = nI (B q ||| 0)
            rw [Nat.or_zero]
          · split
            · show nI (B q) = nI (B q ||| 0)
              rw [Nat.or_zero]
            · rfl
        · rintro ⟨m', x4, rfl, a0, a1, a2, a3, a4⟩
          unfold bX2_searchFrom_72
          dsimp only
          rw [(a1 32 (by decide)).1, (hs1 32 (by simp; omega)).1, h320, if_pos (nI_le (Nat.le_refl _) (by omega))]
          exact ⟨m', rfl, a1, a2, a3, a4⟩
        · rintro ⟨m', x4, rfl, a0, a1, a2, a3, a4⟩
          have e320 : m'.1 32 0 = nI (v 0) := by rw [(a1 32 (by decide)).1, (hs1 32 (by simp; omega)).1, h320]
          have ep : m'.1 (76 + p) i = nI (pvS (tdS x p) (rcS x p) i) := by rw [a3 p (Nat.le_refl _)]; exact hpath i hi
          have hpl : pvS (tdS x p) (rcS x p) i < 1024 := pvS_lt hr.1 hr.2 (by omega)
          have hci := hcfl i
          -- behind the look: the bit and the sums
          have fin : ∀ m2, SM SCc m1 m2 → (∀ j, j ≤ p → m2.1 (70 + j) = m1.1 (70 + j)) → (∀ j, j ≤ p → m2.1 (76 + j) = m1.1 (76 + j)) → (∀ q, q < v 1 → m2.1 66 q = nI (if p < q then bt (i + 1) q else bt i q)) → ∃ m3 x4', (((x4' = -1 ∧ ∀ f, f < i + 1 → pvS (tdS x p) (rcS x p) f ≠ 0) ∨ ∃ f, f < i + 1 ∧ pvS (tdS x p) (rcS x p) f = 0 ∧ x4' = nI (cf f)) ∧ SM SCc m1 m3 ∧ (∀ j, j ≤ p → m3.1 (70 + j) = m1.1 (70 + j)) ∧ (∀ j, j ≤ p → m3.1 (76 + j) = m1.1 (76 + j)) ∧ ∀ q, q < v 1 → m3.1 66 q = nI (bt (i + 1) q)) ∧ ∀ k, jX2_searchFrom_115 (fX2_searchFrom d) k (nI p) (76 + p) (nI (smN cf i)) x4 (nI i) (nI (cf i)) m2 = k (nI (smN cf (i + 1)), x4', nI (i + 1), m3) := fun m2 c1 c2 c3 c4 => by
            have ep2 : m2.1 (76 + p) i = nI (pvS (tdS x p) (rcS x p) i) := by rw [c3 p (Nat.le_refl _)]; exact hpath i hi
            have hsum : nI (smN cf i) + nI (cf i) = nI (smN cf (i + 1)) := nI_add _ _
            have j126 : ∃ m3, (SM SCc m1 m3 ∧ (∀ j, j ≤ p → m3.1 (70 + j) = m1.1 (70 + j)) ∧ (∀ j, j ≤ p → m3.1 (76 + j) = m1.1 (76 + j)) ∧ ∀ q, q < v 1 → m3.1 66 q = nI (bt (i + 1) q)) ∧ ∀ k y4, jX2_searchFrom_126 (fX2_searchFrom d) k (nI p) (76 + p) (nI (smN cf i)) y4 (nI i) (nI (cf i)) m2 = k (nI (smN cf (i + 1)), y4, nI (i + 1), m3) := by
              have hbp : bt (i + 1) p = bt i p ||| (if cf i = 0 then 0 else 2 ^ i) := by
                rw [hbt]
                dsimp only
                rw [if_neg (Nat.lt_irrefl p), if_pos rfl, if_neg (Nat.lt_irrefl p), if_pos rfl, Nat.or_assoc]
                rfl
              have hbo : ∀ q, q < p → bt (i + 1) q = bt i q := fun q hq => by
                rw [hbt]
                dsimp only
                rw [if_neg (by omega), if_neg (by omega), if_neg (by omega), if_neg (by omega)]
              have h66 : m2.1 66 p = nI (bt i p) := by rw [c4 p (by omega), if_neg (Nat.lt_irrefl p)]
              by_cases hz : cf i = 0
              · refine ⟨m2, ⟨c1, c2, c3, fun q hq => ?_⟩, fun k y4 => ?_⟩
                · rw [c4 q hq]
                  by_cases q1 : p < q
                  · rw [if_pos q1]
                  · rw [if_neg q1]
                    by_cases q2 : q = p
                    · subst q2
                      rw [hbp, if_pos hz, Nat.or_zero]
                    · rw [hbo q (by omega)]
                · unfold jX2_searchFrom_126
                  dsimp only [li]
                  rw [if_pos (show nI (cf i) ≤ (0 : Int32) from nI_le (b := 0) (by omega) (by decide)), hsum, show nI i + 1 = nI (i + 1) from nI_1 _]
              · refine ⟨si m2 66 p (nI (bt (i + 1) p)), ⟨c1.tr (SM_si (by decide)), fun j hj => by rw [si_c _ (by omega)]; exact c2 j hj, fun j hj => by rw [si_c _ (by omega)]; exact c3 j hj, fun q hq => ?_⟩, fun k y4 => ?_⟩
                · by_cases q2 : q = p
                  · subst q2
                    rw [si_same]
                  · rw [si_ne _ _ (Or.inr q2), c4 q hq]
                    by_cases q1 : p < q
                    · rw [if_pos q1]
                    · rw [if_neg q1, hbo q (by omega)]
                · unfold jX2_searchFrom_126
                  dsimp only [li, lt]
                  rw [if_neg (show ¬ nI (cf i) ≤ (0 : Int32) from nI_ge (a := 0) (by omega) (by omega)), ga_nI hp4 (by decide), ga_nI hp4 (by decide), nI_tn (by omega), h66, nI_shl1 i (by omega), nI_or, hsum, show nI i + 1 = nI (i + 1) from nI_1 _, hbp, if_neg hz]
            obtain ⟨m3, h3, hk3⟩ := j126
            by_cases hz : pvS (tdS x p) (rcS x p) i = 0
            · refine ⟨m3, nI (cf i), ⟨Or.inr ⟨i, by omega, hz, rfl⟩, h3⟩, fun k => ?_⟩
              unfold jX2_searchFrom_115
              rw [ga_nI (by omega) (by decide), nI_tn (by omega), ep2, if_pos ((nI_0iff (by omega)).mpr hz)]
              exact hk3 k _
            · refine ⟨m3, x4, ⟨?_, h3⟩, fun k => ?_⟩
              · rcases a0 with ⟨z1, z2⟩ | ⟨f, z1, z2, z3⟩
                · left
                  refine ⟨z1, fun f hf => ?_⟩
                  by_cases e : f = i
                  · subst e; exact hz
                  · exact z2 f (by omega)
                · exact Or.inr ⟨f, by omega, z2, z3⟩
              · unfold jX2_searchFrom_115
                rw [ga_nI (by omega) (by decide), nI_tn (by omega), ep2, if_neg (fun z => hz ((nI_0iff (by omega)).mp z))]
                exact hk3 k _
          have start : ∀ k, bX2_searchFrom_72 (fX2_searchFrom d) (nI p) (76 + p) k (nI (smN cf i), x4, nI i, m') = jX2_searchFrom_97 (fX2_searchFrom d) k (nI p) (76 + p) (nI (smN cf i)) x4 (nI i) (if pvS (tdS x p) (rcS x p) i = 0 then x4 else -1) m' := fun k => by
            unfold bX2_searchFrom_72
            dsimp only
            rw [e320, if_neg (nI_ge hi (by omega)), ga_nI (by omega) (by decide), nI_tn (by omega), ep]
            by_cases hz : pvS (tdS x p) (rcS x p) i = 0
            · rw [if_pos ((nI_0iff (by omega)).mpr hz), if_pos hz]
            · rw [if_neg (fun z => hz ((nI_0iff (by omega)).mp z)), if_neg hz]
          by_cases memo : pvS (tdS x p) (rcS x p) i = 0 ∧ ∃ f, f < i ∧ pvS (tdS x p) (rcS x p) f = 0 ∧ x4 = nI (cf f)
          · obtain ⟨z0, f, z1, z2, z3⟩ := memo
            obtain ⟨e1, e2⟩ := hsame f i (by rw [z0, z2])
            rw [e1] at z3
            obtain ⟨m3, x4', ⟨g0, g1, g2, g3, g4⟩, hk⟩ := fin m' a1 a2 a3 (fun q hq => by
              rw [a4 q hq]
              by_cases q1 : p < q
              · rw [if_pos q1, hbt]
                dsimp only
                rw [if_pos q1, if_pos q1]
                have : smO (of q) (i + 1) = smO (of q) i ||| of q i := rfl
                rw [this, ← e2 q, smO_in i z1]
              · rw [if_neg q1])
            refine ⟨_, ⟨m3, x4', rfl, g0, g1, g2, g3, g4⟩, fun k => ?_⟩
            rw [start, if_pos z0, ← hk k]
            unfold jX2_searchFrom_97
            rw [z3, if_pos (nI_pos' (by omega))]
          · have hneg : (if pvS (tdS x p) (rcS x p) i = 0 then x4 else -1) = (-1 : Int32) := by
              by_cases z : pvS (tdS x p) (rcS x p) i = 0
              · rw [if_pos z]
                rcases a0 with ⟨z1, -⟩ | z1
                · exact z1
                · exact absurd ⟨z, z1⟩ memo
              · rw [if_neg z]
            -- one more look
            obtain ⟨mr, hmr⟩ : ∃ mr, mr = ci m' (70 + p) 35 0 0 10 := ⟨_, rfl⟩
            have r1 : SM [35] m' mr := by rw [hmr]; exact SM_ci (by simp)
            have hCr : HC mr 32 x := HC_w hC (fun z z1 z2 z3 => by
              rw [(r1 z (by simp; exact z3)).1, (a1 z (by
                intro y
                have : z ∈ SCc := y
                simp [SCc] at this
                omega)).1, (hs1 z (by simp; omega)).1]) (fun j hj => by
              rw [hmr, ci_1, if_pos ⟨rfl, by omega⟩, a2 p (Nat.le_refl _), (hs1 (70 + p) (by simp)).1]
              exact wp j (by omega))
            obtain ⟨ms, es, s1, s2, -⟩ := fX4_wearBy_eq hCr ho hpx hpl
            have s1' : HC ms 32 (stF x p i) := s1
            obtain ⟨mt, hmt⟩ : ∃ mt, mt = ci ms 35 (70 + (p + 1)) 0 0 10 := ⟨_, rfl⟩
            have t1 : SM [70 + (p + 1)] ms mt := by rw [hmt]; exact SM_ci (by simp)
            have S35 : SM [35] m' ms := r1.tr (s2.mono (by simp))
            have St : SM SCc m' mt := (S35.mono (fun z hz => by simp at hz; subst hz; decide)).tr (t1.mono (fun z hz => by simp at hz; subst hz; exact in70 (p + 1) (by omega) (by omega)))
            have g70 : ∀ j, j ≤ p → mt.1 (70 + j) = m1.1 (70 + j) := fun j hj => by rw [(t1 _ (by simp; omega)).1, (S35 _ (by simp; omega)).1, a2 j hj]
            have g76 : ∀ j, j ≤ p → mt.1 (76 + j) = m1.1 (76 + j) := fun j hj => by rw [(t1 _ (by simp; omega)).1, (S35 _ (by simp; omega)).1, a3 j hj]
            have g66 : ∀ q, q < v 1 → mt.1 66 q = nI (bt i q) := fun q hq => by rw [(t1 66 (by simp; omega)).1, (S35 66 (by simp)).1, a4 q hq]
            have hfx : stF x p i 0 = v 0 := by rw [stF_o (by omega) ho, hx0]
            have hbtl : ∀ q, q < v 1 → bt i q < 1024 := fun q hq => by
              have hBq := (hB q hq).2
              rw [hbt]
              dsimp only
              split
              · exact Nat.or_lt_two_pow (n := 10) hBq (smO_lt (hofl q) i)
              · split
                · refine Nat.or_lt_two_pow (n := 10) hBq ?_
                  have : smO (fun f => if cf f = 0 then 0 else 2 ^ f) i = smO (fun f => if f < 10 then (if cf f = 0 then 0 else 2 ^ f) else 0) i := smO_congr i (fun f hf => (if_pos (show f < 10 by omega)).symm)
                  rw [this]
                  refine smO_lt (fun f => ?_) i
                  by_cases z : f < 10
                  · rw [if_pos z]
                    exact (hbl f).resolve_right (by omega)
                  · rw [if_neg z]
                    decide
                · exact hBq
            have SM1 : SM SCc m1 mt := a1.tr St
            obtain ⟨mu, eu, u1, u2, u3, u4⟩ := se_eq hv hs hI d r (p + 1) (stF x p i) mt (bt i) (by omega) (by omega) (stF_OK ho) (fun j hj => by rw [stF_o hj ho]; exact ha j hj) (fun j hj => Nat.le_trans (hm j hj) (stF_w ho (by omega)).1) (HC_sm s1' t1 (fun j hj => by simp; omega)) (by
              refine ⟨?_, fun k hk => ?_⟩
              · rw [(SM1 65 (by decide)).1, (hs1 65 (by simp; omega)).1]; exact hS.1
              · rw [(SM1 67 (by decide)).1, (SM1 68 (by decide)).1, (hs1 67 (by simp; omega)).1, (hs1 68 (by simp; omega)).1]; exact hS.2 k hk) (fun j hj => by
              have := g70 0 (by omega)
              rw [Nat.add_zero] at this
              rw [this, (hs1 70 (by simp; omega)).1]
              exact w0 j hj) (fun j hj => by
              rw [hmt, ci_1, if_pos ⟨rfl, by omega⟩]
              exact (s1'.2.1 j (by omega)).2.2) (fun q hq => ⟨g66 q hq, hbtl q hq⟩)
            rw [hT] at eu u4
            have hcfi : cf i = cnF T (v 0) (v 1) r (p + 1) (stF x p i) := by rw [hcf]
            rw [← hcfi] at eu
            obtain ⟨m3, x4', ⟨g0, g1, g2, g3, g4⟩, hk⟩ := fin mu (SM1.tr u1) (fun j hj => by rw [u2 j (by omega)]; exact g70 j hj) (fun j hj => by rw [u3 j (by omega)]; exact g76 j hj) (fun q hq => by
              rw [u4 q hq]
              by_cases q1 : p < q
              · rw [if_pos q1, if_pos (by omega), hbt]
                dsimp only
                rw [if_pos q1, if_pos q1, Nat.or_assoc]
                have : smO (of q) (i + 1) = smO (of q) i ||| of q i := rfl
                rw [this, hof]
              · rw [if_neg q1, if_neg (by omega)])
            refine ⟨_, ⟨m3, x4', rfl, g0, g1, g2, g3, g4⟩, fun k => ?_⟩
            rw [start, hneg, ← hk k]
            unfold jX2_searchFrom_97
            rw [if_neg (by decide), ga_nI (by omega) (by decide), nI_tn (by omega), ep]
            have esb : fX2_searchBehind (fX2_searchFrom d) (nI p) (nI (pvS (tdS x p) (rcS x p) i)) m' = some (some (.int (nI (cf i))), mu) := by
              unfold fX2_searchBehind
              dsimp only [lt]
              rw [ga_nI (by omega) (by decide), nI_tn (by omega), rf69 p (by omega), ← hmr, es]
              dsimp only [bV]
              rw [show nI p + 1 = nI (p + 1) from nI_1 _, ga_nI (i := p + 1) (by omega) (by decide), nI_tn (n := p + 1) (by omega), rf69 (p + 1) (by omega), ← hmt, eu]
              rfl
            rw [esb]
            rfl
