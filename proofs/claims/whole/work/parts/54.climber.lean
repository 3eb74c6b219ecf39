/-! PURE FACTS: the class's climbs -/
theorem nI_xor (a b : Nat) : nI a ^^^ nI b = nI (a ^^^ b) := by
  apply Int32.toBitVec_inj.1
  show BitVec.ofNat 32 a ^^^ BitVec.ofNat 32 b = BitVec.ofNat 32 (a ^^^ b)
  apply BitVec.eq_of_getLsbD_eq
  intro i hi
  simp [hi]
def bc1 (x0 : Int32) : Int32 := x0 - (((x0.toUInt32 >>> ((1 : Int32).toUInt32 &&& Int32.toUInt32 31)).toInt32) &&& (1431655765 : Int32))
def bc2 (y1 : Int32) : Int32 := (y1 &&& (858993459 : Int32)) + (((y1.toUInt32 >>> ((2 : Int32).toUInt32 &&& Int32.toUInt32 31)).toInt32) &&& (858993459 : Int32))
def bc3 (y2 : Int32) : Int32 := (y2 + ((y2.toUInt32 >>> ((4 : Int32).toUInt32 &&& Int32.toUInt32 31)).toInt32)) &&& (252645135 : Int32)
def bc4 (y3 : Int32) : Int32 := y3 + ((y3.toUInt32 >>> ((8 : Int32).toUInt32 &&& Int32.toUInt32 31)).toInt32)
def bc5 (y4 : Int32) : Int32 := y4 + ((y4.toUInt32 >>> ((16 : Int32).toUInt32 &&& Int32.toUInt32 31)).toInt32)
theorem bc_eq : ∀ a, a < 1024 → (bc5 (bc4 (bc3 (bc2 (bc1 (nI a)))))) &&& (63 : Int32) = nI (popc a) := by decide +kernel
theorem fJ6_bitCount_eq {a : Nat} (m : mMem) (h : a < 1024) : fJ6_bitCount_0f7a4 (nI a) m = some (some (.int (nI (popc a))), m) := by
  rw [← bc_eq a h]
  rfl
theorem popc_le (a : Nat) : popc a ≤ 10 := by unfold popc; omega
theorem pc_cmp : ∀ x, x ≤ 10 → ∀ y, y ≤ 10 → ((nI x - nI y = 0 ↔ x = y) ∧ ((0 : Int32) ≤ nI x - nI y ↔ y ≤ x)) := by decide +kernel
theorem low_eq : ∀ x, x < 1024 → nI x &&& (-(nI x)) = nI (lowb x) := by decide +kernel
theorem nI_0iff {a : Nat} (h : a < 2 ^ 31) : nI a = (0 : Int32) ↔ a = 0 := by
  rw [show (0 : Int32) = nI 0 from rfl, nI_eq h (by decide)]
theorem fX1_shorter_eq {a b : Nat} (m : mMem) (ha : a < 1024) (hb : b < 1024) : fX1_shorter (nI a) (nI b) m = some (some (.int (nI (shN a b))), m) := by
  unfold fX1_shorter shN
  rw [fJ6_bitCount_eq m ha]
  dsimp only [bI, li]
  rw [fJ6_bitCount_eq m hb]
  dsimp only
  have hx : a ^^^ b < 1024 := Nat.xor_lt_two_pow (n := 10) ha hb
  obtain ⟨c1, c2⟩ := pc_cmp _ (popc_le a) _ (popc_le b)
  rw [nI_or, nI_xor, low_eq _ hx, nI_and]
  by_cases h0 : a = 0
  · rw [if_pos ((nI_0iff (by omega)).mpr h0), if_pos h0, h0]
    simp
  · rw [if_neg (fun q => h0 ((nI_0iff (by omega)).mp q)), if_neg h0]
    by_cases h1 : b = 0
    · rw [if_pos ((nI_0iff (by omega)).mpr h1), if_pos h1, h1]
      simp
    · rw [if_neg (fun q => h1 ((nI_0iff (by omega)).mp q)), if_neg h1]
      have hl : a &&& lowb (a ^^^ b) < 2 ^ 31 := Nat.lt_of_le_of_lt Nat.and_le_left (by omega)
      rcases Nat.lt_trichotomy (popc a) (popc b) with h | h | h
      · rw [if_neg (fun q => by have := c1.mp q; omega), if_neg (fun q => by have := c2.mp q; omega), if_pos h]
      · rw [if_neg (show ¬ popc a < popc b by omega), if_neg (show ¬ popc b < popc a by omega), if_pos (c1.mpr h)]
        by_cases hz : a &&& lowb (a ^^^ b) = 0
        · rw [if_pos ((nI_0iff hl).mpr hz), if_pos hz]
        · rw [if_neg (fun q => hz ((nI_0iff hl).mp q)), if_neg hz]
      · rw [if_neg (fun q => by have := c1.mp q; omega), if_pos (c2.mpr (by omega)), if_neg (by omega), if_pos h]
theorem shN_lt {a b : Nat} (ha : a < 1024) (hb : b < 1024) : shN a b < 1024 := by
  unfold shN
  repeat' split
  all_goals assumption
theorem shF_lt : ∀ (r : Nat) (L : List Nat), (∀ x ∈ L, x < 1024) → shF r L < 1024
  | 0, _, _ => by show 0 < 1024; decide
  | _ + 1, [], _ => by show 0 < 1024; decide
  | r + 1, x :: L, h => by
    show shN (shF r L) x < 1024
    exact shN_lt (shF_lt r L (fun y hy => h y (List.mem_cons_of_mem _ hy))) (h x List.mem_cons_self)
theorem gd_at {L : List Nat} {k : Nat} (h : k < L.length) : L.getD k 0 = L[k] := by simp [List.getD, h]
theorem gd_out {L : List Nat} {k : Nat} (h : L.length ≤ k) : L.getD k 0 = 0 := by simp [List.getD, h]
theorem getD_lt {L : List Nat} (h : ∀ x ∈ L, x < 1024) (k : Nat) : L.getD k 0 < 1024 := by
  by_cases hk : k < L.length
  · rw [gd_at hk]
    exact h _ (List.getElem_mem hk)
  · rw [gd_out (by omega)]
    decide
theorem fX1_shortestOf_eq {m : mMem} {A n r : Nat} {L : List Nat} (hr : r ≤ L.length) (hn : L.length ≤ n) (hn2 : n < 100) (hL : ∀ x ∈ L, x < 1024) (hm : ∀ k, k < L.length → m.1 A (L.length - 1 - k) = nI (L.getD k 0)) : fX1_shortestOf A n (nI (L.length - r)) (nI L.length) m = some (some (.int (nI (shF r L))), m) := by
  unfold fX1_shortestOf
  have h0 : ((0 : Int32), nI (L.length - r), m) = (fun k => (nI (shF k (L.drop (r - k))), nI (L.length - r + k), m)) 0 := rfl
  rw [h0]
  refine lp_0 (fun k => (nI (shF k (L.drop (r - k))), nI (L.length - r + k), m)) r _ (by omega) (fun k => ?_) (fun k hk kk => ?_)
  · unfold bX1_shortestOf_5
    dsimp only
    rw [if_pos (nI_le (by omega) (by omega)), Nat.sub_self]
    rfl
  · unfold bX1_shortestOf_5
    dsimp only
    rw [if_neg (nI_ge (by omega) (by omega)), ga_nI (by omega) (by omega), nI_tn (by omega)]
    have e := hm (r - 1 - k) (by omega)
    rw [show L.length - 1 - (r - 1 - k) = L.length - r + k by omega] at e
    have hd : L.drop (r - (k + 1)) = L.getD (r - 1 - k) 0 :: L.drop (r - k) := by
      rw [show r - (k + 1) = r - 1 - k by omega, List.drop_eq_getElem_cons (show r - 1 - k < L.length by omega), gd_at (show r - 1 - k < L.length by omega)]
      congr 2
      omega
    rw [e, fX1_shorter_eq m (shF_lt k _ (fun x hx => hL x (List.mem_of_mem_drop hx))) (getD_lt hL _), hd]
    dsimp only [bI, li]
    rw [show nI (L.length - r + k) + 1 = nI (L.length - r + (k + 1)) from nI_1 _]
    rfl
/-- memory behind i turns of findPaths -/
def pM (A t r : Nat) (m : mMem) : Nat → mMem
  | 0 => m
  | i + 1 => si (pM A t r m i) A i (nI (pvS t r i))
theorem pM_SM (A t r : Nat) (m : mMem) : ∀ i, SM [A] m (pM A t r m i)
  | 0 => SM.rf
  | i + 1 => (pM_SM A t r m i).tr (SM_si (by simp))
theorem pM_at (A t r : Nat) (m : mMem) : ∀ i j, j < i → (pM A t r m i).1 A j = nI (pvS t r j)
  | 0, _, h => absurd h (Nat.not_lt_zero _)
  | i + 1, j, h => by
    show (si (pM A t r m i) A i (nI (pvS t r i))).1 A j = _
    rw [si_1]
    by_cases e : j = i
    · subst e; simp
    · rw [if_neg (by omega)]
      exact pM_at A t r m i j (by omega)
theorem pM_2 (A t r : Nat) (m : mMem) : ∀ i, (pM A t r m i).2 = m.2
  | 0 => rfl
  | i + 1 => pM_2 A t r m i
theorem pR_len (t r : Nat) : ∀ n, (pR t r n).length = n
  | 0 => rfl
  | n + 1 => by show (pR t r n).length + 1 = _; rw [pR_len t r n]
theorem pR_at (t r : Nat) : ∀ n k, k < n → (pR t r n).getD k 0 = pvS t r (n - 1 - k)
  | 0, _, h => absurd h (Nat.not_lt_zero _)
  | n + 1, 0, _ => rfl
  | n + 1, k + 1, h => by
    show (pR t r n).getD k 0 = _
    rw [pR_at t r n k (by omega)]
    congr 1
    omega
theorem pvS_lt {t r top : Nat} (hr : 1 ≤ r) (hr4 : r ≤ 4) (hp : top < 10) : pvS t r top < 1024 := by
  obtain ⟨f, L, h⟩ := brute (t := t) hr hr4 hp
  exact h.2.2.2.2.2.1
theorem pR_lt {t r : Nat} (hr : 1 ≤ r) (hr4 : r ≤ 4) : ∀ n, n ≤ 10 → ∀ x ∈ pR t r n, x < 1024
  | 0, _, x, hx => by cases hx
  | n + 1, hn, x, hx => by
    rcases List.mem_cons.mp hx with rfl | h
    · exact pvS_lt hr hr4 (show n < 10 by omega)
    · exact pR_lt hr hr4 n (by omega) x h
theorem fX1_findPaths_eq {m : mMem} {A t r top : Nat} (ht : t < 1024) (hr : 1 ≤ r) (hr4 : r ≤ 4) (hp : top < 10) : fX1_findPaths (nI t) (nI r) (nI top) A 10 m = some (none, pM A t r m (top + 1)) := by
  unfold fX1_findPaths
  refine lp_0 (fun i => (nI i, pM A t r m i)) (top + 1) _ (by omega) (fun k => ?_) (fun i hi k => ?_)
  · unfold bX1_findPaths_3
    dsimp only
    rw [if_pos (nI_lt (by omega) (by omega))]
  · have hstep : pM A t r m (i + 1) = si (pM A t r m i) A i (nI (pvS t r i)) := rfl
    unfold bX1_findPaths_3 jX1_findPaths_23 jX1_findPaths_49 jX1_findPaths_50 jX1_findPaths_71
    dsimp only [li, lt]
    rw [if_neg (nI_nlt (by omega) (by omega)), ga_nI (by omega) (by decide), ga_nI (by omega) (by decide), nI_tn (by omega), show nI i + 1 = nI (i + 1) from nI_1 i, hstep]
    by_cases hb : t.testBit i = false
    · rw [if_pos ((bit0 (by omega) (by omega)).mpr hb), if_pos rfl, if_pos rfl]
      have e : pvS t r i = 0 := by unfold pvS pvR; rw [hb]; rfl
      rw [e]
      rfl
    · have hb' : t.testBit i = true := by simpa using hb
      rw [if_neg (fun q => hb ((bit0 (by omega) (by omega)).mp q)), if_neg (by decide)]
      by_cases hir : i < r
      · rw [if_pos (nI_lt hir (by omega)), if_neg (by decide), if_pos (nI_lt hir (by omega))]
        have e : pvS t r i = 2 ^ i := by unfold pvS pvR; rw [hb', if_pos rfl, if_pos hir]
        rw [e, nI_shl1 i (by omega)]
        show k (_, si _ _ _ (nI 0 ||| nI (2 ^ i))) = _
        rw [nI_or, Nat.zero_or]
      · rw [if_neg (nI_nlt (by omega) (by omega)), nI_sub (by omega)]
        have hs := fX1_shortestOf_eq (m := pM A t r m i) (A := A) (n := 10) (r := r) (L := pR t r i) (by rw [pR_len]; omega) (by rw [pR_len]; omega) (by decide) (pR_lt hr hr4 i (by omega)) (fun j hj => by
          rw [pR_len] at hj ⊢
          rw [pM_at A t r m i _ (by omega), pR_at t r i j hj])
        rw [pR_len] at hs
        rw [hs]
        dsimp only [bI]
        rw [if_neg (by decide), if_neg (nI_nlt (by omega) (by omega))]
        have e : pvS t r i = if shF r (pR t r i) = 0 then 0 else shF r (pR t r i) ||| 2 ^ i := by unfold pvS pvR; rw [hb', if_pos rfl, if_neg hir, fc_eq]
        have hlt := shF_lt r (pR t r i) (pR_lt hr hr4 i (by omega))
        by_cases hz : shF r (pR t r i) = 0
        · rw [if_pos ((nI_0iff (by omega)).mpr hz), e, if_pos hz, ga_nI (by omega) (by decide)]
          rfl
        · rw [if_neg (fun q => hz ((nI_0iff (by omega)).mp q)), e, if_neg hz, nI_shl1 i (by omega), nI_or, ga_nI (by omega) (by decide)]
theorem rcS_b {v : Nat → Nat} {p : Nat} (ho : OK v) (hp : p < v 1) : 1 ≤ rcS v p ∧ rcS v p ≤ 4 := by
  have hq := ho.2.2 p hp
  unfold rcS
  split
  · constructor
    · exact Nat.le_max_right _ _
    · exact Nat.max_le.mpr ⟨by omega, by decide⟩
  · exact ⟨hq.1, hq.2.1⟩
/-- the steps that a lodger may tread; his shortest path -/
def tdS (v : Nat → Nat) (p : Nat) : Nat := bitsN (trS v 0 p) (v 0)
def phS (v : Nat → Nat) (p : Nat) : Nat := pvS (tdS v p) (rcS v p) (v (52 + p))
theorem fX1_shortest_eq {m : mMem} {b p : Nat} {v : Nat → Nat} (h : HC m b v) (ho : OK v) (hp : p < v 1) : fX1_shortest b (nI p) m = some (some (.int (nI (phS v p))), pM 55 (tdS v p) (rcS v p) m (v (52 + p) + 1)) := by
  have hb := ho.1
  have hq := ho.2.2 p hp
  have hl := h.2.2 p hp
  have hr := rcS_b ho hp
  unfold fX1_shortest
  dsimp only [li]
  rw [ga_nI (by omega) (by decide), fX4_treadBits_eq h ho hp]
  dsimp only [bI]
  rw [fX4_reachOf_eq h ho hp]
  dsimp only
  rw [nI_tn (by omega), hl.2.2.2, fX1_findPaths_eq (bt_lt hb.1) hr.1 hr.2 (by omega)]
  dsimp only [bV]
  rw [ga_nI (by omega) (by decide), nI_tn (by omega), pM_at _ _ _ _ _ _ (by omega)]
  rfl
