/-! PURE FACTS: names of lines -/
def nmL : List (List Nat) := [[119, 111, 111, 100], [115, 116, 111, 110, 101], [105, 114, 111, 110], [108, 97, 110, 100, 105, 110, 103], [108, 111, 100, 103, 101, 114], [103, 97, 112], [104, 111, 108, 100]]
def nmC (k i : Nat) : Nat := (nmL.getD k []).getD i 0
def nmN (k : Nat) : Nat := (nmL.getD k []).length
def nmT (b : Nat → Nat) (a e k : Nat) : Bool := (e - a == nmN k) && (List.range (nmN k)).all (fun i => b (a + i) == nmC k i)
theorem nmT_iff {b : Nat → Nat} {a e k : Nat} : nmT b a e k = true ↔ e - a = nmN k ∧ ∀ i, i < nmN k → b (a + i) = nmC k i := by
  unfold nmT
  rw [Bool.and_eq_true, beq_iff_eq, List.all_eq_true]
  constructor
  · rintro ⟨h1, h2⟩
    exact ⟨h1, fun i hi => by simpa using h2 i (List.mem_range.mpr hi)⟩
  · rintro ⟨h1, h2⟩
    exact ⟨h1, fun i hi => by simpa using h2 i (List.mem_range.mp hi)⟩
def nmF (b : Nat → Nat) (a e : Nat) : Nat := fdF (nmT b a e) 7 0
theorem nmN_b : ∀ k, k < 7 → nmN k ≤ 7 ∧ 3 ≤ nmN k := by decide
theorem nmC_b : ∀ k, k < 7 → ∀ i, i < nmN k → nmC k i < 128 := by decide
theorem sB_eq : ∀ k, k < 7 → sLen.getD k 0 = nmN k ∧ ∀ i, i < nmN k → (sByt.getD k []).getD i 0 = nI (nmC k i) := by decide +kernel
theorem isNamed7 {m : mMem} {b : Nat → Nat} {L a e k : Nat} (hL : L ≤ 160) (hae : a ≤ e) (he : e ≤ L) (hk : k < 7) (hT : TB7 m b L) (h5 : m.1 49 5 = nI e) (h7 : m.1 49 7 = nI a) : fX6_isTokenNamed (100 + k) m = some (some (.int (if nmT b a e k then 1 else 0)), m) := by
  obtain ⟨l1, l2⟩ := sB_eq k hk
  obtain ⟨n1, n2⟩ := nmN_b k hk
  have hlen : ∀ m : mMem, fJ0_length_8abf5 (100 + k) m = some (some (.int (nI (nmN k))), m) := fun m => by
    unfold fJ0_length_8abf5
    rw [show 100 + k - 100 = k by omega, l1]
  unfold fX6_isTokenNamed
  rw [hlen]
  dsimp only [bI]
  rw [h5, h7, nI_sub hae]
  by_cases hl : e - a = nmN k
  · rw [if_pos (by rw [hl])]
    refine lp_or0 (body := bX6_isTokenNamed_20 (100 + k)) (fun i s => s = (nI i, m) ∧ ∀ j, j < i → b (a + j) = nmC k j) (nmN k) (fun r => r = some (some (.int (if nmT b a e k then 1 else 0)), m)) _ (by omega) ⟨rfl, fun j hj => absurd hj (Nat.not_lt_zero _)⟩ (fun s kk => ?_) (fun i s hi => ?_)
    · rintro ⟨rfl, h⟩
      unfold bX6_isTokenNamed_20
      dsimp only
      rw [hlen]
      dsimp only [bI]
      rw [if_pos (nI_le (Nat.le_refl _) (by omega)), nmT_iff.mpr ⟨hl, h⟩]
      rfl
    · rintro ⟨rfl, h⟩
      have hbi := hT.2 (a + i) (by omega)
      have hci := nmC_b k hk i hi
      have hch : fJ0_charAt_5068e (100 + k) (nI i) m = some (some (.int (nI (nmC k i))), m) := by
        unfold fJ0_charAt_5068e
        rw [show 100 + k - 100 = k by omega, l1, ga_nI hi (by omega), nI_tn (by omega), l2 i hi]
      have body : ∀ kk, bX6_isTokenNamed_20 (100 + k) kk (nI i, m) = if nI (b (a + i)) = nI (nmC k i) then kk (nI (i + 1), m) else some (some (.int (0 : Int32)), m) := fun kk => by
        unfold bX6_isTokenNamed_20
        dsimp only [li]
        rw [hlen]
        dsimp only [bI]
        rw [if_neg (nI_ge hi (by omega)), h7, nI_add, ga_nI (by omega) (by decide), hch]
        dsimp only
        rw [nI_tn (by omega), hbi.1, show nI i + 1 = nI (i + 1) from nI_1 _]
      by_cases hq : b (a + i) = nmC k i
      · left
        refine ⟨(nI (i + 1), m), ⟨rfl, fun j hj => ?_⟩, fun kk => by rw [body, if_pos (by rw [hq])]⟩
        by_cases ej : j = i
        · subst ej; exact hq
        · exact h j (by omega)
      · right
        intro kk
        have hno : nmT b a e k = false := by
          rw [Bool.eq_false_iff]
          intro z
          exact hq ((nmT_iff.mp z).2 i hi)
        rw [body, if_neg (by rw [nI_eq (by omega) (by omega)]; exact hq), hno]
        rfl
  · rw [if_neg (by rw [nI_eq (by omega) (by omega)]; exact hl)]
    have hno : nmT b a e k = false := by
      rw [Bool.eq_false_iff]
      intro z
      exact hl (nmT_iff.mp z).1
    rw [hno]
    rfl
theorem nameOf7 : ∀ k, k < 7 → ∀ m : mMem, fX6_nameOfLine (nI k) m = some (some (.ref (100 + k)), m) := by
  intro k hk m
  have : k = 0 ∨ k = 1 ∨ k = 2 ∨ k = 3 ∨ k = 4 ∨ k = 5 ∨ k = 6 := by omega
  rcases this with rfl | rfl | rfl | rfl | rfl | rfl | rfl <;> rfl
theorem lineOf7 {m : mMem} {b : Nat → Nat} {L a e : Nat} (hL : L ≤ 160) (hae : a ≤ e) (he : e ≤ L) (hT : TB7 m b L) (h5 : m.1 49 5 = nI e) (h7 : m.1 49 7 = nI a) : fX6_lineOfName m = some (some (.int (nI (nmF b a e))), m) := by
  unfold fX6_lineOfName
  refine lp_or0 (body := bX6_lineOfName_2) (fun i s => s = (nI i, m) ∧ ∀ j, j < i → nmT b a e j = false) 7 (fun r => r = some (some (.int (nI (nmF b a e))), m)) _ (by decide) ⟨rfl, fun j hj => absurd hj (Nat.not_lt_zero _)⟩ (fun s kk => ?_) (fun i s hi => ?_)
  · rintro ⟨rfl, h⟩
    have : nmF b a e = 7 := fdF_none 7 0 (fun j _ hj => h j (by omega))
    unfold bX6_lineOfName_2
    dsimp only
    rw [if_pos (by decide), this]
    rfl
  · rintro ⟨rfl, h⟩
    have body : ∀ kk, bX6_lineOfName_2 kk (nI i, m) = if nmT b a e i then some (some (.int (nI i)), m) else kk (nI (i + 1), m) := fun kk => by
      unfold bX6_lineOfName_2
      dsimp only [li]
      rw [if_neg (show ¬ (7 : Int32) ≤ nI i from nI_ge (b := 7) hi (by decide)), nameOf7 i hi]
      dsimp only [bA]
      unfold gd
      rw [if_pos ⟨by omega, by omega⟩, isNamed7 hL hae he hi hT h5 h7]
      dsimp only [bI]
      rw [show nI i + 1 = nI (i + 1) from nI_1 _]
      cases nmT b a e i <;> rfl
    cases hq : nmT b a e i
    · left
      refine ⟨(nI (i + 1), m), ⟨rfl, fun j hj => ?_⟩, fun kk => by rw [body, hq]; rfl⟩
      by_cases ej : j = i
      · subst ej; exact hq
      · exact h j (by omega)
    · right
      intro kk
      have : nmF b a e = i := fdF_hit 7 0 i (by omega) (by omega) hq (fun j _ hj => h j hj)
      rw [body, hq, this]
      rfl
/-! ## the reference -/
def cuL : List Nat := [0, 4, 9, 13, 20, 26, 29, 33]
theorem cu_eq : ∀ k, k < 8 → mu0.1 89 k = nI (cuL.getD k 0) := by decide +kernel
theorem cu_b : ∀ k, k < 7 → cuL.getD (k + 1) 0 = cuL.getD k 0 + nmN k ∧ cuL.getD k 0 + nmN k ≤ 33 := by decide
theorem le_eq : ∀ k, k < 7 → ∀ i, i < nmN k → mu0.1 90 (cuL.getD k 0 + i) = nI (nmC k i) := by decide +kernel
def NM8 (m : mMem) : Prop := m.1 89 = mu0.1 89 ∧ m.1 90 = mu0.1 90
theorem nh_in {m : mMem} {b : Nat → Nat} {L a e k : Nat} (hL : L ≤ 160) (hae : a ≤ e) (he : e ≤ L) (hk : k < 7) (hT : TB8 m b L) (hN : NM8 m) (h18 : m.1 81 18 = nI e) (h19 : m.1 81 19 = nI a) (h20 : m.1 81 20 = 1) : ∀ k2, bX8_nameHere_2 k2 (nI k, m) = if nmT b a e k then some (some (.int (nI k)), m) else k2 (nI (k + 1), m) := by
  obtain ⟨n1, n2⟩ := nmN_b k hk
  obtain ⟨c1, c2⟩ := cu_b k hk
  have j0 : ∀ k2, jX8_nameHere_106 k2 (nI k) (0 : Int32) m = k2 (nI (k + 1), m) := fun k2 => by
    unfold jX8_nameHere_106
    dsimp only [li]
    rw [if_pos rfl, show nI k + 1 = nI (k + 1) from nI_1 _]
  have j1 : ∀ k2, jX8_nameHere_106 k2 (nI k) (1 : Int32) m = some (some (.int (nI k)), m) := fun k2 => by
    unfold jX8_nameHere_106
    rw [if_neg (by decide)]
  have hhead : ∀ k2, bX8_nameHere_2 k2 (nI k, m) = jX8_nameHere_48 k2 (nI k) (if e - a = nmN k then 1 else 0) m := fun k2 => by
    unfold bX8_nameHere_2
    dsimp only
    rw [if_neg (show ¬ (7 : Int32) ≤ nI k from nI_ge (b := 7) hk (by decide)), h20, if_pos rfl, show nI k + 1 = nI (k + 1) from nI_1 _, ga_nI (by omega) (by decide), ga_nI (by omega) (by decide), nI_tn (by omega), nI_tn (by omega), hN.1, cu_eq k (by omega), cu_eq (k + 1) (by omega), h18, h19, nI_sub hae, nI_sub (by omega), c1, show cuL.getD k 0 + nmN k - cuL.getD k 0 = nmN k by omega]
    by_cases hl : e - a = nmN k
    · rw [if_pos (by rw [hl]), if_pos hl]
    · rw [if_neg (by rw [nI_eq (by omega) (by omega)]; exact hl), if_neg hl]
  intro k2
  rw [hhead]
  unfold jX8_nameHere_48
  by_cases hl : e - a = nmN k
  · rw [if_pos hl]
    have body : ∀ i, i < nmN k → ∀ kk, bX8_nameHere_51 k2 (nI k) kk ((1 : Int32), nI i, m) = kk ((if b (a + i) = nmC k i then 1 else 0), nI (i + 1), m) := fun i hi kk => by
      have hb := hT.2 (a + i) (by omega)
      have hci := nmC_b k hk i hi
      unfold bX8_nameHere_51
      dsimp only [li]
      rw [if_neg (by decide), h18, h19, nI_sub hae, if_neg (nI_ge (by omega) (by omega)), nI_add, byte8 (i := a + i) hT hL (by omega)]
      dsimp only [bI]
      rw [show bzF b L (a + i) = nI (b (a + i)) from if_pos (by omega), ga_nI (i := k) (by omega) (by decide), nI_tn (n := k) (by omega), hN.1, hN.2, cu_eq k (by omega), nI_add, ga_nI (i := cuL.getD k 0 + i) (by omega) (by decide), nI_tn (n := cuL.getD k 0 + i) (by omega), le_eq k hk i hi, show nI i + 1 = nI (i + 1) from nI_1 _]
      by_cases hq : b (a + i) = nmC k i
      · rw [if_pos (by rw [hq]), if_pos hq]
      · rw [if_neg (by rw [nI_eq (by omega) (by omega)]; exact hq), if_neg hq]
    cases hz : nmT b a e k
    · -- a first difference
      have hex : ∃ i, i < nmN k ∧ b (a + i) ≠ nmC k i := Classical.byContradiction (fun q => by
        have : nmT b a e k = true := nmT_iff.mpr ⟨hl, fun i hi => Classical.byContradiction (fun z => q ⟨i, hi, z⟩)⟩
        rw [hz] at this
        cases this)
      obtain ⟨i0, hi0, hd0⟩ := hex
      obtain ⟨j, hj1, hj2, hj3⟩ := leastP (p := fun i => b (a + i) ≠ nmC k i) i0 hd0
      refine lp_0 (fun i => ((if i = j + 1 then (0 : Int32) else 1), nI i, m)) (j + 1) _ (by omega) (fun kk => ?_) (fun i hi kk => ?_)
      · unfold bX8_nameHere_51
        dsimp only
        rw [if_pos rfl, if_pos rfl, j0]
        rfl
      · rw [if_neg (by omega), body i (by omega)]
        by_cases ei : i = j
        · subst ei
          rw [if_neg hj2, if_pos rfl]
        · rw [if_pos (Classical.byContradiction (fun z => hj3 i (by omega) z)), if_neg (by omega)]
    · have hall := (nmT_iff.mp hz).2
      refine lp_0 (fun i => ((1 : Int32), nI i, m)) (nmN k) _ (by omega) (fun kk => ?_) (fun i hi kk => ?_)
      · unfold bX8_nameHere_51
        dsimp only
        rw [if_neg (by decide), h18, h19, nI_sub hae, if_pos (nI_le (by omega) (by omega)), j1]
        rfl
      · rw [body i hi, if_pos (hall i hi)]
  · rw [if_neg hl, lp_one]
    have hno : nmT b a e k = false := by
      rw [Bool.eq_false_iff]
      intro z
      exact hl (nmT_iff.mp z).1
    rw [hno]
    have hb : ∀ K, bX8_nameHere_51 k2 (nI k) K ((0 : Int32), (0 : Int32), m) = k2 (nI (k + 1), m) := fun K => by
      unfold bX8_nameHere_51
      dsimp only
      rw [if_pos rfl, j0]
    exact hb _
theorem name8 {m : mMem} {b : Nat → Nat} {L a e : Nat} (hL : L ≤ 160) (hae : a ≤ e) (he : e ≤ L) (hT : TB8 m b L) (hN : NM8 m) (h18 : m.1 81 18 = nI e) (h19 : m.1 81 19 = nI a) (h20 : m.1 81 20 = 1) : fX8_nameHere m = some (some (.int (if nmF b a e = 7 then -4 else nI (nmF b a e))), m) := by
  unfold fX8_nameHere
  refine lp_or0 (body := bX8_nameHere_2) (fun i s => s = (nI i, m) ∧ ∀ j, j < i → nmT b a e j = false) 7 (fun r => r = some (some (.int (if nmF b a e = 7 then -4 else nI (nmF b a e))), m)) _ (by decide) ⟨rfl, fun j hj => absurd hj (Nat.not_lt_zero _)⟩ (fun s kk => ?_) (fun i s hi => ?_)
  · rintro ⟨rfl, h⟩
    have : nmF b a e = 7 := fdF_none 7 0 (fun j _ hj => h j (by omega))
    unfold bX8_nameHere_2
    dsimp only
    rw [if_pos (by decide), if_pos this]
  · rintro ⟨rfl, h⟩
    have body := nh_in hL hae he hi hT hN h18 h19 h20
    cases hq : nmT b a e i
    · left
      refine ⟨(nI (i + 1), m), ⟨rfl, fun j hj => ?_⟩, fun kk => by rw [body, hq]; rfl⟩
      by_cases ej : j = i
      · subst ej; exact hq
      · exact h j (by omega)
    · right
      intro kk
      have : nmF b a e = i := fdF_hit 7 0 i (by omega) (by omega) hq (fun j _ hj => h j hj)
      rw [body, hq, if_pos rfl, this, if_neg (show ¬ i = 7 by omega)]
theorem name8_no {m : mMem} (h20 : ¬ m.1 81 20 = 1) : fX8_nameHere m = some (some (.int (-4 : Int32)), m) := by
  unfold fX8_nameHere
  rw [lp_one]
  have hb : ∀ K, bX8_nameHere_2 K ((0 : Int32), m) = some (some (.int (-4 : Int32)), m) := fun K => by
    unfold bX8_nameHere_2
    dsimp only
    rw [if_neg (by decide), if_neg h20]
  exact hb _
theorem nmF_le (b : Nat → Nat) (a e : Nat) : nmF b a e ≤ 7 := (fd_spec (q := nmT b a e) 7 0).2.1
