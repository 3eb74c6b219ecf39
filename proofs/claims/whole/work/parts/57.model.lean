/-! PURE FACTS: the reference's leaves. o: the bits of steps that are out -/
def HO (m : mMem) (P o : Nat) (v : Nat → Nat) : Prop := HM m P v ∧ OK v ∧ P ≤ 175 ∧ m.1 81 5 = nI o ∧ o < 1024
theorem in_int {a b c : Int32} : (if (lg_cmp a.toInt64 b.toInt64) < (0 : Int32) then (0 : Int32) else if (0 : Int32) < (lg_cmp a.toInt64 c.toInt64) then 0 else 1) = if b ≤ a ∧ a ≤ c then 1 else 0 := by
  have e1 : (lg_cmp a.toInt64 b.toInt64) < (0 : Int32) ↔ ¬ b ≤ a := by
    rw [← Int32.not_le, lg_cmp_ge, Int64.le_iff_toInt_le, Int32.toInt_toInt64, Int32.toInt_toInt64, Int32.le_iff_toInt_le]
  have e2 : (0 : Int32) < (lg_cmp a.toInt64 c.toInt64) ↔ ¬ a ≤ c := by
    unfold lg_cmp
    rw [Int32.le_iff_toInt_le]
    by_cases h : a.toInt64 > c.toInt64
    · rw [if_pos h]
      have h' : c.toInt64 < a.toInt64 := h
      rw [Int64.lt_iff_toInt_lt, Int32.toInt_toInt64, Int32.toInt_toInt64] at h'
      constructor
      · intro _; omega
      · intro _; decide
    · rw [if_neg h]
      have h' : ¬ c.toInt64 < a.toInt64 := h
      rw [Int64.lt_iff_toInt_lt, Int32.toInt_toInt64, Int32.toInt_toInt64] at h'
      constructor
      · intro q
        split at q
        · exact absurd q (by decide)
        · exact absurd q (by decide)
      · intro q; omega
  by_cases h1 : b ≤ a
  · rw [if_neg (fun q => e1.mp q h1)]
    by_cases h2 : a ≤ c
    · rw [if_neg (fun q => e2.mp q h2), if_pos ⟨h1, h2⟩]
    · rw [if_pos (e2.mpr h2), if_neg (fun q => h2 q.2)]
  · rw [if_pos (e1.mpr h1), if_neg (fun q => h1 q.1)]
theorem fX8_in_eq (a b c : Int32) (m : mMem) : fX8_in a.toInt64 b.toInt64 c.toInt64 m = some (some (.int (if b ≤ a ∧ a ≤ c then 1 else 0)), m) := by
  rw [← in_int]
  unfold fX8_in
  split
  · rfl
  · split <;> rfl
theorem P_idx {P i : Nat} : nI P + (2 : Int32) * nI i = nI (P + 2 * i) := by
  rw [show (2 : Int32) = nI 2 from rfl, nI_mul, nI_add]
theorem P_idx3 {P p : Nat} : (nI P + (20 : Int32)) + ((3 : Int32) * nI p) = nI (P + 20 + 3 * p) := by
  rw [show (20 : Int32) = nI 20 from rfl, show (3 : Int32) = nI 3 from rfl, nI_mul, nI_add, nI_add]
theorem P_c {P : Nat} (c : Nat) : nI P + nI c = nI (P + c) := nI_add P c
theorem hold_eq : ∀ h, h ≤ 100 → (nI h - 30) + 30 = nI h := by decide +kernel
theorem gap_eq : ∀ g, g ≤ 3 → (nI g - 1) + 1 = nI g := by decide +kernel
theorem fX8_holdOn_eq {m : mMem} {P o : Nat} {v : Nat → Nat} (h : HO m P o v) : fX8_holdOn (nI P) m = some (some (.int (nI (v 3))), m) := by
  obtain ⟨hm, ho, hP, h5, hoo⟩ := h
  unfold fX8_holdOn
  rw [show nI P + (33 : Int32) = nI (P + 33) from nI_add P 33, ga_nI (by omega) (by decide), nI_tn (by omega), hm.1.2.2.2.1, hold_eq _ ho.1.2.2.2.2.1]
def obS (v : Nat → Nat) (o i : Nat) : Bool := o.testBit i || brS v i
theorem bit1 {t i : Nat} (ht : t < 2 ^ 31) (hi : i < 32) : ((nI t >>> (nI i &&& 31)) &&& (1 : Int32)) = (1 : Int32) ↔ t.testBit i = true := by
  rw [nI_shr ht hi]
  show nI (t / 2 ^ i) &&& nI 1 = nI 1 ↔ _
  rw [nI_and, Nat.and_one_is_mod, nI_eq (by have := Nat.mod_lt (t / 2 ^ i) (show 0 < 2 by decide); omega) (by decide), Nat.testBit_eq_decide_div_mod_eq]
  simp
theorem fX8_isBroken_eq {m : mMem} {P o i : Nat} {v : Nat → Nat} (h : HO m P o v) (hi : i < v 0) : fX8_isBroken (nI P) (nI i) m = some (some (.int (if obS v o i then 1 else 0)), m) := by
  have hh := fX8_holdOn_eq h
  obtain ⟨hm, ho, hP, h5, hoo⟩ := h
  have hb := ho.1
  have hc := ho.2.1 i hi
  have hs := hm.2.1 i hi
  unfold fX8_isBroken
  rw [P_idx, show nI (P + 2 * i) + (1 : Int32) = nI (P + 2 * i + 1) from nI_1 _, ga_nI (by omega) (by decide), nI_tn (by omega), hh, hs.2.2, h5]
  dsimp only [bI]
  unfold obS brS
  by_cases hz : o.testBit i = true
  · rw [if_pos ((bit1 (by omega) (by omega)).mpr hz), hz]
    rfl
  · rw [if_neg (fun q => hz ((bit1 (by omega) (by omega)).mp q))]
    have hz' : o.testBit i = false := by simpa using hz
    rw [hz']
    by_cases hw : v 3 ≤ v (30 + i)
    · rw [if_neg (nI_nlt hw (by omega))]
      simp [hw]
    · rw [if_pos (nI_lt (by omega) (by omega))]
      simp [hw]
theorem rk8_eq : ∀ k, k ≤ 3 → ∀ y, y ≤ 60 → (if nI k = 2 then (0 : Int32) else if nI y / 10 + (if nI k = 0 then 0 else 1) ≤ 3 then nI y / 10 + (if nI k = 0 then 0 else 1) else 3) = nI (rkS k y) := by decide +kernel
theorem fX8_rankOn_eq {m : mMem} {P o i : Nat} {v : Nat → Nat} (h : HO m P o v) (hi : i < v 0) : fX8_rankOn (nI P) (nI i) m = some (some (.int (nI (rkS (v (10 + i)) (v (20 + i))))), m) := by
  obtain ⟨hm, ho, hP, h5, hoo⟩ := h
  have hb := ho.1
  have hc := ho.2.1 i hi
  have hs := hm.2.1 i hi
  rw [← rk8_eq _ hc.1 _ hc.2.1]
  unfold fX8_rankOn jX8_rankOn_27
  dsimp only [li]
  rw [P_idx, ga_nI (by omega) (by decide), g0i_ne (by decide), ga_nI (by omega) (by decide), nI_tn (by omega), nI_tn (by omega), hs.1, hs.2.1, ga_nI (by omega) (by decide), ga_nI (by omega) (by decide)]
  by_cases h0 : nI (v (10 + i)) = 0
  · rw [if_pos h0, if_pos h0]
    split
    · rfl
    · split <;> rfl
  · rw [if_neg h0, if_neg h0]
    split
    · rfl
    · split <;> rfl
theorem in8_eq : ∀ r, r ≤ 3 → ∀ k, k ≤ 3 → ∀ g, g ≤ 3 → (-(nI g) ≤ nI r - nI k ∧ nI r - nI k ≤ nI g ↔ (r ≤ k + g ∧ k ≤ r + g)) := by decide +kernel
theorem fX8_mayTread_eq {m : mMem} {P o p i : Nat} {v : Nat → Nat} (h : HO m P o v) (hp : p < v 1) (hi : i < v 0) : fX8_mayTread (nI P) (nI p) (nI i) m = some (some (.int (if trS v o p i then 1 else 0)), m) := by
  have hr := fX8_rankOn_eq h hi
  have hk := fX8_isBroken_eq h hi
  obtain ⟨hm, ho, hP, h5, hoo⟩ := h
  have hb := ho.1
  have hc := ho.2.1 i hi
  have hs := hm.2.1 i hi
  have hq := ho.2.2 p hp
  have hl := hm.2.2 p hp
  unfold fX8_mayTread
  rw [hr]
  dsimp only [bI, li]
  rw [P_idx3, ga_nI (by omega) (by decide), show nI P + (32 : Int32) = nI (P + 32) from nI_add P 32, ga_nI (by omega) (by decide), nI_tn (n := P + 20 + 3 * p) (by omega), nI_tn (n := P + 32) (by omega), hl.2.1, hm.1.2.2.1, gap_eq _ hb.2.2.1, hk]
  dsimp only
  rw [ga_nI (by omega) (by decide), nI_tn (by omega), hs.1, fX8_in_eq]
  dsimp only
  have hi8 := in8_eq _ (rkS_le (v (10 + i)) (v (20 + i))) _ hq.2.2.1 _ hb.2.2.1
  unfold trS obS nrS
  cases hob : (o.testBit i || brS v i)
  · have hob2 : (!(o.testBit i) && !(brS v i)) = true := by rw [← Bool.not_or, hob]; rfl
    rw [hob2, Bool.true_and, if_pos (show (if false = true then (1 : Int32) else 0) = 0 from rfl)]
    by_cases h3 : v (10 + i) = 3
    · rw [if_pos (by rw [h3]; rfl)]
      simp [h3]
    · rw [if_neg (by rw [show (3 : Int32) = nI 3 from rfl, nI_eq (by omega) (by decide)]; exact h3)]
      by_cases hz : rkS (v (10 + i)) (v (20 + i)) ≤ v (44 + p) + v 2 ∧ v (44 + p) ≤ rkS (v (10 + i)) (v (20 + i)) + v 2
      · rw [if_pos (hi8.mpr hz), if_neg (by decide)]
        simp [h3, hz.1, hz.2]
      · rw [if_neg (fun q => hz (hi8.mp q)), if_pos rfl]
        have : (decide (rkS (v (10 + i)) (v (20 + i)) ≤ v (44 + p) + v 2) && decide (v (44 + p) ≤ rkS (v (10 + i)) (v (20 + i)) + v 2)) = false := by
          rw [← Bool.not_eq_true]
          intro q
          simp at q
          exact hz q
        simp [h3, this]
  · have hob2 : (!(o.testBit i) && !(brS v i)) = false := by rw [← Bool.not_or, hob]; rfl
    rw [hob2, Bool.false_and]
    rfl
theorem fX8_isLoaded_eq {m : mMem} {P o p : Nat} {v : Nat → Nat} (h : HO m P o v) (hp : p < v 1) : fX8_isLoaded (nI P) (nI p) m = some (some (.int (if 5 ≤ v (48 + p) then 1 else 0)), m) := by
  obtain ⟨hm, ho, hP, h5, hoo⟩ := h
  have hb := ho.1
  have hq := ho.2.2 p hp
  have hl := hm.2.2 p hp
  unfold fX8_isLoaded
  rw [P_idx3, show nI (P + 20 + 3 * p) + (1 : Int32) = nI (P + 20 + 3 * p + 1) from nI_1 _, ga_nI (by omega) (by decide), nI_tn (by omega), hl.2.2.1, show (5 : Int32) = nI 5 from rfl]
  by_cases hz : 5 ≤ v (48 + p)
  · rw [if_neg (nI_nlt hz (by omega)), if_pos hz]
  · rw [if_pos (nI_lt (by omega) (by omega)), if_neg hz]
theorem rc8_eq : ∀ l, l ≤ 4 → 1 ≤ l → ((if (1 : Int32) ≤ nI l - 1 then nI l - 1 else 1) = nI (max (l - 1) 1) ∧ (if (1 : Int32) ≤ nI l - 0 then nI l - 0 else 1) = nI l) := by decide +kernel
theorem fX8_reachOn_eq {m : mMem} {P o p : Nat} {v : Nat → Nat} (h : HO m P o v) (hp : p < v 1) : fX8_reachOn (nI P) (nI p) m = some (some (.int (nI (rcS v p))), m) := by
  have hld := fX8_isLoaded_eq h hp
  obtain ⟨hm, ho, hP, h5, hoo⟩ := h
  have hb := ho.1
  have hq := ho.2.2 p hp
  have hl := hm.2.2 p hp
  obtain ⟨r1, r2⟩ := rc8_eq _ hq.2.1 hq.1
  unfold fX8_reachOn jX8_reachOn_20 rcS
  rw [ga_nI (by omega) (by decide), hld, nI_tn (by omega), hl.1]
  dsimp only [bI, li]
  by_cases hz : 5 ≤ v (48 + p)
  · rw [if_pos hz, if_pos hz, if_neg (by decide), ← r1]
    split <;> rfl
  · rw [if_neg hz, if_neg hz, if_pos rfl]
    rw [Int32.sub_zero, if_pos (show (1 : Int32) ≤ nI (v (40 + p)) from nI_le (a := 1) hq.1 (by omega))]
