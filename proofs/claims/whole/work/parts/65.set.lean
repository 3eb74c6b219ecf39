/-! PURE FACTS: single values set -/
theorem uv_or (u : Nat → Nat) (j x q : Nat) : uv u j x q = u q ∧ q ≠ j ∨ uv u j x q = x ∧ q = j := by
  by_cases h : q = j
  · exact Or.inr ⟨by rw [h, uv_s], h⟩
  · exact Or.inl ⟨uv_n h, h⟩
def RC (c k j : Nat) : Prop := (c = 0 ∧ j = k ∧ 2 ≤ k ∧ k ≤ 4) ∨ (c = 1 ∧ j = 10 + k ∧ k < 10) ∨ (c = 2 ∧ j = 20 + k ∧ k < 10) ∨ (c = 3 ∧ j = 30 + k ∧ k < 10) ∨ (c = 4 ∧ j = 40 + k ∧ k < 4) ∨ (c = 5 ∧ j = 44 + k ∧ k < 4) ∨ (c = 6 ∧ j = 48 + k ∧ k < 4) ∨ (c = 7 ∧ j = 52 + k ∧ k < 4)
def RM (q j : Nat) : Prop := (j = 4 ∧ q = 34) ∨ (20 ≤ j ∧ j < 30 ∧ q = 2 * (j - 20)) ∨ (30 ≤ j ∧ j < 40 ∧ q = 2 * (j - 30) + 1) ∨ (44 ≤ j ∧ j < 48 ∧ q = 20 + 3 * (j - 44)) ∨ (48 ≤ j ∧ j < 52 ∧ q = 20 + 3 * (j - 48) + 1) ∨ (52 ≤ j ∧ j < 56 ∧ q = 20 + 3 * (j - 52) + 2)
def RB (n j x : Nat) : Prop := (j = 2 ∧ x ≤ 3) ∨ (j = 3 ∧ 1 ≤ x ∧ x ≤ 100) ∨ (j = 4 ∧ x ≤ 2000) ∨ (10 ≤ j ∧ j < 20 ∧ x ≤ 3) ∨ (20 ≤ j ∧ j < 30 ∧ x ≤ 60) ∨ (30 ≤ j ∧ j < 40 ∧ x ≤ 99) ∨ (40 ≤ j ∧ j < 44 ∧ 1 ≤ x ∧ x ≤ 4) ∨ (44 ≤ j ∧ j < 48 ∧ x ≤ 3) ∨ (48 ≤ j ∧ j < 52 ∧ x ≤ 9) ∨ (52 ≤ j ∧ j < 56 ∧ x < n)
theorem OK_set {v : Nat → Nat} {j x : Nat} (ho : OK v) (h : RB (v 0) j x) : OK (uv v j x) := by
  have hb := ho.1
  unfold RB at h
  have e0 : uv v j x 0 = v 0 := uv_n (by omega)
  have e1 : uv v j x 1 = v 1 := uv_n (by omega)
  unfold OK
  rw [e0, e1]
  refine ⟨⟨hb.1, hb.2.1, ?_, ?_, ?_, ?_⟩, fun i hi => ⟨?_, ?_, ?_⟩, fun p hp => ⟨?_, ?_, ?_, ?_, ?_⟩⟩
  · rcases uv_or v j x 2 with ⟨e, -⟩ | ⟨e, f⟩ <;> rw [e] <;> omega
  · rcases uv_or v j x 3 with ⟨e, -⟩ | ⟨e, f⟩ <;> rw [e] <;> omega
  · rcases uv_or v j x 3 with ⟨e, -⟩ | ⟨e, f⟩ <;> rw [e] <;> omega
  · rcases uv_or v j x 4 with ⟨e, -⟩ | ⟨e, f⟩ <;> rw [e] <;> omega
  · have := ho.2.1 i hi
    rcases uv_or v j x (10 + i) with ⟨e, -⟩ | ⟨e, f⟩ <;> rw [e] <;> omega
  · have := ho.2.1 i hi
    rcases uv_or v j x (20 + i) with ⟨e, -⟩ | ⟨e, f⟩ <;> rw [e] <;> omega
  · have := ho.2.1 i hi
    rcases uv_or v j x (30 + i) with ⟨e, -⟩ | ⟨e, f⟩ <;> rw [e] <;> omega
  · have := ho.2.2 p hp
    rcases uv_or v j x (40 + p) with ⟨e, -⟩ | ⟨e, f⟩ <;> rw [e] <;> omega
  · have := ho.2.2 p hp
    rcases uv_or v j x (40 + p) with ⟨e, -⟩ | ⟨e, f⟩ <;> rw [e] <;> omega
  · have := ho.2.2 p hp
    rcases uv_or v j x (44 + p) with ⟨e, -⟩ | ⟨e, f⟩ <;> rw [e] <;> omega
  · have := ho.2.2 p hp
    rcases uv_or v j x (48 + p) with ⟨e, -⟩ | ⟨e, f⟩ <;> rw [e] <;> omega
  · have := ho.2.2 p hp
    rcases uv_or v j x (52 + p) with ⟨e, -⟩ | ⟨e, f⟩ <;> rw [e] <;> omega
theorem HC_set {m : mMem} {b c k j x : Nat} {v : Nat → Nat} (h : HC m b v) (h0 : v 0 ≤ 10) (h1 : v 1 ≤ 4) (hj : RC c k j) : HC (si m (b + c) k (nI x)) b (uv v j x) := by
  unfold RC at hj
  have key : ∀ c' k' j', ((c' = c ∧ k' = k) ↔ j' = j) → m.1 (b + c') k' = nI (v j') → (si m (b + c) k (nI x)).1 (b + c') k' = nI (uv v j x j') := fun c' k' j' hr e => by
    rw [si_1]
    rcases uv_or v j x j' with ⟨f, g⟩ | ⟨f, g⟩
    · rw [f, if_neg (fun z => g (hr.mp ⟨by omega, z.2⟩))]
      exact e
    · rw [f, if_pos ⟨by rw [(hr.mpr g).1], (hr.mpr g).2⟩]
  have e0 : uv v j x 0 = v 0 := uv_n (by omega)
  have e1 : uv v j x 1 = v 1 := uv_n (by omega)
  refine ⟨⟨key 0 0 0 (by omega) h.1.1, key 0 1 1 (by omega) h.1.2.1, key 0 2 2 (by omega) h.1.2.2.1, key 0 3 3 (by omega) h.1.2.2.2.1, key 0 4 4 (by omega) h.1.2.2.2.2⟩, fun i hi => ?_, fun p hp => ?_⟩
  · rw [e0] at hi
    have := h.2.1 i hi
    exact ⟨key 1 i (10 + i) (by omega) this.1, key 2 i (20 + i) (by omega) this.2.1, key 3 i (30 + i) (by omega) this.2.2⟩
  · rw [e1] at hp
    have := h.2.2 p hp
    exact ⟨key 4 p (40 + p) (by omega) this.1, key 5 p (44 + p) (by omega) this.2.1, key 6 p (48 + p) (by omega) this.2.2.1, key 7 p (52 + p) (by omega) this.2.2.2⟩
theorem HM_set {m : mMem} {P q j x : Nat} {v : Nat → Nat} (h : HM m P v) (h0 : v 0 ≤ 10) (h1 : v 1 ≤ 4) (hj : RM q j) : HM (si m 82 (P + q) (nI x)) P (uv v j x) := by
  unfold RM at hj
  have key : ∀ q' j', (q' = q ↔ j' = j) → m.1 82 (P + q') = nI (v j') → (si m 82 (P + q) (nI x)).1 82 (P + q') = nI (uv v j x j') := fun q' j' hr e => by
    rw [si_1]
    rcases uv_or v j x j' with ⟨f, g⟩ | ⟨f, g⟩
    · rw [f, if_neg (fun z => g (hr.mp (by omega)))]
      exact e
    · rw [f, if_pos ⟨rfl, by rw [hr.mpr g]⟩]
  have e0 : uv v j x 0 = v 0 := uv_n (by omega)
  have e1 : uv v j x 1 = v 1 := uv_n (by omega)
  have e2 : uv v j x 2 = v 2 := uv_n (by omega)
  have e3 : uv v j x 3 = v 3 := uv_n (by omega)
  have c : ∀ z, z ≠ 82 → (si m 82 (P + q) (nI x)).1 z = m.1 z := fun z hz => si_c m hz
  unfold HM
  rw [c 81 (by decide), c 83 (by decide), c 84 (by decide), e0, e1, e2, e3]
  refine ⟨⟨h.1.1, h.1.2.1, ?_, ?_, key 34 4 (by omega) h.1.2.2.2.2⟩, fun i hi => ⟨?_, ?_, ?_⟩, fun p hp => ⟨?_, ?_, ?_, ?_⟩⟩
  · rw [si_ne _ _ (Or.inr (by omega))]; exact h.1.2.2.1
  · rw [si_ne _ _ (Or.inr (by omega))]; exact h.1.2.2.2.1
  · rw [uv_n (by omega)]; exact (h.2.1 i hi).1
  · exact key (2 * i) (20 + i) (by omega) (h.2.1 i hi).2.1
  · exact key (2 * i + 1) (30 + i) (by omega) (h.2.1 i hi).2.2
  · rw [uv_n (by omega)]; exact (h.2.2 p hp).1
  · have := key (20 + 3 * p) (44 + p) (by omega) (by rw [← Nat.add_assoc]; exact (h.2.2 p hp).2.1)
    rw [← Nat.add_assoc] at this
    exact this
  · have := key (20 + 3 * p + 1) (48 + p) (by omega) (by rw [show P + (20 + 3 * p + 1) = P + 20 + 3 * p + 1 by omega]; exact (h.2.2 p hp).2.2.1)
    rw [show P + (20 + 3 * p + 1) = P + 20 + 3 * p + 1 by omega] at this
    exact this
  · have := key (20 + 3 * p + 2) (52 + p) (by omega) (by rw [show P + (20 + 3 * p + 2) = P + 20 + 3 * p + 2 by omega]; exact (h.2.2 p hp).2.2.2)
    rw [show P + (20 + 3 * p + 2) = P + 20 + 3 * p + 2 by omega] at this
    exact this
theorem HM_gap {m : mMem} {P x : Nat} {v : Nat → Nat} (h : HM m P v) (h0 : v 0 ≤ 10) (h1 : v 1 ≤ 4) : HM (si m 82 (P + 32) (nI x - 1)) P (uv v 2 x) := by
  have c : ∀ z, z ≠ 82 → (si m 82 (P + 32) (nI x - 1)).1 z = m.1 z := fun z hz => si_c m hz
  have e : ∀ q, q ≠ 2 → uv v 2 x q = v q := fun q hq => uv_n hq
  unfold HM
  rw [c 81 (by decide), c 83 (by decide), c 84 (by decide), e 0 (by omega), e 1 (by omega), e 3 (by omega), e 4 (by omega), uv_s]
  refine ⟨⟨h.1.1, h.1.2.1, si_same _ _ _ _, ?_, ?_⟩, fun i hi => ⟨?_, ?_, ?_⟩, fun p hp => ⟨?_, ?_, ?_, ?_⟩⟩
  · rw [si_ne _ _ (Or.inr (by omega))]; exact h.1.2.2.2.1
  · rw [si_ne _ _ (Or.inr (by omega))]; exact h.1.2.2.2.2
  · rw [e _ (by omega)]; exact (h.2.1 i hi).1
  · rw [e _ (by omega), si_ne _ _ (Or.inr (by omega))]; exact (h.2.1 i hi).2.1
  · rw [e _ (by omega), si_ne _ _ (Or.inr (by omega))]; exact (h.2.1 i hi).2.2
  · rw [e _ (by omega)]; exact (h.2.2 p hp).1
  · rw [e _ (by omega), si_ne _ _ (Or.inr (by omega))]; exact (h.2.2 p hp).2.1
  · rw [e _ (by omega), si_ne _ _ (Or.inr (by omega))]; exact (h.2.2 p hp).2.2.1
  · rw [e _ (by omega), si_ne _ _ (Or.inr (by omega))]; exact (h.2.2 p hp).2.2.2
theorem HM_hold {m : mMem} {P x : Nat} {v : Nat → Nat} (h : HM m P v) (h0 : v 0 ≤ 10) (h1 : v 1 ≤ 4) : HM (si m 82 (P + 33) (nI x - 30)) P (uv v 3 x) := by
  have c : ∀ z, z ≠ 82 → (si m 82 (P + 33) (nI x - 30)).1 z = m.1 z := fun z hz => si_c m hz
  have e : ∀ q, q ≠ 3 → uv v 3 x q = v q := fun q hq => uv_n hq
  unfold HM
  rw [c 81 (by decide), c 83 (by decide), c 84 (by decide), e 0 (by omega), e 1 (by omega), e 2 (by omega), e 4 (by omega), uv_s]
  refine ⟨⟨h.1.1, h.1.2.1, ?_, si_same _ _ _ _, ?_⟩, fun i hi => ⟨?_, ?_, ?_⟩, fun p hp => ⟨?_, ?_, ?_, ?_⟩⟩
  · rw [si_ne _ _ (Or.inr (by omega))]; exact h.1.2.2.1
  · rw [si_ne _ _ (Or.inr (by omega))]; exact h.1.2.2.2.2
  · rw [e _ (by omega)]; exact (h.2.1 i hi).1
  · rw [e _ (by omega), si_ne _ _ (Or.inr (by omega))]; exact (h.2.1 i hi).2.1
  · rw [e _ (by omega), si_ne _ _ (Or.inr (by omega))]; exact (h.2.1 i hi).2.2
  · rw [e _ (by omega)]; exact (h.2.2 p hp).1
  · rw [e _ (by omega), si_ne _ _ (Or.inr (by omega))]; exact (h.2.2 p hp).2.1
  · rw [e _ (by omega), si_ne _ _ (Or.inr (by omega))]; exact (h.2.2 p hp).2.2.1
  · rw [e _ (by omega), si_ne _ _ (Or.inr (by omega))]; exact (h.2.2 p hp).2.2.2
theorem FH_c {m : mMem} {c k : Nat} {x : Int32} (h : c < 8) : FH m (si m c k x) := FH_sm (C := [c]) (SM_si (by simp)) (fun z hz => by
  have e : z = c := by simpa using hz
  subst e
  exact (show ∀ c, c < 8 → c ∈ HSE ∧ c ≠ 82 by decide) z h)
theorem FH_m {m : mMem} {q : Nat} {x : Int32} (h : q < 35) : FH m (si m 82 q x) := FH_pg (C := [82]) (SM_si (by simp)) (by decide) (fun z hz => si_ne _ _ (Or.inr (by omega)))
theorem IV_c {m : mMem} {v : Nat → Nat} (h : IV m v) : (m.1 0 0 = nI (v 0) ∧ m.1 0 1 = nI (v 1) ∧ m.1 0 2 = nI (v 2) ∧ m.1 0 3 = nI (v 3) ∧ m.1 0 4 = nI (v 4)) ∧ (∀ i, i < v 0 → m.1 1 i = nI (v (10 + i)) ∧ m.1 2 i = nI (v (20 + i)) ∧ m.1 3 i = nI (v (30 + i))) ∧ (∀ p, p < v 1 → m.1 4 p = nI (v (40 + p)) ∧ m.1 5 p = nI (v (44 + p)) ∧ m.1 6 p = nI (v (48 + p)) ∧ m.1 7 p = nI (v (52 + p))) := h.1.1
theorem IV_m {m : mMem} {v : Nat → Nat} (h : IV m v) : (m.1 81 2 = nI (v 0) ∧ m.1 81 4 = nI (v 1) ∧ m.1 82 32 = nI (v 2) - 1 ∧ m.1 82 33 = nI (v 3) - 30 ∧ m.1 82 34 = nI (v 4)) ∧ (∀ i, i < v 0 → m.1 83 i = nI (v (10 + i)) ∧ m.1 82 (2 * i) = nI (v (20 + i)) ∧ m.1 82 (2 * i + 1) = nI (v (30 + i))) ∧ (∀ p, p < v 1 → m.1 84 p = nI (v (40 + p)) ∧ m.1 82 (20 + 3 * p) = nI (v (44 + p)) ∧ m.1 82 (20 + 3 * p + 1) = nI (v (48 + p)) ∧ m.1 82 (20 + 3 * p + 2) = nI (v (52 + p))) := by
  have := h.1.2.1
  unfold HM at this
  simp only [Nat.zero_add] at this
  exact this
theorem IV_HO {m : mMem} {v : Nat → Nat} (h : IV m v) : HO m 0 0 v := ⟨h.1.2.1, h.1.2.2.1, by decide, h.1.2.2.2.2.2, by decide⟩
theorem IV_set {m : mMem} {v : Nat → Nat} {c k q j x : Nat} (h : IV m v) (hc : RC c k j) (hq : RM q j) (hx : RB (v 0) j x) (h4 : j ≠ 4) : IV (si (si m c k (nI x)) 82 q (nI x)) (uv v j x) := by
  have ho := h.1.2.2.1
  have hb := ho.1
  have hc' : c < 8 := by unfold RC at hc; omega
  have hq' : q < 35 := by unfold RM at hq; omega
  have hj : 10 ≤ j := by unfold RM at hq; omega
  have a1 : HC (si m c k (nI x)) 0 (uv v j x) := by
    have := HC_set (x := x) h.1.1 hb.1 hb.2.1 hc
    rw [Nat.zero_add] at this
    exact this
  have a2 : HM (si m c k (nI x)) 0 v := HM_fr h.1.2.1 hb.1 hb.2.1 (by rw [si_c _ (by omega)]) (by rw [si_c _ (by omega)]) (by rw [si_c _ (by omega)]) (by rw [si_c _ (by omega)]) (fun q _ _ => by rw [si_c _ (by omega)])
  have a3 := HM_set (x := x) a2 hb.1 hb.2.1 hq
  rw [Nat.zero_add] at a3
  refine IV_FH h ((FH_c hc').tr (FH_m hq')) ⟨HC_fr a1 (fun z _ hz => si_c _ (by omega)), a3, OK_set ho hx, ?_, ?_, ?_⟩ (uv_n (by omega))
  · rw [uv_n (by omega)]; exact h.1.2.2.2.1
  · rw [uv_n (by omega)]; exact h.1.2.2.2.2.1
  · rw [si_c _ (by omega), si_c _ (by omega)]; exact h.1.2.2.2.2.2
theorem i2 {i : Nat} : (2 : Int32) * nI i = nI (2 * i) := nI_mul 2 i
theorem i21 {i : Nat} : (2 : Int32) * nI i + (1 : Int32) = nI (2 * i + 1) := by rw [i2]; exact nI_1 _
theorem i3 {p : Nat} : (20 : Int32) + (3 : Int32) * nI p = nI (20 + 3 * p) := by rw [show (3 : Int32) * nI p = nI (3 * p) from nI_mul 3 p]; exact nI_add 20 _
theorem i31 {p : Nat} : ((20 : Int32) + (3 : Int32) * nI p) + (1 : Int32) = nI (20 + 3 * p + 1) := by rw [i3]; exact nI_1 _
theorem i32 {p : Nat} : ((20 : Int32) + (3 : Int32) * nI p) + (2 : Int32) = nI (20 + 3 * p + 2) := by rw [i3]; exact nI_add _ 2
theorem set7 {m : mMem} {r n k : Nat} (x : Int32) (h : k < n) (hn : n < 2 ^ 31) : fX7_exchanged r n (nI k) x m = some (some (.int (m.1 r k)), si m r k x) := by
  unfold fX7_exchanged
  dsimp only [li, lt]
  rw [ga_nI h hn, ga_nI h hn, nI_tn (by omega)]
theorem set8 {m : mMem} {q : Nat} (x : Int32) (h : q < 210) : fX8_sets 1 (nI q) x m = some (some (.int (m.1 82 q)), si m 82 q x) := by
  unfold fX8_sets
  dsimp only [li, lt]
  rw [if_neg (by decide), ga_nI h (by decide), ga_nI h (by decide), nI_tn (by omega)]
theorem set80 {m : mMem} (q x : Int32) : fX8_sets 0 q x m = some (some (.int (-1)), m) := rfl
theorem ok_age (u0 u1 : Int32) : okI Inv (fX7_age u0 u1) (fX8_age u0 u1) := by
  rintro m ⟨v, hV⟩
  have hb := hV.1.2.2.1.1
  have c := IV_c hV
  have d := IV_m hV
  rcases step_cases hb.1 u0 with ⟨i, hi, rfl, e7, e8⟩ | ⟨e7, e8⟩
  · rcases rng_cases u1 0 60 (a := 0) (b := 60) (A := 0) (B := 60) rfl rfl rfl rfl (by decide) (by decide) with ⟨n, -, hn, rfl, f7, f8⟩ | ⟨f7, f8⟩
    · refine ⟨nI (v (20 + i)), si m 2 i (nI n), _, ?_, ?_, ⟨_, IV_set (c := 2) (k := i) (q := 2 * i) (j := 20 + i) (x := n) hV (by unfold RC; omega) (by unfold RM; omega) (by unfold RB; omega) (by omega)⟩⟩
      · unfold fX7_age
        rw [e7 m c.1.1]
        dsimp only [bI]
        rw [f7, if_neg (by decide)]
        dsimp only
        rw [if_neg (by decide), set7 _ (by omega) (by decide), (c.2.1 i hi).2.1]
      · unfold fX8_age jX8_age_26
        rw [e8 _ (by rw [si_c _ (by decide)]; exact d.1.1)]
        dsimp only [bI]
        rw [f8, if_neg (by decide)]
        dsimp only
        rw [if_neg (by decide), i2, set8 _ (by omega), si_c _ (by decide), (d.2.1 i hi).2.1]
    · refine ⟨-1, m, m, ?_, ?_, ⟨v, hV⟩⟩
      · unfold fX7_age
        rw [e7 m c.1.1]
        dsimp only [bI]
        rw [f7]
        rfl
      · unfold fX8_age
        rw [e8 m d.1.1]
        dsimp only [bI]
        rw [f8]
        rfl
  · refine ⟨-1, m, m, ?_, ?_, ⟨v, hV⟩⟩
    · unfold fX7_age
      rw [e7 m c.1.1]
      rfl
    · unfold fX8_age
      rw [e8 m d.1.1]
      rfl
