/-! PURE FACTS: the invariant -/
theorem si_c (m : mMem) {b k : Nat} {x : Int32} {c : Nat} (h : c ≠ b) : (si m b k x).1 c = m.1 c := (si_o m b k x c h).1
def IH (m : mMem) (v : Nat → Nat) : Prop := HC m 0 v ∧ HM m 0 v ∧ OK v ∧ v 3 ≤ 99 ∧ v 4 ≤ 999 ∧ m.1 81 5 = nI 0
def II (m : mMem) : Prop := ∀ j, j < 2 → (m.1 53 j = 0 ∧ m.1 96 j = 0) ∨ (m.1 53 j = 1 ∧ m.1 96 j = 1 ∧ ∃ w, HC m (16 + 8 * j) w ∧ HM m (35 * (j + 1)) w ∧ OK w ∧ w 3 ≤ 99 ∧ w 4 ≤ 999)
def IS (m : mMem) (n : Nat) : Prop := ∃ s, s ≤ 6 ∧ m.1 65 0 = nI s ∧ m.1 81 29 = nI s ∧ ∀ k, k < s → ∃ i x, i < n ∧ x ≤ 40 ∧ m.1 67 k = nI i ∧ m.1 68 k = nI x ∧ m.1 95 (2 * k) = nI i ∧ m.1 95 (2 * k + 1) = nI x
def IT (m : mMem) : Prop := ∀ k, k < 4 → (m.1 (40 + 2 * k) 2 = -1 ∧ m.1 97 k = -4) ∨ ∃ l n, l ≤ 2 ∧ n ≤ 40 ∧ m.1 (40 + 2 * k) 2 = nI l ∧ m.1 97 k = nI l ∧ m.1 (40 + 2 * k) 0 = nI n ∧ m.1 98 k = nI n ∧ ∀ i, i < 40 → m.1 (41 + 2 * k) i = m.1 99 (40 * k + i)
def IP (m : mMem) : Prop := ∃ t, t ≤ 160 ∧ m.1 49 0 = nI t ∧ m.1 81 14 = nI t ∧ ∀ i, i < t → ∃ c, c < 128 ∧ m.1 50 i = nI c ∧ m.1 88 i = nI c
def IK (m : mMem) : Prop := m.1 49 1 = m.1 81 15 ∧ m.1 48 10 = m.1 81 34 ∧ m.1 89 = mu0.1 89 ∧ m.1 90 = mu0.1 90
def IV (m : mMem) (v : Nat → Nat) : Prop := IH m v ∧ II m ∧ IS m (v 0) ∧ IT m ∧ IP m ∧ IK m
def Inv (m : mMem) : Prop := ∃ v, IV m v
theorem HC_fr {m m' : mMem} {b : Nat} {v : Nat → Nat} (h : HC m b v) (e : ∀ c, b ≤ c → c < b + 8 → m'.1 c = m.1 c) : HC m' b v := by
  unfold HC
  rw [e b (by omega) (by omega), e (b + 1) (by omega) (by omega), e (b + 2) (by omega) (by omega), e (b + 3) (by omega) (by omega), e (b + 4) (by omega) (by omega), e (b + 5) (by omega) (by omega), e (b + 6) (by omega) (by omega), e (b + 7) (by omega) (by omega)]
  exact h
theorem HM_fr {m m' : mMem} {P : Nat} {v : Nat → Nat} (h : HM m P v) (h0 : v 0 ≤ 10) (h1 : v 1 ≤ 4) (e2 : m'.1 81 2 = m.1 81 2) (e4 : m'.1 81 4 = m.1 81 4) (e83 : m'.1 83 = m.1 83) (e84 : m'.1 84 = m.1 84) (e : ∀ q, P ≤ q → q < P + 35 → m'.1 82 q = m.1 82 q) : HM m' P v := by
  unfold HM
  rw [e2, e4, e83, e84, e (P + 32) (by omega) (by omega), e (P + 33) (by omega) (by omega), e (P + 34) (by omega) (by omega)]
  refine ⟨h.1, fun i hi => ?_, fun p hp => ?_⟩
  · rw [e (P + 2 * i) (by omega) (by omega), e (P + 2 * i + 1) (by omega) (by omega)]
    exact h.2.1 i hi
  · rw [e (P + 20 + 3 * p) (by omega) (by omega), e (P + 20 + 3 * p + 1) (by omega) (by omega), e (P + 20 + 3 * p + 2) (by omega) (by omega)]
    exact h.2.2 p hp
theorem IH_fr {m m' : mMem} {v : Nat → Nat} (h : IH m v) (e : ∀ c, c < 8 → m'.1 c = m.1 c) (e2 : m'.1 81 2 = m.1 81 2) (e4 : m'.1 81 4 = m.1 81 4) (e5 : m'.1 81 5 = m.1 81 5) (e83 : m'.1 83 = m.1 83) (e84 : m'.1 84 = m.1 84) (e82 : ∀ q, q < 35 → m'.1 82 q = m.1 82 q) : IH m' v :=
  ⟨HC_fr h.1 (fun c _ hc => e c (by omega)), HM_fr h.2.1 h.2.2.1.1.1 h.2.2.1.1.2.1 e2 e4 e83 e84 (fun q _ hq => e82 q (by omega)), h.2.2.1, h.2.2.2.1, h.2.2.2.2.1, e5.trans h.2.2.2.2.2⟩
theorem II_fr {m m' : mMem} (h : II m) (e : ∀ c, 16 ≤ c → c < 32 → m'.1 c = m.1 c) (e2 : m'.1 81 2 = m.1 81 2) (e4 : m'.1 81 4 = m.1 81 4) (e83 : m'.1 83 = m.1 83) (e84 : m'.1 84 = m.1 84) (e82 : ∀ q, 35 ≤ q → q < 105 → m'.1 82 q = m.1 82 q) (e53 : m'.1 53 = m.1 53) (e96 : m'.1 96 = m.1 96) : II m' := fun j hj => by
  rw [e53, e96]
  rcases h j hj with q | ⟨q1, q2, w, w1, w2, w3, w4, w5⟩
  · exact Or.inl q
  · exact Or.inr ⟨q1, q2, w, HC_fr w1 (fun c h1 h2 => e c (by omega) (by omega)), HM_fr w2 w3.1.1 w3.1.2.1 e2 e4 e83 e84 (fun q h1 h2 => e82 q (by omega) (by omega)), w3, w4, w5⟩
theorem IS_fr {m m' : mMem} {n : Nat} (h : IS m n) (e65 : m'.1 65 0 = m.1 65 0) (e81 : m'.1 81 29 = m.1 81 29) (e67 : m'.1 67 = m.1 67) (e68 : m'.1 68 = m.1 68) (e95 : m'.1 95 = m.1 95) : IS m' n := by
  unfold IS
  rw [e65, e81, e67, e68, e95]
  exact h
theorem IT_fr {m m' : mMem} (h : IT m) (e : ∀ c, 40 ≤ c → c < 48 → m'.1 c = m.1 c) (e97 : m'.1 97 = m.1 97) (e98 : m'.1 98 = m.1 98) (e99 : m'.1 99 = m.1 99) : IT m' := fun k hk => by
  rw [e97, e98, e99, e (40 + 2 * k) (by omega) (by omega), e (41 + 2 * k) (by omega) (by omega)]
  exact h k hk
theorem IP_fr {m m' : mMem} (h : IP m) (e49 : m'.1 49 0 = m.1 49 0) (e81 : m'.1 81 14 = m.1 81 14) (e50 : m'.1 50 = m.1 50) (e88 : m'.1 88 = m.1 88) : IP m' := by
  unfold IP
  rw [e49, e81, e50, e88]
  exact h
theorem IK_fr {m m' : mMem} (h : IK m) (e49 : m'.1 49 1 = m.1 49 1) (e81 : m'.1 81 15 = m.1 81 15) (e48 : m'.1 48 10 = m.1 48 10) (e34 : m'.1 81 34 = m.1 81 34) (e89 : m'.1 89 = m.1 89) (e90 : m'.1 90 = m.1 90) : IK m' := by
  unfold IK
  rw [e49, e81, e48, e34, e89, e90]
  exact h
/-- the cells that may change at will (of 82 the places from 105 on) -/
def SCR : List Nat := [8, 9, 10, 11, 12, 13, 14, 15, 32, 33, 34, 35, 36, 37, 38, 39, 51, 54, 55, 56, 57, 58, 59, 60, 61, 62, 63, 64, 66, 69, 70, 71, 72, 73, 74, 75, 76, 77, 78, 79, 82, 85, 86, 87, 91, 92, 93, 94]
def HSE : List Nat := [0, 1, 2, 3, 4, 5, 6, 7, 8, 9, 10, 11, 12, 13, 14, 15, 32, 33, 34, 35, 36, 37, 38, 39, 51, 54, 55, 56, 57, 58, 59, 60, 61, 62, 63, 64, 66, 69, 70, 71, 72, 73, 74, 75, 76, 77, 78, 79, 82, 85, 86, 87, 91, 92, 93, 94]
/-- nothing but scratch has changed -/
def FR (m m' : mMem) : Prop := (∀ c, c ∉ SCR → m'.1 c = m.1 c) ∧ ∀ q, q < 105 → m'.1 82 q = m.1 82 q
/-- nothing but scratch, the house and the first page -/
def FH (m m' : mMem) : Prop := (∀ c, c ∉ HSE → m'.1 c = m.1 c) ∧ ∀ q, 35 ≤ q → q < 105 → m'.1 82 q = m.1 82 q
theorem FR.rf {m : mMem} : FR m m := ⟨fun _ _ => rfl, fun _ _ => rfl⟩
theorem FH.rf {m : mMem} : FH m m := ⟨fun _ _ => rfl, fun _ _ _ => rfl⟩
theorem FR.tr {m1 m2 m3 : mMem} (h1 : FR m1 m2) (h2 : FR m2 m3) : FR m1 m3 := ⟨fun c hc => (h2.1 c hc).trans (h1.1 c hc), fun q hq => (h2.2 q hq).trans (h1.2 q hq)⟩
theorem FH.tr {m1 m2 m3 : mMem} (h1 : FH m1 m2) (h2 : FH m2 m3) : FH m1 m3 := ⟨fun c hc => (h2.1 c hc).trans (h1.1 c hc), fun q h hq => (h2.2 q h hq).trans (h1.2 q h hq)⟩
theorem FR_sm {C : List Nat} {m m' : mMem} (h : SM C m m') (hc : ∀ c ∈ C, c ∈ SCR ∧ c ≠ 82) : FR m m' := ⟨fun c hn => (h c (fun q => hn (hc c q).1)).1, fun q _ => by rw [(h 82 (fun z => (hc 82 z).2 rfl)).1]⟩
theorem FR_pg {C : List Nat} {P : Nat} {m m' : mMem} (h : SM C m m') (hc : ∀ c ∈ C, c ∈ SCR) (hp : PG P m m') (hP : 105 ≤ P) : FR m m' := ⟨fun c hn => (h c (fun q => hn (hc c q))).1, fun q hq => hp q (by omega)⟩
theorem FH_sm {C : List Nat} {m m' : mMem} (h : SM C m m') (hc : ∀ c ∈ C, c ∈ HSE ∧ c ≠ 82) : FH m m' := ⟨fun c hn => (h c (fun q => hn (hc c q).1)).1, fun q _ _ => by rw [(h 82 (fun z => (hc 82 z).2 rfl)).1]⟩
theorem FH_pg {C : List Nat} {m m' : mMem} (h : SM C m m') (hc : ∀ c ∈ C, c ∈ HSE) (hp : PG 0 m m') : FH m m' := ⟨fun c hn => (h c (fun q => hn (hc c q))).1, fun q h1 hq => hp q (by omega)⟩
theorem FR.fh {m m' : mMem} (h : FR m m') : FH m m' := ⟨fun c hc => h.1 c (fun q => hc ((show ∀ c ∈ SCR, c ∈ HSE by decide) c q)), fun q _ hq => h.2 q hq⟩
theorem IV_FR {m m' : mMem} {v : Nat → Nat} (h : IV m v) (f : FR m m') : IV m' v := by
  obtain ⟨h1, h2, h3, h4, h5, h6⟩ := h
  have e : ∀ c, c ∉ SCR → m'.1 c = m.1 c := f.1
  have e81 : m'.1 81 = m.1 81 := e 81 (by decide)
  refine ⟨IH_fr h1 (fun c hc => e c ?_) (by rw [e81]) (by rw [e81]) (by rw [e81]) (e 83 (by decide)) (e 84 (by decide)) (fun q hq => f.2 q (by omega)), II_fr h2 (fun c hc hd => e c ?_) (by rw [e81]) (by rw [e81]) (e 83 (by decide)) (e 84 (by decide)) (fun q _ hq => f.2 q (by omega)) (e 53 (by decide)) (e 96 (by decide)), IS_fr h3 (by rw [e 65 (by decide)]) (by rw [e81]) (e 67 (by decide)) (e 68 (by decide)) (e 95 (by decide)), IT_fr h4 (fun c hc hd => e c ?_) (e 97 (by decide)) (e 98 (by decide)) (e 99 (by decide)), IP_fr h5 (by rw [e 49 (by decide)]) (by rw [e81]) (e 50 (by decide)) (e 88 (by decide)), IK_fr h6 (by rw [e 49 (by decide)]) (by rw [e81]) (by rw [e 48 (by decide)]) (by rw [e81]) (e 89 (by decide)) (e 90 (by decide))⟩
  · exact (show ∀ c, c < 8 → c ∉ SCR by decide) c hc
  · exact (show ∀ c, c < 32 → 16 ≤ c → c ∉ SCR by decide) c hd hc
  · exact (show ∀ c, c < 48 → 40 ≤ c → c ∉ SCR by decide) c hd hc
theorem IV_FH {m m' : mMem} {v v' : Nat → Nat} (h : IV m v) (f : FH m m') (hh : IH m' v') (h0 : v' 0 = v 0) : IV m' v' := by
  obtain ⟨h1, h2, h3, h4, h5, h6⟩ := h
  have e : ∀ c, c ∉ HSE → m'.1 c = m.1 c := f.1
  have e81 : m'.1 81 = m.1 81 := e 81 (by decide)
  refine ⟨hh, II_fr h2 (fun c hc hd => e c ?_) (by rw [e81]) (by rw [e81]) (e 83 (by decide)) (e 84 (by decide)) (fun q h1 hq => f.2 q h1 (by omega)) (e 53 (by decide)) (e 96 (by decide)), by
    rw [h0]
    exact IS_fr h3 (by rw [e 65 (by decide)]) (by rw [e81]) (e 67 (by decide)) (e 68 (by decide)) (e 95 (by decide)), IT_fr h4 (fun c hc hd => e c ?_) (e 97 (by decide)) (e 98 (by decide)) (e 99 (by decide)), IP_fr h5 (by rw [e 49 (by decide)]) (by rw [e81]) (e 50 (by decide)) (e 88 (by decide)), IK_fr h6 (by rw [e 49 (by decide)]) (by rw [e81]) (by rw [e 48 (by decide)]) (by rw [e81]) (e 89 (by decide)) (e 90 (by decide))⟩
  · exact (show ∀ c, c < 32 → 16 ≤ c → c ∉ HSE by decide) c hd hc
  · exact (show ∀ c, c < 48 → 40 ≤ c → c ∉ HSE by decide) c hd hc
theorem Inv_mu0 : Inv mu0 := by
  refine ⟨fun j => if j = 2 then 1 else if j = 3 then 30 else 0, ⟨⟨⟨rfl, rfl, rfl, rfl, rfl⟩, fun i hi => absurd hi (Nat.not_lt_zero _), fun i hi => absurd hi (Nat.not_lt_zero _)⟩, ⟨⟨rfl, rfl, rfl, rfl, rfl⟩, fun i hi => absurd hi (Nat.not_lt_zero _), fun i hi => absurd hi (Nat.not_lt_zero _)⟩, ⟨by decide, fun i hi => absurd hi (Nat.not_lt_zero _), fun i hi => absurd hi (Nat.not_lt_zero _)⟩, by decide, by decide, rfl⟩, fun j hj => Or.inl ?_, ⟨0, by decide, rfl, rfl, fun k hk => absurd hk (Nat.not_lt_zero _)⟩, fun k hk => Or.inl ?_, ⟨0, by decide, rfl, rfl, fun k hk => absurd hk (Nat.not_lt_zero _)⟩, ⟨rfl, rfl, rfl, rfl⟩⟩
  · have : j = 0 ∨ j = 1 := by omega
    rcases this with rfl | rfl
    · exact ⟨rfl, rfl⟩
    · exact ⟨rfl, rfl⟩
  · have : k = 0 ∨ k = 1 ∨ k = 2 ∨ k = 3 := by omega
    rcases this with rfl | rfl | rfl | rfl
    · exact ⟨rfl, rfl⟩
    · exact ⟨rfl, rfl⟩
    · exact ⟨rfl, rfl⟩
    · exact ⟨rfl, rfl⟩
/-! ## ranges -/
theorem wi_eq (x a b : Int32) (m : mMem) : fX7_within x a b m = some (some (.int (if a ≤ x ∧ x ≤ b then 1 else 0)), m) := by
  unfold fX7_within
  by_cases h1 : x < a
  · rw [if_pos h1, if_neg (fun q => absurd q.1 (Int32.not_le.mpr h1))]
  · rw [if_neg h1]
    by_cases h2 : b < x
    · rw [if_pos h2, if_neg (fun q => absurd q.2 (Int32.not_le.mpr h2))]
    · rw [if_neg h2, if_pos ⟨Int32.not_lt.mp h1, Int32.not_lt.mp h2⟩]
theorem rng {x : Int32} {lo hi : Nat} (hlo : lo < 2 ^ 31) (hhi : hi < 2 ^ 31) (h : nI lo ≤ x ∧ x ≤ nI hi) : ∃ n, lo ≤ n ∧ n ≤ hi ∧ x = nI n := by
  obtain ⟨n, hn, rfl⟩ := nI_of (x := x) (fun q => by
    have h1 := h.1
    rw [Int32.le_iff_toInt_le, nI_toInt hlo] at h1
    rw [Int32.lt_iff_toInt_lt] at q
    have h0 : (0 : Int32).toInt = 0 := rfl
    omega)
  exact ⟨n, (nI_leI hlo hn).mp h.1, (nI_leI hn hhi).mp h.2, rfl⟩
theorem rng_cases (x : Int32) (lo hi : Nat) {a b : Int32} {A B : Int64} (ha : a = nI lo) (hb : b = nI hi) (hA : A = a.toInt64) (hB : B = b.toInt64) (hlo : lo < 2 ^ 31) (hhi : hi < 2 ^ 31) : (∃ n, lo ≤ n ∧ n ≤ hi ∧ x = nI n ∧ (∀ m, fX7_within x a b m = some (some (.int 1), m)) ∧ ∀ m, fX8_in x.toInt64 A B m = some (some (.int 1), m)) ∨ ((∀ m, fX7_within x a b m = some (some (.int 0), m)) ∧ ∀ m, fX8_in x.toInt64 A B m = some (some (.int 0), m)) := by
  subst hA hB
  by_cases h : a ≤ x ∧ x ≤ b
  · left
    have h' := h
    rw [ha, hb] at h'
    obtain ⟨n, h1, h2, rfl⟩ := rng hlo hhi h'
    exact ⟨n, h1, h2, rfl, fun m => by rw [wi_eq, if_pos h], fun m => by rw [fX8_in_eq, if_pos h]⟩
  · right
    exact ⟨fun m => by rw [wi_eq, if_neg h], fun m => by rw [fX8_in_eq, if_neg h]⟩
theorem nI_m1 : ∀ n, n ≤ 50 → (nI n - 1).toInt = (n : Int) - 1 := by decide +kernel
theorem rngN {x : Int32} {n : Nat} (hn : n ≤ 50) : (0 ≤ x ∧ x ≤ nI n - 1) ↔ ∃ i, i < n ∧ x = nI i := by
  constructor
  · rintro ⟨h1, h2⟩
    obtain ⟨i, hi, rfl⟩ := nI_of (x := x) (Int32.not_lt.mpr h1)
    rw [Int32.le_iff_toInt_le, nI_toInt hi, nI_m1 n hn] at h2
    exact ⟨i, by omega, rfl⟩
  · rintro ⟨i, hi, rfl⟩
    refine ⟨nI_pos' (by omega), ?_⟩
    rw [Int32.le_iff_toInt_le, nI_toInt (by omega), nI_m1 n hn]
    omega
theorem step_cases {n : Nat} (hn : n ≤ 10) (x : Int32) : (∃ i, i < n ∧ x = nI i ∧ (∀ m : mMem, m.1 0 0 = nI n → fX7_isStep x m = some (some (.int 1), m)) ∧ ∀ m : mMem, m.1 81 2 = nI n → fX8_isStep x m = some (some (.int 1), m)) ∨ ((∀ m : mMem, m.1 0 0 = nI n → fX7_isStep x m = some (some (.int 0), m)) ∧ ∀ m : mMem, m.1 81 2 = nI n → fX8_isStep x m = some (some (.int 0), m)) := by
  by_cases h : (0 : Int32) ≤ x ∧ x ≤ nI n - 1
  · left
    obtain ⟨i, hi, rfl⟩ := (rngN (by omega)).mp h
    refine ⟨i, hi, rfl, fun m e => ?_, fun m e => ?_⟩
    · unfold fX7_isStep
      rw [e, wi_eq, if_pos h]
      exact gb_1
    · unfold fX8_isStep
      rw [e, show (0 : Int64) = (0 : Int32).toInt64 from rfl, fX8_in_eq, if_pos h]
      exact gb_1
  · right
    refine ⟨fun m e => ?_, fun m e => ?_⟩
    · unfold fX7_isStep
      rw [e, wi_eq, if_neg h]
      exact gb_0
    · unfold fX8_isStep
      rw [e, show (0 : Int64) = (0 : Int32).toInt64 from rfl, fX8_in_eq, if_neg h]
      exact gb_0
theorem lodger_cases {n : Nat} (hn : n ≤ 4) (x : Int32) : (∃ i, i < n ∧ x = nI i ∧ (∀ m : mMem, m.1 0 1 = nI n → fX7_isLodger x m = some (some (.int 1), m)) ∧ ∀ m : mMem, m.1 81 4 = nI n → fX8_isLodger x m = some (some (.int 1), m)) ∨ ((∀ m : mMem, m.1 0 1 = nI n → fX7_isLodger x m = some (some (.int 0), m)) ∧ ∀ m : mMem, m.1 81 4 = nI n → fX8_isLodger x m = some (some (.int 0), m)) := by
  by_cases h : (0 : Int32) ≤ x ∧ x ≤ nI n - 1
  · left
    obtain ⟨i, hi, rfl⟩ := (rngN (by omega)).mp h
    refine ⟨i, hi, rfl, fun m e => ?_, fun m e => ?_⟩
    · unfold fX7_isLodger
      rw [e, wi_eq, if_pos h]
      exact gb_1
    · unfold fX8_isLodger
      rw [e, show (0 : Int64) = (0 : Int32).toInt64 from rfl, fX8_in_eq, if_pos h]
      exact gb_1
  · right
    refine ⟨fun m e => ?_, fun m e => ?_⟩
    · unfold fX7_isLodger
      rw [e, wi_eq, if_neg h]
      exact gb_0
    · unfold fX8_isLodger
      rw [e, show (0 : Int64) = (0 : Int32).toInt64 from rfl, fX8_in_eq, if_neg h]
      exact gb_0
