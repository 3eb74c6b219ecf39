/-! PURE FACTS: hold -/
def noB (v : Nat → Nat) (h : Nat) : Prop := ∀ i, i < v 0 → v (30 + i) < h
theorem noB_uv {v : Nat → Nat} {a h : Nat} : noB (uv v 3 a) h ↔ noB v h := by
  unfold noB
  rw [uv_n (show 0 ≠ 3 by decide)]
  constructor
  · intro q i hi
    have := q i hi
    rw [uv_n (by omega)] at this
    exact this
  · intro q i hi
    rw [uv_n (by omega)]
    exact q i hi
theorem noB_bits {v : Nat → Nat} : bitsN (brS v) (v 0) = 0 ↔ noB v (v 3) := by
  constructor
  · intro h i hi
    have := bitsN_bit (brS v) (v 0) i
    rw [h, Nat.zero_testBit, decide_eq_true hi, Bool.true_and] at this
    have h2 : brS v i = false := this.symm
    unfold brS at h2
    have := of_decide_eq_false h2
    omega
  · intro h
    apply Nat.eq_of_testBit_eq
    intro i
    rw [bitsN_bit, Nat.zero_testBit]
    by_cases hi : i < v 0
    · have := h i hi
      rw [decide_eq_true hi, Bool.true_and]
      unfold brS
      exact decide_eq_false (by omega)
    · simp [hi]
theorem nrS_uv3 {v : Nat → Nat} {a p i : Nat} : nrS (uv v 3 a) p i = nrS v p i := by
  unfold nrS
  rw [uv_n (show 10 + i ≠ 3 by omega), uv_n (show 20 + i ≠ 3 by omega), uv_n (show 44 + p ≠ 3 by omega), uv_n (show 2 ≠ 3 by omega)]
theorem rcS_uv3 {v : Nat → Nat} {a p : Nat} : rcS (uv v 3 a) p = rcS v p := by
  unfold rcS
  rw [uv_n (show 48 + p ≠ 3 by omega), uv_n (show 40 + p ≠ 3 by omega)]
theorem phS_uv3 {v : Nat → Nat} {a p : Nat} (h1 : noB v a) (h2 : noB v (v 3)) : phS (uv v 3 a) p = phS v p := by
  have ht : tdS (uv v 3 a) p = tdS v p := by
    unfold tdS
    rw [uv_n (show 0 ≠ 3 by decide)]
    apply Nat.eq_of_testBit_eq
    intro i
    rw [bitsN_bit, bitsN_bit]
    by_cases hi : i < v 0
    · have w1 := h1 i hi
      have w2 := h2 i hi
      have b1 : brS (uv v 3 a) i = false := by unfold brS; rw [uv_s, uv_n (by omega)]; exact decide_eq_false (by omega)
      have b2 : brS v i = false := by unfold brS; exact decide_eq_false (by omega)
      unfold trS
      rw [b1, b2, nrS_uv3]
    · simp [hi]
  unfold phS
  rw [ht, rcS_uv3, uv_n (by omega)]
theorem goS_uv3 {v : Nat → Nat} {a p : Nat} (h1 : noB v a) (h2 : noB v (v 3)) : goS (uv v 3 a) p = uv (goS v p) 3 a := by
  funext j
  unfold goS
  rw [phS_uv3 h1 h2]
  by_cases hj : j = 3
  · subst hj
    rw [uv_s]
    unfold wrS
    rw [if_neg (fun q => absurd q.1 (by decide)), uv_s]
  · rw [uv_n hj]
    unfold wrS
    rw [uv_n hj, uv_n (show 0 ≠ 3 by decide), uv_n (show 48 + p ≠ 3 by omega)]
    by_cases hc : 30 ≤ j
    · rw [uv_n (show j - 20 ≠ 3 by omega)]
    · rw [if_neg (fun q => hc q.1), if_neg (fun q => hc q.1)]
theorem goS_mono {v : Nat → Nat} {p i : Nat} (ho : OK v) (hi : i < v 0) : v (30 + i) ≤ goS v p (30 + i) := by
  have h := ho.2.1 i hi
  unfold goS
  rw [wrS_w hi]
  split
  · rename_i q
    unfold wrN
    have := q.2
    exact Nat.le_min.mpr ⟨by omega, h.2.2⟩
  · exact Nat.le_refl _
theorem noB_go {v : Nat → Nat} {p h : Nat} (ho : OK v) (q : noB (goS v p) h) : noB v h := fun i hi => by
  have h1 := goS_mono (p := p) ho hi
  have h2 := q i (by rw [goS_o (by omega) ho]; exact hi)
  omega
theorem noB_gS {v : Nat → Nat} {h : Nat} (ho : OK v) : ∀ k, noB (gS v k) h → noB v h
  | 0, q => q
  | k + 1, q => noB_gS ho k (noB_go (gS_OK ho k).1 q)
theorem noB_dy0 {v : Nat → Nat} {h : Nat} : noB (dyS v) h ↔ noB (gS v (v 1)) h := by
  unfold noB
  rw [dyS_o (show 0 ≠ 4 by decide)]
  constructor
  · intro q i hi
    have := q i hi
    rw [dyS_o (by omega)] at this
    exact this
  · intro q i hi
    rw [dyS_o (by omega)]
    exact q i hi
theorem noB_dy {v : Nat → Nat} {h : Nat} (ho : OK v) (q : noB (dyS v) h) : noB v h := noB_gS ho _ (noB_dy0.mp q)
theorem noB_ds {v : Nat → Nat} {h n : Nat} (ho : OK v) (h4 : v 4 + n ≤ 2000) : ∀ k, k ≤ n → noB (dsS v n) h → noB (dsS v (n - k)) h
  | 0, _, q => q
  | k + 1, hk, q => by
    have h1 := noB_ds ho h4 k (by omega) q
    obtain ⟨g1, g2, g3⟩ := dsS_OK ho (n - (k + 1)) (by omega)
    rw [show n - k = n - (k + 1) + 1 by omega] at h1
    exact noB_dy g1 h1
/-- y is x with the hold h, as long as nothing breaks -/
def RH (h : Nat) (x y : Nat → Nat) : Prop := (noB y h ↔ noB x h) ∧ (noB x h → y = uv x 3 h) ∧ y 1 = x 1
theorem noB_100 {x : Nat → Nat} (ho : OK x) (h3 : x 3 = 100) : noB x (x 3) := fun i hi => by have := ho.2.1 i hi; omega
theorem RH_go {h p : Nat} {x y : Nat → Nat} (r : RH h x y) (hx : OK x) (hy : OK y) (h3 : x 3 = 100) : RH h (goS x p) (goS y p) := by
  have hb := noB_100 hx h3
  have e : noB x h → goS y p = uv (goS x p) 3 h := fun q => by rw [r.2.1 q, goS_uv3 q hb]
  refine ⟨⟨fun q => ?_, fun q => ?_⟩, fun q => e (noB_go hx q), ?_⟩
  · have q1 := r.1.mp (noB_go hy q)
    rw [e q1] at q
    exact noB_uv.mp q
  · rw [e (noB_go hx q)]
    exact noB_uv.mpr q
  · rw [goS_o (by omega) hx, goS_o (by omega) hy]
    exact r.2.2
theorem RH_gS {h : Nat} {x y : Nat → Nat} (r : RH h x y) (hx : OK x) (hy : OK y) (h3 : x 3 = 100) : ∀ k, RH h (gS x k) (gS y k)
  | 0 => r
  | k + 1 => RH_go (RH_gS r hx hy h3 k) (gS_OK hx k).1 (gS_OK hy k).1 (by rw [(gS_OK hx k).2 3 (by omega)]; exact h3)
theorem RH_dy {h : Nat} {x y : Nat → Nat} (r : RH h x y) (hx : OK x) (hy : OK y) (h3 : x 3 = 100) : RH h (dyS x) (dyS y) := by
  have g := RH_gS r hx hy h3 (x 1)
  refine ⟨?_, fun q => ?_, ?_⟩
  · rw [noB_dy0, noB_dy0, r.2.2]
    exact g.1
  · have q1 := noB_dy0.mp q
    have e1 := g.2.1 q1
    have e2 := r.2.1 (noB_gS hx _ q1)
    funext j
    by_cases hj : j = 4
    · subst hj
      rw [dyS_4, uv_n (by decide), dyS_4, e2, uv_n (by decide)]
    · rw [dyS_o hj, r.2.2, e1]
      by_cases hj3 : j = 3
      · subst hj3
        rw [uv_s, uv_s]
      · rw [uv_n hj3, uv_n hj3, dyS_o hj]
  · rw [dyS_o (by decide), dyS_o (by decide), (gS_OK hx _).2 1 (by omega), (gS_OK hy _).2 1 (by omega)]
    exact r.2.2
theorem RH_ds {h : Nat} {x y : Nat → Nat} (r : RH h x y) (hx : OK x) (hy : OK y) (h3 : x 3 = 100) : ∀ d, x 4 + d ≤ 2000 → y 4 + d ≤ 2000 → RH h (dsS x d) (dsS y d)
  | 0, _, _ => r
  | d + 1, a, b => by
    obtain ⟨g1, g2, g3⟩ := dsS_OK hx d (by omega)
    obtain ⟨w1, w2, w3⟩ := dsS_OK hy d (by omega)
    exact RH_dy (RH_ds r hx hy h3 d (by omega) (by omega)) g1 w1 (by rw [g3 3 (by decide) (by omega)]; exact h3)
def mwS (v : Nat → Nat) : Nat → Nat
  | 0 => 0
  | i + 1 => max (mwS v i) (v (30 + i))
theorem mwS_lt {v : Nat → Nat} {h : Nat} (h1 : 1 ≤ h) : ∀ n, mwS v n < h ↔ ∀ i, i < n → v (30 + i) < h
  | 0 => ⟨fun _ i hi => absurd hi (Nat.not_lt_zero _), fun _ => h1⟩
  | n + 1 => by
    show max (mwS v n) (v (30 + n)) < h ↔ _
    rw [Nat.max_lt, mwS_lt h1 n]
    constructor
    · rintro ⟨a, b⟩ i hi
      rcases Nat.lt_or_ge i n with z | z
      · exact a i z
      · have : i = n := by omega
        subst this
        exact b
    · intro q
      exact ⟨fun i hi => q i (by omega), q n (by omega)⟩
theorem mwS_le {v : Nat → Nat} (ho : OK v) : ∀ n, n ≤ v 0 → mwS v n ≤ 99
  | 0, _ => Nat.zero_le _
  | n + 1, hn => Nat.max_le.mpr ⟨mwS_le ho n (by omega), (ho.2.1 n (by omega)).2.2⟩
theorem imx2 {a b : Nat} (ha : a < 2 ^ 31) (hb : b < 2 ^ 31) : imax (nI a) (nI b) = nI (max a b) := by
  unfold imax
  by_cases h : a < b
  · rw [if_pos (nI_lt h hb), Nat.max_eq_right (by omega)]
  · rw [if_neg (nI_nlt (by omega) ha), Nat.max_eq_left (by omega)]
theorem fX4_mostWear_eq {m : mMem} {b : Nat} {v : Nat → Nat} (h : HC m b v) (ho : OK v) : fX4_mostWear b m = some (some (.int (nI (mwS v (v 0)))), m) := by
  have hb := ho.1
  unfold fX4_mostWear
  refine lp_0 (fun i => (nI (mwS v i), nI i, m)) (v 0) _ (by omega) (fun k => ?_) (fun i hi k => ?_)
  · unfold bX4_mostWear_4
    dsimp only
    rw [h.1.1, if_pos (nI_le (Nat.le_refl _) (by omega))]
  · have h1 := mwS_le ho i (by omega)
    have h2 := (ho.2.1 i hi).2.2
    unfold bX4_mostWear_4
    dsimp only [li]
    rw [h.1.1, if_neg (nI_ge hi (by omega)), ga_nI (by omega) (by decide), nI_tn (by omega), (h.2.1 i hi).2.2, imx2 (by omega) (by omega), show nI i + 1 = nI (i + 1) from nI_1 _]
    rfl
theorem lp_relC {σ κ : Type} {body : κ → (σ → mR) → σ → mR} (P : Nat → σ → Prop) (N : Nat) (R : mR → Prop) (hend : ∀ s, P N s → ∃ u, R u ∧ ∀ ko k, body ko k s = u) (hstep : ∀ i s, i < N → P i s → ∃ s', P (i + 1) s' ∧ ∀ ko k, body ko k s = k s') : ∀ (r i n : Nat) (s : σ), i + r = N → r < n → P i s → ∃ u, R u ∧ ∀ ko, lp (body ko) n s = u
  | 0, i, n + 1, s, h, _, hp => by
    have e : i = N := by omega
    subst e
    obtain ⟨u, hu, he⟩ := hend s hp
    exact ⟨u, hu, fun ko => he ko _⟩
  | r + 1, i, n + 1, s, h, hF, hp => by
    obtain ⟨s', hp', he⟩ := hstep i s (by omega) hp
    obtain ⟨u, hu, hk⟩ := lp_relC P N R hend hstep r (i + 1) n s' (by omega) (by omega) hp'
    exact ⟨u, hu, fun ko => (he ko _).trans (hk ko)⟩
  | _, _, 0, _, _, hF, _ => absurd hF (Nat.not_lt_zero _)
theorem lp_relC0 {σ κ : Type} {body : κ → (σ → mR) → σ → mR} (P : Nat → σ → Prop) (N : Nat) (R : mR → Prop) (s : σ) (hN : N < 20000) (h0 : P 0 s) (hend : ∀ s, P N s → ∃ u, R u ∧ ∀ ko k, body ko k s = u) (hstep : ∀ i s, i < N → P i s → ∃ s', P (i + 1) s' ∧ ∀ ko k, body ko k s = k s') : ∃ u, R u ∧ ∀ ko, lp (body ko) FU s = u := lp_relC P N R hend hstep N 0 FU s (by omega) hN h0
/-- one trial of the reference -/
theorem try_h {m0 : mMem} {n h : Nat} {v : Nat → Nat} (h0 : HO m0 140 0 v) (h3 : v 3 = h) (h4 : v 4 + n ≤ 2000) (hn : n ≤ 60) (hh : h ≤ 99) :
    (noB (dsS v n) h → ∃ m', (∀ k16, jX8_hold_57 k16 (nI n) (nI h) (if bitsN (brS v) (v 0) = 0 then 1 else 0) m0 = some (some (.int (nI h)), m')) ∧ FR m0 m') ∧ (¬ noB (dsS v n) h → ∃ m', (∀ k16, jX8_hold_57 k16 (nI n) (nI h) (if bitsN (brS v) (v 0) = 0 then 1 else 0) m0 = k16 (nI (h + 1), m')) ∧ FR m0 m') := by
  have ho := h0.2.1
  have hds := fun d (hd : d ≤ n) => dsS_OK ho d (by omega)
  have hfl : ∀ d, d ≤ n → (bitsN (brS (dsS v d)) (v 0) = 0 ↔ noB (dsS v d) h) := fun d hd => by
    obtain ⟨g1, g2, g3⟩ := hds d hd
    have := noB_bits (v := dsS v d)
    rw [g3 0 (by decide) (by omega), g3 3 (by decide) (by omega), h3] at this
    exact this
  have stp : ∀ i s, i < n → noB (dsS v i) h → (∃ m', s = ((if bitsN (brS (dsS v i)) (v 0) = 0 then (1 : Int32) else 0), nI i, m') ∧ HO m' 140 0 (dsS v i) ∧ FR m0 m') → ∃ s' : Int32 × Int32 × mMem, (∃ m', s' = ((if bitsN (brS (dsS v (i + 1))) (v 0) = 0 then (1 : Int32) else 0), nI (i + 1), m') ∧ HO m' 140 0 (dsS v (i + 1)) ∧ FR m0 m') ∧ ∀ ko k, bX8_hold_61 ko (nI n) (nI h) k s = k s' := by
    rintro i s hi hno ⟨m', rfl, a1, a2⟩
    obtain ⟨g1, g2, g3⟩ := hds i (by omega)
    obtain ⟨w1, w2, w3⟩ := hds (i + 1) (by omega)
    obtain ⟨m2, e, b1, b2, b3⟩ := fX8_daysOn_eq (n := 1) a1 (by omega)
    have e' : fX8_daysOn (140 : Int32) (1 : Int32) m' = _ := e
    have b1' : HO m2 140 0 (dsS v (i + 1)) := b1
    have hbr : fX8_brokenOn (140 : Int32) m2 = _ := fX8_brokenOn_eq b1'
    rw [w3 0 (by decide) (by omega), obS_0] at hbr
    have hlt : bitsN (brS (dsS v (i + 1))) (v 0) < 1024 := bt_lt ho.1.1
    refine ⟨(_, nI (i + 1), m2), ⟨m2, rfl, b1', a2.tr (FR_pg b2 (by decide) b3 (by decide))⟩, fun ko k => ?_⟩
    unfold bX8_hold_61
    dsimp only [li]
    rw [if_neg (nI_ge hi (by omega)), if_pos ((hfl i (by omega)).mpr hno), if_neg (by decide), e']
    dsimp only [bI]
    rw [hbr]
    dsimp only
    rw [show nI i + 1 = nI (i + 1) from nI_1 _]
    by_cases hz : bitsN (brS (dsS v (i + 1))) (v 0) = 0
    · rw [if_pos ((nI_0iff (by omega)).mpr hz), if_pos hz]
    · rw [if_neg (fun z => hz ((nI_0iff (by omega)).mp z)), if_neg hz]
  constructor
  · intro hno
    have hall : ∀ i, i ≤ n → noB (dsS v i) h := fun i hi => by
      have := noB_ds ho h4 (n - i) (by omega) hno
      rw [show n - (n - i) = i by omega] at this
      exact this
    obtain ⟨u, ⟨m', e, f⟩, hk⟩ := lp_relC0 (body := fun k16 => bX8_hold_61 k16 (nI n) (nI h)) (fun i s => ∃ m', s = ((if bitsN (brS (dsS v i)) (v 0) = 0 then (1 : Int32) else 0), nI i, m') ∧ HO m' 140 0 (dsS v i) ∧ FR m0 m') n (fun r => ∃ m', r = some (some (.int (nI h)), m') ∧ FR m0 m') ((if bitsN (brS v) (v 0) = 0 then (1 : Int32) else 0), (0 : Int32), m0) (by omega) ⟨m0, rfl, h0, FR.rf⟩ (fun s hs => by
      obtain ⟨m', rfl, a1, a2⟩ := hs
      refine ⟨_, ⟨m', rfl, a2⟩, fun ko k => ?_⟩
      unfold bX8_hold_61 jX8_hold_102
      dsimp only [li]
      rw [if_pos (nI_le (Nat.le_refl _) (by omega)), if_pos ((hfl n (Nat.le_refl _)).mpr hno), if_neg (by decide)]) (fun i s hi hs => stp i s hi (hall i (by omega)) hs)
    subst e
    exact ⟨m', hk, f⟩
  · intro hno
    obtain ⟨N, hN, hN1, hN2⟩ := least (p := fun d => !(bitsN (brS (dsS v d)) (v 0) == 0)) n (by
      have : ¬ bitsN (brS (dsS v n)) (v 0) = 0 := fun z => hno ((hfl n (Nat.le_refl _)).mp z)
      simp [this])
    have hN1' : ¬ bitsN (brS (dsS v N)) (v 0) = 0 := by simpa using hN1
    have hN2' : ∀ i, i < N → noB (dsS v i) h := fun i hi => (hfl i (by omega)).mp (by have := hN2 i hi; simpa using this)
    obtain ⟨u, ⟨m', e, f⟩, hk⟩ := lp_relK0 (body := fun k16 => bX8_hold_61 k16 (nI n) (nI h)) (fun i s => ∃ m', s = ((if bitsN (brS (dsS v i)) (v 0) = 0 then (1 : Int32) else 0), nI i, m') ∧ HO m' 140 0 (dsS v i) ∧ FR m0 m') N (fun u => ∃ m', u = (nI (h + 1), m') ∧ FR m0 m') ((if bitsN (brS v) (v 0) = 0 then (1 : Int32) else 0), (0 : Int32), m0) (by omega) ⟨m0, rfl, h0, FR.rf⟩ (fun s hs => by
      obtain ⟨m', rfl, a1, a2⟩ := hs
      refine ⟨_, ⟨m', rfl, a2⟩, fun ko k => ?_⟩
      unfold bX8_hold_61 jX8_hold_102
      dsimp only [li]
      rw [if_neg hN1', if_pos rfl, show nI h + 1 = nI (h + 1) from nI_1 _]
      by_cases hz : n ≤ N
      · rw [if_pos (nI_le hz (by omega))]
      · rw [if_neg (nI_ge (by omega) (by omega)), if_pos rfl]) (fun i s hi hs => stp i s (by omega) (hN2' i hi) hs)
    subst e
    exact ⟨m', hk, f⟩
theorem ok_hold (u0 : Int32) : okI Inv (fX7_hold u0) (fX8_hold u0) := by
  rintro m ⟨v, hV⟩
  have ho := hV.1.2.2.1
  have hb := ho.1
  have c := IV_c hV
  have d := IV_m hV
  have h999 := hV.1.2.2.2.2.1
  rcases rng_cases u0 0 60 (a := 0) (b := 60) (A := 0) (B := 60) rfl rfl rfl rfl (by decide) (by decide) with ⟨n, -, hn, rfl, f7, f8⟩ | ⟨f7, f8⟩
  · obtain ⟨ma, ea, a1, a2⟩ := cp7 hV.1.1 ho
    have hO : ∀ h, 1 ≤ h → h ≤ 100 → OK (uv v 3 h) := fun h h1 h2 => OK_set ho (by unfold RB; omega)
    have hV4 : ∀ h, uv v 3 h 4 = v 4 := fun h => uv_n (by decide)
    have A1 : HC (si ma 8 3 (100 : Int32)) 8 (uv v 3 100) := HC_set (c := 0) (k := 3) (j := 3) (x := 100) a1 hb.1 hb.2.1 (by unfold RC; omega)
    obtain ⟨mb, eb, b1, b2, b3⟩ := fX1_goDays_eq (n := n) (b := 8) (by decide) A1 (hO 100 (by decide) (by decide)) (by rw [hV4]; omega)
    obtain ⟨g1, g2, g3⟩ := dsS_OK (hO 100 (by decide) (by decide)) n (by rw [hV4]; omega)
    have em := fX4_mostWear_eq b1 g1
    obtain ⟨W, hW⟩ : ∃ W, W = mwS (dsS (uv v 3 100) n) (dsS (uv v 3 100) n 0) := ⟨_, rfl⟩
    rw [← hW] at em
    have hWl : W ≤ 99 := by rw [hW]; exact mwS_le g1 _ (Nat.le_refl _)
    have FR1 : FR m mb := ((FR_sm a2 (by decide)).tr (FR_sm (C := [8]) (SM_si (by simp)) (by decide))).tr (FR_sm b2 (by decide))
    have key : ∀ h, 1 ≤ h → h ≤ 99 → (noB (dsS (uv v 3 h) n) h ↔ W < h) := fun h h1 h2 => by
      have r0 : RH h (uv v 3 100) (uv v 3 h) := ⟨by rw [noB_uv, noB_uv], fun _ => by rw [uv_uv], by rw [uv_n (by decide), uv_n (by decide)]⟩
      have r := RH_ds r0 (hO 100 (by decide) (by decide)) (hO h h1 (by omega)) (uv_s _ _ _) n (by rw [hV4]; omega) (by rw [hV4]; omega)
      rw [r.1, hW, mwS_lt h1]
      rfl
    obtain ⟨ans, hans⟩ : ∃ ans : Int32, ans = if W = 99 then -4 else nI (W + 1) := ⟨_, rfl⟩
    have L8 : ∃ md, lp (bX8_hold_16 (nI n)) FU ((1 : Int32), mb) = some (some (.int ans), md) ∧ FR mb md := by
      refine lp_or0 (body := bX8_hold_16 (nI n)) (fun i s => ∃ m', s = (nI (i + 1), m') ∧ FR mb m' ∧ ∀ j, j < i → ¬ W < j + 1) 99 (fun r => ∃ md, r = some (some (.int ans), md) ∧ FR mb md) _ (by decide) ⟨mb, rfl, FR.rf, fun j hj => absurd hj (Nat.not_lt_zero _)⟩ (fun s k => ?_) (fun i s hi => ?_)
      · rintro ⟨m', rfl, h1, h2⟩
        unfold bX8_hold_16
        dsimp only
        have := h2 98 (by decide)
        rw [if_pos (by decide), hans, if_pos (by omega)]
        exact ⟨m', rfl, h1⟩
      · rintro ⟨m', rfl, h1, h2⟩
        obtain ⟨mc, ec, c1, c2, c3⟩ := cp8 (P := 140) (HO_fr (IV_HO hV) (FR1.tr h1) (by decide)) (by decide) (by decide)
        have ec' : fX8_copies (0 : Int32) (140 : Int32) m' = some (none, mc) := ec
        have D1 : HO (si mc 82 173 (nI (i + 1) - 30)) 140 0 (uv v 3 (i + 1)) := ⟨HM_hold (x := i + 1) c1.1 hb.1 hb.2.1, hO _ (by omega) (by omega), by decide, by rw [si_c _ (by decide)]; exact c1.2.2.2.1, by decide⟩
        have F1 : FR m' (si mc 82 173 (nI (i + 1) - 30)) := (FR_pg c2 (by decide) c3 (by decide)).tr (FR_pg (C := [82]) (P := 140) (SM_si (by simp)) (by decide) (fun q hq => si_ne _ _ (Or.inr (by omega))) (by decide))
        have hbr : fX8_brokenOn (140 : Int32) (si mc 82 173 (nI (i + 1) - 30)) = _ := fX8_brokenOn_eq D1
        rw [obS_0] at hbr
        have hlt : bitsN (brS (uv v 3 (i + 1))) (uv v 3 (i + 1) 0) < 1024 := bt_lt (by rw [uv_n (by decide)]; exact hb.1)
        have T := try_h (n := n) D1 (uv_s _ _ _) (by rw [hV4]; omega) hn (by omega)
        have run : ∀ k, bX8_hold_16 (nI n) k (nI (i + 1), m') = jX8_hold_57 k (nI n) (nI (i + 1)) (if bitsN (brS (uv v 3 (i + 1))) (uv v 3 (i + 1) 0) = 0 then 1 else 0) (si mc 82 173 (nI (i + 1) - 30)) := fun k => by
          unfold bX8_hold_16
          dsimp only [lt]
          rw [if_neg (show ¬ (99 : Int32) < nI (i + 1) from nI_nlt (a := 99) (by omega) (by decide)), ec']
          dsimp only [bV]
          rw [show ∀ r : mR, ga (173 : Int32) 210 r = r from fun r => ga_nI (i := 173) (by decide) (by decide), show ((173 : Int32)).toNatClampNeg = 173 from rfl, hbr]
          dsimp only [bI]
          by_cases hz : bitsN (brS (uv v 3 (i + 1))) (uv v 3 (i + 1) 0) = 0
          · rw [if_pos ((nI_0iff (by omega)).mpr hz), if_pos hz]
          · rw [if_neg (fun z => hz ((nI_0iff (by omega)).mp z)), if_neg hz]
        by_cases hw : W < i + 1
        · right
          intro k
          obtain ⟨m2, e1, e2⟩ := T.1 ((key (i + 1) (by omega) (by omega)).mpr hw)
          rw [run k, e1 k]
          refine ⟨m2, ?_, (h1.tr F1).tr e2⟩
          have hWi : W = i := by
            rcases Nat.eq_zero_or_pos i with z | z
            · omega
            · have := h2 (i - 1) (by omega)
              omega
          rw [hans, if_neg (by omega), hWi]
        · left
          obtain ⟨m2, e1, e2⟩ := T.2 (fun z => hw ((key (i + 1) (by omega) (by omega)).mp z))
          refine ⟨(nI (i + 1 + 1), m2), ⟨m2, rfl, (h1.tr F1).tr e2, fun j hj => ?_⟩, fun k => by rw [run k, e1 k]⟩
          by_cases ej : j = i
          · subst ej; exact hw
          · exact h2 j (by omega)
    obtain ⟨md, l8, fr8⟩ := L8
    refine ⟨ans, mb, md, ?_, ?_, ⟨v, IV_FR hV (FR1.tr fr8)⟩⟩
    · unfold fX7_hold
      rw [f7]
      dsimp only [bI]
      rw [if_neg (by decide), ea]
      dsimp only [bV, lt]
      rw [eb]
      dsimp only
      rw [em]
      dsimp only [li]
      rw [show nI W + 1 = nI (W + 1) from nI_1 _, hans]
      by_cases hz : W = 99
      · rw [if_pos (show (99 : Int32) < nI (W + 1) from nI_lt (a := 99) (by omega) (by omega)), if_pos hz]
      · rw [if_neg (show ¬ (99 : Int32) < nI (W + 1) from nI_nlt (a := 99) (by omega) (by decide)), if_neg hz]
    · unfold fX8_hold
      rw [f8]
      dsimp only [bI]
      rw [if_neg (by decide)]
      exact l8
  · refine ⟨-1, m, m, ?_, ?_, ⟨v, hV⟩⟩
    · unfold fX7_hold
      rw [f7]
      rfl
    · unfold fX8_hold
      rw [f8]
      rfl
