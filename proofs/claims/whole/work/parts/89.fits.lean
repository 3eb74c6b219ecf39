/-! PURE FACTS: fits, floors -/
theorem fX2_search_eq {m : mMem} {v : Nat → Nat} {s : Nat} {I M : Nat → Nat} (h : HC m 0 v) (hv : OK v) (hs : s ≤ 6) (hI : ∀ k, k < s → I k < v 0 ∧ M k ≤ 40) (hS : SEs m s I M) : ∃ m', fX2_search 0 m = some (some (.int (nI (cnF (ftS v s I M) (v 0) (v 1) (v 1) 0 v))), m') ∧ FR m m' ∧ ∀ q, q < v 1 → m'.1 66 q = nI (foF (ftS v s I M) (v 0) (v 1) (v 1) 0 v q) := by
  have hb := hv.1
  obtain ⟨m1, e1, a1, a2⟩ := fX4_copyFrom_eq (a := 0) (b := 32) (by omega) h hv
  obtain ⟨m2, hm2⟩ : ∃ m2, m2 = flM 66 0 m1 4 := ⟨_, rfl⟩
  have b1 : SM [66] m1 m2 := by rw [hm2]; exact flM_SM _ _ _ _
  obtain ⟨m3, hm3⟩ : ∃ m3, m3 = ci m2 3 70 0 0 10 := ⟨_, rfl⟩
  have c1 : SM [70] m2 m3 := by rw [hm3]; exact SM_ci (by simp)
  have S : SM [32, 33, 34, 35, 36, 37, 38, 39, 66, 70] m m3 := ((a2.mono (by simp)).tr (b1.mono (by simp))).tr (c1.mono (by simp))
  have h70 : ∀ i, i < v 0 → m3.1 70 i = nI (v (30 + i)) := fun i hi => by
    rw [hm3, ci_1, if_pos ⟨rfl, by omega⟩, (b1 3 (by simp)).1, (a2 3 (by decide)).1]
    exact (h.2.1 i hi).2.2
  obtain ⟨m4, e4, r1, r2, r3, r4⟩ := se_eq hv hs hI 8 (v 1) 0 v m3 (fun _ => 0) (by omega) (by omega) hv (fun _ _ => rfl) (fun _ _ => Nat.le_refl _) (HC_sm (HC_sm a1 b1 (fun j hj => by simp; omega)) c1 (fun j hj => by simp; omega)) ⟨by rw [(S 65 (by decide)).1]; exact hS.1, fun k hk => by rw [(S 67 (by decide)).1, (S 68 (by decide)).1]; exact hS.2 k hk⟩ h70 h70 (fun q hq => ⟨by
    rw [(c1 66 (by simp)).1, hm2, flM_at, if_pos (by omega)]
    rfl, by decide⟩)
  refine ⟨m4, ?_, (FR_sm S (by decide)).tr (FR_sm r1 (by decide)), fun q hq => by rw [r4 q hq, if_pos (Nat.zero_le _), Nat.zero_or]⟩
  have e4' : fX2_searchFrom 8 (0 : Int32) m3 = _ := e4
  unfold fX2_search
  rw [e1]
  dsimp only [bV, lt]
  rw [fill_eq 0 m1 (by decide), ← hm2]
  dsimp only
  rw [show ∀ r : mR, ga (0 : Int32) 5 r = r from fun r => ga_nI (i := 0) (by decide) (by decide), show ((0 : Int32)).toNatClampNeg = 0 from rfl, rf69 0 (by decide)]
  show bI (fX2_searchFrom 8 (0 : Int32) (ci m2 3 70 0 0 10)) _ = _
  rw [← hm3, e4']
  rfl
/-! ## the reference -/
theorem rem_10 {k n : Nat} (hk : k < 2 ^ 31) (hn : n ≤ 10) : nI k - nI k / nI n * nI n = nI (k % n) := by
  have h : k / n * n ≤ k := Nat.div_mul_le_self k n
  rw [nI_div (by omega) (by omega), nI_mul, nI_sub h]
  congr 1
  rw [Nat.mod_def, Nat.mul_comm]
theorem fX8_floorOf_eq {m : mMem} {a n c p : Nat} (ha : 0 < a) (ha10 : a ≤ 10) (hn : n ≤ 4) (hp : p < n) (hc : c ≤ 10000) (h2 : m.1 81 2 = nI a) (h4 : m.1 81 4 = nI n) : fX8_floorOf (nI c) (nI p) m = some (some (.int (nI (dgF a n c p))), m) := by
  have ha0 : ¬ nI a = (0 : Int32) := fun z => by have := (nI_0iff (by omega)).mp z; omega
  unfold fX8_floorOf
  dsimp only [li]
  rw [h4, show nI n - 1 = nI (n - 1) from nI_sub (b := 1) (by omega)]
  have h0 : (nI c, nI (n - 1), m) = (fun k => (nI (c / a ^ k), nI (n - 1 - k), m)) 0 := by
    show _ = (nI (c / a ^ 0), nI (n - 1 - 0), m)
    rw [Nat.pow_zero, Nat.div_one, Nat.sub_zero]
  rw [h0]
  refine lp_0 (fun k => (nI (c / a ^ k), nI (n - 1 - k), m)) (n - 1 - p) _ (by omega) (fun kk => ?_) (fun k hk kk => ?_)
  · have hck : c / a ^ (n - 1 - p) ≤ c := Nat.div_le_self _ _
    unfold bX8_floorOf_10
    dsimp only
    rw [if_pos (nI_le (by omega) (by omega)), h2, g0i_ne ha0, rem_10 (by omega) ha10]
    rfl
  · have hck : c / a ^ k ≤ c := Nat.div_le_self _ _
    unfold bX8_floorOf_10
    dsimp only [li]
    rw [if_neg (nI_ge (by omega) (by omega)), h2, g0i_ne ha0, nI_div (by omega) (by omega), Nat.div_div_eq_div_mul, ← Nat.pow_succ, sb_m1 (by omega), show n - 1 - k - 1 = n - 1 - (k + 1) by omega]
def flP (v F : Nat → Nat) (i : Nat) : Nat → Nat := fun j => if 52 ≤ j ∧ j < 52 + i then F (j - 52) else v j
def flS (v F : Nat → Nat) : Nat → Nat := flP v F (v 1)
theorem flP_s (v F : Nat → Nat) (i : Nat) : uv (flP v F i) (52 + i) (F i) = flP v F (i + 1) := by
  funext j
  by_cases e : j = 52 + i
  · subst e
    rw [uv_s]
    unfold flP
    rw [if_pos (by omega), show 52 + i - 52 = i by omega]
  · rw [uv_n e]
    unfold flP
    by_cases h : 52 ≤ j ∧ j < 52 + i
    · rw [if_pos h, if_pos (by omega)]
    · rw [if_neg h, if_neg (by omega)]
theorem flS_o {v F : Nat → Nat} {j : Nat} (h : j < 52 ∨ 52 + v 1 ≤ j) : flS v F j = v j := by
  unfold flS flP
  rw [if_neg (by omega)]
theorem flS_f {v F : Nat → Nat} {p : Nat} (h : p < v 1) : flS v F (52 + p) = F p := by
  unfold flS flP
  rw [if_pos (by omega), show 52 + p - 52 = p by omega]
theorem flS_OK {v F : Nat → Nat} (ho : OK v) (hF : ∀ p, p < v 1 → F p < v 0) : OK (flS v F) := by
  have hb := ho.1
  have e : ∀ j, j < 52 → flS v F j = v j := fun j hj => flS_o (Or.inl hj)
  unfold OK
  rw [e 0 (by decide), e 1 (by decide), e 2 (by decide), e 3 (by decide), e 4 (by decide)]
  refine ⟨hb, fun i hi => ?_, fun p hp => ?_⟩
  · rw [e (10 + i) (by omega), e (20 + i) (by omega), e (30 + i) (by omega)]
    exact ho.2.1 i hi
  · rw [e (40 + p) (by omega), e (44 + p) (by omega), e (48 + p) (by omega), flS_f hp]
    have h1 := ho.2.2 p hp
    exact ⟨h1.1, h1.2.1, h1.2.2.1, h1.2.2.2.1, hF p hp⟩
theorem go_fl {x F : Nat → Nat} {p : Nat} (ho : OK x) (hp : p < x 1) : goS (flS x F) p = flS (stF x p (F p)) F := by
  have hb := ho.1
  have e : ∀ j, j < 52 → flS x F j = x j := fun j hj => flS_o (Or.inl hj)
  have ht : tdS (flS x F) p = tdS x p := by
    unfold tdS
    rw [e 0 (by decide)]
    apply Nat.eq_of_testBit_eq
    intro i
    rw [bitsN_bit, bitsN_bit]
    by_cases hi : i < x 0
    · unfold trS brS nrS
      rw [e 3 (by decide), e 2 (by decide), e (30 + i) (by omega), e (10 + i) (by omega), e (20 + i) (by omega), e (44 + p) (by omega)]
    · simp [hi]
  have hr : rcS (flS x F) p = rcS x p := by
    unfold rcS
    rw [e (48 + p) (by omega), e (40 + p) (by omega)]
  have hph : phS (flS x F) p = pvS (tdS x p) (rcS x p) (F p) := by
    unfold phS
    rw [ht, hr, flS_f hp]
  unfold goS stF
  rw [hph]
  generalize pvS (tdS x p) (rcS x p) (F p) = path
  funext j
  have h1 : wrS x p path 1 = x 1 := wrS_o (by omega) ho
  by_cases hf : 52 ≤ j ∧ j < 52 + x 1
  · have : flS (wrS x p path) F j = F (j - 52) := by
      unfold flS flP
      rw [h1, if_pos hf]
    rw [this]
    unfold wrS
    rw [e 0 (by decide), if_neg (fun q => by omega)]
    unfold flS flP
    rw [if_pos hf]
  · have : flS (wrS x p path) F j = wrS x p path j := by
      unfold flS flP
      rw [h1, if_neg hf]
    rw [this]
    have hj : flS x F j = x j := flS_o (by omega)
    unfold wrS
    rw [e 0 (by decide), e (48 + p) (by omega), hj]
    by_cases hc : 30 ≤ j ∧ j < 30 + x 0
    · rw [e (j - 20) (by omega)]
    · rw [if_neg (fun q => hc ⟨q.1, q.2.1⟩), if_neg (fun q => hc ⟨q.1, q.2.1⟩)]
def xsF (v F : Nat → Nat) : Nat → Nat → Nat
  | 0 => v
  | p + 1 => stF (xsF v F p) p (F p)
theorem xsF_OK {v F : Nat → Nat} (ho : OK v) : ∀ p, OK (xsF v F p) ∧ ∀ j, j < 30 ∨ 40 ≤ j → xsF v F p j = v j
  | 0 => ⟨ho, fun _ _ => rfl⟩
  | p + 1 => by
    obtain ⟨h1, h2⟩ := xsF_OK (F := F) ho p
    exact ⟨stF_OK h1, fun j hj => (stF_o hj h1).trans (h2 j hj)⟩
theorem gS_fl {v F : Nat → Nat} (ho : OK v) : ∀ p, p ≤ v 1 → gS (flS v F) p = flS (xsF v F p) F
  | 0, _ => rfl
  | p + 1, hp => by
    obtain ⟨h1, h2⟩ := xsF_OK (F := F) ho p
    show goS (gS (flS v F) p) p = _
    rw [gS_fl ho p (by omega), go_fl h1 (by rw [h2 1 (by omega)]; omega)]
    rfl
theorem it_xs {v F : Nat → Nat} : ∀ r p, itF r p (xsF v F p) F = xsF v F (p + r)
  | 0, _ => rfl
  | r + 1, p => by
    show itF r (p + 1) (xsF v F (p + 1)) F = _
    rw [it_xs r (p + 1)]
    congr 1
    omega
def asS (v : Nat → Nat) (I M x : Nat → Nat) : Nat → Bool
  | 0 => true
  | k + 1 => asS v I M x k && (x (30 + I k) == v (30 + I k) + M k)
theorem as_iff {v I M x : Nat → Nat} : ∀ s, asS v I M x s = true ↔ ∀ k, k < s → x (30 + I k) = v (30 + I k) + M k
  | 0 => ⟨fun _ k hk => absurd hk (Nat.not_lt_zero _), fun _ => rfl⟩
  | s + 1 => by
    show (asS v I M x s && (x (30 + I s) == v (30 + I s) + M s)) = true ↔ _
    rw [Bool.and_eq_true, as_iff s, beq_iff_eq]
    constructor
    · rintro ⟨a, b⟩ k hk
      by_cases e : k = s
      · subst e; exact b
      · exact a k (by omega)
    · intro h
      exact ⟨fun k hk => h k (by omega), h s (by omega)⟩
theorem as_ft {v I M x : Nat → Nat} {s : Nat} : asS v I M x s = ftS v s I M x := by
  rw [Bool.eq_iff_iff, as_iff, ft_iff]
def SE8 (m : mMem) (s : Nat) (I M : Nat → Nat) : Prop := m.1 81 29 = nI s ∧ ∀ k, k < s → m.1 95 (2 * k) = nI (I k) ∧ m.1 95 (2 * k + 1) = nI (M k)
theorem i160 {p : Nat} : ((160 : Int32) + (3 : Int32) * nI p) + (2 : Int32) = nI (140 + (20 + 3 * p + 2)) := by
  rw [show (3 : Int32) * nI p = nI (3 * p) from nI_mul 3 p, show (160 : Int32) + nI (3 * p) = nI (160 + 3 * p) from nI_add 160 _, show nI (160 + 3 * p) + (2 : Int32) = nI (160 + 3 * p + 2) from nI_add _ 2]
  congr 1
  omega
theorem fX8_isAsSeen_eq {m : mMem} {v : Nat → Nat} {s c : Nat} {I M : Nat → Nat} (h : HO m 0 0 v) (h999 : v 4 ≤ 999) (hc : c ≤ 10000) (hs : s ≤ 6) (hI : ∀ k, k < s → I k < v 0 ∧ M k ≤ 40) (hS : SE8 m s I M) : ∃ m', fX8_isAsSeen (nI c) m = some (some (.int (if ftS v s I M (itF (v 1) 0 v (dgF (v 0) (v 1) c)) then 1 else 0)), m') ∧ FR m m' := by
  have ho := h.2.1
  have hb := ho.1
  obtain ⟨mc, ec, c1, c2, c3⟩ := cp8 (P := 140) h (by decide) (by decide)
  have ec' : fX8_copies (0 : Int32) (140 : Int32) m = some (none, mc) := ec
  have Fc : FR m mc := FR_pg c2 (by decide) c3 (by decide)
  obtain ⟨F, hF⟩ : ∃ F, F = dgF (v 0) (v 1) c := ⟨_, rfl⟩
  rw [← hF]
  have hFl : ∀ p, p < v 1 → F p < v 0 := fun p hp => by
    have := (ho.2.2 p hp).2.2.2.2
    rw [hF]
    exact Nat.mod_lt _ (by omega)
  unfold fX8_isAsSeen
  rw [ec']
  dsimp only [bV]
  refine lp_rel0 (body := bX8_isAsSeen_10 (nI c)) (fun p st => ∃ m', st = (nI p, m') ∧ HM m' 140 (flP v F p) ∧ SM [82] mc m' ∧ PG 140 mc m') (v 1) (fun res => ∃ m', res = some (some (.int (if ftS v s I M (itF (v 1) 0 v F) then 1 else 0)), m') ∧ FR m m') _ (by omega) ⟨mc, rfl, by
    have : flP v F 0 = v := by funext j; unfold flP; rw [if_neg (by omega)]
    rw [this]; exact c1.1, SM.rf, fun _ _ => rfl⟩ (fun st k => ?_) (fun p st hp => ?_)
  · rintro ⟨m', rfl, a1, a2, a3⟩
    have e4 : m'.1 81 4 = nI (v 1) := by rw [(a2 81 (by decide)).1]; exact c1.1.1.2.1
    have H1 : HO m' 140 0 (flS v F) := ⟨a1, flS_OK ho hFl, by decide, by rw [(a2 81 (by decide)).1]; exact c1.2.2.2.1, by decide⟩
    have F1 : FR m m' := Fc.tr (FR_pg a2 (by decide) a3 (by decide))
    obtain ⟨m2, e, b1, b2, b3⟩ := fX8_daysOn_eq (n := 1) H1 (by rw [flS_o (by omega)]; omega)
    have e' : fX8_daysOn (140 : Int32) (1 : Int32) m' = _ := e
    have F2 : FR m m2 := F1.tr (FR_pg b2 (by decide) b3 (by decide))
    have H0 := HO_fr h F2 (by decide)
    obtain ⟨x, hx⟩ : ∃ x, x = itF (v 1) 0 v F := ⟨_, rfl⟩
    have hxs : x = xsF v F (v 1) := by
      have := it_xs (v := v) (F := F) (v 1) 0
      rw [Nat.zero_add] at this
      rw [hx]
      exact this
    have b1' : HO m2 140 0 (dyS (flS v F)) := b1
    have hday0 : dyS (flS v F) 0 = v 0 := by
      rw [dyS_o (by decide), (gS_OK (flS_OK ho hFl) _).2 0 (by omega), flS_o (by omega)]
    have hday : ∀ i, i < v 0 → m2.1 82 (140 + 2 * i + 1) = nI (x (30 + i)) := fun i hi => by
      have := (b1'.1.2.1 i (by rw [hday0]; exact hi)).2.2
      rw [this, dyS_o (by omega), show flS v F 1 = v 1 from flS_o (by omega), gS_fl ho _ (Nat.le_refl _), flS_o (by omega), hxs]
    have hxo := xsF_OK (F := F) ho (v 1)
    have hmono : ∀ i, i < v 0 → v (30 + i) ≤ x (30 + i) ∧ x (30 + i) ≤ 99 := fun i hi => by
      have h1 := itF_w (v 1) 0 v F i ho hi
      rw [← hx] at h1
      have h2 := (hxo.1.2.1 i (by rw [hxo.2 0 (by omega)]; exact hi)).2.2
      rw [← hxs] at h2
      exact ⟨h1.1, h2⟩
    have e29 : m2.1 81 29 = nI s := by rw [F2.1 81 (by decide)]; exact hS.1
    unfold bX8_isAsSeen_10
    dsimp only
    rw [e4, if_pos (nI_le (Nat.le_refl _) (by omega)), e']
    dsimp only [bI]
    rw [← hx]
    refine ⟨m2, ?_, F2⟩
    rw [← as_ft]
    refine lp_0 (fun k => ((if asS v I M x k then (1 : Int32) else 0), nI k, m2)) s _ (by omega) (fun kk => ?_) (fun k hk kk => ?_)
    · unfold bX8_isAsSeen_57
      dsimp only
      rw [e29, if_pos (nI_le (Nat.le_refl _) (by omega))]
      cases asS v I M x s
      · exact gb_0
      · exact gb_1
    · obtain ⟨i1, iM⟩ := hI k hk
      obtain ⟨s1, s2⟩ := hS.2 k hk
      rw [← F2.1 95 (by decide)] at s1 s2
      obtain ⟨w1, w2⟩ := hmono _ i1
      have hw0 : m2.1 82 (2 * I k + 1) = nI (v (30 + I k)) := by
        have := (H0.1.2.1 _ i1).2.2
        rw [Nat.zero_add] at this
        exact this
      have hstep : asS v I M x (k + 1) = (asS v I M x k && (x (30 + I k) == v (30 + I k) + M k)) := rfl
      unfold bX8_isAsSeen_57
      dsimp only [li]
      rw [e29, if_neg (nI_ge hk (by omega)), i2, ga_nI (i := 2 * k) (by omega) (by decide), nI_tn (n := 2 * k) (by omega), s1, i21, show nI k + 1 = nI (k + 1) from nI_1 _, show (140 : Int32) + nI (2 * I k + 1) = nI (140 + 2 * I k + 1) from by rw [show (140 : Int32) + nI (2 * I k + 1) = nI (140 + (2 * I k + 1)) from nI_add 140 _]; congr 1, ga_nI (i := 140 + 2 * I k + 1) (by omega) (by decide), ga_nI (i := 2 * I k + 1) (by omega) (by decide), show nI (2 * k) + (1 : Int32) = nI (2 * k + 1) from nI_1 _, ga_nI (i := 2 * k + 1) (by omega) (by decide), nI_tn (n := 140 + 2 * I k + 1) (by omega), nI_tn (n := 2 * I k + 1) (by omega), nI_tn (n := 2 * k + 1) (by omega), hday _ i1, hw0, s2, nI_sub w1, hstep]
      cases hz : asS v I M x k
      · rw [if_pos (by rfl)]
        rfl
      · rw [if_neg (by decide)]
        by_cases hq : x (30 + I k) = v (30 + I k) + M k
        · rw [if_pos (show nI (x (30 + I k) - v (30 + I k)) = nI (M k) by rw [show x (30 + I k) - v (30 + I k) = M k by omega])]
          simp [hq]
        · rw [if_neg (by rw [nI_eq (by omega) (by omega)]; omega)]
          simp [hq]
  · rintro ⟨m', rfl, a1, a2, a3⟩
    have hv0 : 0 < v 0 := by have := (ho.2.2 p hp).2.2.2.2; omega
    have e4 : m'.1 81 4 = nI (v 1) := by rw [(a2 81 (by decide)).1]; exact c1.1.1.2.1
    have e2 : m'.1 81 2 = nI (v 0) := by rw [(a2 81 (by decide)).1]; exact c1.1.1.1
    have hfo := fX8_floorOf_eq (c := c) hv0 hb.1 hb.2.1 hp hc e2 e4
    have hFp : dgF (v 0) (v 1) c p = F p := by rw [hF]
    rw [hFp] at hfo
    have w0 : flP v F p 0 = v 0 := by unfold flP; rw [if_neg (by omega)]
    have w1 : flP v F p 1 = v 1 := by unfold flP; rw [if_neg (by omega)]
    have hset := HM_set (q := 20 + 3 * p + 2) (j := 52 + p) (x := F p) a1 (by rw [w0]; exact hb.1) (by rw [w1]; exact hb.2.1) (by unfold RM; omega)
    rw [flP_s] at hset
    refine ⟨(nI (p + 1), si m' 82 (140 + (20 + 3 * p + 2)) (nI (F p))), ⟨_, rfl, hset, a2.tr (SM_si (by simp)), fun q hq => by rw [si_ne _ _ (Or.inr (by omega))]; exact a3 q hq⟩, fun k => ?_⟩
    unfold bX8_isAsSeen_10
    dsimp only [li, lt]
    rw [e4, if_neg (nI_ge hp (by omega)), hfo]
    dsimp only [bI]
    rw [i160, ga_nI (by omega) (by decide), nI_tn (by omega), show nI p + 1 = nI (p + 1) from nI_1 _]
theorem fX8_allFloors_eq {m : mMem} {a n : Nat} (hn : n ≤ 4) (h2 : m.1 81 2 = nI a) (h4 : m.1 81 4 = nI n) : fX8_allFloors m = some (some (.int (nI (a ^ n))), m) := by
  unfold fX8_allFloors
  refine lp_0 (fun i => (nI (a ^ i), nI i, m)) n _ (by omega) (fun k => ?_) (fun i hi k => ?_)
  · unfold bX8_allFloors_4
    dsimp only
    rw [h4, if_pos (nI_le (Nat.le_refl _) (by omega))]
  · unfold bX8_allFloors_4
    dsimp only [li]
    rw [h4, if_neg (nI_ge hi (by omega)), h2, nI_mul, show nI i + 1 = nI (i + 1) from nI_1 _]
    rfl
theorem seen_of {m : mMem} {n : Nat} (hn : n ≤ 10) (h : IS m n) : ∃ s I M, s ≤ 6 ∧ (∀ k, k < s → I k < n ∧ M k ≤ 40) ∧ SEs m s I M ∧ SE8 m s I M := by
  obtain ⟨s, h1, h2, h3, h4⟩ := h
  have hk : ∀ k, k < s → (m.1 67 k).toNatClampNeg < n ∧ (m.1 68 k).toNatClampNeg ≤ 40 ∧ m.1 67 k = nI (m.1 67 k).toNatClampNeg ∧ m.1 68 k = nI (m.1 68 k).toNatClampNeg ∧ m.1 95 (2 * k) = nI (m.1 67 k).toNatClampNeg ∧ m.1 95 (2 * k + 1) = nI (m.1 68 k).toNatClampNeg := fun k hk => by
    obtain ⟨i, x, a1, a2, a3, a4, a5, a6⟩ := h4 k hk
    rw [a3, a4, a5, a6, nI_tn (by omega), nI_tn (by omega)]
    exact ⟨a1, a2, rfl, rfl, rfl, rfl⟩
  exact ⟨s, fun k => (m.1 67 k).toNatClampNeg, fun k => (m.1 68 k).toNatClampNeg, h1, fun k h => ⟨(hk k h).1, (hk k h).2.1⟩, ⟨h2, fun k h => ⟨(hk k h).2.2.1, (hk k h).2.2.2.1⟩⟩, ⟨h3, fun k h => ⟨(hk k h).2.2.2.2.1, (hk k h).2.2.2.2.2⟩⟩⟩
theorem ok_fits : okI Inv fX7_fits fX8_fits := by
  rintro m ⟨v, hV⟩
  have ho := hV.1.2.2.1
  have hb := ho.1
  have h999 := hV.1.2.2.2.2.1
  obtain ⟨s, I, M, hs, hI, hS7, hS8⟩ := seen_of hb.1 hV.2.2.1
  obtain ⟨mb, eb, FR1, -⟩ := fX2_search_eq hV.1.1 ho hs hI hS7
  have HB := HO_fr (IV_HO hV) FR1 (by decide)
  generalize hT : ftS v s I M = T at eb
  have hpw : v 0 ^ v 1 ≤ 10000 := Nat.le_trans (Nat.pow_le_pow_left hb.1 _) (Nat.pow_le_pow_right (by decide) hb.2.1 : 10 ^ v 1 ≤ 10 ^ 4)
  have hle : ∀ c, smN (fun c => if T (itF (v 1) 0 v (dgF (v 0) (v 1) c)) then 1 else 0) c ≤ c := fun c => smN_ite_le _ c
  have L8 : ∃ md, lp bX8_fits_4 FU ((0 : Int32), (0 : Int32), mb) = some (some (.int (nI (cnF T (v 0) (v 1) (v 1) 0 v))), md) ∧ FR mb md := by
    refine lp_rel0 (body := bX8_fits_4) (fun c st => ∃ m', st = (nI (smN (fun c => if T (itF (v 1) 0 v (dgF (v 0) (v 1) c)) then 1 else 0) c), nI c, m') ∧ FR mb m') (v 0 ^ v 1) (fun r => ∃ md, r = some (some (.int (nI (cnF T (v 0) (v 1) (v 1) 0 v))), md) ∧ FR mb md) _ (by omega) ⟨mb, rfl, FR.rf⟩ (fun st k => ?_) (fun c st hc => ?_)
    · rintro ⟨m', rfl, a1⟩
      have H := HO_fr HB a1 (by decide)
      unfold bX8_fits_4
      dsimp only
      rw [fX8_allFloors_eq hb.2.1 H.1.1.1 H.1.1.2.1]
      dsimp only [bI]
      rw [if_pos (nI_le (Nat.le_refl _) (by omega))]
      exact ⟨m', rfl, a1⟩
    · rintro ⟨m', rfl, a1⟩
      have H := HO_fr HB a1 (by decide)
      have F0 : FR m m' := FR1.tr a1
      obtain ⟨m2, e, b1⟩ := fX8_isAsSeen_eq (c := c) H h999 (by omega) hs hI ⟨by rw [F0.1 81 (by decide)]; exact hS8.1, fun k hk => by rw [F0.1 95 (by decide)]; exact hS8.2 k hk⟩
      rw [hT] at e
      have hst : smN (fun c => if T (itF (v 1) 0 v (dgF (v 0) (v 1) c)) then 1 else 0) (c + 1) = smN (fun c => if T (itF (v 1) 0 v (dgF (v 0) (v 1) c)) then 1 else 0) c + (if T (itF (v 1) 0 v (dgF (v 0) (v 1) c)) then 1 else 0) := rfl
      refine ⟨(nI (smN (fun c => if T (itF (v 1) 0 v (dgF (v 0) (v 1) c)) then 1 else 0) (c + 1)), nI (c + 1), m2), ⟨m2, rfl, a1.tr b1⟩, fun k => ?_⟩
      unfold bX8_fits_4
      dsimp only
      rw [fX8_allFloors_eq hb.2.1 H.1.1.1 H.1.1.2.1]
      dsimp only [bI]
      rw [if_neg (nI_ge hc (by omega)), e, hst]
      dsimp only [li]
      cases hz : T (itF (v 1) 0 v (dgF (v 0) (v 1) c))
      · rw [if_pos (show (if false = true then (1 : Int32) else 0) = 0 from rfl), show nI c + 1 = nI (c + 1) from nI_1 _, show ∀ z, nI z + (0 : Int32) = nI (z + 0) from fun z => nI_add z 0]
        rfl
      · rw [if_neg (by decide), show nI c + 1 = nI (c + 1) from nI_1 _, show ∀ z, nI z + (1 : Int32) = nI (z + 1) from fun z => nI_1 z]
        rfl
  obtain ⟨md, l8, fr8⟩ := L8
  refine ⟨nI (cnF T (v 0) (v 1) (v 1) 0 v), mb, md, ?_, ?_, ⟨v, IV_FR hV (FR1.tr fr8)⟩⟩
  · unfold fX7_fits
    rw [eb]
    rfl
  · unfold fX8_fits
    exact l8
theorem ok_floors (u0 : Int32) : okI Inv (fX7_floors u0) (fX8_floors u0) := by
  rintro m ⟨v, hV⟩
  have ho := hV.1.2.2.1
  have hb := ho.1
  have c0 := IV_c hV
  have d0 := IV_m hV
  have h999 := hV.1.2.2.2.2.1
  rcases lodger_cases hb.2.1 u0 with ⟨p, hp, rfl, e7, e8⟩ | ⟨e7, e8⟩
  · obtain ⟨s, I, M, hs, hI, hS7, hS8⟩ := seen_of hb.1 hV.2.2.1
    obtain ⟨mb, eb, FR1, hbits⟩ := fX2_search_eq hV.1.1 ho hs hI hS7
    have HB := HO_fr (IV_HO hV) FR1 (by decide)
    have hv0 : 0 < v 0 := by have := (ho.2.2 p hp).2.2.2.2; omega
    generalize hT : ftS v s I M = T at eb hbits
    have hpw : v 0 ^ v 1 ≤ 10000 := Nat.le_trans (Nat.pow_le_pow_left hb.1 _) (Nat.pow_le_pow_right (by decide) hb.2.1 : 10 ^ v 1 ≤ 10 ^ 4)
    have L8 : ∃ md, lp (bX8_floors_14 (nI p)) FU ((0 : Int32), (0 : Int32), mb) = some (some (.int (nI (foF T (v 0) (v 1) (v 1) 0 v p))), md) ∧ FR mb md := by
      refine lp_rel0 (body := bX8_floors_14 (nI p)) (fun c st => ∃ m', st = (nI (smO (fun c => if T (itF (v 1) 0 v (dgF (v 0) (v 1) c)) then 2 ^ dgF (v 0) (v 1) c p else 0) c), nI c, m') ∧ FR mb m') (v 0 ^ v 1) (fun r => ∃ md, r = some (some (.int (nI (foF T (v 0) (v 1) (v 1) 0 v p))), md) ∧ FR mb md) _ (by omega) ⟨mb, rfl, FR.rf⟩ (fun st k => ?_) (fun c st hc => ?_)
      · rintro ⟨m', rfl, a1⟩
        have H := HO_fr HB a1 (by decide)
        unfold bX8_floors_14
        dsimp only
        rw [fX8_allFloors_eq hb.2.1 H.1.1.1 H.1.1.2.1]
        dsimp only [bI]
        rw [if_pos (nI_le (Nat.le_refl _) (by omega))]
        exact ⟨m', rfl, a1⟩
      · rintro ⟨m', rfl, a1⟩
        have H := HO_fr HB a1 (by decide)
        have F0 : FR m m' := FR1.tr a1
        obtain ⟨m2, e, b1⟩ := fX8_isAsSeen_eq (c := c) H h999 (by omega) hs hI ⟨by rw [F0.1 81 (by decide)]; exact hS8.1, fun k hk => by rw [F0.1 95 (by decide)]; exact hS8.2 k hk⟩
        rw [hT] at e
        have H2 := HO_fr H b1 (by decide)
        have hfo := fX8_floorOf_eq (m := m2) (c := c) (p := p) hv0 hb.1 hb.2.1 hp (by omega) H2.1.1.1 H2.1.1.2.1
        have hdl : dgF (v 0) (v 1) c p < v 0 := Nat.mod_lt _ hv0
        have hst : smO (fun c => if T (itF (v 1) 0 v (dgF (v 0) (v 1) c)) then 2 ^ dgF (v 0) (v 1) c p else 0) (c + 1) = smO (fun c => if T (itF (v 1) 0 v (dgF (v 0) (v 1) c)) then 2 ^ dgF (v 0) (v 1) c p else 0) c ||| (if T (itF (v 1) 0 v (dgF (v 0) (v 1) c)) then 2 ^ dgF (v 0) (v 1) c p else 0) := rfl
        refine ⟨(nI (smO (fun c => if T (itF (v 1) 0 v (dgF (v 0) (v 1) c)) then 2 ^ dgF (v 0) (v 1) c p else 0) (c + 1)), nI (c + 1), m2), ⟨m2, rfl, a1.tr b1⟩, fun k => ?_⟩
        unfold bX8_floors_14
        dsimp only
        rw [fX8_allFloors_eq hb.2.1 H.1.1.1 H.1.1.2.1]
        dsimp only [bI]
        rw [if_neg (nI_ge hc (by omega)), e, hst]
        dsimp only [li]
        rw [hfo]
        dsimp only
        rw [nI_shl1 _ (by omega), nI_or, show nI c + 1 = nI (c + 1) from nI_1 _]
        cases hz : T (itF (v 1) 0 v (dgF (v 0) (v 1) c))
        · rw [if_pos (show (if false = true then (1 : Int32) else 0) = 0 from rfl), show ∀ z, nI z ||| (0 : Int32) = nI (z ||| 0) from fun z => nI_or z 0]
          rfl
        · rw [if_neg (by decide)]
          rfl
    obtain ⟨md, l8, fr8⟩ := L8
    refine ⟨nI (foF T (v 0) (v 1) (v 1) 0 v p), mb, md, ?_, ?_, ⟨v, IV_FR hV (FR1.tr fr8)⟩⟩
    · unfold fX7_floors
      rw [e7 m c0.1.2.1]
      dsimp only [bI]
      rw [if_neg (by decide), eb]
      dsimp only
      rw [ga_nI (by omega) (by decide), nI_tn (by omega), hbits p hp]
    · unfold fX8_floors
      rw [e8 mb (by rw [FR1.1 81 (by decide)]; exact d0.1.2.1)]
      dsimp only [bI]
      rw [if_neg (by decide)]
      exact l8
  · refine ⟨-1, m, m, ?_, ?_, ⟨v, hV⟩⟩
    · unfold fX7_floors
      rw [e7 m c0.1.2.1]
      rfl
    · unfold fX8_floors
      rw [e8 m d0.1.2.1]
      rfl
