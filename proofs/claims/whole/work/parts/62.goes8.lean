/-! PURE FACTS: the reference goes -/
def uv (u : Nat → Nat) (j x : Nat) : Nat → Nat := fun q => if q = j then x else u q
theorem uv_s (u : Nat → Nat) (j x : Nat) : uv u j x j = x := if_pos rfl
theorem uv_n {u : Nat → Nat} {j x q : Nat} (h : q ≠ j) : uv u j x q = u q := if_neg h
theorem HM_wear {m : mMem} {P i x : Nat} {u : Nat → Nat} (h : HM m P u) (h0 : u 0 ≤ 10) (h1 : u 1 ≤ 4) (hi : i < u 0) : HM (si m 82 (P + 2 * i + 1) (nI x)) P (uv u (30 + i) x) := by
  have c : ∀ z, z ≠ 82 → (si m 82 (P + 2 * i + 1) (nI x)).1 z = m.1 z := fun z hz => (si_o m 82 _ _ z hz).1
  have e : ∀ q, q ≠ 30 + i → uv u (30 + i) x q = u q := fun q hq => uv_n hq
  unfold HM
  rw [c 81 (by decide), c 83 (by decide), c 84 (by decide), e 0 (by omega), e 1 (by omega), e 2 (by omega), e 3 (by omega), e 4 (by omega)]
  refine ⟨⟨h.1.1, h.1.2.1, ?_, ?_, ?_⟩, fun k hk => ⟨?_, ?_, ?_⟩, fun p hp => ⟨?_, ?_, ?_, ?_⟩⟩
  · rw [si_ne _ _ (Or.inr (by omega))]; exact h.1.2.2.1
  · rw [si_ne _ _ (Or.inr (by omega))]; exact h.1.2.2.2.1
  · rw [si_ne _ _ (Or.inr (by omega))]; exact h.1.2.2.2.2
  · rw [e (10 + k) (by omega)]; exact (h.2.1 k hk).1
  · rw [e (20 + k) (by omega), si_ne _ _ (Or.inr (by omega))]; exact (h.2.1 k hk).2.1
  · by_cases hz : k = i
    · subst hz
      rw [si_same, uv_s]
    · rw [e (30 + k) (by omega), si_ne _ _ (Or.inr (by omega))]; exact (h.2.1 k hk).2.2
  · rw [e (40 + p) (by omega)]; exact (h.2.2 p hp).1
  · rw [e (44 + p) (by omega), si_ne _ _ (Or.inr (by omega))]; exact (h.2.2 p hp).2.1
  · rw [e (48 + p) (by omega), si_ne _ _ (Or.inr (by omega))]; exact (h.2.2 p hp).2.2.1
  · rw [e (52 + p) (by omega), si_ne _ _ (Or.inr (by omega))]; exact (h.2.2 p hp).2.2.2
/-- the house behind a way over the places of S -/
def wrG (v : Nat → Nat) (p : Nat) (S : List Nat) : Nat → Nat := fun j => if 30 ≤ j ∧ j < 30 + v 0 ∧ (j - 30) ∈ S ∧ v (j - 20) ≠ 3 then wrN (v (j - 20)) (v j) (if 5 ≤ v (48 + p) then 1 else 0) else v j
theorem wrG_o {v : Nat → Nat} {p j : Nat} {S : List Nat} (h : j < 30 ∨ 40 ≤ j) (ho : OK v) : wrG v p S j = v j := by
  have hb := ho.1
  unfold wrG
  rw [if_neg]
  rintro ⟨h1, h2, -⟩
  omega
theorem wrG_w {v : Nat → Nat} {p i : Nat} {S : List Nat} (hi : i < v 0) : wrG v p S (30 + i) = if i ∈ S ∧ v (10 + i) ≠ 3 then wrN (v (10 + i)) (v (30 + i)) (if 5 ≤ v (48 + p) then 1 else 0) else v (30 + i) := by
  unfold wrG
  rw [show 30 + i - 30 = i by omega, show 30 + i - 20 = 10 + i by omega]
  by_cases h : i ∈ S ∧ v (10 + i) ≠ 3
  · rw [if_pos h, if_pos ⟨by omega, by omega, h.1, h.2⟩]
  · rw [if_neg h, if_neg (fun q => h ⟨q.2.2.1, q.2.2.2⟩)]
theorem wrG_eq {v : Nat → Nat} {p path : Nat} {G : List Nat} (h : ∀ i, path.testBit i = decide (i ∈ G)) : wrG v p G = wrS v p path := by
  funext j
  unfold wrG wrS
  simp only [h (j - 30), decide_eq_true_eq]
theorem wrG_nil {v : Nat → Nat} {p : Nat} : wrG v p [] = v := by
  funext j
  unfold wrG
  simp
theorem wrG_step {v : Nat → Nat} {p i x : Nat} {S : List Nat} (hi : i < v 0) (hx : x = if v (10 + i) = 3 then v (30 + i) else wrN (v (10 + i)) (v (30 + i)) (if 5 ≤ v (48 + p) then 1 else 0)) : wrG v p (S ++ [i]) = uv (wrG v p S) (30 + i) x := by
  funext j
  by_cases hj : j = 30 + i
  · subst hj
    rw [uv_s, wrG_w hi, hx]
    by_cases h3 : v (10 + i) = 3
    · rw [if_neg (fun q => q.2 h3), if_pos h3]
    · rw [if_pos ⟨by simp, h3⟩, if_neg h3]
  · rw [uv_n hj]
    unfold wrG
    by_cases hc : 30 ≤ j
    · have e : (j - 30 ∈ S ++ [i]) ↔ j - 30 ∈ S := by
        rw [List.mem_append, List.mem_singleton]
        constructor
        · rintro (h | h)
          · exact h
          · omega
        · exact Or.inl
      simp only [e]
    · rw [if_neg (fun q => hc q.1), if_neg (fun q => hc q.1)]
theorem wrG_OK {v : Nat → Nat} {p : Nat} {S : List Nat} (ho : OK v) : OK (wrG v p S) := by
  have hb := ho.1
  have e : ∀ j, j < 30 ∨ 40 ≤ j → wrG v p S j = v j := fun j hj => wrG_o hj ho
  unfold OK
  rw [e 0 (by omega), e 1 (by omega), e 2 (by omega), e 3 (by omega), e 4 (by omega)]
  refine ⟨hb, fun i hi => ?_, fun q hq => ?_⟩
  · have h := ho.2.1 i hi
    rw [e (10 + i) (by omega), e (20 + i) (by omega), wrG_w hi]
    refine ⟨h.1, h.2.1, ?_⟩
    split
    · exact Nat.min_le_right _ _
    · exact h.2.2
  · rw [e (40 + q) (by omega), e (44 + q) (by omega), e (48 + q) (by omega), e (52 + q) (by omega)]
    exact ho.2.2 q hq
theorem more_eq : ∀ k, k ≤ 2 → ∀ w, w ≤ 99 → ∀ x, x ≤ 1 → (if nI w + (((2 : Int32) - nI k) + nI x) ≤ 99 then nI w + (((2 : Int32) - nI k) + nI x) else 99) = nI (wrN k w x) := by decide +kernel
/-- the page P of the state alone may have changed -/
def PG (P : Nat) (m m' : mMem) : Prop := ∀ q, q < P ∨ P + 35 ≤ q → m'.1 82 q = m.1 82 q
theorem PG.rf {P : Nat} {m : mMem} : PG P m m := fun _ _ => rfl
theorem PG.tr {P : Nat} {m1 m2 m3 : mMem} (h1 : PG P m1 m2) (h2 : PG P m2 m3) : PG P m1 m3 := fun q hq => (h2 q hq).trans (h1 q hq)
theorem PG_sm {P : Nat} {C : List Nat} {m m' : mMem} (h : SM C m m') (hc : 82 ∉ C) : PG P m m' := fun q _ => by rw [(h 82 hc).1]
theorem fX8_goes_eq {m0 : mMem} {P p : Nat} {v : Nat → Nat} (h0 : HO m0 P 0 v) (hp : p < v 1) : ∃ m', fX8_goes (nI P) (nI p) m0 = some (some (.int (if phS v p = 0 then 0 else 1)), m') ∧ HO m' P 0 (goS v p) ∧ SM [82, 91, 92] m0 m' ∧ PG P m0 m' := by
  have ho := h0.2.1
  have hb := ho.1
  have hP := h0.2.2.1
  have hq := ho.2.2 p hp
  obtain ⟨m1, e, h1, h2⟩ := fX8_climbOn_eq h0 hp
  have H1 : HO m1 P 0 v := HO_sm h0 h1 (by decide)
  unfold fX8_goes
  rw [e]
  dsimp only [bI]
  rw [phO_0] at h2 ⊢
  by_cases hz : phS v p = 0
  · refine ⟨m1, ?_, ?_, h1.mono (by simp), PG_sm h1 (by decide)⟩
    · rw [if_pos hz, if_pos hz, lp_one]
      unfold bX8_goes_10
      dsimp only
      rw [if_pos (by decide), if_pos rfl]
    · have : goS v p = v := by
        funext j
        unfold goS wrS
        rw [hz]
        simp
      rw [this]
      exact H1
  · obtain ⟨G, g1, g2, g3, g4, g5, -⟩ := h2 hz
    have hG10 : G.length ≤ 10 := by rw [g1]; exact popc_le _
    rw [if_neg hz, if_neg hz, ← g1]
    have key := lp_rel0 (body := bX8_goes_10 (nI P) (nI p) (nI G.length)) (fun k s => ∃ m', s = (nI k, m') ∧ HM m' P (wrG v p (G.take k)) ∧ m'.1 81 5 = nI 0 ∧ SM [82] m1 m' ∧ PG P m1 m') G.length (fun res => ∃ m', res = some (some (.int 1), m') ∧ HM m' P (wrG v p G) ∧ m'.1 81 5 = nI 0 ∧ SM [82] m1 m' ∧ PG P m1 m') (nI 0, m1) (by omega) ⟨m1, rfl, by rw [List.take_zero, wrG_nil]; exact H1.1, H1.2.2.2.1, SM.rf, PG.rf⟩ (fun s k => ?_) (fun k s hk => ?_)
    · obtain ⟨m', e1, e2, e3, e4, e5⟩ := key
      have hgo : goS v p = wrG v p G := (wrG_eq g2).symm
      refine ⟨m', e1, ⟨by rw [hgo]; exact e2, by rw [goS]; exact wrS_OK ho, hP, e3, by decide⟩, (h1.mono (by simp)).tr (e4.mono (by simp)), (PG_sm h1 (by decide)).tr e5⟩
    · rintro ⟨m', rfl, a1, a2, a3, a4⟩
      unfold bX8_goes_10
      dsimp only
      rw [List.take_length] at a1
      rw [if_pos (nI_le (Nat.le_refl _) (by omega)), if_neg (fun q => by
        have : (nI G.length).toInt = (-4 : Int32).toInt := congrArg Int32.toInt q
        rw [nI_toInt (by omega)] at this
        have h4 : (-4 : Int32).toInt = -4 := by decide
        rw [h4] at this
        omega)]
      exact ⟨m', rfl, a1, a2, a3, a4⟩
    · rintro ⟨m', rfl, a1, a2, a3, a4⟩
      have hmem : G.getD k 0 ∈ G := by rw [gd_at hk]; exact List.getElem_mem hk
      have hgk := g4 _ hmem
      have hgv : G.getD k 0 < v 0 := by omega
      have hc := ho.2.1 _ hgv
      have e92 : m'.1 92 k = nI (G.getD k 0) := by rw [(a3 92 (by decide)).1]; exact g3 k hk
      have e83 : m'.1 83 (G.getD k 0) = nI (v (10 + G.getD k 0)) := by rw [(a3 83 (by decide)).1]; exact (H1.1.2.1 _ hgv).1
      have u0 : wrG v p (G.take k) 0 = v 0 := wrG_o (by omega) ho
      have u1 : wrG v p (G.take k) 1 = v 1 := wrG_o (by omega) ho
      have hnot : G.getD k 0 ∉ G.take k := fun q => by
        have hd : G = G.take k ++ G.drop k := (List.take_append_drop k G).symm
        rw [hd] at g5
        have hdis := (List.nodup_append.mp g5).2.2
        have hin : G.getD k 0 ∈ G.drop k := by
          rw [List.drop_eq_getElem_cons hk, gd_at hk]
          exact List.mem_cons_self
        first
        | exact hdis _ q _ hin rfl
        | exact hdis q hin
      have hw : wrG v p (G.take k) (30 + G.getD k 0) = v (30 + G.getD k 0) := by rw [wrG_w hgv, if_neg (fun q => hnot q.1)]
      have eW : m'.1 82 (P + 2 * G.getD k 0 + 1) = nI (v (30 + G.getD k 0)) := by
        have := (a1.2.1 (G.getD k 0) (by rw [u0]; exact hgv)).2.2
        rw [hw] at this
        exact this
      have hload := fX8_isLoaded_eq (m := m') (P := P) (o := 0) (v := wrG v p (G.take k)) (p := p) ⟨a1, wrG_OK ho, hP, a2, by decide⟩ (by rw [u1]; exact hp)
      rw [wrG_o (j := 48 + p) (by omega) ho] at hload
      generalize hg : G.getD k 0 = g at *
      obtain ⟨x, hx⟩ : ∃ x, x = if v (10 + g) = 3 then v (30 + g) else wrN (v (10 + g)) (v (30 + g)) (if 5 ≤ v (48 + p) then 1 else 0) := ⟨_, rfl⟩
      have htake : G.take (k + 1) = G.take k ++ [g] := by rw [List.take_succ_eq_append_getElem hk, ← hg, gd_at hk]
      refine ⟨(nI (k + 1), si m' 82 (P + 2 * g + 1) (nI x)), ⟨_, rfl, ?_, ?_, a3.tr (SM_si (by simp)), fun q hq => ?_⟩, fun kk => ?_⟩
      · rw [htake, wrG_step hgv hx]
        exact HM_wear a1 (by rw [u0]; exact hb.1) (by rw [u1]; exact hb.2.1) (by rw [u0]; exact hgv)
      · rw [si_ne _ _ (Or.inl (by decide))]
        exact a2
      · rw [si_ne _ _ (Or.inr (by omega))]
        exact a4 q hq
      · unfold bX8_goes_10 jX8_goes_73 jX8_goes_74
        dsimp only [li, lt]
        have hidx : (nI P + (2 : Int32) * nI g) + (1 : Int32) = nI (P + 2 * g + 1) := by rw [P_idx]; exact nI_1 _
        rw [if_neg (nI_ge hk (by omega)), ga_nI (by omega) (by decide), ga_nI (by omega) (by decide), nI_tn (by omega), e92, hidx, ga_nI (by omega) (by decide), nI_tn (by omega), e83, hload]
        dsimp only [bI]
        simp only [ga_nI (show P + 2 * g + 1 < 210 by omega) (show (210 : Nat) < 2 ^ 31 by decide), nI_tn (show P + 2 * g + 1 < 2 ^ 31 by omega), eW, show nI k + 1 = nI (k + 1) from nI_1 _]
        by_cases h3 : v (10 + g) = 3
        · rw [if_pos h3] at hx
          rw [if_pos (by rw [h3]; rfl), Int32.add_zero, if_pos (show nI (v (30 + g)) ≤ (99 : Int32) from nI_le (b := 99) hc.2.2 (by decide)), hx]
        · rw [if_neg h3] at hx
          rw [if_neg (by rw [show (3 : Int32) = nI 3 from rfl, nI_eq (by omega) (by decide)]; exact h3)]
          by_cases h5 : 5 ≤ v (48 + p)
          · rw [if_pos h5] at hx
            rw [if_pos h5, if_neg (by decide), hx, ← more_eq _ (by omega) _ hc.2.2 1 (by decide)]
            show (if nI (v (30 + g)) + (((2 : Int32) - nI (v (10 + g))) + nI 1) ≤ 99 then _ else _) = _
            split <;> rfl
          · rw [if_neg h5] at hx
            rw [if_neg h5, if_pos rfl, hx, ← more_eq _ (by omega) _ hc.2.2 0 (by decide)]
            show (if nI (v (30 + g)) + (((2 : Int32) - nI (v (10 + g))) + nI 0) ≤ 99 then _ else _) = _
            split <;> rfl
