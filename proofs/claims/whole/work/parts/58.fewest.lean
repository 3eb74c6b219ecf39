/-! PURE FACTS: the reference's shortest climb -/
/-- the steps that a lodger may tread, o out -/
def toS (v : Nat → Nat) (o p : Nat) : Nat := bitsN (trS v o p) (v 0)
theorem toS_bit {v : Nat → Nat} {o p i : Nat} (hi : i < v 0) : (toS v o p).testBit i = trS v o p i := by
  unfold toS
  rw [bitsN_bit]
  simp [hi]
theorem mnF_at (t : Nat) : ∀ (r pos : Nat) (L : List Nat) (b : Nat), mnF t r pos L b = mnF t (min r L.length) pos L b
  | 0, _, _, _ => by simp
  | r + 1, pos, [], b => by
    simp
    cases r <;> rfl
  | r + 1, pos, x :: L, b => by
    have e : min (r + 1) (x :: L).length = min r L.length + 1 := by simp
    rw [e]
    show mnF t r (pos + 1) L _ = mnF t (min r L.length) (pos + 1) L _
    exact mnF_at t r (pos + 1) L _
/-- one more place -/
theorem mnF_snoc (t : Nat) : ∀ (k pos : Nat) (L : List Nat) (b : Nat), k < L.length → mnF t (k + 1) pos L b = (if (if t.testBit (pos + k) then 1 + L.getD k 0 else 100) < mnF t k pos L b then (if t.testBit (pos + k) then 1 + L.getD k 0 else 100) else mnF t k pos L b)
  | 0, pos, x :: L, b, _ => rfl
  | k + 1, pos, x :: L, b, h => by
    have ih := mnF_snoc t k (pos + 1) L (if (if t.testBit pos then 1 + x else 100) < b then (if t.testBit pos then 1 + x else 100) else b) (by simpa using h)
    rw [show pos + 1 + k = pos + (k + 1) by omega] at ih
    exact ih
  | _, _, [], _, h => absurd h (Nat.not_lt_zero _)
theorem mnF_le (t : Nat) : ∀ (r pos : Nat) (L : List Nat) (b : Nat), mnF t r pos L b ≤ b
  | 0, _, _, _ => Nat.le_refl _
  | _ + 1, _, [], _ => Nat.le_refl _
  | r + 1, pos, x :: L, b => by
    show mnF t r (pos + 1) L (if (if t.testBit pos then 1 + x else 100) < b then (if t.testBit pos then 1 + x else 100) else b) ≤ b
    refine Nat.le_trans (mnF_le t r (pos + 1) L _) ?_
    generalize (if t.testBit pos then 1 + x else 100) = n
    split <;> omega
theorem fwL_le (t r top : Nat) : ∀ j, ∀ x ∈ fwL t r top j, x ≤ 100
  | 0, x, hx => by
    rcases List.mem_cons.mp hx with rfl | h
    · decide
    · cases h
  | j + 1, x, hx => by
    rcases List.mem_cons.mp hx with rfl | h
    · exact mnF_le _ _ _ _ _
    · exact fwL_le t r top j x h
theorem fw_getD (t r top j k : Nat) : (fwL t r top j).getD k 0 ≤ 100 := by
  by_cases hk : k < (fwL t r top j).length
  · rw [gd_at hk]
    exact fwL_le t r top j _ (List.getElem_mem hk)
  · rw [gd_out (by omega)]
    decide
/-- fewest[at] for at = top + 1 - j .. top + 1 -/
def FW (m : mMem) (top : Nat) (L : List Nat) : Prop := ∀ k, k < L.length → m.1 91 (top + 2 - L.length + k) = nI (L.getD k 0)
theorem HO_sm {m m' : mMem} {P o : Nat} {v : Nat → Nat} {C : List Nat} (h : HO m P o v) (hs : SM C m m') (hc : 81 ∉ C ∧ 82 ∉ C ∧ 83 ∉ C ∧ 84 ∉ C) : HO m' P o v := by
  unfold HO HM
  rw [(hs 81 hc.1).1, (hs 82 hc.2.1).1, (hs 83 hc.2.2.1).1, (hs 84 hc.2.2.2).1]
  exact h
theorem sub1 {a : Nat} : nI (a + 1) - 1 = nI a := nI_pred a
theorem lay_in {m0 : mMem} {P o p : Nat} {v : Nat → Nat} (h0 : HO m0 P o v) (hp : p < v 1) (j : Nat) (hj : j < v (52 + p) + 1) (m : mMem) (hs : SM [91] m0 m) (hf : FW m (v (52 + p)) (fwL (toS v o p) (rcS v p) (v (52 + p)) j)) (h100 : m.1 91 (v (52 + p) - j) = nI 100) :
    ∃ m', (∀ k29, lp (bX8_layFewest_61 k29 (nI P) (nI p) (nI (v (52 + p))) (nI (rcS v p)) (nI (v (52 + p) - j))) FU (nI (v (52 + p) - j + 1), m) = k29 (nI (v (52 + p) - j) + (-1 : Int32), m')) ∧ SM [91] m0 m' ∧ FW m' (v (52 + p)) (fwL (toS v o p) (rcS v p) (v (52 + p)) (j + 1)) := by
  have ho := h0.2.1
  have hb := ho.1
  have hq := ho.2.2 p hp
  have hr := rcS_b ho hp
  have hlen := fwL_len (toS v o p) (rcS v p) (v (52 + p)) j
  generalize hL : fwL (toS v o p) (rcS v p) (v (52 + p)) j = L at hf hlen
  have hL100 : ∀ k, L.getD k 0 ≤ 100 := fun k => by rw [← hL]; exact fw_getD _ _ _ _ _
  have hL1 : fwL (toS v o p) (rcS v p) (v (52 + p)) (j + 1) = mnF (toS v o p) (rcS v p) (v (52 + p) - j) L 100 :: L := by rw [← hL]; rfl
  generalize ht : v (52 + p) = top at *
  generalize hat : top - j = a at *
  generalize hR : rcS v p = r at *
  have hja : a + j = top := by omega
  have hstep0 : ∀ K, K = min r (j + 1) → ∃ u : Int32 × mMem, (∃ m', u = (nI a + (-1 : Int32), m') ∧ SM [91] m0 m' ∧ FW m' top (mnF (toS v o p) r a L 100 :: L)) ∧ ∀ k29, lp (bX8_layFewest_61 k29 (nI P) (nI p) (nI top) (nI r) (nI a)) FU (nI (a + 1), m) = k29 u := by
    intro K hK
    refine lp_relK0 (body := fun k29 => bX8_layFewest_61 k29 (nI P) (nI p) (nI top) (nI r) (nI a)) (fun k s => ∃ m', s = (nI (a + 1 + k), m') ∧ SM [91] m0 m' ∧ FW m' top L ∧ m'.1 91 a = nI (mnF (toS v o p) k a L 100)) K (fun u => ∃ m', u = (nI a + (-1 : Int32), m') ∧ SM [91] m0 m' ∧ FW m' top (mnF (toS v o p) r a L 100 :: L)) (nI (a + 1), m) (by omega) ⟨m, rfl, hs, hf, h100⟩ (fun s => ?_) (fun k s hk => ?_)
    · rintro ⟨m', rfl, h1, h2, h3⟩
      have hfin : FW m' top (mnF (toS v o p) r a L 100 :: L) := fun k hk => by
        simp only [List.length_cons] at hk ⊢
        cases k with
        | zero =>
          rw [show top + 2 - (L.length + 1) + 0 = a by omega, h3]
          show nI _ = nI (mnF (toS v o p) r a L 100)
          rw [mnF_at _ r, hlen, ← hK]
        | succ k =>
          have := h2 k (by omega)
          rw [show top + 2 - (L.length + 1) + (k + 1) = top + 2 - L.length + k by omega, this]
          rfl
      refine ⟨_, ⟨m', rfl, h1, hfin⟩, fun ko k => ?_⟩
      unfold bX8_layFewest_61
      dsimp only [li]
      rw [nI_add, show nI top + 1 = nI (top + 1) from nI_1 _]
      by_cases hz : r ≤ K
      · rw [if_pos (nI_lt (by omega) (by omega))]
      · rw [if_neg (nI_nlt (by omega) (by omega)), if_pos (nI_lt (by omega) (by omega))]
    · rintro ⟨m', rfl, h1, h2, h3⟩
      have hv0 : a + k < v 0 := by omega
      have hmt := fX8_mayTread_eq (HO_sm h0 h1 (by decide)) hp hv0
      have hto : m'.1 91 (a + 1 + k) = nI (L.getD k 0) := by
        have := h2 k (by omega)
        rw [show top + 2 - L.length + k = a + 1 + k by omega] at this
        exact this
      have hmn : mnF (toS v o p) k a L 100 ≤ 100 := mnF_le _ _ _ _ _
      have hLk := hL100 k
      have hsn := mnF_snoc (toS v o p) k a L 100 (by omega)
      rw [toS_bit hv0] at hsn
      refine ⟨(nI (a + 1 + (k + 1)), si m' 91 a (nI (mnF (toS v o p) (k + 1) a L 100))), ⟨_, rfl, h1.tr (SM_si (by simp)), fun i hi => ?_, si_same _ _ _ _⟩, fun ko kk => ?_⟩
      · rw [si_ne _ _ (Or.inr (by omega))]
        exact h2 i hi
      · unfold bX8_layFewest_61 jX8_layFewest_106
        dsimp only [li, lt]
        rw [nI_add, show nI top + 1 = nI (top + 1) from nI_1 _, if_neg (nI_nlt (by omega) (by omega)), if_neg (nI_nlt (by omega) (by omega)), show a + 1 + k = a + k + 1 by omega, sub1, hmt]
        dsimp only [bI]
        rw [show a + k + 1 = a + 1 + k by omega, ga_nI (i := a + 1 + k) (by omega) (by decide), nI_tn (n := a + 1 + k) (by omega), hto]
        rw [show nI (a + 1 + k) + 1 = nI (a + 1 + (k + 1)) from nI_1 _]
        simp only [ga_nI (show a < 11 by omega) (show (11 : Nat) < 2 ^ 31 by decide), nI_tn (show a < 2 ^ 31 by omega)]
        rw [h3, show (100 : Int32) = nI 100 from rfl, show (1 : Int32) + nI (L.getD k 0) = nI (1 + L.getD k 0) from nI_add 1 _]
        cases htr : trS v o p (a + k)
        · rw [htr] at hsn
          rw [if_pos (show (if false = true then (1 : Int32) else 0) = 0 from rfl), if_pos (nI_le hmn (by omega)), hsn]
          rw [if_neg (show ¬ (if false = true then 1 + L.getD k 0 else 100) < mnF (toS v o p) k a L 100 from by show ¬ 100 < _; omega)]
        · rw [htr] at hsn
          rw [if_neg (show ¬ (if true = true then (1 : Int32) else 0) = 0 from by decide), hsn]
          by_cases hz : 1 + L.getD k 0 < mnF (toS v o p) k a L 100
          · rw [if_neg (nI_ge hz (by omega)), if_pos (show (if true = true then 1 + L.getD k 0 else 100) < mnF (toS v o p) k a L 100 from hz)]
            rfl
          · rw [if_pos (nI_le (by omega) (by omega)), if_neg (show ¬ (if true = true then 1 + L.getD k 0 else 100) < mnF (toS v o p) k a L 100 from hz)]
  obtain ⟨u, ⟨m', rfl, e2, e3⟩, e1⟩ := hstep0 _ rfl
  exact ⟨m', e1, e2, by rw [hL1]; exact e3⟩
