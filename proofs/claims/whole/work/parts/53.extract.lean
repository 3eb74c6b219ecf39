/-! PURE FACTS: what was decided, for every t: only the bits up to the top count -/
theorem pvR_congr {t u r i : Nat} {L : List Nat} (h : t.testBit i = u.testBit i) : pvR t r i L = pvR u r i L := by unfold pvR; rw [h]
theorem cvR_congr {t u r i : Nat} {L : List Nat} (h : t.testBit i = u.testBit i) : cvR t r i L = cvR u r i L := by unfold cvR; rw [h]
theorem pR_congr {t u r : Nat} : ∀ n, (∀ j, j < n → t.testBit j = u.testBit j) → pR t r n = pR u r n
  | 0, _ => rfl
  | n + 1, h => by
    show pvR t r n (pR t r n) :: pR t r n = pvR u r n (pR u r n) :: pR u r n
    rw [pR_congr n (fun j hj => h j (by omega)), pvR_congr (h n (by omega))]
theorem cR_congr {t u r : Nat} : ∀ n, (∀ j, j < n → t.testBit j = u.testBit j) → cR t r n = cR u r n
  | 0, _ => rfl
  | n + 1, h => by
    show cvR t r n (cR t r n) :: cR t r n = cvR u r n (cR u r n) :: cR u r n
    rw [cR_congr n (fun j hj => h j (by omega)), cvR_congr (h n (by omega))]
theorem stS_congr {t u sp : Nat} : ∀ n, (∀ j, j < n → t.testBit j = u.testBit j) → stS t sp n = stS u sp n
  | 0, _ => rfl
  | n + 1, h => by
    show 2 * stS t sp n ||| _ = 2 * stS u sp n ||| _
    rw [stS_congr n (fun j hj => h j (by omega)), h n (by omega)]
theorem mnF_congr {t u : Nat} : ∀ (r pos : Nat) (L : List Nat) (b : Nat), (∀ j, pos ≤ j → j < pos + L.length → t.testBit j = u.testBit j) → mnF t r pos L b = mnF u r pos L b
  | 0, _, _, _, _ => rfl
  | _ + 1, _, [], _, _ => rfl
  | r + 1, pos, x :: L, b, h => by
    show mnF t r (pos + 1) L (if (if t.testBit pos then 1 + x else 100) < b then (if t.testBit pos then 1 + x else 100) else b) = mnF u r (pos + 1) L (if (if u.testBit pos then 1 + x else 100) < b then (if u.testBit pos then 1 + x else 100) else b)
    rw [h pos (Nat.le_refl _) (by simp)]
    exact mnF_congr r (pos + 1) L _ (fun j h1 h2 => h j (by omega) (by simp; omega))
theorem sumF_congr {t u : Nat} : ∀ (r pos : Nat) (L : List Nat) (b : Nat), (∀ j, pos ≤ j → j < pos + L.length → t.testBit j = u.testBit j) → sumF t r pos L b = sumF u r pos L b
  | 0, _, _, _, _ => rfl
  | _ + 1, _, [], _, _ => rfl
  | r + 1, pos, x :: L, b, h => by
    show sumF t r (pos + 1) L (b + (if t.testBit pos then x else 0)) = sumF u r (pos + 1) L (b + (if u.testBit pos then x else 0))
    rw [h pos (Nat.le_refl _) (by simp)]
    exact sumF_congr r (pos + 1) L _ (fun j h1 h2 => h j (by omega) (by simp; omega))
theorem grF_congr {t u : Nat} : ∀ (L : List Nat) (pos need : Nat), (∀ j, pos ≤ j → j < pos + L.length → t.testBit j = u.testBit j) → grF t L pos need = grF u L pos need
  | [], _, _, _ => rfl
  | x :: L, pos, need, h => by
    show (if t.testBit pos && x + 1 == need then (if need = 1 then 2 ^ pos else 2 ^ pos ||| grF t L (pos + 1) (need - 1)) else grF t L (pos + 1) need) = (if u.testBit pos && x + 1 == need then (if need = 1 then 2 ^ pos else 2 ^ pos ||| grF u L (pos + 1) (need - 1)) else grF u L (pos + 1) need)
    have hc : ∀ n, grF t L (pos + 1) n = grF u L (pos + 1) n := fun n => grF_congr L (pos + 1) n (fun j h1 h2 => h j (by omega) (by simp; omega))
    rw [h pos (Nat.le_refl _) (by simp), hc, hc]
theorem fwL_len (t r top : Nat) : ∀ j, (fwL t r top j).length = j + 1
  | 0 => rfl
  | j + 1 => by show (fwL t r top j).length + 1 = _; rw [fwL_len t r top j]
theorem wyL_len (t r top : Nat) : ∀ j, (wyL t r top j).length = j + 1
  | 0 => rfl
  | j + 1 => by show (wyL t r top j).length + 1 = _; rw [wyL_len t r top j]
theorem fwL_congr {t u r top : Nat} (h : ∀ j, j ≤ top → t.testBit j = u.testBit j) : ∀ n, n ≤ top + 1 → fwL t r top n = fwL u r top n
  | 0, _ => rfl
  | n + 1, hn => by
    show mnF t r (top - n) (fwL t r top n) 100 :: fwL t r top n = mnF u r (top - n) (fwL u r top n) 100 :: fwL u r top n
    rw [fwL_congr h n (by omega), mnF_congr r (top - n) _ 100 (fun j h1 h2 => h j (by rw [fwL_len] at h2; omega))]
theorem wyL_congr {t u r top : Nat} (h : ∀ j, j ≤ top → t.testBit j = u.testBit j) : ∀ n, n ≤ top + 1 → wyL t r top n = wyL u r top n
  | 0, _ => rfl
  | n + 1, hn => by
    show sumF t r (top - n) (wyL t r top n) 0 :: wyL t r top n = sumF u r (top - n) (wyL u r top n) 0 :: wyL u r top n
    rw [wyL_congr h n (by omega), sumF_congr r (top - n) _ 0 (fun j h1 h2 => h j (by rw [wyL_len] at h2; omega))]
theorem chkT_at {r top : Nat} : ∀ (T : Nat), chkT r top T = true → ∀ t, t < T → chk t top ((pR t r (top + 1)).headD 0) ((cR t r (top + 1)).headD 0) (hmB t r top) (fwL t r top (top + 1)) (wyL t r top (top + 1)) = true
  | 0, _, t, ht => absurd ht (Nat.not_lt_zero _)
  | T + 1, h, t, ht => by
    rw [chkT, Bool.and_eq_true] at h
    rcases Nat.lt_or_ge t T with q | q
    · exact chkT_at T h.2 t q
    · have e : t = T := by omega
      subst e
      have h1 := h.1
      rw [fc_eq, fc_eq] at h1
      have e1 : pGo t r (top + 1) 0 [] = pR t r (top + 1) := by have := pGo_eq t r (top + 1) 0; rw [Nat.zero_add] at this; exact this
      have e2 : cGo t r (top + 1) 0 [] = cR t r (top + 1) := by have := cGo_eq t r (top + 1) 0; rw [Nat.zero_add] at this; exact this
      have e3 : fGo t r top (top + 1) 0 [0] = fwL t r top (top + 1) := by have := fGo_eq t r top (top + 1) 0; rw [Nat.zero_add] at this; exact this
      have e4 : wGo t r top (top + 1) 0 [1] = wyL t r top (top + 1) := by have := wGo_eq t r top (top + 1) 0; rw [Nat.zero_add] at this; exact this
      have e5 : sGo t (2 ^ r - 1) (top + 1) 0 1 = stS t (2 ^ r - 1) (top + 1) := by have := sGo_eq t (2 ^ r - 1) (top + 1) 0; rw [Nat.zero_add] at this; exact this
      rw [e1, e2, e3, e4, e5] at h1
      exact h1
theorem chkTs_at {r : Nat} : ∀ (n : Nat), chkTs r n = true → ∀ top, top < n → chkT r top (2 ^ (top + 1)) = true
  | 0, _, t, ht => absurd ht (Nat.not_lt_zero _)
  | n + 1, h, t, ht => by
    rw [chkTs, Bool.and_eq_true] at h
    rcases Nat.lt_or_ge t n with q | q
    · exact chkTs_at n h.2 t q
    · have e : t = n := by omega
      subst e
      exact h.1
/-- the shortest path's bits, the number of climbs -/
def pvS (t r top : Nat) : Nat := pvR t r top (pR t r top)
def cvS (t r top : Nat) : Nat := cvR t r top (cR t r top)
theorem brute {t r top : Nat} (hr : 1 ≤ r) (hr4 : r ≤ 4) (hp : top < 10) : ∃ f L, fwL t r top (top + 1) = f :: L ∧ (f < 100 → grF t L 0 f = pvS t r top ∧ popc (pvS t r top) = f ∧ pvS t r top ≠ 0) ∧ (100 ≤ f → pvS t r top = 0) ∧ hmB t r top = (pvS t r top != 0) ∧ (wyL t r top (top + 1)).headD 0 = cvS t r top ∧ pvS t r top < 1024 ∧ cvS t r top < 1024 ∧ pvS t r top % 2 ^ (top + 1) = pvS t r top := by
  have hB : chkTs r 10 = true := by
    have : r = 1 ∨ r = 2 ∨ r = 3 ∨ r = 4 := by omega
    rcases this with rfl | rfl | rfl | rfl
    · exact br1
    · exact br2
    · exact br3
    · exact br4
  have hb : ∀ j, j ≤ top → (t % 2 ^ (top + 1)).testBit j = t.testBit j := fun j hj => by
    rw [Nat.testBit_mod_two_pow]
    simp [show j < top + 1 by omega]
  have h := chkT_at _ (chkTs_at 10 hB top hp) (t % 2 ^ (top + 1)) (Nat.mod_lt _ (Nat.two_pow_pos _))
  have e1 : (pR (t % 2 ^ (top + 1)) r (top + 1)).headD 0 = pvS t r top := by rw [pR_congr (u := t) (top + 1) (fun j hj => hb j (by omega))]; rfl
  have e2 : (cR (t % 2 ^ (top + 1)) r (top + 1)).headD 0 = cvS t r top := by rw [cR_congr (u := t) (top + 1) (fun j hj => hb j (by omega))]; rfl
  have e3 : hmB (t % 2 ^ (top + 1)) r top = hmB t r top := by unfold hmB; rw [stS_congr (u := t) (top + 1) (fun j hj => hb j (by omega))]
  rw [e1, e2, e3, fwL_congr (u := t) hb (top + 1) (Nat.le_refl _), wyL_congr (u := t) hb (top + 1) (Nat.le_refl _)] at h
  unfold chk at h
  simp only [Bool.and_eq_true, decide_eq_true_eq, beq_iff_eq] at h
  obtain ⟨⟨⟨⟨h1, h2⟩, h3⟩, h4⟩, h5⟩ := h
  cases hF : fwL t r top (top + 1) with
  | nil => rw [hF] at h1; simp at h1
  | cons f L =>
    rw [hF] at h1
    simp only [Bool.and_eq_true, beq_iff_eq] at h1
    obtain ⟨ha, hc⟩ := h1
    have hlen : L.length = top + 1 := by
      have := fwL_len t r top (top + 1)
      rw [hF] at this
      simpa using this
    refine ⟨f, L, rfl, fun hf => ?_, fun hf => ?_, hc, h2, h3, h4, h5⟩
    · rw [if_pos hf] at ha
      simp only [Bool.and_eq_true, beq_iff_eq, bne_iff_ne] at ha
      refine ⟨?_, ha.1.2, ha.2⟩
      rw [← ha.1.1]
      exact (grF_congr L 0 f (fun j h1 h2 => hb j (by omega))).symm
    · rw [if_neg (by omega)] at ha
      simpa using ha
