/-! PURE FACTS: tokens of the reference; names -/
def vlF (b : Nat → Nat) (a e : Nat) : Nat := if e = a + 1 then b a - 48 else (b a - 48) * 10 + (b (a + 1) - 48)
def TB8 (m : mMem) (b : Nat → Nat) (L : Nat) : Prop := m.1 81 14 = nI L ∧ ∀ i, i < L → m.1 88 i = nI (b i) ∧ b i < 128
theorem TB8_sx {m m' : mMem} {b : Nat → Nat} {L : Nat} {S : List Nat} (h : TB8 m b L) (s : SWx 81 S m m') (hS : 14 ∉ S) : TB8 m' b L := ⟨(s.2 14 hS).trans h.1, fun i hi => by rw [s.1 88 (by decide)]; exact h.2 i hi⟩
def bzF (b : Nat → Nat) (L i : Nat) : Int32 := if i < L then nI (b i) else -4
theorem byte8 {m : mMem} {b : Nat → Nat} {L i : Nat} (hT : TB8 m b L) (hL : L ≤ 160) (hi : i ≤ 160) : fX8_byteAt (nI i) m = some (some (.int (bzF b L i)), m) := by
  unfold fX8_byteAt bzF
  rw [hT.1]
  by_cases h : i < L
  · rw [if_neg (nI_ge h (by omega)), ga_nI (by omega) (by decide), nI_tn (by omega), (hT.2 i h).1, if_pos h]
  · rw [if_pos (nI_le (by omega) (by omega)), if_neg h]
theorem in_let {b : Nat → Nat} {L i : Nat} (hb : i < L → b i < 128) : ((97 : Int32) ≤ bzF b L i ∧ bzF b L i ≤ (122 : Int32)) ↔ (i < L ∧ kdB (b i) = 1) := by
  unfold bzF
  by_cases h : i < L
  · have := hb h
    rw [if_pos h, show (97 : Int32) = nI 97 from rfl, show (122 : Int32) = nI 122 from rfl, nI_leI (by decide) (by omega), nI_leI (by omega) (by decide)]
    unfold kdB
    constructor
    · intro z
      rw [if_pos z]
      exact ⟨h, rfl⟩
    · rintro ⟨-, z⟩
      by_cases q : 97 ≤ b i ∧ b i ≤ 122
      · exact q
      · rw [if_neg q] at z
        exfalso
        repeat' split at z
        all_goals omega
  · rw [if_neg h]
    constructor
    · intro z
      exact absurd z.1 (by decide)
    · intro z
      exact absurd z.1 h
theorem in_dig {b : Nat → Nat} {L i : Nat} (hb : i < L → b i < 128) : ((48 : Int32) ≤ bzF b L i ∧ bzF b L i ≤ (57 : Int32)) ↔ (i < L ∧ kdB (b i) = 2) := by
  unfold bzF
  by_cases h : i < L
  · have := hb h
    rw [if_pos h, show (48 : Int32) = nI 48 from rfl, show (57 : Int32) = nI 57 from rfl, nI_leI (by decide) (by omega), nI_leI (by omega) (by decide)]
    unfold kdB
    constructor
    · intro z
      rw [if_neg (by omega), if_pos z]
      exact ⟨h, rfl⟩
    · rintro ⟨-, z⟩
      by_cases q : 48 ≤ b i ∧ b i ≤ 57
      · exact q
      · exfalso
        rw [if_neg q] at z
        repeat' split at z
        all_goals omega
  · rw [if_neg h]
    constructor
    · intro z
      exact absurd z.1 (by decide)
    · intro z
      exact absurd z.1 h
theorem kd2 {c : Nat} (h : kdB c = 2) : 48 ≤ c ∧ c ≤ 57 := by
  unfold kdB at h
  repeat' split at h
  all_goals omega
theorem kd3 {c : Nat} : kdB c = 3 ↔ c = 59 := by
  unfold kdB
  constructor
  · intro h
    repeat' split at h
    all_goals omega
  · intro h
    subst h
    decide
def vaF (b : Nat → Nat) (a i : Nat) : Nat := if i = 0 then 0 else vlF b a (a + min i 2)
theorem in97 (z : Int32) (m : mMem) : fX8_in z.toInt64 (97 : Int64) (122 : Int64) m = some (some (.int (if (97 : Int32) ≤ z ∧ z ≤ (122 : Int32) then 1 else 0)), m) := fX8_in_eq z 97 122 m
theorem in48 (z : Int32) (m : mMem) : fX8_in z.toInt64 (48 : Int64) (57 : Int64) m = some (some (.int (if (48 : Int32) ≤ z ∧ z ≤ (57 : Int32) then 1 else 0)), m) := fX8_in_eq z 48 57 m
theorem tok8 {m : mMem} {b : Nat → Nat} {L p : Nat} (hL : L ≤ 160) (hp : p ≤ L) (hT : TB8 m b L) (h18 : m.1 81 18 = nI p) (h16 : m.1 81 16 = 0) : ∃ m', fX8_goesOn m = some (none, m') ∧ SWx 81 [16, 17, 18, 19, 20, 21] m m' ∧ m'.1 81 19 = nI (tkA b L p) ∧ (tkK b L p = 4 → m'.1 81 16 = 1 ∧ m'.1 81 17 = nI (tkA b L p)) ∧ (tkK b L p ≠ 4 → m'.1 81 16 = 0 ∧ m'.1 81 18 = nI (tkE b L p) ∧ m'.1 81 20 = nI (tkK b L p) ∧ (tkK b L p = 2 → m'.1 81 21 = nI (vlF b (tkA b L p) (tkE b L p)))) := by
  obtain ⟨s1, s2, s3, s4⟩ := tkA_s (b := b) hp
  unfold fX8_goesOn
  rw [h16, if_pos (by decide)]
  refine lp_rel0 (body := bX8_goesOn_8) (fun i m' => SWx 81 [18] m m' ∧ m'.1 81 18 = nI (p + i)) (tkA b L p - p) (fun res => ∃ m', res = some (none, m') ∧ SWx 81 [16, 17, 18, 19, 20, 21] m m' ∧ m'.1 81 19 = nI (tkA b L p) ∧ (tkK b L p = 4 → m'.1 81 16 = 1 ∧ m'.1 81 17 = nI (tkA b L p)) ∧ (tkK b L p ≠ 4 → m'.1 81 16 = 0 ∧ m'.1 81 18 = nI (tkE b L p) ∧ m'.1 81 20 = nI (tkK b L p) ∧ (tkK b L p = 2 → m'.1 81 21 = nI (vlF b (tkA b L p) (tkE b L p))))) m (by omega) ⟨SWx.rf, h18⟩ (fun m1 k => ?_) (fun i m1 hi => ?_)
  · rintro ⟨a1, a2⟩
    rw [show p + (tkA b L p - p) = tkA b L p by omega] at a2
    have hT1 := TB8_sx hT a1 (by decide)
    generalize hA : tkA b L p = a at *
    have hb128 : ∀ i, i < L → b i < 128 := fun i hi => (hT.2 i hi).2
    have hbyte := byte8 (i := a) hT1 hL (by omega)
    have hne32 : ¬ bzF b L a = (32 : Int32) := by
      unfold bzF
      by_cases h : a < L
      · have h1 := hb128 a h
        rw [if_pos h, show (32 : Int32) = nI 32 from rfl, nI_eq (by omega) (by decide)]
        exact s4 h
      · rw [if_neg h]; decide
    obtain ⟨m2, hm2⟩ : ∃ m2, m2 = si (si m1 81 19 (nI a)) 81 21 0 := ⟨_, rfl⟩
    have x2 : SWx 81 [16, 17, 18, 19, 20, 21] m m2 := by rw [hm2]; exact ((a1.mono (by simp)).tr (SWx_si (by simp))).tr (SWx_si (by simp))
    have q18 : m2.1 81 18 = nI a := by rw [hm2, si_ne _ _ (Or.inr (by decide)), si_ne _ _ (Or.inr (by decide))]; exact a2
    have q19 : m2.1 81 19 = nI a := by rw [hm2, si_ne _ _ (Or.inr (by decide)), si_same]
    have q21 : m2.1 81 21 = 0 := by rw [hm2, si_same]
    have q16 : m2.1 81 16 = 0 := by rw [hm2, si_ne _ _ (Or.inr (by decide)), si_ne _ _ (Or.inr (by decide)), a1.2 16 (by decide)]; exact h16
    have hT2 : TB8 m2 b L := TB8_sx hT x2 (by decide)
    have hTs : TB8 (si m1 81 19 (nI a)) b L := TB8_sx hT1 (SWx_si (S := [19]) (by simp)) (by decide)
    have hst : bX8_goesOn_8 k m1 = (if bzF b L a = (-4 : Int32) then some (none, si m2 81 20 0) else if a < L ∧ kdB (b a) = 1 then lp bX8_goesOn_84 FU m2 else if a < L ∧ kdB (b a) = 2 then lp bX8_goesOn_140 FU m2 else (if bzF b L a = (59 : Int32) then some (none, si (si m2 81 20 3) 81 18 (nI (a + 1))) else bV (fX8_fails 1 (si (si m2 81 20 3) 81 18 (nI (a + 1)))) (fun m19 => some (none, m19)))) := by
      unfold bX8_goesOn_8
      dsimp only [lt]
      rw [a2, hbyte]
      dsimp only [bI]
      rw [if_neg hne32, si_ne _ _ (Or.inr (show (18 : Nat) ≠ 19 by decide)), a2, byte8 (i := a) hTs hL (by omega)]
      dsimp only
      rw [← hm2, in97]
      dsimp only
      rw [in48]
      dsimp only
      by_cases h4 : bzF b L a = (-4 : Int32)
      · rw [if_pos h4, if_pos h4]
      · rw [if_neg h4, if_neg h4]
        by_cases h1 : a < L ∧ kdB (b a) = 1
        · rw [if_pos ((in_let (hb128 a)).mpr h1), if_neg (by decide), if_pos h1]
        · rw [if_neg (fun z => h1 ((in_let (hb128 a)).mp z)), if_pos rfl, if_neg h1]
          by_cases h2 : a < L ∧ kdB (b a) = 2
          · rw [if_pos ((in_dig (hb128 a)).mpr h2), if_neg (by decide), if_pos h2]
          · rw [if_neg (fun z => h2 ((in_dig (hb128 a)).mp z)), if_pos rfl, if_neg h2, si_ne _ _ (Or.inr (show (18 : Nat) ≠ 20 by decide)), q18, show nI a + 1 = nI (a + 1) from nI_1 _]
    rw [hst]
    by_cases h : a < L
    · have hlt := hb128 a h
      obtain ⟨r1, r2, r3, r4⟩ := tkR_s (b := b) h
      have hkb := kdB_le (b a)
      have hbz : bzF b L a = nI (b a) := if_pos h
      rw [hbz, if_neg (show ¬ nI (b a) = (-4 : Int32) from (by decide +kernel : ∀ n, n < 128 → ¬ nI n = (-4 : Int32)) _ hlt)]
      by_cases k1 : kdB (b a) = 1
      · have hK : tkK b L p = 1 := by unfold tkK; rw [hA, if_neg (by omega), if_neg (by omega), k1]
        have hE : tkE b L p = tkR b L a := by unfold tkE; rw [hA, if_neg (by omega), if_neg (by omega), if_neg (by omega)]
        rw [if_pos ⟨h, k1⟩]
        refine lp_rel0 (body := bX8_goesOn_84) (fun i m' => SWx 81 [18] m2 m' ∧ m'.1 81 18 = nI (a + i)) (tkR b L a - a) (fun res => ∃ m', res = some (none, m') ∧ SWx 81 [16, 17, 18, 19, 20, 21] m m' ∧ m'.1 81 19 = nI a ∧ (tkK b L p = 4 → m'.1 81 16 = 1 ∧ m'.1 81 17 = nI a) ∧ (tkK b L p ≠ 4 → m'.1 81 16 = 0 ∧ m'.1 81 18 = nI (tkE b L p) ∧ m'.1 81 20 = nI (tkK b L p) ∧ (tkK b L p = 2 → m'.1 81 21 = nI (vlF b a (tkE b L p))))) m2 (by omega) ⟨SWx.rf, q18⟩ (fun m3 kk => ?_) (fun i m3 hi => ?_)
        · rintro ⟨y1, y2⟩
          rw [show a + (tkR b L a - a) = tkR b L a by omega] at y2
          have hT3 := TB8_sx hT2 y1 (by decide)
          unfold bX8_goesOn_84
          dsimp only [lt]
          rw [y2, byte8 (i := tkR b L a) hT3 hL (by omega)]
          dsimp only [bI]
          rw [in97, if_neg (fun z => by
            obtain ⟨z1, z2⟩ := (in_let (hb128 _)).mp z
            exact r4 z1 (by rw [z2, k1]))]
          dsimp only
          rw [if_pos rfl]
          exact ⟨_, rfl, (x2.tr (y1.mono (by simp))).tr (SWx_si (by simp)), by rw [si_ne _ _ (Or.inr (by decide)), y1.2 19 (by decide)]; exact q19, fun z => by omega, fun _ => ⟨by rw [si_ne _ _ (Or.inr (by decide)), y1.2 16 (by decide)]; exact q16, by rw [si_ne _ _ (Or.inr (by decide)), y2, hE], by rw [si_same, hK]; rfl, fun z => by omega⟩⟩
        · rintro ⟨y1, y2⟩
          have hT3 := TB8_sx hT2 y1 (by decide)
          refine ⟨si m3 81 18 (nI (a + (i + 1))), ⟨y1.tr (SWx_si (by simp)), si_same _ _ _ _⟩, fun kk => ?_⟩
          unfold bX8_goesOn_84
          dsimp only [lt]
          rw [y2, byte8 (i := a + i) hT3 hL (by omega)]
          dsimp only [bI]
          rw [in97, if_pos ((in_let (hb128 _)).mpr ⟨by omega, by rw [r3 (a + i) (by omega) (by omega), k1]⟩)]
          dsimp only
          rw [if_neg (by decide), y2, show nI (a + i) + 1 = nI (a + (i + 1)) from nI_1 _]
      · rw [if_neg (fun z => k1 z.2)]
        by_cases k2 : kdB (b a) = 2
        · have hE : tkE b L p = tkR b L a := by unfold tkE; rw [hA, if_neg (by omega), if_neg (by omega), if_neg (by omega)]
          have hd0 := kd2 k2
          rw [if_pos ⟨h, k2⟩]
          refine lp_rel0 (body := bX8_goesOn_140) (fun i m' => SWx 81 [18, 21] m2 m' ∧ m'.1 81 18 = nI (a + i) ∧ m'.1 81 21 = nI (vaF b a i)) (tkR b L a - a) (fun res => ∃ m', res = some (none, m') ∧ SWx 81 [16, 17, 18, 19, 20, 21] m m' ∧ m'.1 81 19 = nI a ∧ (tkK b L p = 4 → m'.1 81 16 = 1 ∧ m'.1 81 17 = nI a) ∧ (tkK b L p ≠ 4 → m'.1 81 16 = 0 ∧ m'.1 81 18 = nI (tkE b L p) ∧ m'.1 81 20 = nI (tkK b L p) ∧ (tkK b L p = 2 → m'.1 81 21 = nI (vlF b a (tkE b L p))))) m2 (by omega) ⟨SWx.rf, q18, q21⟩ (fun m3 kk => ?_) (fun i m3 hi => ?_)
          · rintro ⟨y1, y2, y3⟩
            rw [show a + (tkR b L a - a) = tkR b L a by omega] at y2
            have hT3 := TB8_sx hT2 y1 (by decide)
            have w19 : m3.1 81 19 = nI a := by rw [y1.2 19 (by decide)]; exact q19
            have w16 : m3.1 81 16 = 0 := by rw [y1.2 16 (by decide)]; exact q16
            have x3 : SWx 81 [16, 17, 18, 19, 20, 21] m m3 := x2.tr (y1.mono (by simp))
            unfold bX8_goesOn_140
            dsimp only [lt]
            rw [y2, byte8 (i := tkR b L a) hT3 hL (by omega)]
            dsimp only [bI]
            rw [in48, if_neg (fun z => by
              obtain ⟨z1, z2⟩ := (in_dig (hb128 _)).mp z
              exact r4 z1 (by rw [z2, k2]))]
            dsimp only
            rw [if_pos rfl, si_ne _ _ (Or.inr (show (18 : Nat) ≠ 20 by decide)), si_ne _ _ (Or.inr (show (19 : Nat) ≠ 20 by decide)), y2, w19, nI_sub (by omega)]
            by_cases hl : tkR b L a - a ≤ 2
            · have hK : tkK b L p = 2 := by unfold tkK; rw [hA, if_neg (by omega), if_neg (by omega), k2]
              rw [if_pos (show nI (tkR b L a - a) ≤ (2 : Int32) from nI_le (b := 2) hl (by decide))]
              exact ⟨_, rfl, x3.tr (SWx_si (by simp)), by rw [si_ne _ _ (Or.inr (by decide))]; exact w19, fun z => by omega, fun _ => ⟨by rw [si_ne _ _ (Or.inr (by decide))]; exact w16, by rw [si_ne _ _ (Or.inr (by decide)), y2, hE], by rw [si_same, hK]; rfl, fun _ => by
                rw [si_ne _ _ (Or.inr (by decide)), y3, hE]
                unfold vaF
                rw [if_neg (by omega), Nat.min_eq_left hl, show a + (tkR b L a - a) = tkR b L a by omega]⟩⟩
            · have hK : tkK b L p = 4 := by unfold tkK; rw [hA, if_neg (by omega), if_pos (by omega)]
              rw [if_neg (show ¬ nI (tkR b L a - a) ≤ (2 : Int32) from nI_ge (a := 2) (by omega) (by omega))]
              unfold fX8_fails
              dsimp only [lt, bV]
              rw [si_ne _ _ (Or.inr (show (16 : Nat) ≠ 20 by decide)), w16, if_pos rfl]
              exact ⟨_, rfl, ((x3.tr (SWx_si (by simp))).tr (SWx_si (by simp))).tr (SWx_si (by simp)), by rw [si_ne _ _ (Or.inr (by decide)), si_ne _ _ (Or.inr (by decide)), si_ne _ _ (Or.inr (by decide))]; exact w19, fun _ => ⟨by rw [si_ne _ _ (Or.inr (by decide)), si_same], by rw [si_same, si_ne _ _ (Or.inr (by decide)), si_ne _ _ (Or.inr (by decide))]; exact w19⟩, fun z => absurd hK z⟩
          · rintro ⟨y1, y2, y3⟩
            have hT3 := TB8_sx hT2 y1 (by decide)
            have w19 : m3.1 81 19 = nI a := by rw [y1.2 19 (by decide)]; exact q19
            have hki := r3 (a + i) (by omega) (by omega)
            have hdi := kd2 (c := b (a + i)) (by rw [hki, k2])
            have hbi : bzF b L (a + i) = nI (b (a + i)) := if_pos (by omega)
            refine ⟨si (si m3 81 21 (nI (vaF b a (i + 1)))) 81 18 (nI (a + (i + 1))), ⟨(y1.tr (SWx_si (by simp))).tr (SWx_si (by simp)), si_same _ _ _ _, by rw [si_ne _ _ (Or.inr (by decide)), si_same]⟩, fun kk => ?_⟩
            unfold bX8_goesOn_140
            dsimp only [lt]
            rw [y2, byte8 (i := a + i) hT3 hL (by omega)]
            dsimp only [bI]
            rw [in48, if_pos ((in_dig (hb128 _)).mpr ⟨by omega, by rw [hki, k2]⟩)]
            dsimp only
            rw [if_neg (by decide), y2, w19, nI_sub (by omega), show a + i - a = i by omega, byte8 (i := a + i) hT3 hL (by omega)]
            dsimp only
            rw [hbi, si_ne _ _ (Or.inr (show (18 : Nat) ≠ 21 by decide)), si_ne _ _ (Or.inr (show (18 : Nat) ≠ 21 by decide)), y2, show nI (a + i) + 1 = nI (a + (i + 1)) from nI_1 _, y3]
            by_cases hi2 : 2 ≤ i
            · rw [if_pos (show (2 : Int32) ≤ nI i from nI_le (a := 2) hi2 (by omega)), show vaF b a (i + 1) = vaF b a i by unfold vaF; rw [if_neg (by omega), if_neg (by omega), show min (i + 1) 2 = min i 2 by omega]]
            · rw [if_neg (show ¬ (2 : Int32) ≤ nI i from nI_ge (b := 2) (by omega) (by decide)), show (10 : Int32) * nI (vaF b a i) = nI (10 * vaF b a i) from nI_mul 10 _, nI_add, show nI (10 * vaF b a i + b (a + i)) - (48 : Int32) = nI (10 * vaF b a i + b (a + i) - 48) from nI_sub (b := 48) (by omega)]
              have : 10 * vaF b a i + b (a + i) - 48 = vaF b a (i + 1) := by
                have : i = 0 ∨ i = 1 := by omega
                rcases this with rfl | rfl
                · unfold vaF vlF
                  simp
                · unfold vaF vlF
                  simp
                  omega
              rw [this]
        · rw [if_neg (fun z => k2 z.2)]
          have hE : kdB (b a) = 3 → tkE b L p = a + 1 := fun h3 => by unfold tkE; rw [hA, if_neg (by omega), if_pos h3]
          by_cases k3 : kdB (b a) = 3
          · have hK : tkK b L p = 3 := by unfold tkK; rw [hA, if_neg (by omega), if_neg (by omega), k3]
            rw [if_pos (show nI (b a) = (59 : Int32) by rw [kd3.mp k3]; rfl)]
            exact ⟨_, rfl, (x2.tr (SWx_si (by simp))).tr (SWx_si (by simp)), by rw [si_ne _ _ (Or.inr (by decide)), si_ne _ _ (Or.inr (by decide))]; exact q19, fun z => by omega, fun _ => ⟨by rw [si_ne _ _ (Or.inr (by decide)), si_ne _ _ (Or.inr (by decide))]; exact q16, by rw [si_same, hE k3], by rw [si_ne _ _ (Or.inr (by decide)), si_same, hK]; rfl, fun z => by omega⟩⟩
          · have hK : tkK b L p = 4 := by unfold tkK; rw [hA, if_neg (by omega), if_neg (by omega)]; omega
            rw [if_neg (show ¬ nI (b a) = (59 : Int32) by rw [show (59 : Int32) = nI 59 from rfl, nI_eq (by omega) (by decide)]; exact fun z => k3 (kd3.mpr z))]
            unfold fX8_fails
            dsimp only [lt, bV]
            rw [si_ne _ _ (Or.inr (show (16 : Nat) ≠ 18 by decide)), si_ne _ _ (Or.inr (show (16 : Nat) ≠ 20 by decide)), q16, if_pos rfl]
            exact ⟨_, rfl, (((x2.tr (SWx_si (by simp))).tr (SWx_si (by simp))).tr (SWx_si (by simp))).tr (SWx_si (by simp)), by rw [si_ne _ _ (Or.inr (by decide)), si_ne _ _ (Or.inr (by decide)), si_ne _ _ (Or.inr (by decide)), si_ne _ _ (Or.inr (by decide))]; exact q19, fun _ => ⟨by rw [si_ne _ _ (Or.inr (by decide)), si_same], by rw [si_same, si_ne _ _ (Or.inr (by decide)), si_ne _ _ (Or.inr (by decide)), si_ne _ _ (Or.inr (by decide))]; exact q19⟩, fun z => absurd hK z⟩
    · have hK : tkK b L p = 0 := by unfold tkK; rw [hA, if_pos (by omega)]
      have hE : tkE b L p = a := by unfold tkE; rw [hA, if_pos (by omega)]
      have hbz : bzF b L a = (-4 : Int32) := if_neg h
      rw [if_pos hbz]
      exact ⟨_, rfl, x2.tr (SWx_si (by simp)), by rw [si_ne _ _ (Or.inr (by decide))]; exact q19, fun z => by omega, fun _ => ⟨by rw [si_ne _ _ (Or.inr (by decide))]; exact q16, by rw [si_ne _ _ (Or.inr (by decide)), hE]; exact q18, by rw [si_same, hK]; rfl, fun z => by omega⟩⟩
  · rintro ⟨a1, a2⟩
    have hT1 := TB8_sx hT a1 (by decide)
    have h32 := s3 (p + i) (by omega) (by omega)
    have hbz : bzF b L (p + i) = (32 : Int32) := by unfold bzF; rw [if_pos (by omega), h32]; rfl
    refine ⟨si m1 81 18 (nI (p + (i + 1))), ⟨a1.tr (SWx_si (by simp)), si_same _ _ _ _⟩, fun k => ?_⟩
    unfold bX8_goesOn_8
    dsimp only [lt]
    rw [a2, byte8 (i := p + i) hT1 hL (by omega), hbz]
    dsimp only [bI]
    rw [if_pos rfl, a2, show nI (p + i) + 1 = nI (p + (i + 1)) from nI_1 _]
