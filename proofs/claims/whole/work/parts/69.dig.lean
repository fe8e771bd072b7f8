/-! ===== digest ===== -/
def fd (g : Nat → Int64 → Int64) : Nat → Nat → Int64 → Int64
  | _, 0, c => c
  | i, k + 1, c => fd g (i + 1) k (g i c)
noncomputable def dR (σ : rS) (r : Nat) (c : Int64) : Int64 := if gI σ 13 r 2 = 0 then fd (fun i c => 31 * c + gL σ 14 r i) 0 (gN σ 14 r) (31 * (31 * c + Int32.toInt64 (gI σ 13 r 0)) + Int32.toInt64 (nI (gN σ 14 r))) else 31 * (31 * c + Int32.toInt64 (gI σ 13 r 0)) + (-1)
theorem dr_loop {N r l : Nat} {σ : rS} (hl : gN σ 14 r = l) (hl2 : l ≤ 24) : ∀ (k n i : Nat) (c : Int64), k < n → i + k = l → L10_mixedWithRow_48 N n c r (nI l) (nI i) σ = some (fd (fun i c => 31 * c + gL σ 14 r i) i k c, σ) := by
  intro k
  induction k with
  | zero =>
    intro n i c hn hi
    obtain ⟨m, rfl⟩ : ∃ m', n = m' + 1 := ⟨n - 1, by omega⟩
    show B10_mixedWithRow_48 N (L10_mixedWithRow_48 N m) c r (nI l) (nI i) σ = _
    unfold B10_mixedWithRow_48
    rw [if_pos (nI_le (by omega) (by omega))]
    rfl
  | succ k ih =>
    intro n i c hn hi
    obtain ⟨m, rfl⟩ : ∃ m', n = m' + 1 := ⟨n - 1, by omega⟩
    show B10_mixedWithRow_48 N (L10_mixedWithRow_48 N m) c r (nI l) (nI i) σ = _
    unfold B10_mixedWithRow_48 f10_mixed
    rw [if_neg (nI_ge (by omega) (by omega)), idx_nI _ (by omega) (by omega), olet_eq, obind_some, nI_1, ih m (i + 1) _ (by omega) (by omega)]
    rfl
theorem dr_eq {N r : Nat} {σ : rS} (hN : 500 ≤ N) (hl2 : gN σ 14 r ≤ 24) (c : Int64) : f10_mixedWithRow N c r σ = some (dR σ r c, σ) := by
  unfold f10_mixedWithRow dR
  have e : ∀ c, L10_mixedWithRow_48 N N c r (nI (gN σ 14 r)) 0 σ = _ := fun c => dr_loop (N := N) rfl hl2 (gN σ 14 r) N 0 c (by omega) (by omega)
  simp only [f10_mixed, obind_some, olet_eq, e]
  split <;> rfl
theorem dr11_loop {N t r : Nat} {σ τ : rS} (h : Inv t σ τ) (hr : r < gC σ 13) (hl : gI σ 13 r 2 = 0) (K : Nat → Int64 → Int32 → rS → Option (Int64 × rS)) : ∀ (k n i : Nat) (c : Int64), k < n → i + k = gN σ 14 r → L11_digest_64 N K n 0 c (nI r) (nI i) τ = K 0 (fd (fun i c => 31 * c + gL σ 14 r i) i k c) (nI (r + 1)) τ := by
  have hz := h.2.2.1.1
  have g35 := h.1.2.1.2.2.1
  have g36 := h.1.2.1.2.2.2.1
  have g37 := h.1.2.1.2.2.2.2.1
  obtain ⟨q1, q2, q3, q4, q5, q6, q7, q8⟩ := h.2.2.1.2.2.2.2 r hr
  intro k
  induction k with
  | zero =>
    intro n i c hn hi
    obtain ⟨m, rfl⟩ : ∃ m', n = m' + 1 := ⟨n - 1, by omega⟩
    show B11_digest_64 N K (L11_digest_64 N K m) 0 c (nI r) (nI i) τ = _
    unfold B11_digest_64 B11_digest_109
    rw [idx_nI _ (by omega) (by omega), q5, if_pos (nI_le (by omega) (by omega)), nI_1]
    rfl
  | succ k ih =>
    intro n i c hn hi
    obtain ⟨m, rfl⟩ : ∃ m', n = m' + 1 := ⟨n - 1, by omega⟩
    show B11_digest_64 N K (L11_digest_64 N K m) 0 c (nI r) (nI i) τ = _
    unfold B11_digest_64
    rw [idx_nI _ (by omega) (by omega), q5, if_neg (nI_ge (by omega) (by omega)), idx_nI _ (by omega) (by omega), q7, if_pos hl, ix24, idx_nI _ (by omega) (by omega), olet_eq, (q8 i (by omega)).1, nI_1, ih m (i + 1) _ (by omega) (by omega)]
    rfl
theorem dr11_eq {N t r : Nat} {σ τ : rS} (hN : 500 ≤ N) (h : Inv t σ τ) (hr : r < gC σ 13) (K : Nat → Int64 → Int32 → rS → Option (Int64 × rS)) (c : Int64) : B11_digest_12 N K 0 c (nI r) τ = K 0 (dR σ r c) (nI (r + 1)) τ := by
  have hz := h.2.2.1.1
  have g34 := h.1.2.1.2.1
  have g35 := h.1.2.1.2.2.1
  have g36 := h.1.2.1.2.2.2.1
  obtain ⟨q1, q2, q3, q4, q5, q6, q7, q8⟩ := h.2.2.1.2.2.2.2 r hr
  unfold B11_digest_12 B11_digest_58
  rw [h.2.2.1.2.2.2.1, if_neg (nI_ge (by omega) (by omega)), idx_nI _ (by omega) (by omega), q3, olet_eq, idx_nI _ (by omega) (by omega), q7, idx_nI _ (by omega) (by omega), q5]
  unfold dR
  by_cases hl : gI σ 13 r 2 = 0
  · rw [if_pos hl, if_pos hl, olet_eq]
    exact dr11_loop (N := N) h hr hl K (gN σ 14 r) N 0 _ (by omega) (by omega)
  · rw [if_neg hl, if_neg hl, olet_eq]
    obtain ⟨m, rfl⟩ : ∃ m', N = m' + 1 := ⟨N - 1, by omega⟩
    show B11_digest_64 (m + 1) K (L11_digest_64 (m + 1) K m) 0 _ (nI r) 0 τ = _
    unfold B11_digest_64 B11_digest_109
    rw [idx_nI _ (by omega) (by omega), idx_nI _ (by omega) (by omega), q7, if_neg hl, nI_1]
    split <;> rfl
noncomputable def dS (σ : rS) (s : Nat) (c : Int64) : Int64 := 31 * (31 * (31 * (31 * c + Int32.toInt64 (gI σ 15 s 1)) + Int32.toInt64 (hs (fun j => gI σ 16 s j &&& 255) 0 (zS σ s) 0)) + Int32.toInt64 (gI σ 15 s 2)) + Int32.toInt64 (gI σ 15 s 3)
theorem ds_eq {N t s : Nat} {σ τ : rS} (hN : 500 ≤ N) (h : Inv t σ τ) (hs1 : s < gC σ 15) (c : Int64) : f10_mixedWithStream N c s σ = some (dS σ s c, σ) := by
  obtain ⟨-, q1, q2, q3, q4, q5, q6, q7, q8, q9, q10⟩ := h.2.2.2.1.2.2.2.2 s hs1
  have e : f9_sum N s 0 (nI (zS σ s)) σ = _ := sum_eq (N := N) (a := 0) hN q9 q1 (Nat.zero_le _)
  unfold f10_mixedWithStream dS
  simp only [f10_mixed, ↓obind_some, q2]
  rw [e]
  simp only [obind_some, Nat.sub_zero]
  rcases q7 with q | q
  · rw [q, if_pos rfl]; rfl
  · rw [q, if_neg (by decide)]; rfl
theorem ds11_eq {N t s : Nat} {σ τ : rS} (hN : 500 ≤ N) (h : Inv t σ τ) (hs1 : s < gC σ 15) (K : Nat → Int64 → Int32 → rS → Option (Int64 × rS)) (c : Int64) : B11_digest_129 N K 0 c (nI s) τ = K 0 (dS σ s c) (nI (s + 1)) τ := by
  have hz := h.2.2.2.1.1
  have g45 := h.1.2.1.2.2.2.2.2.2.2.2.2.1
  have g46 := h.1.2.1.2.2.2.2.2.2.2.2.2.2.1
  have g47 := h.1.2.1.2.2.2.2.2.2.2.2.2.2.2
  obtain ⟨-, q1, q2, q3, q4, q5, q6, q7, q8, q9, q10⟩ := h.2.2.2.1.2.2.2.2 s hs1
  obtain ⟨r, s1, s2⟩ := sum_both hN h hs1 (Nat.le_refl _) (Nat.zero_le (zS σ s))
  have e : f9_sum N s 0 (nI (zS σ s)) σ = _ := sum_eq (N := N) (a := 0) hN q9 q1 (Nat.zero_le _)
  have s1' : f9_sum N s 0 (nI (zS σ s)) σ = some (r, σ) := s1
  have s2' : f11_sumOf N 0 (nI s) 0 (nI (zS σ s)) τ = some (r, τ) := s2
  have er : r = hs (fun j => gI σ 16 s j &&& 255) 0 (zS σ s) 0 := by
    rw [s1'] at e
    have := congrArg (fun z => (z.getD (0, σ)).1) e
    exact this
  unfold B11_digest_129 B11_digest_204
  rw [h.2.2.2.1.2.2.2.1, if_neg (nI_ge (by omega) (by omega))]
  simp (disch := omega) only [↓idx_nI, ↓olet_eq, q3, ↓obind_some]
  rw [s2', obind_some]
  simp (disch := omega) only [↓idx_nI, q6, q8]
  unfold dS
  rw [← er, q2, q5]
  rcases q7 with q | q
  · rw [q, if_pos rfl, nI_1]; rfl
  · rw [q, if_neg (by decide), nI_1]; rfl
noncomputable def dE (σ : rS) (h e : Nat) (c : Int64) : Int64 := 31 * (31 * c + gL σ 18 h e) + Int32.toInt64 (gI σ 20 ((gR σ 19 h e).getD 0) 2)
noncomputable def dH (σ : rS) (h : Nat) (c : Int64) : Int64 := fd (dE σ h) 0 (nE σ h) (31 * c + Int32.toInt64 (gI σ 17 h 2))
theorem dh_loop {N t h : Nat} {σ τ : rS} (hI : Inv t σ τ) (hh : h < gC σ 17) : ∀ (k n i : Nat) (c : Int64), k < n → i + k = nE σ h → L10_mixedWithHouse_12 N n c h (nI i) σ = some (fd (dE σ h) i k c, σ) := by
  obtain ⟨-, q1, q2, q3, q4, q5, q6⟩ := hI.2.2.2.2.2.1.2.2.2.2.2 h hh
  intro k
  induction k with
  | zero =>
    intro n i c hn hi
    obtain ⟨m, rfl⟩ : ∃ m', n = m' + 1 := ⟨n - 1, by omega⟩
    show B10_mixedWithHouse_12 N (L10_mixedWithHouse_12 N m) c h (nI i) σ = _
    unfold B10_mixedWithHouse_12
    rw [q2, if_pos (nI_le (by omega) (by omega))]
    rfl
  | succ k ih =>
    intro n i c hn hi
    obtain ⟨m, rfl⟩ : ∃ m', n = m' + 1 := ⟨n - 1, by omega⟩
    obtain ⟨b, hb1, hb2, hb3⟩ := (q6 i (by omega)).2
    show B10_mixedWithHouse_12 N (L10_mixedWithHouse_12 N m) c h (nI i) σ = _
    unfold B10_mixedWithHouse_12 f10_mixed
    rw [q2, if_neg (nI_ge (by omega) (by omega)), idx_nI _ (by omega) (by omega), obind_some, idx_nI _ (by omega) (by omega), olet_eq, hb2, onul_some, obind_some, nI_1, ih m (i + 1) _ (by omega) (by omega)]
    have e : 31 * (31 * c + gL σ 18 h i) + Int32.toInt64 (gI σ 20 b 2) = dE σ h i c := by
      unfold dE
      rw [hb2]; rfl
    rw [e]
    rfl
theorem dh11_loop {N t h : Nat} {σ τ : rS} (hI : Inv t σ τ) (hh : h < gC σ 17) (K : Nat → Int64 → Int32 → rS → Option (Int64 × rS)) : ∀ (k n i : Nat) (c : Int64), k < n → i + k = nE σ h → L11_digest_243 N K n 0 c (nI h) (nI (12 * h + i)) τ = K 0 (fd (dE σ h) i k c) (nI (h + 1)) τ := by
  have hz := hI.2.2.2.2.2.1.1
  have g57 := hI.1.2.2.2.2.2.2.1
  have g58 := hI.1.2.2.2.2.2.2.2.1
  have g59 := hI.1.2.2.2.2.2.2.2.2.1
  have g51 := hI.1.2.2.1
  obtain ⟨b1, b2, b3, b4, b5, ev, b6, b7, b8, b9, b10⟩ := hI.2.2.2.2.1
  obtain ⟨-, q1, q2, q3, q4, q5, q6⟩ := hI.2.2.2.2.2.1.2.2.2.2.2 h hh
  intro k
  induction k with
  | zero =>
    intro n i c hn hi
    obtain ⟨m, rfl⟩ : ∃ m', n = m' + 1 := ⟨n - 1, by omega⟩
    show B11_digest_243 N K (L11_digest_243 N K m) 0 c (nI h) (nI (12 * h + i)) τ = _
    unfold B11_digest_243
    rw [idx_nI _ (by omega) (by omega), q3, ix12, if_pos (nI_le (by omega) (by omega)), nI_1]
    rfl
  | succ k ih =>
    intro n i c hn hi
    obtain ⟨m, rfl⟩ : ∃ m', n = m' + 1 := ⟨n - 1, by omega⟩
    obtain ⟨qa, b, hb1, hb2, hb3⟩ := q6 i (by omega)
    have hl := live_of hI hh (show i < nE σ h by omega) hb2 hb1
    have hy := ((b9 b hb1).2.2.2.2 hl).2.1
    show B11_digest_243 N K (L11_digest_243 N K m) 0 c (nI h) (nI (12 * h + i)) τ = _
    unfold B11_digest_243
    rw [idx_nI _ (by omega) (by omega), q3, ix12, if_neg (nI_ge (by omega) (by omega)), idx_nI _ (by omega) (by omega), olet_eq, idx_nI _ (by omega) (by omega), hb3, idx_nI _ (by omega) (by omega), olet_eq, nI_1, qa, hy]
    have e : 31 * (31 * c + gL σ 18 h i) + Int32.toInt64 (gI σ 20 b 2) = dE σ h i c := by
      unfold dE
      rw [hb2]; rfl
    rw [e]
    exact ih m (i + 1) _ (by omega) (by omega)
theorem dh_eq {N t h : Nat} {σ τ : rS} (hN : 500 ≤ N) (hI : Inv t σ τ) (hh : h < gC σ 17) (c : Int64) : f10_mixedWithHouse N c h σ = some (dH σ h c, σ) := by
  obtain ⟨-, q1, q2, q3, q4, q5, q6⟩ := hI.2.2.2.2.2.1.2.2.2.2.2 h hh
  unfold f10_mixedWithHouse dH f10_mixed
  rw [obind_some]
  exact dh_loop (N := N) hI hh (nE σ h) N 0 _ (by omega) (by omega)
theorem dh11_eq {N t h : Nat} {σ τ : rS} (hN : 500 ≤ N) (hI : Inv t σ τ) (hh : h < gC σ 17) (K : Nat → Int64 → Int32 → rS → Option (Int64 × rS)) (c : Int64) : B11_digest_215 N K 0 c (nI h) τ = K 0 (dH σ h c) (nI (h + 1)) τ := by
  have hz := hI.2.2.2.2.2.1.1
  have g57 := hI.1.2.2.2.2.2.2.1
  obtain ⟨-, q1, q2, q3, q4, q5, q6⟩ := hI.2.2.2.2.2.1.2.2.2.2.2 h hh
  unfold B11_digest_215 dH
  have e12 : (12 : Int32) * nI h = nI (12 * h + 0) := by rw [← ix12]; exact (Int32.add_zero _).symm
  rw [hI.2.2.2.2.2.1.2.2.2.2.1, if_neg (nI_ge (by omega) (by omega)), idx_nI _ (by omega) (by omega), olet_eq, olet_eq, q3, e12, q2]
  exact dh11_loop (N := N) hI hh K (nE σ h) N 0 _ (by omega) (by omega)
theorem dg3 {N t : Nat} {σ τ : rS} (hN : 500 ≤ N) (h : Inv t σ τ) : ∀ (k n n' i : Nat) (c : Int64), k < n → k < n' → i + k = gC σ 17 → ∃ r, L10_digest_78 N n 0 c (nI i) σ = some (r, σ) ∧ L11_digest_215 N n' 0 c (nI i) τ = some (r, τ) := by
  obtain ⟨r1, r2, r2', r3, r4, r5⟩ := h.2.2.2.2.2.1
  have g3 := h.1.1.2.2.1
  intro k
  induction k with
  | zero =>
    intro n n' i c hn hn' hi
    obtain ⟨m, rfl⟩ : ∃ m', n = m' + 1 := ⟨n - 1, by omega⟩
    obtain ⟨m', rfl⟩ : ∃ m'', n' = m'' + 1 := ⟨n' - 1, by omega⟩
    have c1 : nI (gC σ 17) ≤ nI i := nI_le (by omega) (by omega)
    refine ⟨31 * c + Int32.toInt64 (nI (gC σ 22)), ?_, ?_⟩
    · show B10_digest_78 N (L10_digest_78 N m) 0 c (nI i) σ = _
      unfold B10_digest_78 f10_mixed
      rw [r3, if_pos c1, h.2.2.2.2.2.2.2.2.2.2.1]
      rfl
    · show B11_digest_215 N (L11_digest_215 N m') 0 c (nI i) τ = _
      unfold B11_digest_215
      rw [r4, if_pos c1, h.2.2.2.2.2.2.2.2.2.2.2.1]
  | succ k ih =>
    intro n n' i c hn hn' hi
    obtain ⟨m, rfl⟩ : ∃ m', n = m' + 1 := ⟨n - 1, by omega⟩
    obtain ⟨m', rfl⟩ : ∃ m'', n' = m'' + 1 := ⟨n' - 1, by omega⟩
    obtain ⟨r, a1, a2⟩ := ih m m' (i + 1) (dH σ i c) (by omega) (by omega) (by omega)
    refine ⟨r, ?_, ?_⟩
    · show B10_digest_78 N (L10_digest_78 N m) 0 c (nI i) σ = _
      unfold B10_digest_78
      rw [r3, if_neg (nI_ge (by omega) (by omega)), idx_nI _ (by omega) (by omega), olet_eq, (r5 i (by omega)).1, onul_some, dh_eq hN h (by omega), obind_some, nI_1]
      exact a1
    · show B11_digest_215 N (L11_digest_215 N m') 0 c (nI i) τ = _
      rw [dh11_eq hN h (by omega)]
      exact a2
theorem dg2 {N t : Nat} {σ τ : rS} (hN : 500 ≤ N) (h : Inv t σ τ) : ∀ (k n n' i : Nat) (c : Int64), k < n → k < n' → i + k = gC σ 15 → ∃ r, L10_digest_51 N n 0 c (nI i) σ = some (r, σ) ∧ L11_digest_129 N n' 0 c (nI i) τ = some (r, τ) := by
  obtain ⟨r1, r2, r3, r4, r5⟩ := h.2.2.2.1
  have g2 := h.1.1.2.1
  have hz := h.2.2.2.2.2.1.1
  intro k
  induction k with
  | zero =>
    intro n n' i c hn hn' hi
    obtain ⟨m, rfl⟩ : ∃ m', n = m' + 1 := ⟨n - 1, by omega⟩
    obtain ⟨m', rfl⟩ : ∃ m'', n' = m'' + 1 := ⟨n' - 1, by omega⟩
    have c1 : nI (gC σ 15) ≤ nI i := nI_le (by omega) (by omega)
    obtain ⟨r, a1, a2⟩ := dg3 (N := N) hN h (gC σ 17) N N 0 c (by omega) (by omega) (by omega)
    refine ⟨r, ?_, ?_⟩
    · show B10_digest_51 N (L10_digest_51 N m) 0 c (nI i) σ = _
      unfold B10_digest_51
      rw [r3, if_pos c1]
      exact a1
    · show B11_digest_129 N (L11_digest_129 N m') 0 c (nI i) τ = _
      unfold B11_digest_129
      rw [r4, if_pos c1]
      exact a2
  | succ k ih =>
    intro n n' i c hn hn' hi
    obtain ⟨m, rfl⟩ : ∃ m', n = m' + 1 := ⟨n - 1, by omega⟩
    obtain ⟨m', rfl⟩ : ∃ m'', n' = m'' + 1 := ⟨n' - 1, by omega⟩
    obtain ⟨r, a1, a2⟩ := ih m m' (i + 1) (dS σ i c) (by omega) (by omega) (by omega)
    refine ⟨r, ?_, ?_⟩
    · show B10_digest_51 N (L10_digest_51 N m) 0 c (nI i) σ = _
      unfold B10_digest_51
      rw [r3, if_neg (nI_ge (by omega) (by omega)), idx_nI _ (by omega) (by omega), olet_eq, (r5 i (by omega)).1, onul_some, ds_eq hN h (by omega), obind_some, nI_1]
      exact a1
    · show B11_digest_129 N (L11_digest_129 N m') 0 c (nI i) τ = _
      rw [ds11_eq hN h (by omega)]
      exact a2
theorem dg1 {N t : Nat} {σ τ : rS} (hN : 500 ≤ N) (h : Inv t σ τ) : ∀ (k n n' i : Nat) (c : Int64), k < n → k < n' → i + k = gC σ 13 → ∃ r, L10_digest_14 N n 0 c (nI i) σ = some (r, σ) ∧ L11_digest_12 N n' 0 c (nI i) τ = some (r, τ) := by
  obtain ⟨r1, r2, r3, r4, r5⟩ := h.2.2.1
  have g2 := h.1.1.1
  have hz := h.2.2.2.1.1
  intro k
  induction k with
  | zero =>
    intro n n' i c hn hn' hi
    obtain ⟨m, rfl⟩ : ∃ m', n = m' + 1 := ⟨n - 1, by omega⟩
    obtain ⟨m', rfl⟩ : ∃ m'', n' = m'' + 1 := ⟨n' - 1, by omega⟩
    have c1 : nI (gC σ 13) ≤ nI i := nI_le (by omega) (by omega)
    obtain ⟨r, a1, a2⟩ := dg2 (N := N) hN h (gC σ 15) N N 0 (31 * c + Int32.toInt64 (nI (gC σ 15))) (by omega) (by omega) (by omega)
    refine ⟨r, ?_, ?_⟩
    · show B10_digest_14 N (L10_digest_14 N m) 0 c (nI i) σ = _
      unfold B10_digest_14 f10_mixed
      rw [r3, if_pos c1, obind_some, h.2.2.2.1.2.2.1]
      exact a1
    · show B11_digest_12 N (L11_digest_12 N m') 0 c (nI i) τ = _
      unfold B11_digest_12
      rw [r4, if_pos c1, olet_eq, h.2.2.2.1.2.2.2.1]
      exact a2
  | succ k ih =>
    intro n n' i c hn hn' hi
    obtain ⟨m, rfl⟩ : ∃ m', n = m' + 1 := ⟨n - 1, by omega⟩
    obtain ⟨m', rfl⟩ : ∃ m'', n' = m'' + 1 := ⟨n' - 1, by omega⟩
    obtain ⟨r, a1, a2⟩ := ih m m' (i + 1) (dR σ i c) (by omega) (by omega) (by omega)
    refine ⟨r, ?_, ?_⟩
    · show B10_digest_14 N (L10_digest_14 N m) 0 c (nI i) σ = _
      unfold B10_digest_14
      rw [r3, if_neg (nI_ge (by omega) (by omega)), idx_nI _ (by omega) (by omega), olet_eq, (r5 i (by omega)).1, onul_some, dr_eq hN (r5 i (by omega)).2.2.2.1, obind_some, nI_1]
      exact a1
    · show B11_digest_12 N (L11_digest_12 N m') 0 c (nI i) τ = _
      rw [dr11_eq hN h (by omega)]
      exact a2
theorem eq_digest {N : Nat} (hN : 500 ≤ N) : EQ_digest N Inv := by
  intro t σ τ _ h
  show Bth t _ _
  have hz := h.2.2.1.1
  unfold f10_digest f11_digest f10_mixed
  rw [obind_some, olet_eq, h.2.2.1.2.2.1, h.2.2.1.2.2.2.1]
  obtain ⟨r, a1, a2⟩ := dg1 (N := N) hN h (gC σ 13) N N 0 (31 * 19 + Int32.toInt64 (nI (gC σ 13))) (by omega) (by omega) (by omega)
  have e : (589 : Int64) = 31 * 19 := by decide
  rw [e]
  have a1' : L10_digest_14 N N 0 (31 * 19 + Int32.toInt64 (nI (gC σ 13))) 0 σ = _ := a1
  have a2' : L11_digest_12 N N 0 (31 * 19 + Int32.toInt64 (nI (gC σ 13))) 0 τ = _ := a2
  rw [a1', a2']
  exact bth_ret h _
