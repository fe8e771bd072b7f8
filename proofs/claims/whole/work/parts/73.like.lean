/-! ===== the same bytes; a body like it; a free body ===== -/
theorem hasAt_loop {N k3 s v3 a z : Nat} {σ : rS} (h16 : gN σ 16 s = 400) (h3 : z ≤ gN σ k3 v3) (haz : a + z ≤ 400) : ∀ (k n i : Nat), k < n → i + k = z → L9_hasAt_32 N k3 n s (nI a) v3 (nI z) (nI i) σ = some (decide (∀ j, j < k → gI σ 16 s (a + i + j) = gI σ k3 v3 (i + j)), σ) := by
  intro k
  induction k with
  | zero =>
    intro n i hn hi
    obtain ⟨m, rfl⟩ : ∃ m', n = m' + 1 := ⟨n - 1, by omega⟩
    show B9_hasAt_32 N k3 (L9_hasAt_32 N k3 m) s (nI a) v3 (nI z) (nI i) σ = _
    unfold B9_hasAt_32
    rw [if_pos (nI_le (by omega) (by omega)), decide_eq_true (fun j hj => absurd hj (Nat.not_lt_zero j))]
  | succ k ih =>
    intro n i hn hi
    obtain ⟨m, rfl⟩ : ∃ m', n = m' + 1 := ⟨n - 1, by omega⟩
    show B9_hasAt_32 N k3 (L9_hasAt_32 N k3 m) s (nI a) v3 (nI z) (nI i) σ = _
    unfold B9_hasAt_32
    rw [if_neg (nI_ge (by omega) (by omega)), nI_add, idx_nI _ (by omega) (by omega), idx_nI _ (by omega) (by omega), nI_1]
    by_cases e : gI σ 16 s (a + i) = gI σ k3 v3 i
    · rw [if_pos e, ih m (i + 1) (by omega) (by omega)]
      congr 2
      apply decide_eq_decide.mpr
      constructor
      · intro H j hj
        by_cases q : j = 0
        · subst q; exact e
        · have := H (j - 1) (by omega)
          rw [show a + (i + 1) + (j - 1) = a + i + j by omega, show i + 1 + (j - 1) = i + j by omega] at this
          exact this
      · intro H j hj
        have := H (j + 1) (by omega)
        rw [show a + (i + 1) + j = a + i + (j + 1) by omega, show i + 1 + j = i + (j + 1) by omega]
        exact this
    · rw [if_neg e, decide_eq_false (fun H => e (H 0 (by omega)))]
theorem hasAt_eq {N k3 s v3 a e z : Nat} {σ : rS} (hN : 500 ≤ N) (h2 : gI σ 15 s 1 = nI (zS σ s)) (h16 : gN σ 16 s = 400) (hz4 : zS σ s ≤ 400) (he : e ≤ zS σ s) (ha : a ≤ e) (h3 : z ≤ gN σ k3 v3) (h3' : gN σ k3 v3 < 2 ^ 30) : f9_hasAt N k3 s (nI a) (nI e) v3 (nI z) σ = some (decide (e = a + z ∧ ∀ j, j < z → gI σ 16 s (a + j) = gI σ k3 v3 j), σ) := by
  unfold f9_hasAt
  rw [pk_sub ha, h2]
  by_cases q : e = a + z
  · have c1 : nI (e - a) = nI z := by rw [show e - a = z by omega]
    rw [if_pos c1, if_neg (nI_pos (by omega)), if_neg (nI_nlt he (by omega)), if_pos (nI_le h3 (by omega))]
    have L := hasAt_loop (N := N) (k3 := k3) (s := s) (v3 := v3) (a := a) (z := z) h16 h3 (by omega) z N 0 (by omega) (by omega)
    have L' : L9_hasAt_32 N k3 N s (nI a) v3 (nI z) 0 σ = _ := L
    rw [L']
    congr 2
    apply decide_eq_decide.mpr
    simp only [Nat.add_zero, Nat.zero_add, q, true_and]
  · have c1 : ¬ nI (e - a) = nI z := fun c => by
      have := (nI_eq (by omega) (by omega)).mp c
      omega
    rw [if_neg c1, decide_eq_false (fun H => q H.1)]
theorem like_in {N t s b : Nat} {σ τ : rS} (h : Inv t σ τ) (hs1 : s < gC σ 15) (hb : b < 30) (K : Nat → Int32 → Int32 → rS → Option (Int32 × rS)) : ∀ (k n i : Nat), k + 1 < n → i + k = zS σ s → L11_likeBody_42 N K n 0 (nI s) (nI b) true (nI i) τ = if ∀ j, j < k → gI τ 54 0 (400 * b + (i + j)) = gI τ 44 0 (400 * s + (i + j)) then some (nI b, τ) else K 0 (nI s) (nI (b + 1)) τ := by
  have hc := h.2.2.2.1.1
  have g44 := h.1.2.1.2.2.2.2.2.2.2.2.1
  have g45 := h.1.2.1.2.2.2.2.2.2.2.2.2.1
  have g54 := h.1.2.2.2.2.2.1
  obtain ⟨-, q1, q2, q3, q4, q5, q6, q7, q8, q9, q10⟩ := h.2.2.2.1.2.2.2.2 s hs1
  intro k
  induction k with
  | zero =>
    intro n i hn hi
    obtain ⟨m, rfl⟩ : ∃ m', n = m' + 1 := ⟨n - 1, by omega⟩
    show B11_likeBody_42 N K (L11_likeBody_42 N K m) 0 (nI s) (nI b) true (nI i) τ = _
    unfold B11_likeBody_42 B11_likeBody_98
    rw [idx_nI _ (by omega) (by omega), q3, if_pos (nI_le (by omega) (by omega)), if_pos rfl, if_pos (fun j hj => absurd hj (Nat.not_lt_zero j))]
  | succ k ih =>
    intro n i hn hi
    obtain ⟨m, rfl⟩ : ∃ m', n = m' + 1 := ⟨n - 1, by omega⟩
    show B11_likeBody_42 N K (L11_likeBody_42 N K m) 0 (nI s) (nI b) true (nI i) τ = _
    unfold B11_likeBody_42 B11_likeBody_91
    rw [idx_nI _ (by omega) (by omega), q3, if_neg (nI_ge (by omega) (by omega)), if_pos rfl, ix44, idx_nI _ (by omega) (by omega), ix44, idx_nI _ (by omega) (by omega), nI_1]
    by_cases e : gI τ 54 0 (400 * b + i) = gI τ 44 0 (400 * s + i)
    · rw [if_pos e, ih m (i + 1) (by omega) (by omega)]
      by_cases H : ∀ j, j < k + 1 → gI τ 54 0 (400 * b + (i + j)) = gI τ 44 0 (400 * s + (i + j))
      · rw [if_pos H, if_pos]
        intro j hj
        have := H (j + 1) (by omega)
        rw [show i + 1 + j = i + (j + 1) by omega]
        exact this
      · rw [if_neg H, if_neg]
        intro H2
        apply H
        intro j hj
        by_cases q : j = 0
        · subst q; exact e
        · have := H2 (j - 1) (by omega)
          rw [show i + 1 + (j - 1) = i + j by omega] at this
          exact this
    · rw [if_neg e, if_neg (fun H => e (H 0 (by omega)))]
      obtain ⟨m, rfl⟩ : ∃ m', m = m' + 1 := ⟨m - 1, by omega⟩
      show B11_likeBody_42 N K (L11_likeBody_42 N K m) 0 (nI s) (nI b) false (nI (i + 1)) τ = _
      unfold B11_likeBody_42 B11_likeBody_98
      rw [idx_nI _ (by omega) (by omega), nI_1]
      split <;> rfl
theorem like_ref {N t s b : Nat} {σ τ : rS} (hN : 500 ≤ N) (ht : t < 100) (h : Inv t σ τ) (hs1 : s < gC σ 15) (hb : b < 30) (K : Nat → Int32 → Int32 → rS → Option (Int32 × rS)) : B11_likeBody_2 N K 0 (nI s) (nI b) τ = if b < gC σ 20 ∧ 0 < uB σ b ∧ zB σ b = zS σ s ∧ (∀ j, j < zS σ s → gI σ 16 s j = gI σ 21 b j) then some (nI b, τ) else K 0 (nI s) (nI (b + 1)) τ := by
  have hc := h.2.2.2.1.1
  have g44 := h.1.2.1.2.2.2.2.2.2.2.2.1
  have g45 := h.1.2.1.2.2.2.2.2.2.2.2.2.1
  have g54 := h.1.2.2.2.2.2.1
  have g51 := h.1.2.2.1
  have g52 := h.1.2.2.2.1
  obtain ⟨-, q1, q2, q3, q4, q5, q6, q7, q8, q9, q10⟩ := h.2.2.2.1.2.2.2.2 s hs1
  obtain ⟨b1, b2, b3, b4, b5, ev, b6, b7, b8, b9, b10⟩ := h.2.2.2.2.1
  have F : B11_likeBody_37 N K 0 (nI s) (nI b) τ = K 0 (nI s) (nI (b + 1)) τ := by
    unfold B11_likeBody_37 B11_likeBody_38
    obtain ⟨m, rfl⟩ : ∃ m', N = m' + 1 := ⟨N - 1, by omega⟩
    show B11_likeBody_42 (m + 1) K (L11_likeBody_42 (m + 1) K m) 0 (nI s) (nI b) false 0 τ = _
    unfold B11_likeBody_42 B11_likeBody_98
    rw [idx_nI _ (by omega) (by omega), nI_1]
    split <;> rfl
  unfold B11_likeBody_2
  rw [if_neg (show ¬ (30 : Int32) ≤ nI b from nI_ge (a := b) (b := 30) (by omega) (by omega)), idx_nI _ (by omega) (by omega), idx_nI _ (by omega) (by omega), idx_nI _ (by omega) (by omega), F, q3]
  by_cases hb1 : b < gC σ 20
  · obtain ⟨y1, y2, y3, y4, y5⟩ := b9 b hb1
    by_cases hu : 0 < uB σ b
    · obtain ⟨⟨n, hn, z1⟩, z2, z3, z4, z5, z6, z7⟩ := y5 hu
      have c1 : ¬ gI τ 51 0 b = -1 := by rw [z2, z1]; exact nI_nm1 (by omega)
      rw [if_neg c1, z6]
      by_cases hz : zB σ b = zS σ s
      · rw [hz, if_pos rfl]
        unfold B11_likeBody_38
        have L := like_in (N := N) h hs1 hb K (zS σ s) N 0 (by omega) (by omega)
        have L' : L11_likeBody_42 N K N 0 (nI s) (nI b) true 0 τ = _ := L
        rw [L']
        by_cases H : ∀ j, j < zS σ s → gI σ 16 s j = gI σ 21 b j
        · have H' : ∀ j, j < zS σ s → gI τ 54 0 (400 * b + (0 + j)) = gI τ 44 0 (400 * s + (0 + j)) := by
            intro j hj
            rw [Nat.zero_add]
            exact ((bt_inj (q10 j hj) (z7 j (by omega))).mp (H j hj)).symm
          rw [if_pos H', if_pos ⟨hb1, hu, rfl, H⟩]
        · have H' : ¬ ∀ j, j < zS σ s → gI τ 54 0 (400 * b + (0 + j)) = gI τ 44 0 (400 * s + (0 + j)) := by
            intro H2
            apply H
            intro j hj
            have := H2 j hj
            rw [Nat.zero_add] at this
            exact (bt_inj (q10 j hj) (z7 j (by omega))).mpr this.symm
          rw [if_neg H', if_neg (fun z => H z.2.2.2)]
      · have c2 : ¬ nI (zB σ b) = nI (zS σ s) := fun c => hz ((nI_eq (by omega) (by omega)).mp c)
        rw [if_neg c2, if_neg (fun z => hz z.2.2.1)]
    · rw [if_pos (y4 (by omega)), if_neg (fun z => hu z.2.1)]
  · rw [if_pos (b5 b (by omega) hb), if_neg (fun z => hb1 z.1)]
theorem like_cls {N t s b : Nat} {σ τ : rS} (hN : 500 ≤ N) (h : Inv t σ τ) (hs1 : s < gC σ 15) (hb : b < 30) (K : Nat → Nat → Int32 → Int32 → rS → Option (Option Nat × rS)) : B8_bodyLike_11 N K s 0 (nI 30) (nI b) σ = if b < gC σ 20 ∧ 0 < uB σ b ∧ zB σ b = zS σ s ∧ (∀ j, j < zS σ s → gI σ 16 s j = gI σ 21 b j) then some (some b, σ) else K s 0 (nI 30) (nI (b + 1)) σ := by
  have g7 := h.1.1.2.2.2.2.2.1
  obtain ⟨-, q1, q2, q3, q4, q5, q6, q7, q8, q9, q10⟩ := h.2.2.2.1.2.2.2.2 s hs1
  obtain ⟨b1, b2, b3, b4, b5, ev, b6, b7, b8, b9, b10⟩ := h.2.2.2.2.1
  unfold B8_bodyLike_11 B8_bodyLike_61
  rw [if_neg (nI_ge (by omega) (by omega)), idx_nI _ (by omega) (by omega), olet_eq, b3 b hb, nI_1]
  by_cases hb1 : b < gC σ 20
  · obtain ⟨y1, y2, y3, y4, y5⟩ := b9 b hb1
    rw [if_pos hb1, onul_some]
    by_cases hu : 0 < uB σ b
    · obtain ⟨z1, z2, z3, z4, z5, z6, z7⟩ := y5 hu
      have c1 : ¬ gI σ 20 b 3 ≤ 0 := by
        rw [y1]
        exact nI_nle hu (uB_lt σ b)
      have A := hasAt_eq (N := N) (k3 := 21) (s := s) (v3 := b) (a := 0) (e := zS σ s) (z := zB σ b) (σ := σ) hN q2 q9 q1 (Nat.le_refl _) (Nat.zero_le _) (by omega) (by omega)
      have A' : f9_hasAt N 21 s 0 (nI (zS σ s)) b (nI (zB σ b)) σ = _ := A
      rw [if_neg c1, q2, z5, A', obind_some]
      by_cases H : zB σ b = zS σ s ∧ (∀ j, j < zS σ s → gI σ 16 s j = gI σ 21 b j)
      · have H' : zS σ s = 0 + zB σ b ∧ ∀ j, j < zB σ b → gI σ 16 s (0 + j) = gI σ 21 b j := by
          refine ⟨by omega, fun j hj => ?_⟩
          rw [Nat.zero_add]
          exact H.2 j (by omega)
        rw [decide_eq_true H', if_pos rfl, if_pos ⟨hb1, hu, H⟩]
      · have H' : ¬ (zS σ s = 0 + zB σ b ∧ ∀ j, j < zB σ b → gI σ 16 s (0 + j) = gI σ 21 b j) := by
          intro H2
          apply H
          refine ⟨by omega, fun j hj => ?_⟩
          have := H2.2 j (by omega)
          rw [Nat.zero_add] at this
          exact this
        rw [decide_eq_false H', if_neg (by decide), if_neg (fun z => H z.2.2)]
    · have c1 : gI σ 20 b 3 ≤ 0 := by
        rw [y1, show uB σ b = 0 by omega]
        decide
      rw [if_pos c1, if_neg (fun z => hu z.2.1)]
  · rw [if_neg hb1, onul_none, if_neg (fun z => hb1 z.1)]
theorem likeCase {N t s : Nat} {σ τ : rS} (hN : 500 ≤ N) (ht : t < 100) (h : Inv t σ τ) (hs1 : s < gC σ 15) : (∃ b, b < gC σ 20 ∧ 0 < uB σ b ∧ f8_bodyLike N 0 s σ = some (some b, σ) ∧ f11_likeBody N 0 (nI s) τ = some (nI b, τ)) ∨ (f8_bodyLike N 0 s σ = some (none, σ) ∧ f11_likeBody N 0 (nI s) τ = some (-1, τ)) := by
  have g7 := h.1.1.2.2.2.2.2.1
  have hl : ∀ (k n n' i : Nat), k < n → k < n' → i + k = 30 → (∃ b, b < gC σ 20 ∧ 0 < uB σ b ∧ L8_bodyLike_11 N n s 0 (nI 30) (nI i) σ = some (some b, σ) ∧ L11_likeBody_2 N n' 0 (nI s) (nI i) τ = some (nI b, τ)) ∨ (L8_bodyLike_11 N n s 0 (nI 30) (nI i) σ = some (none, σ) ∧ L11_likeBody_2 N n' 0 (nI s) (nI i) τ = some (-1, τ)) := by
    intro k
    induction k with
    | zero =>
      intro n n' i hn hn' hi
      obtain ⟨m, rfl⟩ : ∃ m', n = m' + 1 := ⟨n - 1, by omega⟩
      obtain ⟨m', rfl⟩ : ∃ m'', n' = m'' + 1 := ⟨n' - 1, by omega⟩
      right
      have : i = 30 := by omega
      subst this
      constructor
      · show B8_bodyLike_11 N (L8_bodyLike_11 N m) s 0 (nI 30) (nI 30) σ = _
        unfold B8_bodyLike_11
        rw [if_pos (by decide)]
      · show B11_likeBody_2 N (L11_likeBody_2 N m') 0 (nI s) (nI 30) τ = _
        unfold B11_likeBody_2
        rw [if_pos (by decide)]
    | succ k ih =>
      intro n n' i hn hn' hi
      obtain ⟨m, rfl⟩ : ∃ m', n = m' + 1 := ⟨n - 1, by omega⟩
      obtain ⟨m', rfl⟩ : ∃ m'', n' = m'' + 1 := ⟨n' - 1, by omega⟩
      have E1 : L8_bodyLike_11 N (m + 1) s 0 (nI 30) (nI i) σ = _ := like_cls hN h hs1 (b := i) (by omega) (L8_bodyLike_11 N m)
      have E2 : L11_likeBody_2 N (m' + 1) 0 (nI s) (nI i) τ = _ := like_ref hN ht h hs1 (b := i) (by omega) (L11_likeBody_2 N m')
      rw [E1, E2]
      by_cases H : i < gC σ 20 ∧ 0 < uB σ i ∧ zB σ i = zS σ s ∧ (∀ j, j < zS σ s → gI σ 16 s j = gI σ 21 i j)
      · rw [if_pos H, if_pos H]
        left
        exact ⟨i, H.1, H.2.1, rfl, rfl⟩
      · rw [if_neg H, if_neg H]
        exact ih m m' (i + 1) (by omega) (by omega) (by omega)
  unfold f8_bodyLike f11_likeBody
  rw [g7, olet_eq]
  exact hl 30 N N 0 (by omega) (by omega) (by omega)
