/-! ===== count, uses ===== -/
theorem now_loop {N : Nat} {τ : rS} (h51 : gN τ 51 0 = 30) : ∀ (k n i : Nat), k < n → i + k = 30 → L11_bodiesNow_4 N n 0 (nI (ctn (fun b => gI τ 51 0 b ≠ -1) (fun _ => inferInstance) i)) (nI i) τ = some (nI (ctn (fun b => gI τ 51 0 b ≠ -1) (fun _ => inferInstance) 30), τ) := by
  intro k
  induction k with
  | zero =>
    intro n i hn hi
    obtain ⟨m, rfl⟩ : ∃ m', n = m' + 1 := ⟨n - 1, by omega⟩
    have : i = 30 := by omega
    subst this
    show B11_bodiesNow_4 N (L11_bodiesNow_4 N m) 0 _ (nI 30) τ = _
    unfold B11_bodiesNow_4
    rw [if_pos (by decide)]
  | succ k ih =>
    intro n i hn hi
    obtain ⟨m, rfl⟩ : ∃ m', n = m' + 1 := ⟨n - 1, by omega⟩
    show B11_bodiesNow_4 N (L11_bodiesNow_4 N m) 0 _ (nI i) τ = _
    unfold B11_bodiesNow_4
    rw [if_neg (show ¬ (30 : Int32) ≤ nI i from nI_ge (a := i) (b := 30) (by omega) (by omega)), h51, idx_nI _ (by omega) (by omega), ← ih m (i + 1) (by omega) (by omega)]
    unfold B11_bodiesNow_26
    simp only [olet_eq, nI_1]
    have e1 : ctn (fun b => gI τ 51 0 b ≠ -1) (fun _ => inferInstance) (i + 1) = ctn (fun b => gI τ 51 0 b ≠ -1) (fun _ => inferInstance) i + (if gI τ 51 0 i ≠ -1 then 1 else 0) := rfl
    rw [e1]
    by_cases e : gI τ 51 0 i = -1
    · rw [if_pos e, if_neg (fun q => q e)]
      have e2 : nI (ctn (fun b => gI τ 51 0 b ≠ -1) (fun _ => inferInstance) i) + bi false = nI (ctn (fun b => gI τ 51 0 b ≠ -1) (fun _ => inferInstance) i + 0) := by
        rw [Nat.add_zero]
        show _ + (0 : Int32) = _
        exact Int32.add_zero _
      rw [e2]
    · rw [if_neg e, if_pos e]
      have e2 : nI (ctn (fun b => gI τ 51 0 b ≠ -1) (fun _ => inferInstance) i) + bi true = nI (ctn (fun b => gI τ 51 0 b ≠ -1) (fun _ => inferInstance) i + 1) := by
        show _ + (1 : Int32) = _
        exact nI_1 _
      rw [e2]
theorem now_eq {N t : Nat} {σ τ : rS} (hN : 500 ≤ N) (ht : t < 100) (h : Inv t σ τ) : f11_bodiesNow N 0 τ = some (gI σ 6 0 1, τ) := by
  obtain ⟨b1, b2, b3, b4, b5, ev, b6, b7, b8, b9, b10⟩ := h.2.2.2.2.1
  have L := now_loop (N := N) (τ := τ) h.1.2.2.1 30 N 0 (by omega) (by omega)
  unfold f11_bodiesNow
  have L' : L11_bodiesNow_4 N N 0 0 0 τ = _ := L
  rw [L', b4]
  have e := ctn_ext (p := fun b => 0 < uB σ b) (q := fun b => gI τ 51 0 b ≠ -1) (ip := fun _ => inferInstance) (iq := fun _ => inferInstance) (n := gC σ 20) ?_ (m := 30 - gC σ 20) ?_
  · rw [e]
    have e2 : gC σ 20 + (30 - gC σ 20) = 30 := by omega
    rw [e2]
  · intro k hk
    obtain ⟨x1, x2, x3, x4, x5⟩ := b9 k hk
    constructor
    · intro hu
      obtain ⟨⟨n, hn, y1⟩, y2, -⟩ := x5 hu
      rw [y2, y1]
      exact nI_nm1 (by omega)
    · intro hu
      by_cases q : uB σ k = 0
      · exact absurd (x4 q) hu
      · omega
  · intro k h1 h2 h3
    exact h3 (b5 k h1 (by omega))
theorem eq_count {N : Nat} (hN : 500 ≤ N) : EQ_count N Inv := by
  intro v t σ τ ht h
  show Bth t _ _
  unfold f10_count f11_count
  rw [now_eq hN ht h]
  obtain ⟨b1, b2, b3, b4, b5, ev, b6, b7, b8, b9, b10⟩ := h.2.2.2.2.1
  simp only [obind_some, h.2.2.1.2.2.1, h.2.2.1.2.2.2.1, h.2.2.2.1.2.2.1, h.2.2.2.1.2.2.2.1, b7, b8, h.2.2.2.2.2.1.2.2.2.1, h.2.2.2.2.2.1.2.2.2.2.1, h.2.2.2.2.2.2.2.2.2.2.1, h.2.2.2.2.2.2.2.2.2.2.2.1]
  repeat' split
  all_goals exact bth_ret h _
theorem usersA {N : Nat} {t : Nat} {σ τ : rS} (h : Inv t σ τ) {v : Int32} (hA : ∀ b, b < gC σ 20 → 0 < uB σ b → gI σ 20 b 2 ≠ v) : ∀ (k n i : Nat), k < n → i + k = 30 → L8_usersOf_11 N n v 0 (nI 30) (nI i) σ = some (0, σ) := by
  obtain ⟨b1, b2, b3, b4, b5, ev, b6, b7, b8, b9, b10⟩ := h.2.2.2.2.1
  have g7 := h.1.1.2.2.2.2.2.1
  intro k
  induction k with
  | zero =>
    intro n i hn hi
    obtain ⟨m, rfl⟩ : ∃ m', n = m' + 1 := ⟨n - 1, by omega⟩
    show B8_usersOf_11 N (L8_usersOf_11 N m) v 0 (nI 30) (nI i) σ = _
    unfold B8_usersOf_11
    rw [if_pos (nI_le (by omega) (by omega))]
  | succ k ih =>
    intro n i hn hi
    obtain ⟨m, rfl⟩ : ∃ m', n = m' + 1 := ⟨n - 1, by omega⟩
    have ih2 := ih m (i + 1) (by omega) (by omega)
    show B8_usersOf_11 N (L8_usersOf_11 N m) v 0 (nI 30) (nI i) σ = _
    unfold B8_usersOf_11 B8_usersOf_51
    rw [if_neg (nI_ge (by omega) (by omega)), idx_nI _ (by omega) (by omega), olet_eq, nI_1, ih2, b3 i (by omega)]
    by_cases e : i < gC σ 20
    · rw [if_pos e, onul_some]
      by_cases hu : gI σ 20 i 3 ≤ 0
      · rw [if_pos hu]
      · rw [if_neg hu]
        have hu2 : 0 < uB σ i := by
          rw [(b9 i e).1] at hu
          by_cases q : uB σ i = 0
          · rw [q] at hu; exact absurd (by decide) hu
          · omega
        rw [if_neg (hA i e hu2)]
    · rw [if_neg e, onul_none]
theorem usersB {N : Nat} {t b0 : Nat} {σ τ : rS} (h : Inv t σ τ) {v : Int32} (hb0 : b0 < gC σ 20) (hu0 : 0 < uB σ b0) (he0 : gI σ 20 b0 2 = v) : ∀ (k n i : Nat), k < n → i + k = b0 → L8_usersOf_11 N n v 0 (nI 30) (nI i) σ = some (gI σ 20 b0 3, σ) := by
  obtain ⟨b1, b2, b3, b4, b5, ev, b6, b7, b8, b9, b10⟩ := h.2.2.2.2.1
  have g7 := h.1.1.2.2.2.2.2.1
  have hu6 : uB σ b0 < 2 ^ 31 := by
    unfold uB
    have := Int32.toInt_lt (gI σ 20 b0 3)
    unfold Int32.toNatClampNeg
    omega
  intro k
  induction k with
  | zero =>
    intro n i hn hi
    obtain ⟨m, rfl⟩ : ∃ m', n = m' + 1 := ⟨n - 1, by omega⟩
    have : i = b0 := by omega
    subst this
    show B8_usersOf_11 N (L8_usersOf_11 N m) v 0 (nI 30) (nI i) σ = _
    unfold B8_usersOf_11 B8_usersOf_51
    have c : ¬ gI σ 20 i 3 ≤ 0 := by
      rw [(b9 i hb0).1]
      exact nI_nle hu0 hu6
    rw [if_neg (nI_ge (by omega) (by omega)), idx_nI _ (by omega) (by omega), olet_eq, b3 i (by omega), if_pos hb0, onul_some, if_neg c, if_pos he0]
  | succ k ih =>
    intro n i hn hi
    obtain ⟨m, rfl⟩ : ∃ m', n = m' + 1 := ⟨n - 1, by omega⟩
    have ih2 := ih m (i + 1) (by omega) (by omega)
    show B8_usersOf_11 N (L8_usersOf_11 N m) v 0 (nI 30) (nI i) σ = _
    unfold B8_usersOf_11 B8_usersOf_51
    rw [if_neg (nI_ge (by omega) (by omega)), idx_nI _ (by omega) (by omega), olet_eq, nI_1, ih2, b3 i (by omega), if_pos (by omega), onul_some]
    by_cases hu : gI σ 20 i 3 ≤ 0
    · rw [if_pos hu]
    · rw [if_neg hu]
      have hu2 : 0 < uB σ i := by
        rw [(b9 i (by omega)).1] at hu
        by_cases q : uB σ i = 0
        · rw [q] at hu; exact absurd (by decide) hu
        · omega
      rw [if_neg (fun q => by
        have := b10 i b0 (by omega) hb0 hu2 hu0 (by rw [q, he0])
        omega)]
theorem usesA {N : Nat} {τ : rS} (h51 : gN τ 51 0 = 30) (h53 : gN τ 53 0 = 30) {v : Int32} : ∀ (k n i : Nat) (c : Int32), k < n → i + k = 30 → (∀ b, i ≤ b → b < 30 → v < 0 ∨ gI τ 51 0 b ≠ v) → L11_uses_4 N n 0 v c (nI i) τ = some (c, τ) := by
  intro k
  induction k with
  | zero =>
    intro n i c hn hi hA
    obtain ⟨m, rfl⟩ : ∃ m', n = m' + 1 := ⟨n - 1, by omega⟩
    show B11_uses_4 N (L11_uses_4 N m) 0 v c (nI i) τ = _
    unfold B11_uses_4
    rw [if_pos (show (30 : Int32) ≤ nI i from nI_le (a := 30) (b := i) (by omega) (by omega))]
  | succ k ih =>
    intro n i c hn hi hA
    obtain ⟨m, rfl⟩ : ∃ m', n = m' + 1 := ⟨n - 1, by omega⟩
    have ih2 := ih m (i + 1) c (by omega) (by omega) (fun b h1 h2 => hA b (by omega) h2)
    show B11_uses_4 N (L11_uses_4 N m) 0 v c (nI i) τ = _
    unfold B11_uses_4 B11_uses_33 B11_uses_34
    rw [if_neg (show ¬ (30 : Int32) ≤ nI i from nI_ge (a := i) (b := 30) (by omega) (by omega)), nI_1, ih2]
    by_cases hv : v < 0
    · rw [if_pos hv]
    · rw [if_neg hv, h51, idx_nI _ (by omega) (by omega), if_neg (by rcases hA i (by omega) (by omega) with q | q; exact absurd q hv; exact q)]
theorem usesB {N : Nat} {b0 : Nat} {τ : rS} (h51 : gN τ 51 0 = 30) (h53 : gN τ 53 0 = 30) {v : Int32} (hv : ¬ v < 0) (hb : b0 < 30) (h0 : gI τ 51 0 b0 = v) (hA : ∀ b, b < 30 → b ≠ b0 → gI τ 51 0 b ≠ v) : ∀ (k n i : Nat) (c : Int32), k + 31 < n → i + k = b0 → L11_uses_4 N n 0 v c (nI i) τ = some (gI τ 53 0 b0, τ) := by
  intro k
  induction k with
  | zero =>
    intro n i c hn hi
    obtain ⟨m, rfl⟩ : ∃ m', n = m' + 1 := ⟨n - 1, by omega⟩
    have : i = b0 := by omega
    subst this
    show B11_uses_4 N (L11_uses_4 N m) 0 v c (nI i) τ = _
    unfold B11_uses_4 B11_uses_33 B11_uses_34
    rw [if_neg (show ¬ (30 : Int32) ≤ nI i from nI_ge (a := i) (b := 30) (by omega) (by omega)), if_neg hv, h51, idx_nI _ (by omega) (by omega), if_pos h0, h53, idx_nI _ (by omega) (by omega), nI_1]
    exact usesA h51 h53 (29 - i) m (i + 1) _ (by omega) (by omega) (fun b h1 h2 => Or.inr (hA b h2 (by omega)))
  | succ k ih =>
    intro n i c hn hi
    obtain ⟨m, rfl⟩ : ∃ m', n = m' + 1 := ⟨n - 1, by omega⟩
    show B11_uses_4 N (L11_uses_4 N m) 0 v c (nI i) τ = _
    unfold B11_uses_4 B11_uses_33 B11_uses_34
    rw [if_neg (show ¬ (30 : Int32) ≤ nI i from nI_ge (a := i) (b := 30) (by omega) (by omega)), if_neg hv, h51, idx_nI _ (by omega) (by omega), if_neg (hA i (by omega) (by omega)), nI_1]
    exact ih m (i + 1) c (by omega) (by omega)
theorem eq_uses {N : Nat} (hN : 500 ≤ N) : EQ_uses N Inv := by
  intro v t σ τ ht h
  show Bth t _ _
  have h51 := h.1.2.2.1
  have h53 := h.1.2.2.2.2.1
  obtain ⟨b1, b2, b3, b4, b5, ev, b6, b7, b8, b9, b10⟩ := h.2.2.2.2.1
  unfold f10_uses f8_usersOf f11_uses
  rw [h.1.1.2.2.2.2.2.1, olet_eq]
  by_cases hx : ∃ b, b < gC σ 20 ∧ 0 < uB σ b ∧ gI σ 20 b 2 = v
  · obtain ⟨b0, hb0, hu0, he0⟩ := hx
    have U1 : L8_usersOf_11 N N v 0 (nI 30) 0 σ = _ := usersB (N := N) h hb0 hu0 he0 b0 N 0 (by omega) (by omega)
    obtain ⟨⟨n, hn, y1⟩, y2, y3, -⟩ := (b9 b0 hb0).2.2.2.2 hu0
    have hv : ¬ v < 0 := by rw [← he0, y1]; exact nI_pos (by omega)
    have U2 : L11_uses_4 N N 0 v 0 0 τ = _ := usesB (N := N) (b0 := b0) h51 h53 hv (by omega) (by rw [y2, he0]) (fun b h1 h2 q => by
      by_cases hb : b < gC σ 20
      · obtain ⟨x1, x2, x3, x4, x5⟩ := b9 b hb
        by_cases hu : uB σ b = 0
        · rw [x4 hu] at q
          rw [← q] at hv
          exact hv (by decide)
        · have hu' : 0 < uB σ b := by omega
          have := (x5 hu').2.1
          exact h2 (b10 b b0 hb hb0 hu' hu0 (by rw [← this, q, he0]))
      · rw [b5 b (by omega) h1] at q
        rw [← q] at hv
        exact hv (by decide)) b0 N 0 0 (by omega) (by omega)
    rw [U1, U2]
    exact bth_ret2 h (by rw [y3]; exact (b9 b0 hb0).1)
  · have U1 : L8_usersOf_11 N N v 0 (nI 30) 0 σ = _ := usersA (N := N) h (fun b h1 h2 h3 => hx ⟨b, h1, h2, h3⟩) 30 N 0 (by omega) (by omega)
    have U2 : L11_uses_4 N N 0 v 0 0 τ = _ := usesA (N := N) h51 h53 (v := v) 30 N 0 0 (by omega) (by omega) (fun b h1 h2 => by
      by_cases hv : v < 0
      · exact Or.inl hv
      · right
        intro q
        by_cases hb : b < gC σ 20
        · obtain ⟨x1, x2, x3, x4, x5⟩ := b9 b hb
          by_cases hu : uB σ b = 0
          · rw [x4 hu] at q
            rw [← q] at hv
            exact hv (by decide)
          · exact hx ⟨b, hb, by omega, by rw [← (x5 (by omega)).2.1, q]⟩
        · rw [b5 b (by omega) h2] at q
          rw [← q] at hv
          exact hv (by decide))
    rw [U1, U2]
    exact bth_ret h _
