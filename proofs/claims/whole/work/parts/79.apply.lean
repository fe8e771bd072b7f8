/-! ===== apply ===== -/
theorem ap_in {N d s w e p q z0' : Nat} {g : Nat → Int32} (K : Nat → Int32 → Int32 → Int32 → Int32 → Int32 → rS → Option (Int32 × rS)) (i : Nat) (hd : d < 16) (hs : s < 24) (hw : w < 24) (hi : i < 400) (he : e ≤ 400) (x3 : Int32) (hx : (x3 = -1 ∧ p + e ≤ 400) ∨ (x3 = nI q ∧ q + e ≤ 400 ∧ s ≠ w)) : ∀ (k n j z : Nat) (τ : rS), k < n → j + k = e → gI τ 65 0 (400 * d + i) = nI e → (x3 = -1 → ∀ y, y < e → gI τ 66 0 (400 * d + p + y) = g (p + y)) → (x3 ≠ -1 → ∀ y, y < e → gI τ 44 0 (400 * s + q + y) = g (q + y)) → gI τ 45 0 w = nI z → z + k ≤ 400 → gN τ 65 0 = 6400 → gN τ 66 0 = 6400 → gN τ 44 0 = 9600 → gN τ 45 0 = 24 → L11_apply_114 N K n 0 (nI d) (nI s) (nI w) (nI (if x3 = -1 then p + j else p)) (nI i) x3 (nI j) τ = K 0 (nI d) (nI s) (nI w) (nI (if x3 = -1 then p + e else p)) (nI (i + 1)) (layR w g ((if x3 = -1 then p else q) + j) z k τ) := by
  intro k
  induction k with
  | zero =>
    intro n j z τ hn hj h65 hg1 hg2 h45 hz g65 g66 g44 g45
    obtain ⟨m, rfl⟩ : ∃ m', n = m' + 1 := ⟨n - 1, by omega⟩
    show B11_apply_114 N K (L11_apply_114 N K m) 0 (nI d) (nI s) (nI w) _ (nI i) x3 (nI j) τ = _
    unfold B11_apply_114
    have : j = e := by omega
    rw [ix44, idx_nI _ (by omega) (by omega), h65, if_pos (nI_le (by omega) (by omega)), nI_1, this]
    rfl
  | succ k ih =>
    intro n j z τ hn hj h65 hg1 hg2 h45 hz g65 g66 g44 g45
    obtain ⟨m, rfl⟩ : ∃ m', n = m' + 1 := ⟨n - 1, by omega⟩
    show B11_apply_114 N K (L11_apply_114 N K m) 0 (nI d) (nI s) (nI w) _ (nI i) x3 (nI j) τ = _
    unfold B11_apply_114 B11_apply_183
    rw [ix44, idx_nI _ (by omega) (by omega), h65, if_neg (nI_ge (by omega) (by omega)), nI_1]
    by_cases e1 : x3 = -1
    · have hp : p + e ≤ 400 := by
        rcases hx with ⟨-, h⟩ | ⟨h, -⟩
        · exact h
        · rw [e1] at h; exact absurd h.symm (nI_nm1 (by omega))
      have G := hg1 e1 j (by omega)
      rw [show 400 * d + p + j = 400 * d + (p + j) by omega] at G
      rw [if_pos e1, if_pos e1, if_pos e1, if_pos e1, ix44, idx_nI _ (by omega) (by omega), G, lay_eq h45 hw g44 g45 (by omega), obind_some, nI_1]
      have I := ih m (j + 1) (z + 1) (lay τ w z (g (p + j))) (by omega) (by omega) h65 hg1 (fun h => absurd e1 h) (by unfold lay; rw [gI_sI, if_pos ⟨rfl, rfl, rfl⟩, h45, nI_1]) (by omega) g65 g66 g44 g45
      rw [if_pos e1, if_pos e1, if_pos e1] at I
      exact I
    · obtain ⟨e2, e3, e4⟩ : x3 = nI q ∧ q + e ≤ 400 ∧ s ≠ w := by
        rcases hx with ⟨h, -⟩ | h
        · exact absurd h e1
        · exact h
      have G := hg2 e1 j (by omega)
      have ex : (400 : Int32) * nI s + x3 + nI j = nI (400 * s + q + j) := by rw [e2, ix44, nI_add]
      rw [if_neg e1, if_neg e1, if_neg e1, if_neg e1, ex, idx_nI _ (by omega) (by omega), G, lay_eq h45 hw g44 g45 (by omega), obind_some]
      have I := ih m (j + 1) (z + 1) (lay τ w z (g (q + j))) (by omega) (by omega) h65 (fun h => absurd h e1) (fun h y hy => by
        have := hg2 h y hy
        unfold lay
        rw [gI_sI, if_neg (by omega), gI_sI, if_neg (by omega)]
        exact this) (by unfold lay; rw [gI_sI, if_pos ⟨rfl, rfl, rfl⟩, h45, nI_1]) (by omega) g65 g66 g44 g45
      rw [if_neg e1, if_neg e1, if_neg e1] at I
      exact I
