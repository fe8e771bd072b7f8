noncomputable def better (k : Int32) (up : Bool) (a b : Int64) : Bool := if up then decide (rkC k a ≤ rkC k b) else decide (rkC k b ≤ rkC k a)
noncomputable def bst (k : Int32) (F : Nat → Int64) (up : Bool) : Nat → Option Nat
  | 0 => none
  | i + 1 => if isg k (F i) = true then bst k F up i else (bst k F up i).elim (some i) (fun j => if better k up (F i) (F j) = true then some j else some i)
noncomputable def gct (k : Int32) (F : Nat → Int64) (i : Nat) : Nat := ctn (fun j => isg k (F j) = true) (fun _ => inferInstance) i
theorem bst_lt {k : Int32} {F : Nat → Int64} {up : Bool} : ∀ {i j : Nat}, bst k F up i = some j → j < i
  | 0, _, h => by cases h
  | i + 1, j, h => by
    unfold bst at h
    by_cases g : isg k (F i) = true
    · rw [if_pos g] at h
      have := bst_lt h
      omega
    · rw [if_neg g] at h
      cases hb : bst k F up i with
      | none => rw [hb] at h; cases h; omega
      | some q =>
        rw [hb] at h
        have hq := bst_lt hb
        simp only [Option.elim] at h
        split at h
        · cases h; omega
        · cases h; omega
theorem bst_none {k : Int32} {F : Nat → Int64} {up : Bool} : ∀ (i : Nat), (bst k F up i = none ↔ gct k F i = i)
  | 0 => by simp [bst, gct, ctn]
  | i + 1 => by
    have ih := bst_none (k := k) (F := F) (up := up) i
    have hle := ctn_le (fun j => isg k (F j) = true) (fun _ => inferInstance) i
    have e : gct k F (i + 1) = gct k F i + (if isg k (F i) = true then 1 else 0) := rfl
    have hle' : gct k F i ≤ i := hle
    rw [e]
    unfold bst
    by_cases g : isg k (F i) = true
    · rw [if_pos g, if_pos g, ih]
      omega
    · rw [if_neg g, if_neg g]
      constructor
      · intro h
        cases hb : bst k F up i with
        | none => rw [hb] at h; cases h
        | some q =>
          rw [hb] at h
          simp only [Option.elim] at h
          split at h <;> cases h
      · intro h; omega
theorem gaps_loop {N r l : Nat} {σ : rS} (hl : gN σ 14 r = l) (hl2 : l ≤ 24) : ∀ (k n i : Nat), k < n → i + k = l → L7_gaps_13 N n r (nI (gct (gI σ 13 r 0) (fun j => gL σ 14 r j) i)) r (nI l) (nI i) σ = some (nI (gct (gI σ 13 r 0) (fun j => gL σ 14 r j) l), σ) := by
  intro k
  induction k with
  | zero =>
    intro n i hn hi
    obtain ⟨m, rfl⟩ : ∃ m', n = m' + 1 := ⟨n - 1, by omega⟩
    show B7_gaps_13 N (L7_gaps_13 N m) r _ r (nI l) (nI i) σ = _
    unfold B7_gaps_13
    have : i = l := by omega
    rw [if_pos (nI_le (by omega) (by omega)), this]
  | succ k ih =>
    intro n i hn hi
    obtain ⟨m, rfl⟩ : ∃ m', n = m' + 1 := ⟨n - 1, by omega⟩
    show B7_gaps_13 N (L7_gaps_13 N m) r _ r (nI l) (nI i) σ = _
    unfold B7_gaps_13 B7_gaps_40
    have e : gct (gI σ 13 r 0) (fun j => gL σ 14 r j) (i + 1) = gct (gI σ 13 r 0) (fun j => gL σ 14 r j) i + (if isg (gI σ 13 r 0) (gL σ 14 r i) = true then 1 else 0) := rfl
    rw [if_neg (nI_ge (by omega) (by omega)), idx_nI _ (by omega) (by omega), olet_eq, gap4_eq, obind_some, ← ih m (i + 1) (by omega) (by omega), nI_1, nI_1, e]
    by_cases g : isg (gI σ 13 r 0) (gL σ 14 r i) = true
    · rw [if_pos g, if_pos g]
    · rw [if_neg g, if_neg g]; rfl
theorem gaps_eq {N r : Nat} {σ : rS} (hN : 500 ≤ N) (hl2 : gN σ 14 r ≤ 24) : f7_gaps N r σ = some (nI (gct (gI σ 13 r 0) (fun j => gL σ 14 r j) (gN σ 14 r)), σ) := by
  unfold f7_gaps
  rw [olet_eq]
  exact gaps_loop (N := N) rfl hl2 (gN σ 14 r) N 0 (by omega) (by omega)
theorem utm_loop {N r l : Nat} {σ : rS} (up : Bool) (hl : gN σ 14 r = l) (hl2 : l ≤ 24) : ∀ (k n i : Nat), k < n → i + k = l → L7_utmost_18 N n r up (bst (gI σ 13 r 0) (fun j => gL σ 14 r j) up i).isSome ((bst (gI σ 13 r 0) (fun j => gL σ 14 r j) up i).elim 0 (fun j => gL σ 14 r j)) r (nI l) (nI i) σ = some ((bst (gI σ 13 r 0) (fun j => gL σ 14 r j) up l).elim 0 (fun j => gL σ 14 r j), σ) := by
  intro k
  induction k with
  | zero =>
    intro n i hn hi
    obtain ⟨m, rfl⟩ : ∃ m', n = m' + 1 := ⟨n - 1, by omega⟩
    show B7_utmost_18 N (L7_utmost_18 N m) r up _ _ r (nI l) (nI i) σ = _
    unfold B7_utmost_18
    have : i = l := by omega
    rw [if_pos (nI_le (by omega) (by omega)), this]
  | succ k ih =>
    intro n i hn hi
    obtain ⟨m, rfl⟩ : ∃ m', n = m' + 1 := ⟨n - 1, by omega⟩
    show B7_utmost_18 N (L7_utmost_18 N m) r up _ _ r (nI l) (nI i) σ = _
    unfold B7_utmost_18 B7_utmost_106 B7_utmost_117 B7_utmost_120 B7_utmost_122
    have ih2 := ih m (i + 1) (by omega) (by omega)
    have e : bst (gI σ 13 r 0) (fun j => gL σ 14 r j) up (i + 1) = if isg (gI σ 13 r 0) (gL σ 14 r i) = true then bst (gI σ 13 r 0) (fun j => gL σ 14 r j) up i else (bst (gI σ 13 r 0) (fun j => gL σ 14 r j) up i).elim (some i) (fun j => if better (gI σ 13 r 0) up (gL σ 14 r i) (gL σ 14 r j) = true then some j else some i) := rfl
    rw [if_neg (nI_ge (by omega) (by omega)), idx_nI _ (by omega) (by omega), olet_eq, gap4_eq, obind_some, nI_1, ← ih2, e]
    by_cases g : isg (gI σ 13 r 0) (gL σ 14 r i) = true
    · rw [if_pos g, if_pos g]
    · rw [if_neg g, if_neg g]
      simp only [rank4_eq, obind_some]
      cases hb : bst (gI σ 13 r 0) (fun j => gL σ 14 r j) up i with
      | none =>
        simp only [Option.isSome, Option.elim, Bool.false_eq_true, if_false]
        cases up
        · simp only [Bool.false_eq_true, if_false]; split <;> rfl
        · simp only [if_true]; split <;> rfl
      | some j =>
        simp only [Option.isSome, Option.elim, if_true]
        unfold better
        cases up
        · simp only [Bool.false_eq_true, if_false, decide_eq_true_eq]
          by_cases c : rkC (gI σ 13 r 0) (gL σ 14 r j) ≤ rkC (gI σ 13 r 0) (gL σ 14 r i)
          · rw [if_pos c, if_pos c]
          · rw [if_neg c, if_neg c]
        · simp only [if_true, decide_eq_true_eq]
          by_cases c : rkC (gI σ 13 r 0) (gL σ 14 r i) ≤ rkC (gI σ 13 r 0) (gL σ 14 r j)
          · rw [if_pos c, if_pos c]; rfl
          · rw [if_neg c, if_neg c]
theorem utm_eq {N r : Nat} {σ : rS} (up : Bool) (hN : 500 ≤ N) (hl2 : gN σ 14 r ≤ 24) : f7_utmost N r up σ = some ((bst (gI σ 13 r 0) (fun j => gL σ 14 r j) up (gN σ 14 r)).elim 0 (fun j => gL σ 14 r j), σ) := by
  unfold f7_utmost
  rw [olet_eq]
  exact utm_loop (N := N) up rfl hl2 (gN σ 14 r) N 0 (by omega) (by omega)
