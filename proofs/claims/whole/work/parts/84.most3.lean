theorem mst_loop {N t r kd : Nat} {σ τ : rS} {v2 : Int32} (h : Inv t σ τ) (hr : r < gC σ 13) (hkd : kd < 8) (hk : gI σ 13 r 0 = nI kd) : ∀ (k n i : Nat), k < n → i + k = gN σ 14 r → L11_most_57 N n 0 (nI r) v2 (gI σ 13 r 0) (nI (gct (gI σ 13 r 0) (fun j => gL σ 14 r j) i)) ((bst (gI σ 13 r 0) (fun j => gL σ 14 r j) (decide (v2 = 0)) i).elim (-1) nI) (nI i) τ = (if v2 = 2 then some (0, sL τ 29 0 2 (Int32.toInt64 (nI (gct (gI σ 13 r 0) (fun j => gL σ 14 r j) (gN σ 14 r))))) else (bst (gI σ 13 r 0) (fun j => gL σ 14 r j) (decide (v2 = 0)) (gN σ 14 r)).elim (obind (f11_meets 0 5 τ) fun r s => some (r, s)) (fun j => some (0, sL τ 29 0 2 (gL σ 14 r j)))) := by
  have hz := h.2.2.1.1
  have g35 := h.1.2.1.2.2.1
  have g37 := h.1.2.1.2.2.2.2.1
  obtain ⟨q1, q2, q3, q4, q5, q6, q7, q8⟩ := h.2.2.1.2.2.2.2 r hr
  intro k
  induction k with
  | zero =>
    intro n i hn hi
    obtain ⟨m, rfl⟩ : ∃ m', n = m' + 1 := ⟨n - 1, by omega⟩
    show B11_most_57 N (L11_most_57 N m) 0 (nI r) v2 _ _ _ (nI i) τ = _
    unfold B11_most_57
    have hil : i = gN σ 14 r := by omega
    rw [idx_nI _ (by omega) (by omega), q5, if_pos (nI_le (by omega) (by omega)), hil]
    by_cases c : v2 = 2
    · rw [if_pos c, if_pos c]; rfl
    · rw [if_neg c, if_neg c]
      cases hb : bst (gI σ 13 r 0) (fun j => gL σ 14 r j) (decide (v2 = 0)) (gN σ 14 r) with
      | none => rfl
      | some j =>
        have hj := bst_lt hb
        rw [Option.elim_some, Option.elim_some, if_neg (nI_nm1 (n := j) (by omega)), ix24, idx_nI _ (by omega) (by omega), olet_eq, (q8 j hj).1]
  | succ k ih =>
    intro n i hn hi
    obtain ⟨m, rfl⟩ : ∃ m', n = m' + 1 := ⟨n - 1, by omega⟩
    show B11_most_57 N (L11_most_57 N m) 0 (nI r) v2 _ _ _ (nI i) τ = _
    unfold B11_most_57 B11_most_162 B11_most_166
    have ih2 := ih m (i + 1) (by omega) (by omega)
    have e : bst (gI σ 13 r 0) (fun j => gL σ 14 r j) (decide (v2 = 0)) (i + 1) = if isg (gI σ 13 r 0) (gL σ 14 r i) = true then bst (gI σ 13 r 0) (fun j => gL σ 14 r j) (decide (v2 = 0)) i else (bst (gI σ 13 r 0) (fun j => gL σ 14 r j) (decide (v2 = 0)) i).elim (some i) (fun j => if better (gI σ 13 r 0) (decide (v2 = 0)) (gL σ 14 r i) (gL σ 14 r j) = true then some j else some i) := rfl
    have e' : gct (gI σ 13 r 0) (fun j => gL σ 14 r j) (i + 1) = gct (gI σ 13 r 0) (fun j => gL σ 14 r j) i + (if isg (gI σ 13 r 0) (gL σ 14 r i) = true then 1 else 0) := rfl
    rw [idx_nI _ (by omega) (by omega), q5, if_neg (nI_ge (by omega) (by omega)), ix24, idx_nI _ (by omega) (by omega), olet_eq, (q8 i (by omega)).1, gap11_eq, obind_some, nI_1, nI_1, ← ih2, e, e']
    by_cases g : isg (gI σ 13 r 0) (gL σ 14 r i) = true
    · rw [if_pos g, if_pos g, if_pos g]
    · rw [if_neg g, if_neg g, if_neg g]
      cases hb : bst (gI σ 13 r 0) (fun j => gL σ 14 r j) (decide (v2 = 0)) i with
      | none =>
        rw [Option.elim_none, Option.elim_none, if_pos rfl]; rfl
      | some j =>
        have hj := bst_lt hb
        have W1 := rk_le kd hk hkd (q8 i (by omega)).2 (q8 j (by omega)).2
        have W2 := rk_le kd hk hkd (q8 j (by omega)).2 (q8 i (by omega)).2
        rw [Option.elim_some, Option.elim_some, if_neg (nI_nm1 (n := j) (by omega))]
        simp (disch := omega) only [rank11_eq, obind_some, ix24, idx_nI, (q8 j (show j < gN σ 14 r by omega)).1]
        unfold better
        by_cases c : v2 = 0
        · rw [if_pos c, decide_eq_true c, if_pos rfl]
          by_cases c2 : rkR (gI σ 13 r 0) (gL σ 14 r i) ≤ rkR (gI σ 13 r 0) (gL σ 14 r j)
          · rw [if_pos c2, decide_eq_true (W1.mpr c2), if_pos rfl]; rfl
          · rw [if_neg c2, decide_eq_false (fun q => c2 (W1.mp q)), if_neg (show ¬ (false = true) by decide)]; rfl
        · rw [if_neg c, decide_eq_false c, if_neg (show ¬ (false = true) by decide)]
          by_cases c2 : rkR (gI σ 13 r 0) (gL σ 14 r j) ≤ rkR (gI σ 13 r 0) (gL σ 14 r i)
          · rw [if_pos c2, decide_eq_true (W2.mpr c2), if_pos rfl]; rfl
          · rw [if_neg c2, decide_eq_false (fun q => c2 (W2.mp q)), if_neg (show ¬ (false = true) by decide)]; rfl
theorem eq_most {N : Nat} (hN : 500 ≤ N) : EQ_most N Inv := by
  intro v x t σ τ ht h
  show Bth t _ _
  unfold f10_most f11_most
  rcases rowCase h v with ⟨e1, e2⟩ | ⟨r, hr, rfl, e1, e2⟩
  · rw [e1, e2]; exact bth_ret h _
  have hz := h.2.2.1.1
  have g34 := h.1.2.1.2.1
  have g36 := h.1.2.1.2.2.2.1
  obtain ⟨q1, ⟨kd, hkd, q2⟩, q3, q4, q5, q6, q7, q8⟩ := h.2.2.1.2.2.2.2 r hr
  have e := in_lit 0 2 x τ
  have i2 : (2 : Int32).toInt = 2 := rfl
  rw [z0, i2] at e
  have e' : f11_in (Int32.toInt64 x) 0 2 τ = _ := e
  rw [e1, e2]
  simp only [↓obind_some, ↓onul_some, ↓reduceIte, e']
  by_cases hx : 0 ≤ x.toInt ∧ x.toInt ≤ 2
  · have c1 : ¬ x < 0 := by rw [Int32.lt_iff_toInt_lt, z0]; omega
    have c2 : x ≤ 2 := by rw [Int32.le_iff_toInt_le, i2]; omega
    rw [if_neg c1, if_pos c2, decide_eq_true hx, if_pos rfl, idx_nI _ (by omega) (by omega), q7]
    by_cases hl : gI σ 13 r 2 = 0
    · rw [if_pos hl, if_pos hl, gaps_eq hN q4, obind_some, idx_nI _ (by omega) (by omega), olet_eq, q3]
      have L := mst_loop (N := N) (v2 := x) h hr hkd q2 (gN σ 14 r) N 0 (by omega) (by omega)
      have L' : L11_most_57 N N 0 (nI r) x (gI σ 13 r 0) 0 (-1) 0 τ = _ := L
      rw [olet_eq, L']
      by_cases c : x = 2
      · rw [if_pos c, if_pos c]
        exact bth_ret (seen_Inv h _) _
      · rw [if_neg c, if_neg c]
        cases hb : bst (gI σ 13 r 0) (fun j => gL σ 14 r j) (decide (x = 0)) (gN σ 14 r) with
        | none =>
          rw [(bst_none _).mp hb, if_pos rfl]
          exact bth_fnd h 5 rfl (by omega)
        | some j =>
          have hne : ¬ nI (gct (gI σ 13 r 0) (fun j => gL σ 14 r j) (gN σ 14 r)) = nI (gN σ 14 r) := by
            intro q
            have hle : gct (gI σ 13 r 0) (fun j => gL σ 14 r j) (gN σ 14 r) ≤ gN σ 14 r := ctn_le _ _ _
            have q' := (nI_eq (by omega) (by omega)).mp q
            have := (bst_none (up := decide (x = 0)) _).mpr q'
            rw [hb] at this
            cases this
          rw [if_neg hne, utm_eq true hN q4, utm_eq false hN q4]
          by_cases c0 : x = 0
          · rw [if_pos c0]
            rw [decide_eq_true c0] at hb
            rw [hb]
            exact bth_ret (seen_Inv h _) _
          · rw [if_neg c0]
            rw [decide_eq_false c0] at hb
            rw [hb]
            exact bth_ret (seen_Inv h _) _
    · rw [if_neg hl, if_neg hl]
      exact bth_fnd h 1 rfl (by omega)
  · rw [decide_eq_false hx]
    by_cases c1 : x < 0
    · rw [if_pos c1]; exact bth_ret h _
    · have c2 : ¬ x ≤ 2 := by
        rw [Int32.lt_iff_toInt_lt, z0] at c1
        rw [Int32.le_iff_toInt_le, i2]; omega
      rw [if_neg c1, if_neg c2]; exact bth_ret h _
