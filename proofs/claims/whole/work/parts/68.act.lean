/-! ===== act ===== -/
theorem total_loop {N t d : Nat} {σ τ : rS} (h : Inv t σ τ) (hd : d < gC σ 22) (c : Bool) : ∀ (k n i : Nat), k < n → i + k = nA σ d → L11_total_5 N n 0 (nI d) c (nI (sumA σ d c i)) (nI i) τ = some (nI (sumA σ d c (nA σ d)), τ) := by
  have hz := h.2.2.2.2.2.2.1
  have g63 := h.1.2.2.2.2.2.2.2.2.2.2.2.1
  have g64 := h.1.2.2.2.2.2.2.2.2.2.2.2.2.1
  have g65 := h.1.2.2.2.2.2.2.2.2.2.2.2.2.2.1
  obtain ⟨-, q1, q2, q3, q4, q5, q6, q7, q8, q9, q10, q11, q12, q13, q14⟩ := h.2.2.2.2.2.2.2.2.2.2.2.2 d hd
  intro k
  induction k with
  | zero =>
    intro n i hn hi
    obtain ⟨m, rfl⟩ : ∃ m', n = m' + 1 := ⟨n - 1, by omega⟩
    show B11_total_5 N (L11_total_5 N m) 0 (nI d) c _ (nI i) τ = _
    unfold B11_total_5
    have : i = nA σ d := by omega
    rw [idx_nI _ (by omega) (by omega), q3, if_pos (nI_le (by omega) (by omega)), this]
  | succ k ih =>
    intro n i hn hi
    obtain ⟨m, rfl⟩ : ∃ m', n = m' + 1 := ⟨n - 1, by omega⟩
    obtain ⟨p1, p2, ⟨z, pz, pz1, pz2⟩, p4⟩ := q13 i (by omega)
    have ih2 := ih m (i + 1) (by omega) (by omega)
    show B11_total_5 N (L11_total_5 N m) 0 (nI d) c _ (nI i) τ = _
    unfold B11_total_5 B11_total_39 B11_total_60
    rw [idx_nI _ (by omega) (by omega), q3, if_neg (nI_ge (by omega) (by omega)), ix44, idx_nI _ (by omega) (by omega), p1, idx_nI _ (by omega) (by omega), p2, pz]
    simp only [olet_eq, nI_1]
    have e1 : sumA σ d c (i + 1) = sumA σ d c i + (if decide (gI σ 23 d i = -1) = c then 0 else (gI σ 24 d i).toNatClampNeg) := rfl
    rw [pz, nI_clamp (by omega)] at e1
    rw [← ih2, e1]
    by_cases e : gI σ 23 d i = -1
    · rw [if_pos e, decide_eq_true e]
      cases c
      · rw [if_pos rfl, if_neg (by decide), nI_add]
      · rw [if_neg (by decide), if_pos rfl]
        show L11_total_5 N m 0 (nI d) true (nI (sumA σ d true i) + 0) _ τ = _
        rw [Int32.add_zero]
        rfl
    · rw [if_neg e, decide_eq_false e]
      cases c
      · rw [if_neg (by decide), if_pos rfl]
        show L11_total_5 N m 0 (nI d) false (nI (sumA σ d false i) + 0) _ τ = _
        rw [Int32.add_zero]
        rfl
      · rw [if_pos rfl, if_neg (by decide), nI_add]
theorem total_eq {N t d : Nat} {σ τ : rS} (hN : 500 ≤ N) (h : Inv t σ τ) (hd : d < gC σ 22) (c : Bool) : f11_total N 0 (nI d) c τ = some (nI (sumA σ d c (nA σ d)), τ) := by
  have q1 := (h.2.2.2.2.2.2.2.2.2.2.2.2 d hd).2.1
  exact total_loop (N := N) h hd c (nA σ d) N 0 (by omega) (by omega)
theorem eq_act {N : Nat} (hN : 500 ≤ N) : EQ_act N Inv := by
  intro v w x t σ τ ht h
  show Bth t _ _
  unfold f10_act f11_act
  rcases delCase h v with ⟨e1, e2⟩ | ⟨d, hd, rfl, e1, e2⟩
  · rw [e1, e2]; exact bth_ret h _
  have hz := h.2.2.2.2.2.2.1
  have g63 := h.1.2.2.2.2.2.2.2.2.2.2.2.1
  have g64 := h.1.2.2.2.2.2.2.2.2.2.2.2.2.1
  have g65 := h.1.2.2.2.2.2.2.2.2.2.2.2.2.2.1
  obtain ⟨-, q1, q2, q3, q4, q5, q6, q7, q8, q9, q10, q11, q12, q13, q14⟩ := h.2.2.2.2.2.2.2.2.2.2.2.2 d hd
  have e := in_lit 0 2 x τ
  have i2 : (2 : Int32).toInt = 2 := rfl
  have im1 : (-1 : Int32).toInt = -1 := rfl
  rw [z0, i2] at e
  have e' : f11_in (Int32.toInt64 x) 0 2 τ = _ := e
  rw [e1, e2]
  simp only [↓obind_some, ↓onul_some, ↓reduceIte, e']
  by_cases hx : 0 ≤ x.toInt ∧ x.toInt ≤ 2
  · have c1 : ¬ x < 0 := by rw [Int32.lt_iff_toInt_lt, z0]; omega
    have c2 : x ≤ 2 := by rw [Int32.le_iff_toInt_le, i2]; omega
    rw [if_neg c1, if_pos c2, decide_eq_true hx, if_pos rfl]
    by_cases hw : w = -1
    · subst hw
      have c3 : ¬ (-1 : Int32) < -1 := by decide
      have c4 : (-1 : Int32) < gI σ 22 d 5 := by
        rw [q2, Int32.lt_iff_toInt_lt, nI_toInt (by omega), im1]; omega
      rw [if_neg c3, if_pos c4, if_pos rfl, if_pos rfl, total_eq hN h hd, total_eq hN h hd, idx_nI _ (by omega) (by omega), q3]
      unfold f1_told
      rw [q2, q6, q7]
      by_cases x0 : x = 0
      · rw [if_pos x0, if_pos x0]; exact bth_ret h _
      · rw [if_neg x0, if_neg x0]
        by_cases x1 : x = 1
        · rw [if_pos x1, if_pos x1]; exact bth_ret h _
        · rw [if_neg x1, if_neg x1]; exact bth_ret h _
    · rw [if_neg hw, if_neg hw, q2, idx_nI _ (by omega) (by omega), q3, in_ix (by omega)]
      by_cases hc : 0 ≤ w.toInt ∧ w.toInt < nA σ d
      · have c3 : ¬ w < -1 := by rw [Int32.lt_iff_toInt_lt, im1]; omega
        have c4 : w < nI (nA σ d) := by rw [Int32.lt_iff_toInt_lt, nI_toInt (by omega)]; omega
        rw [if_neg c3, if_pos c4, decide_eq_true hc]
        obtain ⟨i, hi, rfl⟩ := of_in (by omega) hc
        obtain ⟨p1, p2, -⟩ := q13 i hi
        unfold f1_toldOfAct
        simp (disch := omega) only [↓obind_some, ↓reduceIte, ix44, ↓idx_nI, olet_eq, p1, p2]
        by_cases x0 : x = 0
        · rw [if_pos x0, if_pos x0]
          split <;> exact bth_ret h _
        · rw [if_neg x0, if_neg x0]
          by_cases x1 : x = 1
          · rw [if_pos x1, if_pos x1]; exact bth_ret h _
          · rw [if_neg x1, if_neg x1]; exact bth_ret h _
      · rw [decide_eq_false hc]
        by_cases c3 : w < -1
        · rw [if_pos c3]; exact bth_fnd h 2 rfl (by omega)
        · have c4 : ¬ w < nI (nA σ d) := by
            rw [Int32.lt_iff_toInt_lt, im1] at c3
            have : w.toInt ≠ -1 := fun q => hw (Int32.toInt_inj.mp (by rw [q, im1]))
            rw [Int32.lt_iff_toInt_lt, nI_toInt (by omega)]; omega
          rw [if_neg c3, if_neg c4]; exact bth_fnd h 2 rfl (by omega)
  · rw [decide_eq_false hx]
    by_cases c1 : x < 0
    · rw [if_pos c1]; exact bth_ret h _
    · have c2 : ¬ x ≤ 2 := by
        rw [Int32.lt_iff_toInt_lt, z0] at c1
        rw [Int32.le_iff_toInt_le, i2]; omega
      rw [if_neg c1, if_neg c2]; exact bth_ret h _
