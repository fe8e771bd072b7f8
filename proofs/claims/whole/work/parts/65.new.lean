/-! ===== new rows, streams, houses ===== -/
theorem cutw_0 (k : Int32) : cutw k 0 = 0 := by
  unfold cutw
  repeat' split
  all_goals first | rfl | simp_all
noncomputable def rowX (σ : rS) (kd ln : Int32) : rS := sI (sR (mkRow σ kd ln) 1 0 (gC σ 13) (some (gC σ 13))) 0 0 8 (nI (gC σ 13) + 1)
noncomputable def rowM (τ : rS) (n : Nat) (kd ln : Int32) : rS := sI (sLr (sI (sI (sI τ 34 0 n kd) 35 0 n ln) 36 0 n (vp_nar .boolean 0)) 37 0 (fun x => if 24 * n ≤ x ∧ x < 24 * n + 24 then 0 else gL τ 37 0 x)) 29 0 3 (nI n + 1)
theorem row_Inv {t k l : Nat} {σ τ : rS} (h : Inv t σ τ) (hn : gC σ 13 < 60) (hk : k < 8) (hl : l ≤ 24) : Inv t (rowX σ (nI k) (nI l)) (rowM τ (gC σ 13) (nI k) (nI l)) := by
  obtain ⟨h1, h2, ⟨r1, r2, r3, r4, r5⟩, h4, h5, h6, h7⟩ := h
  have c13 : gC (rowX σ (nI k) (nI l)) 13 = gC σ 13 + 1 := rfl
  refine ⟨h1, h2, ⟨by rw [c13]; omega, ?_, ?_, ?_, fun r hr => ?_⟩, h4, h5, h6, h7⟩
  · rw [c13]; rfl
  · rw [c13]; exact nI_1 _
  · rw [c13]; exact nI_1 _
  · rw [c13] at hr
    have a1 : gR (rowX σ (nI k) (nI l)) 1 0 r = if r = gC σ 13 then some (gC σ 13) else gR σ 1 0 r := by simp [rowX, mkRow, olet_eq, gR_sI, gR_sR, gR_sC, gR_sN, gR_sRr, gR_sLr]
    have a2 : gI (rowX σ (nI k) (nI l)) 13 r 0 = if r = gC σ 13 then nI k else gI σ 13 r 0 := by simp [rowX, mkRow, olet_eq, gI_sI, gI_sR, gI_sC, gI_sN, gI_sRr, gI_sLr]
    have a3 : gI (rowM τ (gC σ 13) (nI k) (nI l)) 34 0 r = if r = gC σ 13 then nI k else gI τ 34 0 r := by simp [rowM, gI_sI, gI_sLr]
    have a4 : gN (rowX σ (nI k) (nI l)) 14 r = if r = gC σ 13 then l else gN σ 14 r := by simp [rowX, mkRow, olet_eq, gN_sI, gN_sR, gN_sC, gN_sN, gN_sRr, gN_sLr, nI_clamp (show l < 2 ^ 31 by omega)]
    have a5 : gI (rowM τ (gC σ 13) (nI k) (nI l)) 35 0 r = if r = gC σ 13 then nI l else gI τ 35 0 r := by simp [rowM, gI_sI, gI_sLr]
    have a6 : gI (rowX σ (nI k) (nI l)) 13 r 2 = if r = gC σ 13 then 0 else gI σ 13 r 2 := by simp [rowX, mkRow, olet_eq, gI_sI, gI_sR, gI_sC, gI_sN, gI_sRr, gI_sLr]
    have a7 : gI (rowM τ (gC σ 13) (nI k) (nI l)) 36 0 r = if r = gC σ 13 then 0 else gI τ 36 0 r := by
      have e : vp_nar .boolean 0 = 0 := by decide
      simp [rowM, gI_sI, gI_sLr, e]
    have a8 : ∀ i, gL (rowX σ (nI k) (nI l)) 14 r i = if r = gC σ 13 then 0 else gL σ 14 r i := by
      intro i
      simp [rowX, mkRow, olet_eq, gL_sI, gL_sR, gL_sC, gL_sN, gL_sRr, gL_sLr]
    have a9 : ∀ x, gL (rowM τ (gC σ 13) (nI k) (nI l)) 37 0 x = if 24 * gC σ 13 ≤ x ∧ x < 24 * gC σ 13 + 24 then 0 else gL τ 37 0 x := by
      intro x
      simp [rowM, gL_sI, gL_sLr]
    unfold rowOk
    simp only [a1, a2, a3, a4, a5, a6, a7, a8, a9]
    by_cases e : r = gC σ 13
    · simp only [if_pos e]
      refine ⟨by rw [e], ⟨k, hk, rfl⟩, by trivial, hl, by trivial, by simp, by trivial, fun i hi => ?_⟩
      rw [if_pos (by omega)]
      exact ⟨rfl, cutw_0 _⟩
    · simp only [if_neg e]
      obtain ⟨q1, q2, q3, q4, q5, q6, q7, q8⟩ := r5 r (by omega)
      refine ⟨q1, q2, q3, q4, q5, q6, q7, fun i hi => ?_⟩
      rw [if_neg (by omega)]
      exact q8 i hi
theorem newRow10_eq {t k l : Nat} {σ τ : rS} (h : Inv t σ τ) (hn : gC σ 13 < 60) (hl : l ≤ 24) : f10_newRow 0 (nI k) (nI l) σ = some (nI (gC σ 13), rowX σ (nI k) (nI l)) := by
  have h3 := h.2.2.1
  unfold f10_newRow newRow
  have e0 : (0 : Int) ≤ (nI l).toInt ∧ (nI l).toInt ≤ 24 ∧ gC σ 14 = gC σ 13 := by
    rw [nI_toInt (by omega)]
    exact ⟨by omega, by omega, h3.2.1⟩
  rw [ock_pos e0, h3.2.2.1]
  have g1 : gN (mkRow σ (nI k) (nI l)) 1 0 = 60 := h.1.1.1
  dsimp only
  rw [idx_nI _ (by omega) (by omega)]
  have e8 : gI (sR (mkRow σ (nI k) (nI l)) 1 0 (gC σ 13) (some (gC σ 13))) 0 0 8 = nI (gC σ 13) := h3.2.2.1
  simp only [olet_eq, e8]
  have e9 : gI (sI (sR (mkRow σ (nI k) (nI l)) 1 0 (gC σ 13) (some (gC σ 13))) 0 0 8 (nI (gC σ 13) + 1)) 0 0 8 = nI (gC σ 13) + 1 := rfl
  rw [e9, nI_1, nI_pred, ← nI_1]
  rfl
theorem newRow11_loop {N n : Nat} {τ : rS} (h37 : gN τ 37 0 = 1440) (h3 : gI τ 29 0 3 = nI n) (hn : n < 60) : ∀ (k m i : Nat), k < m → i + k = 24 → L11_newRow_32 N m 0 (nI i) (sLr τ 37 0 (fun x => if 24 * n ≤ x ∧ x < 24 * n + i then 0 else gL τ 37 0 x)) = some (nI n, sI (sLr τ 37 0 (fun x => if 24 * n ≤ x ∧ x < 24 * n + 24 then 0 else gL τ 37 0 x)) 29 0 3 (nI n + 1)) := by
  intro k
  induction k with
  | zero =>
    intro m i hm hi
    obtain ⟨m, rfl⟩ : ∃ m', m = m' + 1 := ⟨m - 1, by omega⟩
    have : i = 24 := by omega
    subst this
    show B11_newRow_32 N (L11_newRow_32 N m) 0 (nI 24) _ = _
    unfold B11_newRow_32
    rw [if_pos (show (24 : Int32) ≤ nI 24 by decide)]
    have e : ∀ f, gI (sLr τ 37 0 f) 29 0 3 = nI n := fun f => h3
    simp only [olet_eq, e]
    have e2 : ∀ f, gI (sI (sLr τ 37 0 f) 29 0 3 (nI n + 1)) 29 0 3 = nI n + 1 := fun f => rfl
    rw [e2, nI_1, nI_pred]
  | succ k ih =>
    intro m i hm hi
    obtain ⟨m, rfl⟩ : ∃ m', m = m' + 1 := ⟨m - 1, by omega⟩
    show B11_newRow_32 N (L11_newRow_32 N m) 0 (nI i) _ = _
    unfold B11_newRow_32
    rw [if_neg (show ¬ (24 : Int32) ≤ nI i from nI_ge (a := i) (b := 24) (by omega) (by omega))]
    have e : ∀ f, gI (sLr τ 37 0 f) 29 0 3 = nI n := fun f => h3
    simp (disch := omega) only [gN_sLr, h37, e, ix24, idx_nI, olet_eq, nI_1]
    rw [sL_sLr]
    have ih2 := ih m (i + 1) (by omega) (by omega)
    rw [nI_1] at ih2
    rw [← ih2]
    congr 1
    apply sLr_congr
    intro x
    by_cases e1 : x = 24 * n + i
    · rw [if_pos e1, if_pos (by omega)]
    · rw [if_neg e1]
      by_cases e2 : 24 * n ≤ x ∧ x < 24 * n + i
      · rw [if_pos e2, if_pos (by omega)]
      · rw [if_neg e2, if_neg (by omega)]
theorem newRow11_eq {N t : Nat} {σ τ : rS} (hN : 500 ≤ N) (h : Inv t σ τ) (hn : gC σ 13 < 60) (kd ln : Int32) : f11_newRow N 0 kd ln τ = some (nI (gC σ 13), rowM τ (gC σ 13) kd ln) := by
  have h3 := h.2.2.1
  have g34 := h.1.2.1.2.1
  have g35 := h.1.2.1.2.2.1
  have g36 := h.1.2.1.2.2.2.1
  have g37 := h.1.2.1.2.2.2.2.1
  unfold f11_newRow
  rw [h3.2.2.2.1]
  have e1 : ∀ v, gI (sI τ 34 0 (gC σ 13) v) 29 0 3 = nI (gC σ 13) := fun v => h3.2.2.2.1
  have e2 : ∀ v w, gI (sI (sI τ 34 0 (gC σ 13) v) 35 0 (gC σ 13) w) 29 0 3 = nI (gC σ 13) := fun v w => h3.2.2.2.1
  rw [idx_nI _ (by omega) (by omega), olet_eq, e1, gN_sI, idx_nI _ (by omega) (by omega), olet_eq, e2, gN_sI, gN_sI, idx_nI _ (by omega) (by omega), olet_eq]
  have L := newRow11_loop (N := N) (n := gC σ 13) (τ := sI (sI (sI τ 34 0 (gC σ 13) kd) 35 0 (gC σ 13) ln) 36 0 (gC σ 13) (vp_nar .boolean 0)) g37 h3.2.2.2.1 hn 24 N 0 (by omega) (by omega)
  rw [sLr_congr (g := gL (sI (sI (sI τ 34 0 (gC σ 13) kd) 35 0 (gC σ 13) ln) 36 0 (gC σ 13) (vp_nar .boolean 0)) 37 0) (fun x => by rw [if_neg (by omega)]), sLr_id] at L
  exact L
theorem eq_row {N : Nat} (hN : 500 ≤ N) : EQ_row N Inv := by
  intro v w t σ τ _ h
  show Bth t _ _
  have h3 := h.2.2.1
  unfold f10_row f11_row f10_isKind
  have e := in_lit 0 7 v τ
  have e7 : (7 : Int32).toInt = 7 := rfl
  have e24 : (24 : Int32).toInt = 24 := rfl
  rw [z0, e7] at e
  have e' : f11_in (Int32.toInt64 v) 0 7 τ = _ := e
  rw [e']
  by_cases hv : 0 ≤ v.toInt ∧ v.toInt ≤ 7
  · have c1 : ¬ v < 0 := by rw [Int32.lt_iff_toInt_lt, z0]; omega
    have c2 : ¬ (7 : Int32) < v := by rw [Int32.lt_iff_toInt_lt, e7]; omega
    rw [if_neg c1, if_neg c2, decide_eq_true hv]
    simp only [↓obind_some, ↓reduceIte, h3.2.2.1, h3.2.2.2.1]
    by_cases hw : w ≤ 24
    · rw [if_pos hw, if_pos hw]
      by_cases hn : gC σ 13 < 60
      · have c3 : nI (gC σ 13) < 60 := nI_lt (b := 60) hn (by omega)
        have c4 : ¬ nI (gC σ 13) = 60 := fun q => by
          have := (nI_eq (a := gC σ 13) (b := 60) (by omega) (by omega)).mp q
          omega
        rw [if_pos c3, if_neg c4]
        by_cases hw0 : 0 ≤ w
        · rw [if_pos hw0, if_pos hw0]
          rw [Int32.le_iff_toInt_le, e24] at hw
          rw [Int32.le_iff_toInt_le, z0] at hw0
          obtain ⟨k, hk, rfl⟩ := of_in (v := v) (n := 8) (by omega) (by omega)
          obtain ⟨l, hl, rfl⟩ := of_in (v := w) (n := 25) (by omega) (by omega)
          rw [newRow10_eq h hn (by omega), newRow11_eq hN h hn]
          exact bth_ret (row_Inv h hn hk (by omega)) _
        · rw [if_neg hw0, if_neg hw0]
          exact bth_fnd h 4 rfl (by omega)
      · have e60 : gC σ 13 = 60 := by have := h3.1; omega
        have c3 : ¬ nI (gC σ 13) < 60 := by rw [e60]; decide
        have c4 : nI (gC σ 13) = 60 := by rw [e60]; rfl
        rw [if_neg c3, if_pos c4]
        exact bth_ret h _
    · rw [if_neg hw, if_neg hw]
      exact bth_ret h _
  · rw [decide_eq_false hv]
    by_cases c1 : v < 0
    · rw [if_pos c1]; exact bth_ret h _
    · have c2 : (7 : Int32) < v := by
        rw [Int32.lt_iff_toInt_lt, e7]
        rw [Int32.lt_iff_toInt_lt, z0] at c1
        omega
      rw [if_neg c1, if_pos c2]; exact bth_ret h _
noncomputable def strX (σ : rS) : rS := sI (sR (mkStream σ) 2 0 (gC σ 15) (some (gC σ 15))) 0 0 9 (nI (gC σ 15) + 1)
noncomputable def strM (τ : rS) (n : Nat) : rS := sI (sI (sI (sI τ 45 0 n 0) 46 0 n 0) 47 0 n (vp_nar .boolean 0)) 29 0 13 (nI n + 1)
theorem str_Inv {t : Nat} {σ τ : rS} (h : Inv t σ τ) (hn : gC σ 15 < 24) : Inv t (strX σ) (strM τ (gC σ 15)) := by
  obtain ⟨h1, h2, h3, ⟨r1, r2, r3, r4, r5⟩, h5, h6, h7⟩ := h
  have c15 : gC (strX σ) 15 = gC σ 15 + 1 := rfl
  refine ⟨h1, h2, h3, ⟨by rw [c15]; omega, ?_, ?_, ?_, fun r hr => ?_⟩, h5, h6, h7⟩
  · rw [c15]; rfl
  · rw [c15]; exact nI_1 _
  · rw [c15]; exact nI_1 _
  · rw [c15] at hr
    have a1 : gR (strX σ) 2 0 r = if r = gC σ 15 then some (gC σ 15) else gR σ 2 0 r := by simp [strX, mkStream, olet_eq, gR_sI, gR_sR, gR_sC, gR_sN, gR_sRr, gR_sIr]
    have a2 : ∀ f, gI (strX σ) 15 r f = if r = gC σ 15 then 0 else gI σ 15 r f := by
      intro f
      simp [strX, mkStream, olet_eq, gI_sI, gI_sR, gI_sC, gI_sN, gI_sRr, gI_sIr]
    have a3 : gI (strM τ (gC σ 15)) 45 0 r = if r = gC σ 15 then 0 else gI τ 45 0 r := by simp [strM, gI_sI]
    have a4 : gI (strM τ (gC σ 15)) 46 0 r = if r = gC σ 15 then 0 else gI τ 46 0 r := by simp [strM, gI_sI]
    have a5 : gI (strM τ (gC σ 15)) 47 0 r = if r = gC σ 15 then 0 else gI τ 47 0 r := by
      have e : vp_nar .boolean 0 = 0 := by decide
      simp [strM, gI_sI, e]
    have a6 : gN (strX σ) 16 r = if r = gC σ 15 then 400 else gN σ 16 r := by simp [strX, mkStream, olet_eq, gN_sI, gN_sR, gN_sC, gN_sN, gN_sRr, gN_sIr]
    have a7 : ∀ i, gI (strX σ) 16 r i = if r = gC σ 15 then 0 else gI σ 16 r i := by
      intro i
      simp [strX, mkStream, olet_eq, gI_sI, gI_sR, gI_sC, gI_sN, gI_sRr, gI_sIr]
    have a8 : ∀ x, gI (strM τ (gC σ 15)) 44 0 x = gI τ 44 0 x := fun x => rfl
    have a9 : zS (strX σ) r = if r = gC σ 15 then 0 else zS σ r := by
      unfold zS
      rw [a2]
      split <;> rfl
    have a10 : pS (strX σ) r = if r = gC σ 15 then 0 else pS σ r := by
      unfold pS
      rw [a2]
      split <;> rfl
    unfold strOk
    simp only [a1, a2, a3, a4, a5, a6, a7, a8, a9, a10]
    by_cases e : r = gC σ 15
    · simp only [if_pos e]
      exact ⟨by rw [e], by omega, rfl, rfl, by omega, rfl, rfl, by simp, by trivial, by trivial, fun i hi => absurd hi (Nat.not_lt_zero i)⟩
    · simp only [if_neg e]
      exact r5 r (by omega)
theorem newStr10_eq {t : Nat} {σ τ : rS} (h : Inv t σ τ) (hn : gC σ 15 < 24) : f10_newStream 0 σ = some (nI (gC σ 15), strX σ) := by
  have h3 := h.2.2.2.1
  unfold f10_newStream newStream
  rw [ock_pos h3.2.1, h3.2.2.1]
  have g1 : gN (mkStream σ) 2 0 = 24 := h.1.1.2.1
  dsimp only
  rw [idx_nI _ (by omega) (by omega)]
  have e8 : gI (sR (mkStream σ) 2 0 (gC σ 15) (some (gC σ 15))) 0 0 9 = nI (gC σ 15) := h3.2.2.1
  simp only [olet_eq, e8]
  have e9 : gI (sI (sR (mkStream σ) 2 0 (gC σ 15) (some (gC σ 15))) 0 0 9 (nI (gC σ 15) + 1)) 0 0 9 = nI (gC σ 15) + 1 := rfl
  rw [e9, nI_1, nI_pred, ← nI_1]
  rfl
theorem newStr11_eq {t : Nat} {σ τ : rS} (h : Inv t σ τ) (hn : gC σ 15 < 24) : f11_newStream 0 τ = some (nI (gC σ 15), strM τ (gC σ 15)) := by
  have h3 := h.2.2.2.1
  have g45 := h.1.2.1.2.2.2.2.2.2.2.2.2.1
  have g46 := h.1.2.1.2.2.2.2.2.2.2.2.2.2.1
  have g47 := h.1.2.1.2.2.2.2.2.2.2.2.2.2.2
  unfold f11_newStream
  rw [h3.2.2.2.1]
  have e1 : ∀ v, gI (sI τ 45 0 (gC σ 15) v) 29 0 13 = nI (gC σ 15) := fun v => h3.2.2.2.1
  have e2 : ∀ v w, gI (sI (sI τ 45 0 (gC σ 15) v) 46 0 (gC σ 15) w) 29 0 13 = nI (gC σ 15) := fun v w => h3.2.2.2.1
  have e3 : ∀ v w x, gI (sI (sI (sI τ 45 0 (gC σ 15) v) 46 0 (gC σ 15) w) 47 0 (gC σ 15) x) 29 0 13 = nI (gC σ 15) := fun v w x => h3.2.2.2.1
  rw [idx_nI _ (by omega) (by omega), olet_eq, e1, gN_sI, idx_nI _ (by omega) (by omega), olet_eq, e2, gN_sI, gN_sI, idx_nI _ (by omega) (by omega), olet_eq, e3, olet_eq]
  have e4 : ∀ v w x y, gI (sI (sI (sI (sI τ 45 0 (gC σ 15) v) 46 0 (gC σ 15) w) 47 0 (gC σ 15) x) 29 0 13 y) 29 0 13 = y := fun v w x y => rfl
  rw [e4, nI_1, nI_pred, ← nI_1]
  rfl
theorem eq_stream (N : Nat) : EQ_stream N Inv := by
  intro t σ τ _ h
  show Bth t _ _
  have h3 := h.2.2.2.1
  unfold f10_stream f11_stream
  rw [h3.2.2.1, h3.2.2.2.1]
  by_cases hn : gC σ 15 < 24
  · have c3 : nI (gC σ 15) < 24 := nI_lt (b := 24) hn (by omega)
    have c4 : ¬ nI (gC σ 15) = 24 := fun q => by
      have := (nI_eq (a := gC σ 15) (b := 24) (by omega) (by omega)).mp q
      omega
    rw [if_pos c3, if_neg c4, newStr10_eq h hn, newStr11_eq h hn]
    exact bth_ret (str_Inv h hn) _
  · have e60 : gC σ 15 = 24 := by have := h3.1; omega
    have c3 : ¬ nI (gC σ 15) < 24 := by rw [e60]; decide
    have c4 : nI (gC σ 15) = 24 := by rw [e60]; rfl
    rw [if_neg c3, if_pos c4]
    exact bth_ret h _
