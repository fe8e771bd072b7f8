/-! ===== counting; houses ===== -/
theorem ctn_congr {p q : Nat → Prop} {ip : ∀ k, Decidable (p k)} {iq : ∀ k, Decidable (q k)} : ∀ {n : Nat}, (∀ k, k < n → (p k ↔ q k)) → ctn p ip n = ctn q iq n
  | 0, _ => rfl
  | n + 1, h => by
    unfold ctn
    rw [ctn_congr (iq := iq) (fun k hk => h k (by omega))]
    by_cases hp : p n
    · rw [if_pos hp, if_pos ((h n (by omega)).mp hp)]
    · rw [if_neg hp, if_neg (fun hq => hp ((h n (by omega)).mpr hq))]
theorem ctn_ext {p q : Nat → Prop} {ip : ∀ k, Decidable (p k)} {iq : ∀ k, Decidable (q k)} {n : Nat} (h : ∀ k, k < n → (p k ↔ q k)) : ∀ {m : Nat}, (∀ k, n ≤ k → k < n + m → ¬ q k) → ctn p ip n = ctn q iq (n + m)
  | 0, _ => ctn_congr h
  | m + 1, h2 => by
    show _ = ctn q iq (n + m) + (@ite Nat (q (n + m)) (iq (n + m)) 1 0)
    rw [if_neg (h2 (n + m) (by omega) (by omega)), ← ctn_ext h (fun k h3 h4 => h2 k h3 (by omega))]
    rfl
theorem ctn_le (p : Nat → Prop) (ip : ∀ k, Decidable (p k)) : ∀ n, ctn p ip n ≤ n
  | 0 => Nat.le_refl 0
  | n + 1 => by
    have := ctn_le p ip n
    unfold ctn
    split <;> omega
theorem ctn_pos {p : Nat → Prop} {ip : ∀ k, Decidable (p k)} : ∀ {n k : Nat}, k < n → p k → 0 < ctn p ip n
  | 0, k, h, _ => absurd h (Nat.not_lt_zero k)
  | n + 1, k, h, hp => by
    unfold ctn
    by_cases e : k = n
    · subst e; rw [if_pos hp]; omega
    · have := ctn_pos (ip := ip) (n := n) (k := k) (by omega) hp
      omega
theorem rcG_congr {R R' : Nat → Nat → Option Nat} {E E' : Nat → Int32} {b : Nat} : ∀ {n : Nat}, (∀ h, h < n → E h = E' h) → (∀ h e, h < n → e < (E h).toNatClampNeg → R h e = R' h e) → rcG R E b n = rcG R' E' b n
  | 0, _, _ => rfl
  | n + 1, h1, h2 => by
    show rcG R E b n + _ = rcG R' E' b n + _
    rw [rcG_congr (fun h hh => h1 h (by omega)) (fun h e hh he => h2 h e (by omega) he), ← h1 n (by omega)]
    congr 1
    apply ctn_congr
    intro k hk
    rw [h2 n k (by omega) hk]
theorem rcG_pos {R : Nat → Nat → Option Nat} {E : Nat → Int32} {b : Nat} : ∀ {n h e : Nat}, h < n → e < (E h).toNatClampNeg → R h e = some b → 0 < rcG R E b n
  | 0, h, _, hh, _, _ => absurd hh (Nat.not_lt_zero h)
  | n + 1, h, e, hh, he, hr => by
    show 0 < rcG R E b n + _
    by_cases q : h = n
    · subst q
      have := ctn_pos (p := fun e => R h e = some b) (ip := fun _ => inferInstance) he hr
      omega
    · have := rcG_pos (n := n) (h := h) (e := e) (E := E) (by omega) he hr
      omega
theorem live_of {t h e b : Nat} {σ τ : rS} (hI : Inv t σ τ) (hh : h < gC σ 17) (he : e < nE σ h) (hr : gR σ 19 h e = some b) (hb : b < gC σ 20) : 0 < uB σ b := by
  obtain ⟨b1, b2, b3, b4, b5, ev, b6, b7, b8, b9, b10⟩ := hI.2.2.2.2.1
  rw [(b9 b hb).2.1]
  exact rcG_pos hh he hr
noncomputable def houX (σ : rS) : rS := sI (sR (mkHouse σ) 3 0 (gC σ 17) (some (gC σ 17))) 0 0 10 (nI (gC σ 17) + 1)
noncomputable def houM (τ : rS) (n : Nat) : rS := sI (sI τ 57 0 n 0) 29 0 26 (nI n + 1)
theorem hou_Inv {t : Nat} {σ τ : rS} (h : Inv t σ τ) (hn : gC σ 17 < 6) : Inv t (houX σ) (houM τ (gC σ 17)) := by
  obtain ⟨h1, h2, h3, h4, ⟨b1, b2, b3, b4, b5, ev, b6, b7, b8, b9, b10⟩, ⟨r1, r2, r2', r3, r4, r5⟩, h7⟩ := h
  have c17 : gC (houX σ) 17 = gC σ 17 + 1 := rfl
  have a0 : ∀ r f, gI (houX σ) 17 r f = if r = gC σ 17 then 0 else gI σ 17 r f := by
    intro r f
    simp [houX, mkHouse, olet_eq, gI_sI, gI_sR, gI_sC, gI_sN, gI_sRr, gI_sIr, gI_sLr]
  have a1 : ∀ r e, gR (houX σ) 19 r e = if r = gC σ 17 then none else gR σ 19 r e := by
    intro r e
    simp [houX, mkHouse, olet_eq, gR_sI, gR_sR, gR_sC, gR_sN, gR_sRr, gR_sIr, gR_sLr]
  have rc : ∀ b, rcH (houX σ) b (gC σ 17 + 1) = rcH σ b (gC σ 17) := by
    intro b
    show rcG _ _ b (gC σ 17) + _ = _
    have e0 : ctn (fun e => gR (houX σ) 19 (gC σ 17) e = some b) (fun _ => inferInstance) (gI (houX σ) 17 (gC σ 17) 2).toNatClampNeg = 0 := by
      rw [a0, if_pos rfl]; rfl
    rw [e0]
    apply rcG_congr
    · intro q hq
      show gI (houX σ) 17 q 2 = _
      rw [a0, if_neg (by omega)]
    · intro q e hq _
      show gR (houX σ) 19 q e = _
      rw [a1, if_neg (by omega)]
  refine ⟨h1, h2, h3, h4, ⟨b1, b2, b3, b4, b5, ev, b6, b7, b8, fun b hb => ?_, b10⟩, ⟨by rw [c17]; omega, ?_, ?_, ?_, ?_, fun r hr => ?_⟩, h7⟩
  · obtain ⟨x1, x2, x3⟩ := b9 b hb
    refine ⟨x1, ?_, x3⟩
    rw [c17, rc]; exact x2
  · rw [c17]; rfl
  · rw [c17]; rfl
  · rw [c17]; exact nI_1 _
  · rw [c17]; exact nI_1 _
  · rw [c17] at hr
    have a2 : gR (houX σ) 3 0 r = if r = gC σ 17 then some (gC σ 17) else gR σ 3 0 r := by simp [houX, mkHouse, olet_eq, gR_sI, gR_sR, gR_sC, gR_sN, gR_sRr, gR_sIr, gR_sLr]
    have a3 : gI (houM τ (gC σ 17)) 57 0 r = if r = gC σ 17 then 0 else gI τ 57 0 r := by simp [houM, gI_sI]
    have a4 : gN (houX σ) 18 r = if r = gC σ 17 then 12 else gN σ 18 r := by simp [houX, mkHouse, olet_eq, gN_sI, gN_sR, gN_sC, gN_sN, gN_sRr, gN_sIr, gN_sLr]
    have a5 : gN (houX σ) 19 r = if r = gC σ 17 then 12 else gN σ 19 r := by simp [houX, mkHouse, olet_eq, gN_sI, gN_sR, gN_sC, gN_sN, gN_sRr, gN_sIr, gN_sLr]
    have a6 : ∀ i, gL (houX σ) 18 r i = if r = gC σ 17 then 0 else gL σ 18 r i := by
      intro i
      simp [houX, mkHouse, olet_eq, gL_sI, gL_sR, gL_sC, gL_sN, gL_sRr, gL_sIr, gL_sLr]
    have a7 : nE (houX σ) r = if r = gC σ 17 then 0 else nE σ r := by
      unfold nE
      rw [a0]
      split <;> rfl
    have a8 : ∀ x, gL (houM τ (gC σ 17)) 58 0 x = gL τ 58 0 x := fun x => rfl
    have a9 : ∀ x, gI (houM τ (gC σ 17)) 59 0 x = gI τ 59 0 x := fun x => rfl
    have c20 : gC (houX σ) 20 = gC σ 20 := rfl
    unfold houOk
    simp only [a0, a1, a2, a3, a4, a5, a6, a7, a8, a9, c20]
    by_cases e : r = gC σ 17
    · simp only [if_pos e]
      exact ⟨by rw [e], by omega, rfl, rfl, by trivial, by trivial, fun i hi => absurd hi (Nat.not_lt_zero i)⟩
    · simp only [if_neg e]
      exact r5 r (by omega)
theorem eq_house (N : Nat) : EQ_house N Inv := by
  intro t σ τ _ h
  show Bth t _ _
  have h3 := h.2.2.2.2.2.1
  have g57 := h.1.2.2.2.2.2.2.1
  unfold f10_house f11_house
  rw [h3.2.2.2.1, h3.2.2.2.2.1]
  by_cases hn : gC σ 17 < 6
  · have c3 : nI (gC σ 17) < 6 := nI_lt (b := 6) hn (by omega)
    have c4 : ¬ nI (gC σ 17) = 6 := fun q => by
      have := (nI_eq (a := gC σ 17) (b := 6) (by omega) (by omega)).mp q
      omega
    rw [if_pos c3, if_neg c4]
    unfold newHouse
    rw [ock_pos ⟨h3.2.1, h3.2.2.1⟩]
    dsimp only
    have g1 : gN (mkHouse σ) 3 0 = 6 := h.1.1.2.2.1
    rw [idx_nI _ (by omega) (by omega), idx_nI _ (by omega) (by omega)]
    have e8 : gI (sR (mkHouse σ) 3 0 (gC σ 17) (some (gC σ 17))) 0 0 10 = nI (gC σ 17) := h3.2.2.2.1
    have e10 : ∀ v, gI (sI τ 57 0 (gC σ 17) v) 29 0 26 = nI (gC σ 17) := fun v => h3.2.2.2.2.1
    simp only [olet_eq, e8, e10]
    refine bth_ret2 (hou_Inv h hn) rfl
  · have e60 : gC σ 17 = 6 := by have := h3.1; omega
    have c3 : ¬ nI (gC σ 17) < 6 := by rw [e60]; decide
    have c4 : nI (gC σ 17) = 6 := by rw [e60]; rfl
    rw [if_neg c3, if_pos c4]
    exact bth_ret h _
theorem eq_list (N : Nat) : EQ_list N Inv := by
  intro v w t σ τ _ h
  show Bth t _ _
  unfold f10_list f11_list
  rcases houCase h v with ⟨e1, e2⟩ | ⟨j, hj, rfl, e1, e2⟩
  · rw [e1, e2]; exact bth_ret h _
  · have hz := h.2.2.2.2.2.1.1
    have g57 := h.1.2.2.2.2.2.2.1
    have g58 := h.1.2.2.2.2.2.2.2.1
    obtain ⟨-, q1, q2, q3, q4, q5, q6⟩ := h.2.2.2.2.2.1.2.2.2.2.2 j hj
    rw [e1, e2]
    simp (disch := omega) only [↓obind_some, ↓onul_some, ↓reduceIte, ↓idx_nI, q3, in_ix, q2, Int32.lt_iff_toInt_lt, z0, nI_toInt]
    by_cases hc : 0 ≤ w.toInt ∧ w.toInt < nE σ j
    · rw [if_neg (show ¬ w.toInt < 0 by omega), if_pos (show w.toInt < nE σ j from hc.2), decide_eq_true hc]
      obtain ⟨i, hi, rfl⟩ := of_in (by omega) hc
      have q2' : gI (sL σ 0 0 13 (gL σ 18 j i)) 17 j 2 = nI (nE σ j) := q2
      simp (disch := omega) only [↓obind_some, ↓reduceIte, ↓olet_eq, gN_sL, ix12, ↓idx_nI, (q6 i hi).1, gI_sL, q2, q3]
      exact bth_ret (seen_Inv h _) _
    · rw [decide_eq_false hc]
      by_cases hc1 : w.toInt < 0
      · rw [if_pos hc1]; exact bth_fnd h 2 rfl (by omega)
      · rw [if_neg hc1, if_neg (by omega)]; exact bth_fnd h 2 rfl (by omega)
theorem ent_loop {N t h : Nat} {σ τ : rS} (hI : Inv t σ τ) (hh : h < gC σ 17) (x : Int64) : ∀ (k n n' i : Nat), k < n → k < n' → i + k = nE σ h → ((∀ e, i ≤ e → e < nE σ h → gL σ 18 h e ≠ x) ∧ L3_entryOf_2 N n h x (nI i) σ = some (-1, σ) ∧ L11_entry_3 N n' 0 (nI h) x (nI i) τ = some (-1, τ)) ∨ ∃ e, i ≤ e ∧ e < nE σ h ∧ gL σ 18 h e = x ∧ L3_entryOf_2 N n h x (nI i) σ = some (nI e, σ) ∧ L11_entry_3 N n' 0 (nI h) x (nI i) τ = some (nI (12 * h + e), τ) := by
  have hz := hI.2.2.2.2.2.1.1
  have g57 := hI.1.2.2.2.2.2.2.1
  have g58 := hI.1.2.2.2.2.2.2.2.1
  obtain ⟨-, q1, q2, q3, q4, q5, q6⟩ := hI.2.2.2.2.2.1.2.2.2.2.2 h hh
  intro k
  induction k with
  | zero =>
    intro n n' i hn hn' hi
    obtain ⟨m, rfl⟩ : ∃ m', n = m' + 1 := ⟨n - 1, by omega⟩
    obtain ⟨m', rfl⟩ : ∃ m'', n' = m'' + 1 := ⟨n' - 1, by omega⟩
    left
    refine ⟨fun e h1 h2 => by omega, ?_, ?_⟩
    · show B3_entryOf_2 N (L3_entryOf_2 N m) h x (nI i) σ = _
      unfold B3_entryOf_2
      rw [q2, if_pos (nI_le (by omega) (by omega))]
    · show B11_entry_3 N (L11_entry_3 N m') 0 (nI h) x (nI i) τ = _
      unfold B11_entry_3
      rw [idx_nI _ (by omega) (by omega), q3, if_pos (nI_le (by omega) (by omega))]
  | succ k ih =>
    intro n n' i hn hn' hi
    obtain ⟨m, rfl⟩ : ∃ m', n = m' + 1 := ⟨n - 1, by omega⟩
    obtain ⟨m', rfl⟩ : ∃ m'', n' = m'' + 1 := ⟨n' - 1, by omega⟩
    have E1 : L3_entryOf_2 N (m + 1) h x (nI i) σ = if gL σ 18 h i = x then some (nI i, σ) else L3_entryOf_2 N m h x (nI (i + 1)) σ := by
      show B3_entryOf_2 N (L3_entryOf_2 N m) h x (nI i) σ = _
      unfold B3_entryOf_2
      rw [q2, if_neg (nI_ge (by omega) (by omega)), idx_nI _ (by omega) (by omega), nI_1]
    have E2 : L11_entry_3 N (m' + 1) 0 (nI h) x (nI i) τ = if gL σ 18 h i = x then some (nI (12 * h + i), τ) else L11_entry_3 N m' 0 (nI h) x (nI (i + 1)) τ := by
      show B11_entry_3 N (L11_entry_3 N m') 0 (nI h) x (nI i) τ = _
      unfold B11_entry_3
      rw [idx_nI _ (by omega) (by omega), q3, if_neg (nI_ge (by omega) (by omega)), ix12, idx_nI _ (by omega) (by omega), (q6 i (by omega)).1, nI_1]
    rw [E1, E2]
    by_cases e : gL σ 18 h i = x
    · right
      rw [if_pos e, if_pos e]
      exact ⟨i, by omega, by omega, e, rfl, rfl⟩
    · rw [if_neg e, if_neg e]
      rcases ih m m' (i + 1) (by omega) (by omega) (by omega) with ⟨a1, a2, a3⟩ | ⟨e', a1, a2, a3, a4, a5⟩
      · left
        refine ⟨fun e' h1 h2 => ?_, a2, a3⟩
        by_cases q : e' = i
        · rw [q]; exact e
        · exact a1 e' (by omega) h2
      · right
        exact ⟨e', by omega, a2, a3, a4, a5⟩
theorem entCase {N t h : Nat} {σ τ : rS} (hN : 500 ≤ N) (hI : Inv t σ τ) (hh : h < gC σ 17) (x : Int64) : ((∀ e, e < nE σ h → gL σ 18 h e ≠ x) ∧ f3_entryOf N h x σ = some (-1, σ) ∧ f11_entry N 0 (nI h) x τ = some (-1, τ)) ∨ ∃ e, e < nE σ h ∧ gL σ 18 h e = x ∧ f3_entryOf N h x σ = some (nI e, σ) ∧ f11_entry N 0 (nI h) x τ = some (nI (12 * h + e), τ) := by
  obtain ⟨-, q1, -⟩ := hI.2.2.2.2.2.1.2.2.2.2.2 h hh
  rcases ent_loop (N := N) hI hh x (nE σ h) N N 0 (by omega) (by omega) (by omega) with ⟨a1, a2, a3⟩ | ⟨e', a1, a2, a3, a4, a5⟩
  · left; exact ⟨fun e he => a1 e (by omega) he, a2, a3⟩
  · right; exact ⟨e', a2, a3, a4, a5⟩
theorem nI_nm1 {n : Nat} (h : n < 2 ^ 31) : ¬ nI n = -1 := by
  intro q
  have : (nI n).toInt = (-1 : Int32).toInt := by rw [q]
  rw [nI_toInt h] at this
  have e : (-1 : Int32).toInt = -1 := rfl
  omega
theorem eq_find {N : Nat} (hN : 500 ≤ N) : EQ_find N Inv := by
  intro v x t σ τ _ h
  show Bth t _ _
  unfold f10_find f11_find
  rcases houCase h v with ⟨e1, e2⟩ | ⟨j, hj, rfl, e1, e2⟩
  · rw [e1, e2]; exact bth_ret h _
  · have hz := h.2.2.2.2.2.1.1
    have g59 := h.1.2.2.2.2.2.2.2.2.1
    have g51 := h.1.2.2.1
    obtain ⟨-, q1, q2, q3, q4, q5, q6⟩ := h.2.2.2.2.2.1.2.2.2.2.2 j hj
    obtain ⟨b1, b2, b3, b4, b5, ev, b6, b7, b8, b9, b10⟩ := h.2.2.2.2.1
    rw [e1, e2]
    simp only [↓obind_some, ↓onul_some, ↓reduceIte]
    by_cases hx : 0 ≤ x
    · rw [if_pos hx, if_pos hx]
      rcases entCase hN h hj x with ⟨a1, a2, a3⟩ | ⟨e, a2, a3, a4, a5⟩
      · rw [a2, a3]; exact bth_ret h _
      · obtain ⟨b, hb1, hb2, hb3⟩ := (q6 e a2).2
        have hl := live_of h hj a2 hb2 hb1
        rw [a4, a5]
        simp (disch := omega) only [↓obind_some, nI_nm1, if_false, ↓idx_nI, ↓olet_eq, hb2, ↓onul_some, hb3]
        exact bth_ret2 h ((b9 b hb1).2.2.2.2 hl).2.1.symm
    · rw [if_neg hx, if_neg hx]
      exact bth_ret h _
