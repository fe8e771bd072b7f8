/-! ===== drop ===== -/
theorem sRr_id (τ : rS) (k i : Nat) : sRr τ k i (gR τ k i) = τ := by
  obtain ⟨a, b, c, d, e⟩ := τ
  simp only [sRr, gR]
  congr 3
  funext k' i' x'
  by_cases h : k' = k ∧ i' = i
  · rw [if_pos h, h.1, h.2]
  · rw [if_neg h]
theorem sR_sRr (τ : rS) (k i x : Nat) (f : Nat → Option Nat) (v : Option Nat) : sR (sRr τ k i f) k i x v = sRr τ k i (fun y => if y = x then v else f y) := by
  obtain ⟨a, b, c, d, e⟩ := τ
  simp only [sRr, sR]
  congr 3
  funext k' i' x'
  by_cases h : k' = k ∧ i' = i
  · by_cases h2 : x' = x
    · rw [if_pos ⟨h.1, h.2, h2⟩, if_pos h, if_pos h2]
    · rw [if_neg (fun q => h2 q.2.2), if_pos h, if_pos h, if_neg h2]
  · rw [if_neg (fun q => h ⟨q.1, q.2.1⟩), if_neg h, if_neg h]
theorem sRr_congr {τ : rS} {k i : Nat} {f g : Nat → Option Nat} (h : ∀ x, f x = g x) : sRr τ k i f = sRr τ k i g := by rw [show f = g from funext h]
noncomputable def rmX (σ : rS) (h e n i : Nat) : rS := sRr (sLr σ 18 h (fun x => if e ≤ x ∧ x < i then gL σ 18 h (x + 1) else gL σ 18 h x)) 19 h (fun x => if e ≤ x ∧ x < i then gR σ 19 h (x + 1) else gR σ 19 h x)
noncomputable def rmD (σ : rS) (h e n : Nat) : rS := sR (sI (rmX σ h e n (n - 1)) 17 h 2 (nI n - 1)) 19 h (n - 1) none
theorem rm_loop {N h e n : Nat} {σ : rS} (hn : gI σ 17 h 2 = nI n) (hn12 : n ≤ 12) (h18 : gN σ 18 h = 12) (h19 : gN σ 19 h = 12) : ∀ (k m i : Nat), k < m → i + 1 + k = n → e ≤ i → L3_remove_2 N m h (nI i) (rmX σ h e n i) = some ((), rmD σ h e n) := by
  intro k
  have e2 : ∀ i, gI (rmX σ h e n i) 17 h 2 = nI n := fun i => hn
  have e3 : ∀ i, gN (rmX σ h e n i) 18 h = 12 := fun i => h18
  have e4 : ∀ i, gN (rmX σ h e n i) 19 h = 12 := fun i => h19
  induction k with
  | zero =>
    intro m i hm hi he
    obtain ⟨m, rfl⟩ : ∃ m', m = m' + 1 := ⟨m - 1, by omega⟩
    show B3_remove_2 N (L3_remove_2 N m) h (nI i) _ = _
    unfold B3_remove_2
    have e5 : gI (sI (rmX σ h e n i) 17 h 2 (nI n - 1)) 17 h 2 = nI (n - 1) := by
      simp only [gI_sI, and_self, if_true]
      exact pk_sub (a := n) (b := 1) (by omega)
    have : i = n - 1 := by omega
    rw [e2, nI_1, if_pos (nI_le (by omega) (by omega)), olet_eq, e5, gN_sI, e4, idx_nI _ (by omega) (by omega), olet_eq, this]
    rfl
  | succ k ih =>
    intro m i hm hi he
    obtain ⟨m, rfl⟩ : ∃ m', m = m' + 1 := ⟨m - 1, by omega⟩
    show B3_remove_2 N (L3_remove_2 N m) h (nI i) _ = _
    unfold B3_remove_2
    rw [e2, nI_1, if_neg (nI_ge (by omega) (by omega))]
    simp (disch := omega) only [e3, e4, ↓idx_nI, gN_sL, olet_eq]
    rw [← ih m (i + 1) (by omega) (by omega) (by omega)]
    congr 1
    have a1 : gL (rmX σ h e n i) 18 h (i + 1) = gL σ 18 h (i + 1) := by
      simp only [rmX, gL_sRr, gL_sLr, and_self, if_true]
      rw [if_neg (by omega)]
    have a2 : gR (sL (rmX σ h e n i) 18 h i (gL (rmX σ h e n i) 18 h (i + 1))) 19 h (i + 1) = gR σ 19 h (i + 1) := by
      simp only [gR_sL, rmX, gR_sRr, and_self, if_true]
      rw [if_neg (by omega)]
    rw [a2, a1]
    have a3 : sL (rmX σ h e n i) 18 h i (gL σ 18 h (i + 1)) = sRr (sL (sLr σ 18 h (fun x => if e ≤ x ∧ x < i then gL σ 18 h (x + 1) else gL σ 18 h x)) 18 h i (gL σ 18 h (i + 1))) 19 h (fun x => if e ≤ x ∧ x < i then gR σ 19 h (x + 1) else gR σ 19 h x) := rfl
    rw [a3, sR_sRr, sL_sLr]
    unfold rmX
    rw [sLr_congr (g := fun x => if e ≤ x ∧ x < i + 1 then gL σ 18 h (x + 1) else gL σ 18 h x), sRr_congr (g := fun x => if e ≤ x ∧ x < i + 1 then gR σ 19 h (x + 1) else gR σ 19 h x)]
    · intro x
      by_cases e1 : x = i
      · rw [if_pos e1, if_pos (by omega), e1]
      · rw [if_neg e1]
        by_cases e2 : e ≤ x ∧ x < i
        · rw [if_pos e2, if_pos (by omega)]
        · rw [if_neg e2, if_neg (by omega)]
    · intro x
      by_cases e1 : x = i
      · rw [if_pos e1, if_pos (by omega), e1]
      · rw [if_neg e1]
        by_cases e2 : e ≤ x ∧ x < i
        · rw [if_pos e2, if_pos (by omega)]
        · rw [if_neg e2, if_neg (by omega)]
theorem remove_eq {N h e n : Nat} {σ : rS} (hN : 500 ≤ N) (hn : gI σ 17 h 2 = nI n) (hn12 : n ≤ 12) (h18 : gN σ 18 h = 12) (h19 : gN σ 19 h = 12) (he : e < n) : f3_remove N h (nI e) σ = some ((), rmD σ h e n) := by
  have L := rm_loop (N := N) (e := e) hn hn12 h18 h19 (n - 1 - e) N e (by omega) (by omega) (Nat.le_refl e)
  have z : rmX σ h e n e = σ := by
    unfold rmX
    rw [sLr_congr (g := gL σ 18 h) (fun x => by rw [if_neg (by omega)]), sLr_id, sRr_congr (g := gR σ 19 h) (fun x => by rw [if_neg (by omega)]), sRr_id]
  rw [z] at L
  exact L
noncomputable def drM (τ : rS) (a i : Nat) : rS := sIr (sLr τ 58 0 (fun x => if a ≤ x ∧ x < i then gL τ 58 0 (x + 1) else gL τ 58 0 x)) 59 0 (fun x => if a ≤ x ∧ x < i then gI τ 59 0 (x + 1) else gI τ 59 0 x)
theorem dr_loop2 {N h e n : Nat} {τ : rS} {x7 : Int32} (hn : gI τ 57 0 h = nI n) (hn12 : n < 12) (hh : h < 6) (h57 : gN τ 57 0 = 6) (h58 : gN τ 58 0 = 72) (h59 : gN τ 59 0 = 72) : ∀ (k m i : Nat), k < m → i + k = n → e ≤ i → L11_drop_75 N m 0 (nI h) x7 (nI (12 * h + i)) (drM τ (12 * h + e) (12 * h + i)) = some (x7, drM τ (12 * h + e) (12 * h + n)) := by
  intro k
  have e2 : ∀ i, gI (drM τ (12 * h + e) i) 57 0 h = nI n := fun i => hn
  have e3 : ∀ i, gN (drM τ (12 * h + e) i) 57 0 = 6 := fun i => h57
  have e4 : ∀ i, gN (drM τ (12 * h + e) i) 58 0 = 72 := fun i => h58
  have e5 : ∀ i, gN (drM τ (12 * h + e) i) 59 0 = 72 := fun i => h59
  induction k with
  | zero =>
    intro m i hm hi he
    obtain ⟨m, rfl⟩ : ∃ m', m = m' + 1 := ⟨m - 1, by omega⟩
    show B11_drop_75 N (L11_drop_75 N m) 0 (nI h) x7 (nI (12 * h + i)) _ = _
    unfold B11_drop_75
    have : i = n := by omega
    rw [e3, idx_nI _ (by omega) (by omega), e2, ix12, if_pos (nI_le (by omega) (by omega)), this]
  | succ k ih =>
    intro m i hm hi he
    obtain ⟨m, rfl⟩ : ∃ m', m = m' + 1 := ⟨m - 1, by omega⟩
    show B11_drop_75 N (L11_drop_75 N m) 0 (nI h) x7 (nI (12 * h + i)) _ = _
    unfold B11_drop_75
    rw [e3, idx_nI _ (by omega) (by omega), e2, ix12, if_neg (nI_ge (by omega) (by omega)), nI_1]
    simp (disch := omega) only [e4, e5, ↓idx_nI, gN_sL, olet_eq]
    have ih2 := ih m (i + 1) (by omega) (by omega) (by omega)
    have e6 : 12 * h + i + 1 = 12 * h + (i + 1) := by omega
    rw [e6, ← ih2]
    congr 1
    have a1 : gL (drM τ (12 * h + e) (12 * h + i)) 58 0 (12 * h + (i + 1)) = gL τ 58 0 (12 * h + i + 1) := by
      simp only [drM, gL_sIr, gL_sLr, and_self, if_true]
      rw [if_neg (by omega)]
      rfl
    have a2 : ∀ v, gI (sL (drM τ (12 * h + e) (12 * h + i)) 58 0 (12 * h + i) v) 59 0 (12 * h + (i + 1)) = gI τ 59 0 (12 * h + i + 1) := by
      intro v
      simp only [gI_sL, drM, gI_sIr, and_self, if_true]
      rw [if_neg (by omega)]
      rfl
    rw [a2, a1]
    have a3 : ∀ v, sL (drM τ (12 * h + e) (12 * h + i)) 58 0 (12 * h + i) v = sIr (sL (sLr τ 58 0 (fun x => if 12 * h + e ≤ x ∧ x < 12 * h + i then gL τ 58 0 (x + 1) else gL τ 58 0 x)) 58 0 (12 * h + i) v) 59 0 (fun x => if 12 * h + e ≤ x ∧ x < 12 * h + i then gI τ 59 0 (x + 1) else gI τ 59 0 x) := fun v => rfl
    rw [a3, sI_sIr, sL_sLr]
    unfold drM
    rw [sLr_congr (g := fun x => if 12 * h + e ≤ x ∧ x < 12 * h + (i + 1) then gL τ 58 0 (x + 1) else gL τ 58 0 x), sIr_congr (g := fun x => if 12 * h + e ≤ x ∧ x < 12 * h + (i + 1) then gI τ 59 0 (x + 1) else gI τ 59 0 x)]
    · intro x
      by_cases e1 : x = 12 * h + i
      · rw [if_pos e1, if_pos (by omega), e1]
      · rw [if_neg e1]
        by_cases e2 : 12 * h + e ≤ x ∧ x < 12 * h + i
        · rw [if_pos e2, if_pos (by omega)]
        · rw [if_neg e2, if_neg (by omega)]
    · intro x
      by_cases e1 : x = 12 * h + i
      · rw [if_pos e1, if_pos (by omega), e1]
      · rw [if_neg e1]
        by_cases e2 : 12 * h + e ≤ x ∧ x < 12 * h + i
        · rw [if_pos e2, if_pos (by omega)]
        · rw [if_neg e2, if_neg (by omega)]
theorem drM_id (τ : rS) (a : Nat) : drM τ a a = τ := by
  unfold drM
  rw [sLr_congr (g := gL τ 58 0) (fun x => by rw [if_neg (by omega)]), sLr_id, sIr_congr (g := gI τ 59 0) (fun x => by rw [if_neg (by omega)]), sIr_id]
theorem drop_Inv {t h e b0 n : Nat} {σ τ : rS} (hI : Inv t σ τ) (hh : h < gC σ 17) (he : e < nE σ h) (hn : nE σ h = n + 1) (hr : gR σ 19 h e = some b0) (hb : b0 < gC σ 20) : Inv t (relX (rmD σ h e (n + 1)) b0) (drM (sI (relM τ b0) 57 0 h (nI n)) (12 * h + e) (12 * h + n)) := by
  have hl := live_of hI hh he hr hb
  obtain ⟨h1, h2, h3, h4, h5, ⟨r1, r2, r2', r3, r4, r5⟩, h7⟩ := hI
  obtain ⟨o1, o2⟩ := bo_of h5
  have o3 : I_bo t (rmD σ h e (n + 1)) τ := o1
  obtain ⟨o4, o5⟩ := rel_bo (b0 := b0) o3 hb hl
  obtain ⟨-, p1, p2, p3, p4, p5, p6⟩ := r5 h hh
  have a0 : ∀ r f, gI (relX (rmD σ h e (n + 1)) b0) 17 r f = if r = h ∧ f = 2 then nI n else gI σ 17 r f := by
    intro r f
    have : nI (n + 1) - 1 = nI n := nI_pred n
    simp [relX, rmD, rmX, gI_sI, gI_sR, gI_sRr, gI_sLr, this]
  have a1 : ∀ r x, gR (relX (rmD σ h e (n + 1)) b0) 19 r x = if r = h then (if x = n then none else if e ≤ x ∧ x < n then gR σ 19 h (x + 1) else gR σ 19 h x) else gR σ 19 r x := by
    intro r x
    simp only [relX, rmD, rmX, gR_sI, gR_sR, gR_sRr, gR_sLr, true_and, Nat.add_sub_cancel]
    by_cases e1 : r = h
    · simp [e1]
    · simp [e1]
  have a2 : ∀ r x, gL (relX (rmD σ h e (n + 1)) b0) 18 r x = if r = h then (if e ≤ x ∧ x < n then gL σ 18 h (x + 1) else gL σ 18 h x) else gL σ 18 r x := by
    intro r x
    simp only [relX, rmD, rmX, gL_sI, gL_sR, gL_sRr, gL_sLr, true_and, Nat.add_sub_cancel]
  have a3 : ∀ r, nE (relX (rmD σ h e (n + 1)) b0) r = if r = h then n else nE σ r := by
    intro r
    unfold nE
    rw [a0]
    by_cases e1 : r = h
    · rw [if_pos ⟨e1, rfl⟩, if_pos e1, nI_clamp (by omega)]
    · rw [if_neg (fun q => e1 q.1), if_neg e1]
  have a4 : ∀ r, gI (drM (sI (relM τ b0) 57 0 h (nI n)) (12 * h + e) (12 * h + n)) 57 0 r = if r = h then nI n else gI τ 57 0 r := by
    intro r
    simp [drM, relM, gI_sI, gI_sIr, gI_sLr]
  have a5 : ∀ x, gL (drM (sI (relM τ b0) 57 0 h (nI n)) (12 * h + e) (12 * h + n)) 58 0 x = if 12 * h + e ≤ x ∧ x < 12 * h + n then gL τ 58 0 (x + 1) else gL τ 58 0 x := by
    intro x
    simp [drM, relM, gL_sI, gL_sIr, gL_sLr]
  have a6 : ∀ x, gI (drM (sI (relM τ b0) 57 0 h (nI n)) (12 * h + e) (12 * h + n)) 59 0 x = if 12 * h + e ≤ x ∧ x < 12 * h + n then gI τ 59 0 (x + 1) else gI τ 59 0 x := by
    intro x
    simp [drM, relM, gI_sI, gI_sIr, gI_sLr]
  refine ⟨h1, h2, h3, h4, bod_of o4 (fun b hb' => ?_), ⟨r1, r2, r2', r3, r4, fun r hr' => ?_⟩, h7⟩
  · rw [o5 b]
    have hu : ∀ b, uB (rmD σ h e (n + 1)) b = uB σ b := fun b => rfl
    rw [hu, hu]
    have hb2 : b < gC σ 20 := hb'
    have U := rcG_upd (R := fun h e => gR σ 19 h e) (E := fun h => gI σ 17 h 2) (R' := fun q x => gR (relX (rmD σ h e (n + 1)) b0) 19 q x) (E' := fun q => gI (relX (rmD σ h e (n + 1)) b0) 17 q 2) (b := b) (h0 := h) (n := gC σ 17) hh (fun q hq => by show gI (relX (rmD σ h e (n + 1)) b0) 17 q 2 = _; rw [a0, if_neg (fun z => hq z.1)]) (fun q x hq => by show gR (relX (rmD σ h e (n + 1)) b0) 19 q x = _; rw [a1, if_neg hq])
    have E1 : (gI σ 17 h 2).toNatClampNeg = n + 1 := hn
    have E2 : (gI (relX (rmD σ h e (n + 1)) b0) 17 h 2).toNatClampNeg = n := by
      have := a3 h
      rw [if_pos rfl] at this
      exact this
    have V := ctn_rm (p := fun x => gR σ 19 h x = some b) (p' := fun x => gR (relX (rmD σ h e (n + 1)) b0) 19 h x = some b) (ip := fun _ => inferInstance) (ip' := fun _ => inferInstance) (e := e) (fun x hx => by show gR (relX (rmD σ h e (n + 1)) b0) 19 h x = some b ↔ _; rw [a1, if_pos rfl, if_neg (by omega), if_neg (by omega)]) (n := n) (by omega) (fun x hx hx2 => by show gR (relX (rmD σ h e (n + 1)) b0) 19 h x = some b ↔ _; rw [a1, if_pos rfl, if_neg (by omega), if_pos ⟨hx, hx2⟩])
    rw [E1, E2] at U
    show _ = rcG (fun q x => gR (relX (rmD σ h e (n + 1)) b0) 19 q x) (fun q => gI (relX (rmD σ h e (n + 1)) b0) 17 q 2) b (gC σ 17)
    have W := o2 b hb2
    unfold rcH at W
    rw [hr] at V
    by_cases eb : b = b0
    · subst eb
      rw [if_pos rfl]
      rw [if_pos rfl] at V
      omega
    · rw [if_neg eb]
      rw [if_neg (fun q => eb (Option.some.inj q).symm)] at V
      omega
  · obtain ⟨q0, q1, q2, q3, q4, q5, q6⟩ := r5 r hr'
    refine ⟨q0, ?_, ?_, ?_, q4, q5, fun x hx => ?_⟩
    · rw [a3]; split <;> omega
    · rw [a3, a0]
      by_cases e1 : r = h
      · rw [if_pos ⟨e1, rfl⟩, if_pos e1]
      · rw [if_neg (fun z => e1 z.1), if_neg e1]; exact q2
    · rw [a3, a4]
      by_cases e1 : r = h
      · rw [if_pos e1, if_pos e1]
      · rw [if_neg e1, if_neg e1]; exact q3
    · rw [a3] at hx
      rw [a5, a2, a6, a1]
      have c20 : gC (relX (rmD σ h e (n + 1)) b0) 20 = gC σ 20 := rfl
      rw [c20]
      by_cases e1 : r = h
      · subst e1
        rw [if_pos rfl] at hx
        rw [if_pos rfl, if_pos rfl, if_neg (show ¬ x = n by omega)]
        by_cases e2 : e ≤ x ∧ x < n
        · rw [if_pos (by omega), if_pos e2, if_pos (by omega), if_pos (by omega)]
          exact q6 (x + 1) (by omega)
        · rw [if_neg (by omega), if_neg e2, if_neg (by omega), if_neg (by omega)]
          exact q6 x (by omega)
      · rw [if_neg e1] at hx
        rw [if_neg e1, if_neg e1, if_neg (by omega), if_neg (by omega)]
        exact q6 x hx
theorem eq_drop {N : Nat} (hN : 500 ≤ N) : EQ_drop N Inv := by
  intro v x t σ τ _ h
  show Bth t _ _
  unfold f10_drop f11_drop
  rcases houCase h v with ⟨e1, e2⟩ | ⟨j, hj, rfl, e1, e2⟩
  · rw [e1, e2]; exact bth_ret h _
  · have hz := h.2.2.2.2.2.1.1
    have g57 := h.1.2.2.2.2.2.2.1
    have g58 := h.1.2.2.2.2.2.2.2.1
    have g59 := h.1.2.2.2.2.2.2.2.2.1
    have g51 := h.1.2.2.1
    have g53 := h.1.2.2.2.2.1
    obtain ⟨-, q1, q2, q3, q4, q5, q6⟩ := h.2.2.2.2.2.1.2.2.2.2.2 j hj
    obtain ⟨b1, b2, b3, b4, b5, ev, b6, b7, b8, b9, b10⟩ := h.2.2.2.2.1
    rw [e1, e2]
    simp only [↓obind_some, ↓onul_some, ↓reduceIte]
    by_cases hx : 0 ≤ x
    · rw [if_pos hx, if_pos hx]
      rcases entCase hN h hj x with ⟨a1, a2, a3⟩ | ⟨e, a2, a3, a4, a5⟩
      · rw [a2, a3]; exact bth_ret h _
      · obtain ⟨b, hb1, hb2, hb3⟩ := (q6 e a2).2
        have hl := live_of h hj a2 hb2 hb1
        obtain ⟨n, hn⟩ : ∃ n, nE σ j = n + 1 := ⟨nE σ j - 1, by omega⟩
        rw [a4, a5]
        simp (disch := omega) only [↓obind_some, nI_nm1, if_false, ↓idx_nI, ↓olet_eq, hb3, leave_eq g53 g51 (show b < 30 by omega)]
        have G57 : gN (relM τ b) 57 0 = 6 := g57
        have E57 : gI (relM τ b) 57 0 j = nI (n + 1) := by
          have : gI (relM τ b) 57 0 j = gI τ 57 0 j := rfl
          rw [this, q3, hn]
        rw [G57, idx_nI _ (by omega) (by omega), idx_nI _ (by omega) (by omega), E57, nI_pred]
        have L := dr_loop2 (N := N) (h := j) (e := e) (n := n) (τ := sI (relM τ b) 57 0 j (nI n)) (x7 := gI τ 51 0 b) (by simp [gI_sI]) (by omega) (by omega) g57 g58 g59 (n - e) N e (by omega) (by omega) (Nat.le_refl e)
        rw [drM_id] at L
        rw [L, hb2, remove_eq hN q2 (by omega) q4 q5 a2, obind_some, onul_some, release_eq, obind_some]
        have I := drop_Inv h hj a2 hn hb2 hb1
        rw [hn]
        refine bth_ret2 I ?_
        have e9 : gI (relX (rmD σ j e (n + 1)) b) 20 b 2 = gI σ 20 b 2 := by
          simp [relX, rmD, rmX, gI_sI, gI_sR, gI_sRr, gI_sLr]
        rw [e9]
        exact ((b9 b hb1).2.2.2.2 hl).2.1.symm
    · rw [if_neg hx, if_neg hx]
      exact bth_ret h _
