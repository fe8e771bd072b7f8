/-! ===== an entry changed, an entry more ===== -/
theorem liveD {t b h e c : Nat} {σ τ : rS} (hI : InvD t σ τ b) (hh : h < gC σ 17) (he : e < nE σ h) (hr : gR σ 19 h e = some c) (hc : c < gC σ 20) : 0 < uB σ c := by
  rw [hI.2.2.2.2.2.2.2.2 c hc]
  have := rcG_pos (R := fun h e => gR σ 19 h e) (E := fun h => gI σ 17 h 2) (b := c) hh he hr
  unfold rcH
  omega
theorem repl_Inv {t b h e c : Nat} {σ τ : rS} (hI : InvD t σ τ b) (hh : h < gC σ 17) (he : e < nE σ h) (hr : gR σ 19 h e = some c) (hc : c < gC σ 20) : Inv t (sR (relX σ c) 19 h e (some b)) (sI (relM τ c) 59 0 (12 * h + e) (nI b)) := by
  have hl := liveD hI hh he hr hc
  obtain ⟨h1, h2, h3, h4, h5, ⟨r1, r2, r2', r3, r4, r5⟩, h7, hb, hu⟩ := hI
  obtain ⟨o4, o5⟩ := rel_bo h5 hc hl
  have o6 : I_bo t (sR (relX σ c) 19 h e (some b)) (sI (relM τ c) 59 0 (12 * h + e) (nI b)) := o4
  refine ⟨h1, h2, h3, h4, bod_of o6 (fun k hk => ?_), ⟨r1, r2, r2', r3, r4, fun r hr' => ?_⟩, h7⟩
  · have hk' : k < gC σ 20 := hk
    have ek : uB (sR (relX σ c) 19 h e (some b)) k = uB (relX σ c) k := rfl
    have a1 : ∀ q x, gR (sR (relX σ c) 19 h e (some b)) 19 q x = if q = h ∧ x = e then some b else gR σ 19 q x := by
      intro q x
      simp [relX, gR_sR, gR_sI]
    rw [ek, o5, hu k hk']
    have U := rcG_upd (R := fun h e => gR σ 19 h e) (E := fun h => gI σ 17 h 2) (R' := fun q x => gR (sR (relX σ c) 19 h e (some b)) 19 q x) (E' := fun h => gI σ 17 h 2) (b := k) (h0 := h) (n := gC σ 17) hh (fun q hq => rfl) (fun q x hq => by show gR (sR (relX σ c) 19 h e (some b)) 19 q x = _; rw [a1, if_neg (fun z => hq z.1)])
    have V := ctn_upd (p := fun x => gR σ 19 h x = some k) (q := fun x => gR (sR (relX σ c) 19 h e (some b)) 19 h x = some k) (ip := fun _ => inferInstance) (iq := fun _ => inferInstance) (k0 := e) (fun x hx => by show _ ↔ gR (sR (relX σ c) 19 h e (some b)) 19 h x = some k; rw [a1, if_neg (fun z => hx z.2)]) (n := nE σ h) he
    have V1 : (gR (sR (relX σ c) 19 h e (some b)) 19 h e = some k) ↔ k = b := by
      rw [a1, if_pos ⟨rfl, rfl⟩]
      exact ⟨fun z => (Option.some.inj z).symm, fun z => by rw [z]⟩
    have V2 : (gR σ 19 h e = some k) ↔ k = c := by
      rw [hr]
      exact ⟨fun z => (Option.some.inj z).symm, fun z => by rw [z]⟩
    show _ = rcG (fun q x => gR (sR (relX σ c) 19 h e (some b)) 19 q x) (fun h => gI σ 17 h 2) k (gC σ 17)
    have E1 : (gI σ 17 h 2).toNatClampNeg = nE σ h := rfl
    rw [E1] at U
    have W := hu c hc
    have W2 := hu k hk'
    unfold rcH at W W2 ⊢
    by_cases q1 : k = b
    · rw [if_pos q1] at W2
      rw [if_pos q1]
      rw [if_pos (V1.mpr q1)] at V
      by_cases q2 : k = c
      · rw [if_pos q2]
        rw [if_pos (V2.mpr q2)] at V
        have W3 : uB σ c = uB σ k := by rw [q2]
        omega
      · rw [if_neg q2]
        rw [if_neg (fun z => q2 (V2.mp z))] at V
        omega
    · rw [if_neg q1] at W2
      rw [if_neg q1]
      rw [if_neg (fun z => q1 (V1.mp z))] at V
      by_cases q2 : k = c
      · rw [if_pos q2]
        rw [if_pos (V2.mpr q2)] at V
        have W3 : uB σ c = uB σ k := by rw [q2]
        omega
      · rw [if_neg q2]
        rw [if_neg (fun z => q2 (V2.mp z))] at V
        omega
  · obtain ⟨q0, q1, q2, q3, q4, q5, q6⟩ := r5 r hr'
    refine ⟨q0, q1, q2, q3, q4, q5, fun x hx => ?_⟩
    have hx' : x < nE σ r := hx
    have a1 : gR (sR (relX σ c) 19 h e (some b)) 19 r x = if r = h ∧ x = e then some b else gR σ 19 r x := by simp [relX, gR_sR, gR_sI]
    have a2 : gI (sI (relM τ c) 59 0 (12 * h + e) (nI b)) 59 0 (12 * r + x) = if 12 * r + x = 12 * h + e then nI b else gI τ 59 0 (12 * r + x) := by simp [relM, gI_sI]
    refine ⟨(q6 x hx).1, ?_⟩
    rw [a1, a2]
    have p1 := (r5 h hh).2.1
    by_cases e1 : r = h ∧ x = e
    · rw [if_pos e1, if_pos (by omega)]
      exact ⟨b, hb, rfl, rfl⟩
    · rw [if_neg e1, if_neg (by omega)]
      exact (q6 x hx).2
noncomputable def insX (σ : rS) (h n i : Nat) : rS := sRr (sLr σ 18 h (fun y => if i < y ∧ y ≤ n then gL σ 18 h (y - 1) else gL σ 18 h y)) 19 h (fun y => if i < y ∧ y ≤ n then gR σ 19 h (y - 1) else gR σ 19 h y)
noncomputable def insM (τ : rS) (a n i : Nat) : rS := sIr (sLr τ 58 0 (fun y => if i < y ∧ y ≤ n then gL τ 58 0 (y - 1) else gL τ 58 0 y)) 59 0 (fun y => if i < y ∧ y ≤ n then gI τ 59 0 (y - 1) else gI τ 59 0 y)
noncomputable def finX (σ : rS) (h n p : Nat) (x : Int64) (b : Nat) : rS := sI (sR (sL (insX σ h n p) 18 h p x) 19 h p (some b)) 17 h 2 (nI n + 1)
noncomputable def finM (τ : rS) (h n p : Nat) (x : Int64) (b : Nat) : rS := sI (sI (sL (insM τ (12 * h) (12 * h + n) (12 * h + p)) 58 0 (12 * h + p) x) 59 0 (12 * h + p) (nI b)) 57 0 h (nI n + 1)
theorem ins_step (σ : rS) (h n i : Nat) (hi : i < n) : sR (sL (insX σ h n (i + 1)) 18 h (i + 1) (gL σ 18 h i)) 19 h (i + 1) (gR σ 19 h i) = insX σ h n i := by
  have a3 : ∀ v, sL (insX σ h n (i + 1)) 18 h (i + 1) v = sRr (sL (sLr σ 18 h (fun y => if i + 1 < y ∧ y ≤ n then gL σ 18 h (y - 1) else gL σ 18 h y)) 18 h (i + 1) v) 19 h (fun y => if i + 1 < y ∧ y ≤ n then gR σ 19 h (y - 1) else gR σ 19 h y) := fun v => rfl
  rw [a3, sR_sRr, sL_sLr]
  unfold insX
  rw [sLr_congr (g := fun y => if i < y ∧ y ≤ n then gL σ 18 h (y - 1) else gL σ 18 h y), sRr_congr (g := fun y => if i < y ∧ y ≤ n then gR σ 19 h (y - 1) else gR σ 19 h y)]
  · intro y
    by_cases e1 : y = i + 1
    · rw [if_pos e1, if_pos (by omega), e1]; rfl
    · rw [if_neg e1]
      by_cases e2 : i + 1 < y ∧ y ≤ n
      · rw [if_pos e2, if_pos (by omega)]
      · rw [if_neg e2, if_neg (by omega)]
  · intro y
    by_cases e1 : y = i + 1
    · rw [if_pos e1, if_pos (by omega), e1]; rfl
    · rw [if_neg e1]
      by_cases e2 : i + 1 < y ∧ y ≤ n
      · rw [if_pos e2, if_pos (by omega)]
      · rw [if_neg e2, if_neg (by omega)]
theorem insM_step (τ : rS) (a n i : Nat) (hi : i < n) : sI (sL (insM τ a n (i + 1)) 58 0 (i + 1) (gL τ 58 0 i)) 59 0 (i + 1) (gI τ 59 0 i) = insM τ a n i := by
  have a3 : ∀ v, sL (insM τ a n (i + 1)) 58 0 (i + 1) v = sIr (sL (sLr τ 58 0 (fun y => if i + 1 < y ∧ y ≤ n then gL τ 58 0 (y - 1) else gL τ 58 0 y)) 58 0 (i + 1) v) 59 0 (fun y => if i + 1 < y ∧ y ≤ n then gI τ 59 0 (y - 1) else gI τ 59 0 y) := fun v => rfl
  rw [a3, sI_sIr, sL_sLr]
  unfold insM
  rw [sLr_congr (g := fun y => if i < y ∧ y ≤ n then gL τ 58 0 (y - 1) else gL τ 58 0 y), sIr_congr (g := fun y => if i < y ∧ y ≤ n then gI τ 59 0 (y - 1) else gI τ 59 0 y)]
  · intro y
    by_cases e1 : y = i + 1
    · rw [if_pos e1, if_pos (by omega), e1]; rfl
    · rw [if_neg e1]
      by_cases e2 : i + 1 < y ∧ y ≤ n
      · rw [if_pos e2, if_pos (by omega)]
      · rw [if_neg e2, if_neg (by omega)]
  · intro y
    by_cases e1 : y = i + 1
    · rw [if_pos e1, if_pos (by omega), e1]; rfl
    · rw [if_neg e1]
      by_cases e2 : i + 1 < y ∧ y ≤ n
      · rw [if_pos e2, if_pos (by omega)]
      · rw [if_neg e2, if_neg (by omega)]
theorem ins_loop {N h n b : Nat} {σ τ : rS} (x : Int64) (hh : h < 6) (hn : n < 12) (hb : b < 30) (hP : ∀ e, e < n → gL τ 58 0 (12 * h + e) = gL σ 18 h e) (hE : gI σ 17 h 2 = nI n) (hE2 : gI τ 57 0 h = nI n) (g18 : gN σ 18 h = 12) (g19 : gN σ 19 h = 12) (g57 : gN τ 57 0 = 6) (g58 : gN τ 58 0 = 72) (g59 : gN τ 59 0 = 72) (g51 : gN τ 51 0 = 30) : ∀ (i m m' : Nat), i ≤ n → i < m → i < m' → ∃ p, p ≤ n ∧ L3_insert_16 N m h x b (nI i) (insX σ h n i) = some ((), finX σ h n p x b) ∧ L11_keep_255 N m' 0 (nI h) x (nI b) (nI (12 * h + i)) (insM τ (12 * h) (12 * h + n) (12 * h + i)) = some (gI τ 51 0 b, finM τ h n p x b) := by
  have F1 : ∀ i, i ≤ n → B3_insert_73 N h x b (nI i) (insX σ h n i) = some ((), finX σ h n i x b) := by
    intro i hi
    unfold B3_insert_73
    have G18 : gN (insX σ h n i) 18 h = 12 := g18
    have G19 : gN (sL (insX σ h n i) 18 h i x) 19 h = 12 := g19
    rw [idx_nI _ (by omega) (by omega), olet_eq, G19, idx_nI _ (by omega) (by omega), olet_eq, olet_eq]
    have E17 : gI (sR (sL (insX σ h n i) 18 h i x) 19 h i (some b)) 17 h 2 = nI n := hE
    rw [E17]
    rfl
  have F2 : ∀ i, i ≤ n → B11_keep_316 N 0 (nI h) x (nI b) (nI (12 * h + i)) (insM τ (12 * h) (12 * h + n) (12 * h + i)) = some (gI τ 51 0 b, finM τ h n i x b) := by
    intro i hi
    unfold B11_keep_316
    have G58 : gN (insM τ (12 * h) (12 * h + n) (12 * h + i)) 58 0 = 72 := g58
    have G59 : gN (insM τ (12 * h) (12 * h + n) (12 * h + i)) 59 0 = 72 := g59
    have G57 : gN (insM τ (12 * h) (12 * h + n) (12 * h + i)) 57 0 = 6 := g57
    have G51 : gN (insM τ (12 * h) (12 * h + n) (12 * h + i)) 51 0 = 30 := g51
    have E57 : gI (sI (sL (insM τ (12 * h) (12 * h + n) (12 * h + i)) 58 0 (12 * h + i) x) 59 0 (12 * h + i) (nI b)) 57 0 h = nI n := hE2
    simp (disch := omega) only [gN_sI, gN_sL, G58, G59, G57, G51, ↓idx_nI, olet_eq, E57]
    rfl
  intro i
  induction i with
  | zero =>
    intro m m' hi hm hm'
    obtain ⟨m, rfl⟩ : ∃ q, m = q + 1 := ⟨m - 1, by omega⟩
    obtain ⟨m', rfl⟩ : ∃ q, m' = q + 1 := ⟨m' - 1, by omega⟩
    refine ⟨0, Nat.zero_le n, ?_, ?_⟩
    · show B3_insert_16 N (L3_insert_16 N m) h x b (nI 0) _ = _
      unfold B3_insert_16
      rw [if_pos (by decide)]
      exact F1 0 (Nat.zero_le n)
    · show B11_keep_255 N (L11_keep_255 N m') 0 (nI h) x (nI b) (nI (12 * h + 0)) _ = _
      unfold B11_keep_255
      have e12 : (12 : Int32) * nI h = nI (12 * h + 0) := by rw [← ix12]; exact (Int32.add_zero _).symm
      rw [e12, if_pos (nI_le (by omega) (by omega))]
      exact F2 0 (Nat.zero_le n)
  | succ i ih =>
    intro m m' hi hm hm'
    obtain ⟨m, rfl⟩ : ∃ q, m = q + 1 := ⟨m - 1, by omega⟩
    obtain ⟨m', rfl⟩ : ∃ q, m' = q + 1 := ⟨m' - 1, by omega⟩
    have G18 : gN (insX σ h n (i + 1)) 18 h = 12 := g18
    have G19 : gN (insX σ h n (i + 1)) 19 h = 12 := g19
    have G58 : gN (insM τ (12 * h) (12 * h + n) (12 * h + (i + 1))) 58 0 = 72 := g58
    have G59 : gN (insM τ (12 * h) (12 * h + n) (12 * h + (i + 1))) 59 0 = 72 := g59
    have e12 : (12 : Int32) * nI h = nI (12 * h + 0) := by rw [← ix12]; exact (Int32.add_zero _).symm
    have A1 : gL (insX σ h n (i + 1)) 18 h i = gL σ 18 h i := by
      simp only [insX, gL_sRr, gL_sLr, and_self, if_true]
      rw [if_neg (by omega)]
    have A2 : gL (insM τ (12 * h) (12 * h + n) (12 * h + (i + 1))) 58 0 (12 * h + i) = gL τ 58 0 (12 * h + i) := by
      simp only [insM, gL_sIr, gL_sLr, and_self, if_true]
      rw [if_neg (by omega)]
    have A3 : ∀ v, gR (sL (insX σ h n (i + 1)) 18 h (i + 1) v) 19 h i = gR σ 19 h i := by
      intro v
      simp only [gR_sL, insX, gR_sRr, and_self, if_true]
      rw [if_neg (by omega)]
    have A4 : ∀ v, gI (sL (insM τ (12 * h) (12 * h + n) (12 * h + (i + 1))) 58 0 (12 * h + i + 1) v) 59 0 (12 * h + i) = gI τ 59 0 (12 * h + i) := by
      intro v
      simp only [gI_sL, insM, gI_sIr, and_self, if_true]
      rw [if_neg (by omega)]
    have E1 : L3_insert_16 N (m + 1) h x b (nI (i + 1)) (insX σ h n (i + 1)) = if gL σ 18 h i ≤ x then some ((), finX σ h n (i + 1) x b) else L3_insert_16 N m h x b (nI i) (insX σ h n i) := by
      show B3_insert_16 N (L3_insert_16 N m) h x b (nI (i + 1)) _ = _
      unfold B3_insert_16
      rw [if_neg (nI_nle (by omega) (by omega)), F1 (i + 1) hi, nI_pred, pk_m1]
      simp (disch := omega) only [gN_sL, G18, G19, ↓idx_nI, olet_eq, A1, A3]
      rw [ins_step σ h n i (by omega)]
    have E2 : L11_keep_255 N (m' + 1) 0 (nI h) x (nI b) (nI (12 * h + (i + 1))) (insM τ (12 * h) (12 * h + n) (12 * h + (i + 1))) = if gL σ 18 h i ≤ x then some (gI τ 51 0 b, finM τ h n (i + 1) x b) else L11_keep_255 N m' 0 (nI h) x (nI b) (nI (12 * h + i)) (insM τ (12 * h) (12 * h + n) (12 * h + i)) := by
      show B11_keep_255 N (L11_keep_255 N m') 0 (nI h) x (nI b) (nI (12 * h + (i + 1))) _ = _
      unfold B11_keep_255
      rw [F2 (i + 1) hi, e12, if_neg (nI_ge (by omega) (by omega))]
      have e3 : nI (12 * h + (i + 1)) - 1 = nI (12 * h + i) := nI_pred (12 * h + i)
      have e4 : nI (12 * h + (i + 1)) + (-1) = nI (12 * h + i) := pk_m1 (12 * h + i)
      rw [e3, e4]
      simp (disch := omega) only [gN_sL, G58, G59, ↓idx_nI, olet_eq]
      have e5 : 12 * h + (i + 1) = 12 * h + i + 1 := rfl
      rw [A2, hP i (by omega)]
      congr 1
      have A4' := A4 (gL σ 18 h i)
      rw [← e5] at A4'
      rw [A4', ← hP i (by omega)]
      congr 1
      exact insM_step τ (12 * h) (12 * h + n) (12 * h + i) (by omega)
    rw [E1, E2]
    by_cases e : gL σ 18 h i ≤ x
    · rw [if_pos e, if_pos e]
      exact ⟨i + 1, hi, rfl, rfl⟩
    · rw [if_neg e, if_neg e]
      exact ih m m' (by omega) (by omega) (by omega)
