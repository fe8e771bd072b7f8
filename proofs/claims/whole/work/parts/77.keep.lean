/-! ===== keep ===== -/
theorem ins_Inv {t b h n p : Nat} {σ τ : rS} {x : Int64} (hI : InvD t σ τ b) (hh : h < gC σ 17) (hn : nE σ h = n) (hn12 : n < 12) (hp : p ≤ n) : Inv t (finX σ h n p x b) (finM τ h n p x b) := by
  obtain ⟨h1, h2, h3, h4, h5, ⟨r1, r2, r2', r3, r4, r5⟩, h7, hb, hu⟩ := hI
  have o6 : I_bo t (finX σ h n p x b) (finM τ h n p x b) := h5
  have a0 : ∀ r f, gI (finX σ h n p x b) 17 r f = if r = h ∧ f = 2 then nI (n + 1) else gI σ 17 r f := by
    intro r f
    simp [finX, insX, gI_sI, gI_sR, gI_sL, gI_sRr, gI_sLr, nI_1]
  have a1 : ∀ r y, gR (finX σ h n p x b) 19 r y = if r = h then (if y = p then some b else if p < y ∧ y ≤ n then gR σ 19 h (y - 1) else gR σ 19 h y) else gR σ 19 r y := by
    intro r y
    simp only [finX, insX, gR_sI, gR_sR, gR_sL, gR_sRr, gR_sLr, true_and]
    by_cases e1 : r = h
    · simp [e1]
    · simp [e1]
  have a2 : ∀ r y, gL (finX σ h n p x b) 18 r y = if r = h then (if y = p then x else if p < y ∧ y ≤ n then gL σ 18 h (y - 1) else gL σ 18 h y) else gL σ 18 r y := by
    intro r y
    simp only [finX, insX, gL_sI, gL_sR, gL_sL, gL_sRr, gL_sLr, true_and]
    by_cases e1 : r = h
    · simp [e1]
    · simp [e1]
  have a3 : ∀ r, nE (finX σ h n p x b) r = if r = h then n + 1 else nE σ r := by
    intro r
    unfold nE
    rw [a0]
    by_cases e1 : r = h
    · rw [if_pos ⟨e1, rfl⟩, if_pos e1, nI_clamp (by omega)]
    · rw [if_neg (fun q => e1 q.1), if_neg e1]
  have a4 : ∀ r, gI (finM τ h n p x b) 57 0 r = if r = h then nI (n + 1) else gI τ 57 0 r := by
    intro r
    simp [finM, insM, gI_sI, gI_sIr, gI_sLr, gI_sL, nI_1]
  have a5 : ∀ y, gL (finM τ h n p x b) 58 0 y = if y = 12 * h + p then x else if 12 * h + p < y ∧ y ≤ 12 * h + n then gL τ 58 0 (y - 1) else gL τ 58 0 y := by
    intro y
    simp [finM, insM, gL_sI, gL_sIr, gL_sLr, gL_sL]
  have a6 : ∀ y, gI (finM τ h n p x b) 59 0 y = if y = 12 * h + p then nI b else if 12 * h + p < y ∧ y ≤ 12 * h + n then gI τ 59 0 (y - 1) else gI τ 59 0 y := by
    intro y
    simp [finM, insM, gI_sI, gI_sIr, gI_sLr, gI_sL]
  refine ⟨h1, h2, h3, h4, bod_of o6 (fun k hk => ?_), ⟨r1, r2, r2', r3, r4, fun r hr' => ?_⟩, h7⟩
  · have hk' : k < gC σ 20 := hk
    have ek : uB (finX σ h n p x b) k = uB σ k := rfl
    rw [ek, hu k hk']
    have U := rcG_upd (R := fun h e => gR σ 19 h e) (E := fun h => gI σ 17 h 2) (R' := fun q y => gR (finX σ h n p x b) 19 q y) (E' := fun q => gI (finX σ h n p x b) 17 q 2) (b := k) (h0 := h) (n := gC σ 17) hh (fun q hq => by show gI (finX σ h n p x b) 17 q 2 = _; rw [a0, if_neg (fun z => hq z.1)]) (fun q y hq => by show gR (finX σ h n p x b) 19 q y = _; rw [a1, if_neg hq])
    have V := ctn_rm (p := fun y => gR (finX σ h n p x b) 19 h y = some k) (p' := fun y => gR σ 19 h y = some k) (ip := fun _ => inferInstance) (ip' := fun _ => inferInstance) (e := p) (fun y hy => by show _ ↔ gR (finX σ h n p x b) 19 h y = some k; rw [a1, if_pos rfl, if_neg (by omega), if_neg (by omega)]) (n := n) hp (fun y hy hy2 => by show _ ↔ gR (finX σ h n p x b) 19 h (y + 1) = some k; rw [a1, if_pos rfl, if_neg (by omega), if_pos (by omega)]; rfl)
    have V1 : (gR (finX σ h n p x b) 19 h p = some k) ↔ k = b := by
      rw [a1, if_pos rfl, if_pos rfl]
      exact ⟨fun z => (Option.some.inj z).symm, fun z => by rw [z]⟩
    have E1 : (gI σ 17 h 2).toNatClampNeg = n := hn
    have E2 : (gI (finX σ h n p x b) 17 h 2).toNatClampNeg = n + 1 := by
      have := a3 h
      rw [if_pos rfl] at this
      exact this
    rw [E1, E2] at U
    show _ = rcG (fun q y => gR (finX σ h n p x b) 19 q y) (fun q => gI (finX σ h n p x b) 17 q 2) k (gC σ 17)
    unfold rcH
    by_cases q : k = b
    · rw [if_pos q]
      rw [if_pos (V1.mpr q)] at V
      omega
    · rw [if_neg q]
      rw [if_neg (fun z => q (V1.mp z))] at V
      omega
  · obtain ⟨q0, q1, q2, q3, q4, q5, q6⟩ := r5 r hr'
    refine ⟨q0, ?_, ?_, ?_, q4, q5, fun y hy => ?_⟩
    · rw [a3]; split <;> omega
    · rw [a3, a0]
      by_cases e1 : r = h
      · rw [if_pos ⟨e1, rfl⟩, if_pos e1]
      · rw [if_neg (fun z => e1 z.1), if_neg e1]; exact q2
    · rw [a3, a4]
      by_cases e1 : r = h
      · rw [if_pos e1, if_pos e1]
      · rw [if_neg e1, if_neg e1]; exact q3
    · rw [a3] at hy
      rw [a5, a2, a6, a1]
      have c20 : gC (finX σ h n p x b) 20 = gC σ 20 := rfl
      rw [c20]
      by_cases e1 : r = h
      · subst e1
        rw [if_pos rfl] at hy
        rw [if_pos rfl, if_pos rfl]
        by_cases e2 : y = p
        · rw [if_pos (show 12 * r + y = 12 * r + p by omega), if_pos e2, if_pos e2, if_pos (show 12 * r + y = 12 * r + p by omega)]
          exact ⟨rfl, b, hb, rfl, rfl⟩
        · rw [if_neg (show ¬ 12 * r + y = 12 * r + p by omega), if_neg e2, if_neg e2, if_neg (show ¬ 12 * r + y = 12 * r + p by omega)]
          by_cases e3 : p < y ∧ y ≤ n
          · rw [if_pos (show 12 * r + p < 12 * r + y ∧ 12 * r + y ≤ 12 * r + n by omega), if_pos e3, if_pos e3, if_pos (show 12 * r + p < 12 * r + y ∧ 12 * r + y ≤ 12 * r + n by omega)]
            have := q6 (y - 1) (by omega)
            rw [show 12 * r + (y - 1) = 12 * r + y - 1 by omega] at this
            exact this
          · rw [if_neg (show ¬ (12 * r + p < 12 * r + y ∧ 12 * r + y ≤ 12 * r + n) by omega), if_neg e3, if_neg e3, if_neg (show ¬ (12 * r + p < 12 * r + y ∧ 12 * r + y ≤ 12 * r + n) by omega)]
            exact q6 y (by omega)
      · rw [if_neg e1] at hy
        rw [if_neg e1, if_neg e1, if_neg (show ¬ 12 * r + y = 12 * h + p by omega), if_neg (show ¬ (12 * h + p < 12 * r + y ∧ 12 * r + y ≤ 12 * h + n) by omega), if_neg (show ¬ 12 * r + y = 12 * h + p by omega), if_neg (show ¬ (12 * h + p < 12 * r + y ∧ 12 * r + y ≤ 12 * h + n) by omega)]
        exact q6 y hy
theorem free_loop {N t s : Nat} {σ τ : rS} (ht : t < 100) (h : Inv t σ τ) (hs1 : s < gC σ 15) : ∀ (k n n' i : Nat), k < n → k < n' → i + k = 30 → (∀ b, b < i → b < gC σ 20 ∧ 0 < uB σ b) → (∃ b ρ, b < 30 ∧ L11_freeBody_2 N n' 0 (nI i) τ = some (nI b, τ) ∧ L8_newBody_2 N n 0 s (nI i) σ = some (some b, nbX ρ s b) ∧ ((ρ = σ ∧ b < gC σ 20) ∨ (ρ = mkB σ ∧ b = gC σ 20 ∧ gC σ 20 < 30)) ∧ uB ρ b = 0) ∨ (L11_freeBody_2 N n' 0 (nI i) τ = some (30, τ) ∧ L8_newBody_2 N n 0 s (nI i) σ = some (none, σ)) := by
  have g51 := h.1.2.2.1
  have g7 := h.1.1.2.2.2.2.2.1
  obtain ⟨-, q1, q2, q3, q4, q5, q6, q7, q8, q9, q10⟩ := h.2.2.2.1.2.2.2.2 s hs1
  obtain ⟨o1, -⟩ := bo_of h.2.2.2.2.1
  obtain ⟨b1, b2, b3, b4, b5, ev, b6, b7, b8, b9, b10⟩ := h.2.2.2.2.1
  have hfit : ∀ j, j < zS σ s → fits .byte (.int (gI σ 16 s j)) = true := by
    intro j hj
    obtain ⟨n, hn, -, e⟩ := q10 j hj
    rw [e]
    exact pk_fb _
  intro k
  induction k with
  | zero =>
    intro n n' i hn hn' hi hL
    obtain ⟨m, rfl⟩ : ∃ q, n = q + 1 := ⟨n - 1, by omega⟩
    obtain ⟨m', rfl⟩ : ∃ q, n' = q + 1 := ⟨n' - 1, by omega⟩
    have : i = 30 := by omega
    subst this
    right
    constructor
    · show B11_freeBody_2 N (L11_freeBody_2 N m') 0 (nI 30) τ = _
      unfold B11_freeBody_2
      rw [if_pos (by decide)]; rfl
    · show B8_newBody_2 N (L8_newBody_2 N m) 0 s (nI 30) σ = _
      unfold B8_newBody_2
      rw [g7, if_pos (by decide)]
  | succ k ih =>
    intro n n' i hn hn' hi hL
    obtain ⟨m, rfl⟩ : ∃ q, n = q + 1 := ⟨n - 1, by omega⟩
    obtain ⟨m', rfl⟩ : ∃ q, n' = q + 1 := ⟨n' - 1, by omega⟩
    have E2 : L11_freeBody_2 N (m' + 1) 0 (nI i) τ = if gI τ 51 0 i = -1 then some (nI i, τ) else L11_freeBody_2 N m' 0 (nI (i + 1)) τ := by
      show B11_freeBody_2 N (L11_freeBody_2 N m') 0 (nI i) τ = _
      unfold B11_freeBody_2
      rw [if_neg (show ¬ (30 : Int32) ≤ nI i from nI_ge (a := i) (b := 30) (by omega) (by omega)), idx_nI _ (by omega) (by omega), nI_1]
    by_cases hig : i < gC σ 20
    · have E1 : L8_newBody_2 N (m + 1) 0 s (nI i) σ = B8_newBody_33 N (L8_newBody_2 N m) 0 s (nI i) σ := by
        show B8_newBody_2 N (L8_newBody_2 N m) 0 s (nI i) σ = _
        unfold B8_newBody_2
        rw [g7, if_neg (nI_ge (by omega) (by omega)), idx_nI _ (by omega) (by omega), olet_eq, b3 i (by omega), if_pos hig, onul_some]
      obtain ⟨y1, y2, y3, y4, y5⟩ := b9 i hig
      by_cases hu : uB σ i = 0
      · left
        refine ⟨i, σ, by omega, ?_, ?_, Or.inl ⟨rfl, hig⟩, hu⟩
        · rw [E2, if_pos (y4 hu)]
        · rw [E1]
          exact nb33 _ g7 (by omega) (by rw [b3 i (by omega), if_pos hig]) (by rw [y1, hu]; rfl) y3 q9 q1 q2 hfit
      · have hu' : 0 < uB σ i := by omega
        obtain ⟨⟨nn, hnn, z1⟩, z2, -⟩ := y5 hu'
        have c1 : ¬ gI τ 51 0 i = -1 := by rw [z2, z1]; exact nI_nm1 (by omega)
        have c2 : ¬ gI σ 20 i 3 ≤ 0 := by rw [y1]; exact nI_nle hu' (uB_lt σ i)
        have E3 : B8_newBody_33 N (L8_newBody_2 N m) 0 s (nI i) σ = L8_newBody_2 N m 0 s (nI (i + 1)) σ := by
          unfold B8_newBody_33
          rw [idx_nI _ (by omega) (by omega), olet_eq, b3 i (by omega), if_pos hig, onul_some, if_neg c2, nI_1]
        rw [E1, E2, E3, if_neg c1]
        refine ih m m' (i + 1) (by omega) (by omega) (by omega) (fun b hb => ?_)
        by_cases e : b = i
        · rw [e]; exact ⟨hig, hu'⟩
        · exact hL b (by omega)
    · have hgi : i = gC σ 20 := by
        by_cases e : i = 0
        · omega
        · have := (hL (i - 1) (by omega)).1
          omega
      obtain ⟨o3, o4⟩ := mkB_bo o1 (by omega)
      have o3b := o3.2.2.1 i (by omega)
      have o3c := (o3.2.2.2.2.2)
      left
      refine ⟨i, mkB σ, by omega, ?_, ?_, Or.inr ⟨rfl, hgi, by omega⟩, by rw [o4, if_pos hgi]⟩
      · rw [E2, if_pos (b5 i (by omega) (by omega))]
      · show B8_newBody_2 N (L8_newBody_2 N m) 0 s (nI i) σ = _
        unfold B8_newBody_2
        rw [g7, if_neg (nI_ge (by omega) (by omega)), idx_nI _ (by omega) (by omega), olet_eq, b3 i (by omega), if_neg hig, onul_none]
        unfold newBody
        rw [ock_pos b2]
        dsimp only
        have G7 : gN (mkBody σ) 7 0 = 30 := g7
        rw [G7, idx_nI _ (by omega) (by omega), olet_eq]
        have e3 : gI (mkB σ) 20 i 3 = 0 := by
          rw [hgi]
          simp [mkB, mkBody, olet_eq, gI_sI, gI_sR, gI_sC, gI_sN, gI_sRr, gI_sIr]
        have e4 : gN (mkB σ) 21 i = 400 := by
          rw [hgi]
          simp [mkB, mkBody, olet_eq, gN_sI, gN_sR, gN_sC, gN_sN, gN_sRr, gN_sIr]
        have e5 : sR (mkBody σ) 7 0 i (some (gC σ 20)) = mkB σ := by rw [hgi]; rfl
        rw [e5]
        have c20 : gC (mkB σ) 20 = gC σ 20 + 1 := rfl
        rw [c20, if_pos (by omega)] at o3b
        exact nb33 (ρ := mkB σ) _ g7 (by omega) o3b e3 e4 q9 q1 q2 hfit
