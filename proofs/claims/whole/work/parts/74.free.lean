/-! ===== a new body ===== -/
noncomputable def mkB (σ : rS) : rS := sR (mkBody σ) 7 0 (gC σ 20) (some (gC σ 20))
theorem mkB_bo {t : Nat} {σ τ : rS} (h : I_bo t σ τ) (hn : gC σ 20 < 30) : I_bo t (mkB σ) τ ∧ (∀ b, uB (mkB σ) b = if b = gC σ 20 then 0 else uB σ b) := by
  obtain ⟨b1, b2, b3, b4, b5, ev, b6, b7, b8, b9, b10⟩ := h
  have c20 : gC (mkB σ) 20 = gC σ 20 + 1 := rfl
  have a1 : ∀ b f, gI (mkB σ) 20 b f = if b = gC σ 20 then 0 else gI σ 20 b f := by
    intro b f
    simp [mkB, mkBody, olet_eq, gI_sI, gI_sR, gI_sC, gI_sN, gI_sRr, gI_sIr]
  have a2 : ∀ b i, gI (mkB σ) 21 b i = if b = gC σ 20 then 0 else gI σ 21 b i := by
    intro b f
    simp [mkB, mkBody, olet_eq, gI_sI, gI_sR, gI_sC, gI_sN, gI_sRr, gI_sIr]
  have a3 : ∀ b, gN (mkB σ) 21 b = if b = gC σ 20 then 400 else gN σ 21 b := by
    intro b
    simp [mkB, mkBody, olet_eq, gN_sI, gN_sR, gN_sC, gN_sN, gN_sRr, gN_sIr]
  have a4 : ∀ b, gR (mkB σ) 7 0 b = if b = gC σ 20 then some (gC σ 20) else gR σ 7 0 b := by
    intro b
    simp [mkB, mkBody, olet_eq, gR_sI, gR_sR, gR_sC, gR_sN, gR_sRr, gR_sIr]
  have hU : ∀ b, uB (mkB σ) b = if b = gC σ 20 then 0 else uB σ b := by
    intro b
    unfold uB
    rw [a1]
    split <;> rfl
  have hZ : ∀ b, zB (mkB σ) b = if b = gC σ 20 then 0 else zB σ b := by
    intro b
    unfold zB
    rw [a1]
    split <;> rfl
  refine ⟨⟨by rw [c20]; omega, ?_, ?_, ?_, ?_, ev, b6, b7, b8, fun b hb => ?_, ?_⟩, hU⟩
  · rw [c20]; rfl
  · intro b hb
    rw [a4, c20, b3 b hb]
    by_cases e : b = gC σ 20
    · rw [if_pos e, if_pos (by omega), e]
    · rw [if_neg e]
      by_cases e2 : b < gC σ 20
      · rw [if_pos e2, if_pos (by omega)]
      · rw [if_neg e2, if_neg (by omega)]
  · have e6 : gI (mkB σ) 6 0 1 = gI σ 6 0 1 := rfl
    rw [e6, b4, c20]
    show nI _ = nI (ctn (fun b => 0 < uB (mkB σ) b) (fun _ => inferInstance) (gC σ 20) + (if 0 < uB (mkB σ) (gC σ 20) then 1 else 0))
    rw [if_neg (by rw [hU, if_pos rfl]; omega)]
    congr 1
    apply ctn_congr
    intro k hk
    rw [hU, if_neg (by omega)]
  · intro b h1 h2
    rw [c20] at h1
    exact b5 b (by omega) h2
  · rw [c20] at hb
    unfold bodO
    simp only [hU, hZ, a1, a2, a3]
    by_cases e : b = gC σ 20
    · simp only [if_pos e]
      refine ⟨rfl, by trivial, fun _ => b5 b (by omega) (by omega), fun q => absurd q (Nat.lt_irrefl 0)⟩
    · simp only [if_neg e]
      exact b9 b (by omega)
  · intro b b' h1 h2 h3 h4 h5
    rw [c20] at h1 h2
    rw [hU] at h3 h4
    by_cases e : b = gC σ 20
    · rw [if_pos e] at h3; exact absurd h3 (Nat.lt_irrefl 0)
    · by_cases e' : b' = gC σ 20
      · rw [if_pos e'] at h4; exact absurd h4 (Nat.lt_irrefl 0)
      · rw [if_neg e] at h3
        rw [if_neg e'] at h4
        rw [a1, a1, if_neg e, if_neg e'] at h5
        exact b10 b b' (by omega) (by omega) h3 h4 h5
noncomputable def nbX (ρ : rS) (s b : Nat) : rS := sI (sI (sI (sI (sIr ρ 21 b (fun y => if y < zS ρ s then gI ρ 16 s y else gI ρ 21 b y)) 20 b 1 (gI ρ 15 s 1)) 20 b 2 (gI ρ 6 0 2)) 6 0 2 (gI ρ 6 0 2 + 1)) 6 0 1 (gI ρ 6 0 1 + 1)
theorem nb33 {N s i : Nat} {ρ : rS} (K : Nat → Nat → Int32 → rS → Option (Option Nat × rS)) (h7 : gN ρ 7 0 = 30) (hi : i < 30) (hr : gR ρ 7 0 i = some i) (hu : gI ρ 20 i 3 = 0) (h21 : gN ρ 21 i = 400) (h16 : gN ρ 16 s = 400) (hz : zS ρ s ≤ 400) (h1 : gI ρ 15 s 1 = nI (zS ρ s)) (hb : ∀ j, j < zS ρ s → fits .byte (.int (gI ρ 16 s j)) = true) : B8_newBody_33 N K 0 s (nI i) ρ = some (some i, nbX ρ s i) := by
  unfold B8_newBody_33
  have c1 : gI ρ 20 i 3 ≤ 0 := by rw [hu]; decide
  have ok : okcb ρ 16 s 21 i 0 0 (gI ρ 15 s 1) = true := by
    unfold okcb okcp
    rw [h1, nI_toInt (by omega), nI_clamp (by omega), h21, h16]
    have e0 : Int32.toNatClampNeg 0 = 0 := rfl
    simp only [e0, Bool.and_eq_true, decide_eq_true_eq, List.all_eq_true, List.mem_range]
    refine ⟨⟨by decide, by decide, by omega, by omega, by omega⟩, fun j hj => ?_⟩
    rw [Nat.zero_add]
    exact hb j hj
  rw [idx_nI _ (by omega) (by omega), idx_nI _ (by omega) (by omega), olet_eq, olet_eq, hr, onul_some, onul_some, if_pos c1, ock_pos ok]
  have e1 : (va_cpy (gI ρ 16 s) (gI ρ 21 i) (Int32.toNatClampNeg 0) (Int32.toNatClampNeg 0) (Int32.toNatClampNeg (gI ρ 15 s 1))) = fun y => if y < zS ρ s then gI ρ 16 s y else gI ρ 21 i y := by
    funext y
    have e0 : Int32.toNatClampNeg 0 = 0 := rfl
    rw [e0, h1, nI_clamp (by omega)]
    by_cases e : y < zS ρ s
    · rw [if_pos e, pk_cpy_in (by omega) (by omega)]
      congr 1
      omega
    · rw [if_neg e, pk_cpy_out (by omega)]
  rw [e1]
  rfl
noncomputable def nbM (τ : rS) (s b z : Nat) : rS := sIr (sI (sI (sI (sI τ 51 0 b (gI τ 29 0 25)) 29 0 25 (gI τ 29 0 25 + 1)) 52 0 b (nI z)) 53 0 b 0) 54 0 (fun y => if 400 * b ≤ y ∧ y < 400 * b + z then gI τ 44 0 (400 * s + (y - 400 * b)) else gI τ 54 0 y)
theorem use_new {t s b : Nat} {ρ τ : rS} (ht : t < 100) (h : I_bo t ρ τ) (hb : b < gC ρ 20) (hu : uB ρ b = 0) (hz : zS ρ s ≤ 400) (h1 : gI ρ 15 s 1 = nI (zS ρ s)) (hB : ∀ j, j < zS ρ s → bt (gI ρ 16 s j) (gI τ 44 0 (400 * s + j))) : I_bo (t + 1) (sI (nbX ρ s b) 20 b 3 (gI (nbX ρ s b) 20 b 3 + 1)) (sI (nbM τ s b (zS ρ s)) 53 0 b (gI (nbM τ s b (zS ρ s)) 53 0 b + 1)) ∧ (∀ k, uB (sI (nbX ρ s b) 20 b 3 (gI (nbX ρ s b) 20 b 3 + 1)) k = if k = b then 1 else uB ρ k) ∧ gI (sI (nbX ρ s b) 20 b 3 (gI (nbX ρ s b) 20 b 3 + 1)) 20 b 2 = gI (sI (nbM τ s b (zS ρ s)) 53 0 b (gI (nbM τ s b (zS ρ s)) 53 0 b + 1)) 51 0 b := by
  obtain ⟨b1, b2, b3, b4, b5, ev, b6, b7, b8, b9, b10⟩ := h
  have y1 := (b9 b hb).1
  rw [hu] at y1
  have e3 : gI (nbX ρ s b) 20 b 3 = 0 := by
    have : gI (nbX ρ s b) 20 b 3 = gI ρ 20 b 3 := by simp [nbX, gI_sI, gI_sIr]
    rw [this, y1]; rfl
  have e53 : gI (nbM τ s b (zS ρ s)) 53 0 b = 0 := by simp [nbM, gI_sI, gI_sIr]
  rw [e3, e53]
  have f3 : ∀ k, gI (sI (nbX ρ s b) 20 b 3 (0 + 1)) 20 k 3 = if k = b then 1 else gI ρ 20 k 3 := by
    intro k
    simp [nbX, gI_sI, gI_sIr]
  have f2 : ∀ k, gI (sI (nbX ρ s b) 20 b 3 (0 + 1)) 20 k 2 = if k = b then nI ev else gI ρ 20 k 2 := by
    intro k
    simp [nbX, gI_sI, gI_sIr, b7]
  have f1 : ∀ k, gI (sI (nbX ρ s b) 20 b 3 (0 + 1)) 20 k 1 = if k = b then nI (zS ρ s) else gI ρ 20 k 1 := by
    intro k
    simp [nbX, gI_sI, gI_sIr, h1]
  have f21 : ∀ k i, gI (sI (nbX ρ s b) 20 b 3 (0 + 1)) 21 k i = if k = b then (if i < zS ρ s then gI ρ 16 s i else gI ρ 21 b i) else gI ρ 21 k i := by
    intro k i
    simp [nbX, gI_sI, gI_sIr]
  have hU : ∀ k, uB (sI (nbX ρ s b) 20 b 3 (0 + 1)) k = if k = b then 1 else uB ρ k := by
    intro k
    unfold uB
    rw [f3]
    split <;> rfl
  have hZ : ∀ k, zB (sI (nbX ρ s b) 20 b 3 (0 + 1)) k = if k = b then zS ρ s else zB ρ k := by
    intro k
    unfold zB
    rw [f1]
    by_cases e : k = b
    · rw [if_pos e, if_pos e, nI_clamp (by omega)]
    · rw [if_neg e, if_neg e]
  have m51 : ∀ k, gI (sI (nbM τ s b (zS ρ s)) 53 0 b (0 + 1)) 51 0 k = if k = b then nI ev else gI τ 51 0 k := by
    intro k
    simp [nbM, gI_sI, gI_sIr, b8]
  have m52 : ∀ k, gI (sI (nbM τ s b (zS ρ s)) 53 0 b (0 + 1)) 52 0 k = if k = b then nI (zS ρ s) else gI τ 52 0 k := by
    intro k
    simp [nbM, gI_sI, gI_sIr]
  have m53 : ∀ k, gI (sI (nbM τ s b (zS ρ s)) 53 0 b (0 + 1)) 53 0 k = if k = b then 1 else gI τ 53 0 k := by
    intro k
    by_cases e : k = b
    · simp [nbM, gI_sI, gI_sIr, e]
    · simp [nbM, gI_sI, gI_sIr, e]
  have m54 : ∀ y, gI (sI (nbM τ s b (zS ρ s)) 53 0 b (0 + 1)) 54 0 y = if 400 * b ≤ y ∧ y < 400 * b + zS ρ s then gI τ 44 0 (400 * s + (y - 400 * b)) else gI τ 54 0 y := by
    intro y
    simp [nbM, gI_sI, gI_sIr]
  have c20 : gC (sI (nbX ρ s b) 20 b 3 (0 + 1)) 20 = gC ρ 20 := rfl
  refine ⟨⟨b1, b2, b3, ?_, ?_, ev + 1, by omega, ?_, ?_, fun k hk => ?_, ?_⟩, hU, by rw [f2, m51, if_pos rfl, if_pos rfl]⟩
  · have e6 : gI (sI (nbX ρ s b) 20 b 3 (0 + 1)) 6 0 1 = gI ρ 6 0 1 + 1 := by simp [nbX, gI_sI, gI_sIr]
    rw [e6, b4, c20, nI_1]
    have e := ctn_upd (p := fun k => 0 < uB ρ k) (q := fun k => 0 < uB (sI (nbX ρ s b) 20 b 3 (0 + 1)) k) (ip := fun _ => inferInstance) (iq := fun _ => inferInstance) (k0 := b) (fun k hk => by show 0 < uB ρ k ↔ 0 < uB (sI (nbX ρ s b) 20 b 3 (0 + 1)) k; rw [hU, if_neg hk]) (n := gC ρ 20) hb
    have n1 : ¬ 0 < uB ρ b := by omega
    have n2 : 0 < uB (sI (nbX ρ s b) 20 b 3 (0 + 1)) b := by rw [hU, if_pos rfl]; omega
    rw [if_neg n1, if_pos n2] at e
    rw [e]; rfl
  · intro k h2 h3
    have h2' : gC ρ 20 ≤ k := h2
    rw [m51, if_neg (by omega)]
    exact b5 k h2 h3
  · have : gI (sI (nbX ρ s b) 20 b 3 (0 + 1)) 6 0 2 = gI ρ 6 0 2 + 1 := by simp [nbX, gI_sI, gI_sIr]
    rw [this, b7, nI_1]
  · have : gI (sI (nbM τ s b (zS ρ s)) 53 0 b (0 + 1)) 29 0 25 = gI τ 29 0 25 + 1 := by simp [nbM, gI_sI, gI_sIr]
    rw [this, b8, nI_1]
  · rw [c20] at hk
    obtain ⟨x1, x3, x4, x5⟩ := b9 k hk
    have n21 : gN (sI (nbX ρ s b) 20 b 3 (0 + 1)) 21 k = gN ρ 21 k := rfl
    unfold bodO
    simp only [hU, hZ, f1, f2, f3, f21, m51, m52, m53, m54, n21]
    by_cases e : k = b
    · simp only [if_pos e]
      refine ⟨rfl, x3, fun q => absurd q (by omega), fun _ => ⟨⟨ev, by omega, rfl⟩, by trivial, rfl, hz, by trivial, by trivial, fun i hi => ?_⟩⟩
      rw [if_pos hi, if_pos (by omega)]
      have := hB i hi
      rw [show 400 * s + (400 * k + i - 400 * b) = 400 * s + i by omega]
      exact this
    · simp only [if_neg e]
      refine ⟨x1, x3, x4, fun q => ?_⟩
      obtain ⟨⟨n, hn, w1⟩, w2, w3, w4, w5, w6, w7⟩ := x5 q
      refine ⟨⟨n, by omega, w1⟩, w2, w3, w4, w5, w6, fun i hi => ?_⟩
      rw [if_neg (by omega)]
      exact w7 i hi
  · intro k k' h2 h3 h4 h5 h6
    rw [c20] at h2 h3
    rw [hU] at h4 h5
    rw [f2, f2] at h6
    by_cases e : k = b
    · by_cases e' : k' = b
      · omega
      · rw [if_pos e, if_neg e'] at h6
        rw [if_neg e'] at h5
        obtain ⟨⟨n, hn, w1⟩, -⟩ := (b9 k' h3).2.2.2 h5
        rw [w1] at h6
        have := (nI_eq (by omega) (by omega)).mp h6
        omega
    · by_cases e' : k' = b
      · rw [if_neg e, if_pos e'] at h6
        rw [if_neg e] at h4
        obtain ⟨⟨n, hn, w1⟩, -⟩ := (b9 k h2).2.2.2 h4
        rw [w1] at h6
        have := (nI_eq (by omega) (by omega)).mp h6
        omega
      · rw [if_neg e, if_neg e'] at h6
        rw [if_neg e] at h4
        rw [if_neg e'] at h5
        exact b10 k k' h2 h3 h4 h5 h6
