/-! ===== a body more in use ===== -/
theorem rcG_le {R : Nat → Nat → Option Nat} {E : Nat → Int32} {b : Nat} : ∀ {n : Nat}, (∀ h, h < n → (E h).toNatClampNeg ≤ 12) → rcG R E b n ≤ 12 * n
  | 0, _ => Nat.le_refl 0
  | n + 1, h => by
    have h1 := rcG_le (R := R) (E := E) (b := b) (n := n) (fun k hk => h k (by omega))
    have h2 := ctn_le (fun e => R n e = some b) (fun _ => inferInstance) (E n).toNatClampNeg
    have h3 := h n (by omega)
    show rcG R E b n + _ ≤ _
    omega
theorem ctn_none {p : Nat → Prop} {ip : ∀ k, Decidable (p k)} : ∀ {n : Nat}, (∀ k, k < n → ¬ p k) → ctn p ip n = 0
  | 0, _ => rfl
  | n + 1, h => by
    unfold ctn
    rw [ctn_none (ip := ip) (fun k hk => h k (by omega)), if_neg (h n (by omega))]
theorem rcG_zero {R : Nat → Nat → Option Nat} {E : Nat → Int32} {b : Nat} : ∀ {n : Nat}, (∀ h e, h < n → e < (E h).toNatClampNeg → R h e ≠ some b) → rcG R E b n = 0
  | 0, _ => rfl
  | n + 1, h => by
    show rcG R E b n + ctn (fun e => R n e = some b) (fun _ => inferInstance) (E n).toNatClampNeg = 0
    rw [rcG_zero (fun k e hk he => h k e (by omega) he), ctn_none (fun e he => h n e (by omega) he)]
def InvD (t : Nat) (σ τ : rS) (b : Nat) : Prop := I_st σ τ ∧ I_fd σ τ ∧ I_row σ τ ∧ I_str σ τ ∧ I_bo t σ τ ∧ I_hou σ τ ∧ I_del σ τ ∧ b < gC σ 20 ∧ ∀ k, k < gC σ 20 → uB σ k = rcH σ k (gC σ 17) + (if k = b then 1 else 0)
theorem use_live {t b : Nat} {σ τ : rS} (h : I_bo t σ τ) (hb : b < gC σ 20) (hu : 0 < uB σ b) (hu2 : uB σ b ≤ 100) : I_bo t (sI σ 20 b 3 (gI σ 20 b 3 + 1)) (sI τ 53 0 b (gI τ 53 0 b + 1)) ∧ ∀ k, uB (sI σ 20 b 3 (gI σ 20 b 3 + 1)) k = if k = b then uB σ b + 1 else uB σ k := by
  obtain ⟨b1, b2, b3, b4, b5, ev, b6, b7, b8, b9, b10⟩ := h
  obtain ⟨y1, y2, y3, y4⟩ := b9 b hb
  obtain ⟨z1, z2, z3, z4⟩ := y4 hu
  have f3 : ∀ k, gI (sI σ 20 b 3 (gI σ 20 b 3 + 1)) 20 k 3 = if k = b then nI (uB σ b + 1) else gI σ 20 k 3 := by
    intro k
    rw [y1, nI_1]
    simp [gI_sI]
  have fx : ∀ k f, f ≠ 3 → gI (sI σ 20 b 3 (gI σ 20 b 3 + 1)) 20 k f = gI σ 20 k f := by
    intro k f hf
    simp [gI_sI, hf]
  have hU : ∀ k, uB (sI σ 20 b 3 (gI σ 20 b 3 + 1)) k = if k = b then uB σ b + 1 else uB σ k := by
    intro k
    unfold uB
    rw [f3]
    by_cases e : k = b
    · rw [if_pos e, if_pos e, nI_clamp (by omega)]; rfl
    · rw [if_neg e, if_neg e]
  have fZ : ∀ k, zB (sI σ 20 b 3 (gI σ 20 b 3 + 1)) k = zB σ k := fun k => by unfold zB; rw [fx k 1 (by omega)]
  have m53 : ∀ k, gI (sI τ 53 0 b (gI τ 53 0 b + 1)) 53 0 k = if k = b then nI (uB σ b + 1) else gI τ 53 0 k := by
    intro k
    rw [z3, nI_1]
    simp [gI_sI]
  refine ⟨⟨b1, b2, b3, ?_, b5, ev, b6, b7, b8, fun k hk => ?_, ?_⟩, hU⟩
  · show gI σ 6 0 1 = nI (ctn (fun k => 0 < uB (sI σ 20 b 3 (gI σ 20 b 3 + 1)) k) (fun _ => inferInstance) (gC σ 20))
    rw [b4]
    congr 1
    apply ctn_congr
    intro k hk
    rw [hU]
    by_cases e : k = b
    · subst e; rw [if_pos rfl]; omega
    · rw [if_neg e]
  · obtain ⟨x1, x3, x4, x5⟩ := b9 k hk
    have m51 : gI (sI τ 53 0 b (gI τ 53 0 b + 1)) 51 0 k = gI τ 51 0 k := rfl
    unfold bodO
    rw [hU, f3, m53, fZ, fx k 1 (by omega), fx k 2 (by omega), m51]
    by_cases e : k = b
    · subst e
      simp only [if_true]
      exact ⟨trivial, x3, fun q => absurd q (by omega), fun _ => ⟨z1, z2, trivial, z4⟩⟩
    · simp only [if_neg e]
      exact ⟨x1, x3, x4, x5⟩
  · intro k k' h1 h2 h3 h4 h5
    rw [fx k 2 (by omega), fx k' 2 (by omega)] at h5
    rw [hU] at h3 h4
    refine b10 k k' h1 h2 ?_ ?_ h5
    · by_cases e : k = b
      · subst e; exact hu
      · rw [if_neg e] at h3; exact h3
    · by_cases e : k' = b
      · subst e; exact hu
      · rw [if_neg e] at h4; exact h4
theorem bo_mono {t : Nat} {σ τ : rS} (h : I_bo t σ τ) : I_bo (t + 1) σ τ := by
  obtain ⟨b1, b2, b3, b4, b5, ev, b6, b7⟩ := h
  exact ⟨b1, b2, b3, b4, b5, ev, by omega, b7⟩
theorem use_le {t b : Nat} {σ τ : rS} (h : Inv t σ τ) (hb : b < gC σ 20) : uB σ b ≤ 72 := by
  have h6 := h.2.2.2.2.2.1
  rw [(bo_of h.2.2.2.2.1).2 b hb]
  have := rcG_le (R := fun h e => gR σ 19 h e) (E := fun h => gI σ 17 h 2) (b := b) (n := gC σ 17) (fun q hq => (h6.2.2.2.2.2 q hq).2.1)
  have h7 := h6.1
  unfold rcH
  omega
theorem like_InvD {t b : Nat} {σ τ : rS} (h : Inv t σ τ) (hb : b < gC σ 20) (hu : 0 < uB σ b) : InvD (t + 1) (sI σ 20 b 3 (gI σ 20 b 3 + 1)) (sI τ 53 0 b (gI τ 53 0 b + 1)) b := by
  have hle := use_le h hb
  obtain ⟨h1, h2, h3, h4, h5, h6, h7⟩ := h
  obtain ⟨o1, o2⟩ := bo_of h5
  obtain ⟨p1, p2⟩ := use_live o1 hb hu (by omega)
  refine ⟨h1, h2, h3, h4, bo_mono p1, h6, h7, hb, fun k hk => ?_⟩
  have e : rcH (sI σ 20 b 3 (gI σ 20 b 3 + 1)) k (gC (sI σ 20 b 3 (gI σ 20 b 3 + 1)) 17) = rcH σ k (gC σ 17) := rfl
  rw [p2, e, ← o2 k hk]
  by_cases q : k = b
  · rw [if_pos q, if_pos q, q]
  · rw [if_neg q, if_neg q]; rfl
theorem new_InvD {t s b : Nat} {σ τ ρ : rS} (ht : t < 100) (h : Inv t σ τ) (hs1 : s < gC σ 15) (hρ : (ρ = σ ∧ b < gC σ 20) ∨ (ρ = mkB σ ∧ b = gC σ 20 ∧ gC σ 20 < 30)) (hu : uB ρ b = 0) : InvD (t + 1) (sI (nbX ρ s b) 20 b 3 (gI (nbX ρ s b) 20 b 3 + 1)) (sI (nbM τ s b (zS σ s)) 53 0 b (gI (nbM τ s b (zS σ s)) 53 0 b + 1)) b := by
  obtain ⟨h1, h2, h3, h4, h5, h6, h7⟩ := h
  obtain ⟨o1, o2⟩ := bo_of h5
  obtain ⟨-, q1, q2, q3, q4, q5, q6, q7, q8, q9, q10⟩ := h4.2.2.2.2 s hs1
  rcases hρ with ⟨e, hb⟩ | ⟨e, hb, hn⟩
  · subst e
    obtain ⟨p1, p2, -⟩ := use_new (s := s) ht o1 hb hu q1 q2 q10
    refine ⟨h1, h2, h3, h4, p1, h6, h7, hb, fun k hk => ?_⟩
    have e : rcH (sI (nbX ρ s b) 20 b 3 (gI (nbX ρ s b) 20 b 3 + 1)) k (gC (sI (nbX ρ s b) 20 b 3 (gI (nbX ρ s b) 20 b 3 + 1)) 17) = rcH ρ k (gC ρ 17) := rfl
    rw [p2, e, ← o2 k hk]
    by_cases q : k = b
    · rw [if_pos q, if_pos q, q, hu]
    · rw [if_neg q, if_neg q]; rfl
  · subst e
    obtain ⟨o3, o4⟩ := mkB_bo o1 hn
    have hb' : b < gC (mkB σ) 20 := by rw [hb]; exact Nat.lt_succ_self _
    obtain ⟨p1, p2, -⟩ := use_new (ρ := mkB σ) (s := s) ht o3 hb' hu q1 q2 q10
    have c20 : gC (sI (nbX (mkB σ) s b) 20 b 3 (gI (nbX (mkB σ) s b) 20 b 3 + 1)) 20 = gC σ 20 + 1 := rfl
    refine ⟨h1, h2, h3, h4, p1, ?_, h7, hb', fun k hk => ?_⟩
    · obtain ⟨r1, r2, r2', r3, r4, r5⟩ := h6
      refine ⟨r1, r2, r2', r3, r4, fun r hr => ?_⟩
      obtain ⟨w0, w1, w2, w3, w4, w5, w6⟩ := r5 r hr
      refine ⟨w0, w1, w2, w3, w4, w5, fun e he => ?_⟩
      obtain ⟨w7, b', w8, w9, w10⟩ := w6 e he
      exact ⟨w7, b', by rw [c20]; omega, w9, w10⟩
    · rw [c20] at hk
      have e : rcH (sI (nbX (mkB σ) s b) 20 b 3 (gI (nbX (mkB σ) s b) 20 b 3 + 1)) k (gC (sI (nbX (mkB σ) s b) 20 b 3 (gI (nbX (mkB σ) s b) 20 b 3 + 1)) 17) = rcH σ k (gC σ 17) := rfl
      rw [p2, e, o4]
      by_cases q : k = b
      · rw [if_pos q, if_pos q]
        have z : rcH σ k (gC σ 17) = 0 := by
          apply rcG_zero
          intro g e hg he hr
          obtain ⟨b', w8, w9, -⟩ := ((h6.2.2.2.2.2 g hg).2.2.2.2.2.2 e he).2
          have : some b' = some k := by rw [← w9]; exact hr
          have := Option.some.inj this
          omega
        rw [z]
      · rw [if_neg q, if_neg q, if_neg (by omega), ← o2 k (by omega)]; rfl
