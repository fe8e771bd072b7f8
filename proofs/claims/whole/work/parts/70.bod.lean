/-! ===== bodies: the part that does not count ===== -/
def bodO (σ τ : rS) (ev b : Nat) : Prop := gI σ 20 b 3 = nI (uB σ b) ∧ gN σ 21 b = 400 ∧ (uB σ b = 0 → gI τ 51 0 b = -1) ∧ (0 < uB σ b → (∃ n : Nat, n < ev ∧ gI σ 20 b 2 = nI n) ∧ gI τ 51 0 b = gI σ 20 b 2 ∧ gI τ 53 0 b = nI (uB σ b) ∧ zB σ b ≤ 400 ∧ gI σ 20 b 1 = nI (zB σ b) ∧ gI τ 52 0 b = nI (zB σ b) ∧ ∀ i, i < zB σ b → bt (gI σ 21 b i) (gI τ 54 0 (400 * b + i)))
def I_bo (t : Nat) (σ τ : rS) : Prop := gC σ 20 ≤ 30 ∧ gC σ 21 = gC σ 20 ∧ (∀ b, b < 30 → gR σ 7 0 b = if b < gC σ 20 then some b else none) ∧ gI σ 6 0 1 = nI (ctn (fun b => 0 < uB σ b) (fun _ => inferInstance) (gC σ 20)) ∧ (∀ b, gC σ 20 ≤ b → b < 30 → gI τ 51 0 b = -1) ∧ ∃ ev : Nat, ev ≤ t ∧ gI σ 6 0 2 = nI ev ∧ gI τ 29 0 25 = nI ev ∧ (∀ b, b < gC σ 20 → bodO σ τ ev b) ∧ ∀ b b', b < gC σ 20 → b' < gC σ 20 → 0 < uB σ b → 0 < uB σ b' → gI σ 20 b 2 = gI σ 20 b' 2 → b = b'
theorem bo_of {t : Nat} {σ τ : rS} (h : I_bod t σ τ) : I_bo t σ τ ∧ ∀ b, b < gC σ 20 → uB σ b = rcH σ b (gC σ 17) := by
  obtain ⟨b1, b2, b3, b4, b5, ev, b6, b7, b8, b9, b10⟩ := h
  refine ⟨⟨b1, b2, b3, b4, b5, ev, b6, b7, b8, fun b hb => ?_, b10⟩, fun b hb => (b9 b hb).2.1⟩
  obtain ⟨x1, x2, x3⟩ := b9 b hb
  exact ⟨x1, x3⟩
theorem bod_of {t : Nat} {σ τ : rS} (h : I_bo t σ τ) (h2 : ∀ b, b < gC σ 20 → uB σ b = rcH σ b (gC σ 17)) : I_bod t σ τ := by
  obtain ⟨b1, b2, b3, b4, b5, ev, b6, b7, b8, b9, b10⟩ := h
  refine ⟨b1, b2, b3, b4, b5, ev, b6, b7, b8, fun b hb => ?_, b10⟩
  obtain ⟨x1, x3⟩ := b9 b hb
  exact ⟨x1, h2 b hb, x3⟩
theorem ctn_upd {p q : Nat → Prop} {ip : ∀ k, Decidable (p k)} {iq : ∀ k, Decidable (q k)} {k0 : Nat} (h : ∀ k, k ≠ k0 → (p k ↔ q k)) : ∀ {n : Nat}, k0 < n → ctn p ip n + (@ite Nat (q k0) (iq k0) 1 0) = ctn q iq n + (@ite Nat (p k0) (ip k0) 1 0)
  | 0, h0 => absurd h0 (Nat.not_lt_zero k0)
  | n + 1, h0 => by
    unfold ctn
    by_cases e : k0 = n
    · subst e
      rw [ctn_congr (iq := iq) (fun k hk => h k (by omega))]
      omega
    · have ih := ctn_upd (ip := ip) (iq := iq) h (n := n) (by omega)
      have e2 : (@ite Nat (p n) (ip n) 1 0) = (@ite Nat (q n) (iq n) 1 0) := by
        by_cases hp : p n
        · rw [if_pos hp, if_pos ((h n (fun q => e q.symm)).mp hp)]
        · rw [if_neg hp, if_neg (fun hq => hp ((h n (fun q => e q.symm)).mpr hq))]
      omega
theorem ctn_rm {p p' : Nat → Prop} {ip : ∀ k, Decidable (p k)} {ip' : ∀ k, Decidable (p' k)} {e : Nat} (h1 : ∀ x, x < e → (p' x ↔ p x)) : ∀ {n : Nat}, e ≤ n → (∀ x, e ≤ x → x < n → (p' x ↔ p (x + 1))) → ctn p' ip' n + (@ite Nat (p e) (ip e) 1 0) = ctn p ip (n + 1)
  | 0, h0, _ => by
    have : e = 0 := by omega
    subst this
    rfl
  | n + 1, h0, h2 => by
    by_cases q : e = n + 1
    · subst q
      show _ = ctn p ip (n + 1) + _
      rw [ctn_congr (iq := ip) h1]
    · have ih := ctn_rm (ip := ip) (ip' := ip') h1 (n := n) (by omega) (fun x hx hx2 => h2 x hx (by omega))
      show ctn p' ip' n + (@ite Nat (p' n) (ip' n) 1 0) + _ = ctn p ip (n + 1) + (@ite Nat (p (n + 1)) (ip (n + 1)) 1 0)
      have e2 : (@ite Nat (p' n) (ip' n) 1 0) = (@ite Nat (p (n + 1)) (ip (n + 1)) 1 0) := by
        by_cases hp : p' n
        · rw [if_pos hp, if_pos ((h2 n (by omega) (by omega)).mp hp)]
        · rw [if_neg hp, if_neg (fun hq => hp ((h2 n (by omega) (by omega)).mpr hq))]
      omega
theorem rcG_upd {R R' : Nat → Nat → Option Nat} {E E' : Nat → Int32} {b h0 : Nat} : ∀ {n : Nat}, h0 < n → (∀ h, h ≠ h0 → E' h = E h) → (∀ h e, h ≠ h0 → R' h e = R h e) → rcG R' E' b n + ctn (fun e => R h0 e = some b) (fun _ => inferInstance) (E h0).toNatClampNeg = rcG R E b n + ctn (fun e => R' h0 e = some b) (fun _ => inferInstance) (E' h0).toNatClampNeg
  | 0, h, _, _ => absurd h (Nat.not_lt_zero h0)
  | n + 1, h, h1, h2 => by
    show rcG R' E' b n + ctn (fun e => R' n e = some b) (fun _ => inferInstance) (E' n).toNatClampNeg + _ = rcG R E b n + ctn (fun e => R n e = some b) (fun _ => inferInstance) (E n).toNatClampNeg + _
    by_cases q : h0 = n
    · subst q
      rw [rcG_congr (R := R') (R' := R) (E := E') (E' := E) (fun h hh => h1 h (by omega)) (fun h e hh _ => h2 h e (by omega))]
      omega
    · have ih := rcG_upd (R := R) (R' := R') (E := E) (E' := E') (b := b) (n := n) (h0 := h0) (by omega) h1 h2
      have e1 : ctn (fun e => R' n e = some b) (fun _ => inferInstance) (E' n).toNatClampNeg = ctn (fun e => R n e = some b) (fun _ => inferInstance) (E n).toNatClampNeg := by
        rw [h1 n (fun q' => q q'.symm)]
        apply ctn_congr
        intro k _
        rw [h2 n k (fun q' => q q'.symm)]
      omega
theorem uB_lt (σ : rS) (b : Nat) : uB σ b < 2 ^ 31 := by
  unfold uB
  have := Int32.toInt_lt (gI σ 20 b 3)
  unfold Int32.toNatClampNeg
  omega
theorem sI_id (σ : rS) (k i x : Nat) : sI σ k i x (gI σ k i x) = σ := by
  obtain ⟨a, b, c, d, e⟩ := σ
  simp only [sI, gI]
  congr 1
  funext k' i' x'
  by_cases h : k' = k ∧ i' = i ∧ x' = x
  · rw [if_pos h, h.1, h.2.1, h.2.2]
  · rw [if_neg h]
noncomputable def relX (σ : rS) (b : Nat) : rS := sI (sI σ 20 b 3 (gI σ 20 b 3 - 1)) 6 0 1 (if gI σ 20 b 3 - 1 = 0 then gI σ 6 0 1 - 1 else gI σ 6 0 1)
noncomputable def relM (τ : rS) (b : Nat) : rS := sI (sI τ 53 0 b (gI τ 53 0 b - 1)) 51 0 b (if gI τ 53 0 b - 1 = 0 then -1 else gI τ 51 0 b)
theorem release_eq (σ : rS) (b : Nat) : f8_release 0 b σ = some ((), relX σ b) := by
  unfold f8_release relX
  have e1 : ∀ v, gI (sI σ 20 b 3 v) 20 b 3 = v := fun v => by simp [gI_sI]
  have e2 : ∀ v, gI (sI σ 20 b 3 v) 6 0 1 = gI σ 6 0 1 := fun v => rfl
  simp only [olet_eq, e1, e2]
  by_cases h : gI σ 20 b 3 - 1 = 0
  · rw [if_pos h, if_pos h]
  · rw [if_neg h, if_neg h]
    congr 2
    rw [← e2 (gI σ 20 b 3 - 1), sI_id]
theorem leave_eq {τ : rS} {b : Nat} (h53 : gN τ 53 0 = 30) (h51 : gN τ 51 0 = 30) (hb : b < 30) : f11_leave 0 (nI b) τ = some ((), relM τ b) := by
  unfold f11_leave relM
  have e1 : ∀ v, gI (sI τ 53 0 b v) 53 0 b = v := fun v => by simp [gI_sI]
  have e2 : ∀ v, gI (sI τ 53 0 b v) 51 0 b = gI τ 51 0 b := fun v => rfl
  simp (disch := omega) only [↓idx_nI, olet_eq, gN_sI, e1]
  by_cases h : gI τ 53 0 b - 1 = 0
  · rw [if_pos h, if_pos h]
  · rw [if_neg h, if_neg h]
    congr 2
    rw [← e2 (gI τ 53 0 b - 1), sI_id]
theorem rel_bo {t b0 : Nat} {σ τ : rS} (h : I_bo t σ τ) (hb0 : b0 < gC σ 20) (hu : 0 < uB σ b0) : I_bo t (relX σ b0) (relM τ b0) ∧ ∀ b, uB (relX σ b0) b = if b = b0 then uB σ b0 - 1 else uB σ b := by
  obtain ⟨b1, b2, b3, b4, b5, ev, b6, b7, b8, b9, b10⟩ := h
  obtain ⟨y1, y2, y3, y4⟩ := b9 b0 hb0
  obtain ⟨z1, z2, z3, z4⟩ := y4 hu
  have hlt := uB_lt σ b0
  have eu : gI σ 20 b0 3 - 1 = nI (uB σ b0 - 1) := by
    rw [y1]
    obtain ⟨m, hm⟩ : ∃ m, uB σ b0 = m + 1 := ⟨uB σ b0 - 1, by omega⟩
    rw [hm, nI_pred]; rfl
  have em : gI τ 53 0 b0 - 1 = nI (uB σ b0 - 1) := by
    rw [z3, ← y1]; exact eu
  have f3 : ∀ b, gI (relX σ b0) 20 b 3 = if b = b0 then nI (uB σ b0 - 1) else gI σ 20 b 3 := by
    intro b
    simp [relX, gI_sI, eu]
  have hU : ∀ b, uB (relX σ b0) b = if b = b0 then uB σ b0 - 1 else uB σ b := by
    intro b
    unfold uB
    rw [f3]
    by_cases e : b = b0
    · rw [if_pos e, if_pos e, nI_clamp (by omega)]; rfl
    · rw [if_neg e, if_neg e]
  have fx : ∀ b f, f ≠ 3 → gI (relX σ b0) 20 b f = gI σ 20 b f := by
    intro b f hf
    simp [relX, gI_sI, hf]
  have fZ : ∀ b, zB (relX σ b0) b = zB σ b := fun b => by unfold zB; rw [fx b 1 (by omega)]
  have f51 : ∀ b, gI (relM τ b0) 51 0 b = if b = b0 ∧ uB σ b0 = 1 then -1 else gI τ 51 0 b := by
    intro b
    have ec : (nI (uB σ b0 - 1) = 0) ↔ uB σ b0 = 1 := by
      constructor
      · intro q
        by_cases q2 : uB σ b0 = 1
        · exact q2
        · exact absurd q (nI_ne0 (by omega) (by omega))
      · intro q; rw [q]; rfl
    simp only [relM, gI_sI, em, ec]
    by_cases e : b = b0
    · subst e
      by_cases e2 : uB σ b = 1
      · simp [e2]
      · simp [e2]
    · simp [e]
  have f53 : ∀ b, gI (relM τ b0) 53 0 b = if b = b0 then nI (uB σ b0 - 1) else gI τ 53 0 b := by
    intro b
    simp [relM, gI_sI, em]
  refine ⟨⟨b1, b2, b3, ?_, ?_, ev, b6, b7, b8, fun b hb => ?_, ?_⟩, hU⟩
  · have e := ctn_upd (p := fun b => 0 < uB σ b) (q := fun b => 0 < uB (relX σ b0) b) (ip := fun _ => inferInstance) (iq := fun _ => inferInstance) (k0 := b0) (fun k hk => by show 0 < uB σ k ↔ 0 < uB (relX σ b0) k; rw [hU, if_neg hk]) (n := gC σ 20) hb0
    have e6 : gI (relX σ b0) 6 0 1 = if uB σ b0 = 1 then gI σ 6 0 1 - 1 else gI σ 6 0 1 := by
      have ec : (nI (uB σ b0 - 1) = 0) ↔ uB σ b0 = 1 := by
        constructor
        · intro q
          by_cases q2 : uB σ b0 = 1
          · exact q2
          · exact absurd q (nI_ne0 (by omega) (by omega))
        · intro q; rw [q]; rfl
      simp only [relX, gI_sI, eu, ec, and_self, if_true]
    show gI (relX σ b0) 6 0 1 = nI (ctn (fun b => 0 < uB (relX σ b0) b) (fun _ => inferInstance) (gC σ 20))
    rw [e6, b4]
    rw [if_pos hu] at e
    by_cases q : uB σ b0 = 1
    · rw [if_pos q]
      have hn : ¬ 0 < uB (relX σ b0) b0 := by rw [hU, if_pos rfl]; omega
      rw [if_neg hn] at e
      rw [Nat.add_zero] at e
      rw [e, nI_pred]
    · rw [if_neg q]
      have hn : 0 < uB (relX σ b0) b0 := by rw [hU, if_pos rfl]; omega
      rw [if_pos hn] at e
      have e' : ctn (fun b => 0 < uB σ b) (fun _ => inferInstance) (gC σ 20) = ctn (fun b => 0 < uB (relX σ b0) b) (fun _ => inferInstance) (gC σ 20) := by omega
      rw [e']
  · intro b h1 h2
    have h1' : gC σ 20 ≤ b := h1
    rw [f51, if_neg (by omega)]
    exact b5 b h1 h2
  · obtain ⟨x1, x3, x4, x5⟩ := b9 b hb
    unfold bodO
    rw [hU, f3, f51, f53, fZ, fx b 1 (by omega), fx b 2 (by omega)]
    by_cases e : b = b0
    · subst e
      simp only [if_true, true_and]
      refine ⟨x3, fun q => ?_, fun q => ?_⟩
      · rw [if_pos (by omega)]
      · rw [if_neg (by omega)]
        exact ⟨z1, z2, z4⟩
    · simp only [if_neg e, e, false_and, if_false]
      exact ⟨x1, x3, x4, x5⟩
  · intro b b' h1 h2 h3 h4 h5
    rw [fx b 2 (by omega), fx b' 2 (by omega)] at h5
    rw [hU] at h3 h4
    refine b10 b b' h1 h2 ?_ ?_ h5
    · by_cases e : b = b0
      · subst e; exact hu
      · rw [if_neg e] at h3; exact h3
    · by_cases e : b' = b0
      · subst e; exact hu
      · rw [if_neg e] at h4; exact h4
