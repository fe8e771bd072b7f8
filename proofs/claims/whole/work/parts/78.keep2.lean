/-! ===== keep, put together ===== -/
theorem bth_ret3 {α : Type} {t : Nat} {σ τ : rS} {r r' : α} (h : Inv (t + 1) σ τ) (e : r = r') : Bth t (some (r, σ)) (some (r', τ)) := by subst e; exact ⟨r, σ, τ, rfl, rfl, h⟩
theorem num_of {t h e b : Nat} {σ τ : rS} (hI : Inv t σ τ) (hh : h < gC σ 17) (he : e < nE σ h) (hr : gR σ 19 h e = some b) (hb : b < gC σ 20) : gI σ 20 b 2 = gI τ 51 0 b := by
  have hl := live_of hI hh he hr hb
  obtain ⟨b1, b2, b3, b4, b5, ev, b6, b7, b8, b9, b10⟩ := hI.2.2.2.2.1
  exact ((b9 b hb).2.2.2.2 hl).2.1.symm
theorem insX_id (σ : rS) (h n : Nat) : insX σ h n n = σ := by
  unfold insX
  rw [sLr_congr (g := gL σ 18 h) (fun x => by rw [if_neg (by omega)]), sLr_id, sRr_congr (g := gR σ 19 h) (fun x => by rw [if_neg (by omega)]), sRr_id]
theorem insM_id (τ : rS) (a n : Nat) : insM τ a n n = τ := by
  unfold insM
  rw [sLr_congr (g := gL τ 58 0) (fun x => by rw [if_neg (by omega)]), sLr_id, sIr_congr (g := gI τ 59 0) (fun x => by rw [if_neg (by omega)]), sIr_id]
theorem keep_both {N t h b : Nat} {σ τ : rS} {x : Int64} {v7 v5 : Int32} (hN : 500 ≤ N) (hD : InvD (t + 1) (sI σ 20 b 3 (gI σ 20 b 3 + 1)) (sI τ 53 0 b (gI τ 53 0 b + 1)) b) (hh : h < gC σ 17) (hv : (v7 = -1 ∧ v5 = -1 ∧ nE σ h < 12) ∨ (∃ e, e < nE σ h ∧ v7 = nI e ∧ v5 = nI (12 * h + e))) : Bth t (B10_keep_102 N 0 x h v7 (some b) σ) (B11_keep_197 N 0 (nI h) x v5 (nI b) τ) := by
  obtain ⟨r1, r2, r2', r3, r4, r5⟩ := hD.2.2.2.2.2.1
  obtain ⟨p0, p1, p2, p3, p4, p5, p6⟩ := r5 h hh
  have hb := hD.2.2.2.2.2.2.2.1
  have hb' : b < gC σ 20 := hb
  have hb30 := hD.2.2.2.2.1.1
  have hb30' : gC σ 20 ≤ 30 := hb30
  have r1' : gC σ 17 ≤ 6 := r1
  have g53 : gN τ 53 0 = 30 := hD.1.2.2.2.2.1
  have g51 : gN τ 51 0 = 30 := hD.1.2.2.1
  have g57 : gN τ 57 0 = 6 := hD.1.2.2.2.2.2.2.1
  have g58 : gN τ 58 0 = 72 := hD.1.2.2.2.2.2.2.2.1
  have g59 : gN τ 59 0 = 72 := hD.1.2.2.2.2.2.2.2.2.1
  unfold B10_keep_102 B11_keep_197
  rw [onul_some, olet_eq, idx_nI _ (by omega) (by omega), idx_nI _ (by omega) (by omega), olet_eq]
  rcases hv with ⟨rfl, rfl, hn⟩ | ⟨e, he, rfl, rfl⟩
  · rw [if_pos rfl, if_pos rfl]
    have G57 : gN (sI τ 53 0 b (gI τ 53 0 b + 1)) 57 0 = 6 := g57
    rw [G57, idx_nI _ (by omega) (by omega), olet_eq, p3, ix12]
    unfold f3_insert
    have c1 : nI (nE (sI σ 20 b 3 (gI σ 20 b 3 + 1)) h) < 12 := nI_lt (a := nE (sI σ 20 b 3 (gI σ 20 b 3 + 1)) h) (b := 12) hn (by omega)
    rw [p2, if_pos c1, olet_eq]
    have hnn : nE (sI σ 20 b 3 (gI σ 20 b 3 + 1)) h < 12 := hn
    obtain ⟨p, hp, L1, L2⟩ := ins_loop (N := N) (h := h) (n := nE (sI σ 20 b 3 (gI σ 20 b 3 + 1)) h) (b := b) (σ := sI σ 20 b 3 (gI σ 20 b 3 + 1)) (τ := sI τ 53 0 b (gI τ 53 0 b + 1)) x (by omega) hnn (by omega) (fun q hq => (p6 q hq).1) p2 p3 p4 p5 g57 g58 g59 g51 (nE (sI σ 20 b 3 (gI σ 20 b 3 + 1)) h) N N (Nat.le_refl _) (by omega) (by omega)
    rw [insX_id] at L1
    rw [insM_id] at L2
    rw [L1, L2, obind_some]
    have I := ins_Inv (x := x) hD hh rfl hnn hp
    refine bth_ret3 I ?_
    refine Eq.trans (num_of (h := h) (e := p) (b := b) I hh ?_ ?_ hb) rfl
    · have a0 : gI (finX (sI σ 20 b 3 (gI σ 20 b 3 + 1)) h (nE (sI σ 20 b 3 (gI σ 20 b 3 + 1)) h) p x b) 17 h 2 = nI (nE (sI σ 20 b 3 (gI σ 20 b 3 + 1)) h + 1) := by
        unfold finX
        rw [gI_sI, if_pos ⟨rfl, rfl, rfl⟩, nI_1]
      unfold nE at a0 hp hnn ⊢
      rw [a0, nI_clamp (by omega)]
      omega
    · unfold finX
      rw [gR_sI, gR_sR, if_pos ⟨rfl, rfl, rfl⟩]
  · have p1' : nE σ h ≤ 12 := p1
    obtain ⟨c, hc1, hc2, hc3⟩ := (p6 e he).2
    have hc1' : c < gC σ 20 := hc1
    have G59 : gN (sI τ 53 0 b (gI τ 53 0 b + 1)) 59 0 = 72 := g59
    have G53 : gN (sI τ 53 0 b (gI τ 53 0 b + 1)) 53 0 = 30 := g53
    have G51 : gN (sI τ 53 0 b (gI τ 53 0 b + 1)) 51 0 = 30 := g51
    have G59' : gN (relM (sI τ 53 0 b (gI τ 53 0 b + 1)) c) 59 0 = 72 := g59
    have G51' : gN (sI (relM (sI τ 53 0 b (gI τ 53 0 b + 1)) c) 59 0 (12 * h + e) (nI b)) 51 0 = 30 := g51
    have G19 : gN (sI σ 20 b 3 (gI σ 20 b 3 + 1)) 19 h = 12 := p5
    have G19' : gN (relX (sI σ 20 b 3 (gI σ 20 b 3 + 1)) c) 19 h = 12 := p5
    rw [if_neg (nI_nm1 (by omega)), if_neg (nI_nm1 (by omega)), G19, idx_nI _ (by omega) (by omega), olet_eq, hc2, onul_some, release_eq, obind_some, G19', idx_nI _ (by omega) (by omega), olet_eq]
    rw [G59, idx_nI _ (by omega) (by omega), hc3, leave_eq G53 G51 (by omega), obind_some, G59', idx_nI _ (by omega) (by omega), olet_eq, G51', idx_nI _ (by omega) (by omega)]
    have I := repl_Inv hD hh he hc2 hc1
    refine bth_ret3 I ?_
    refine num_of (h := h) (e := e) I hh he ?_ hb
    rw [gR_sR, if_pos ⟨rfl, rfl, rfl⟩]
theorem cp_loop {N s b z : Nat} {τ : rS} {v1 v5 : Int32} {v2 : Int64} (hs : s < 24) (hb : b < 30) (hz : z ≤ 400) (h45 : gI τ 45 0 s = nI z) (g45 : gN τ 45 0 = 24) (g44 : gN τ 44 0 = 9600) (g54 : gN τ 54 0 = 12000) : ∀ (k n i : Nat), k < n → i + k = z → L11_keep_151 N n 0 v1 v2 (nI s) v5 (nI b) (nI i) (sIr τ 54 0 (fun y => if 400 * b ≤ y ∧ y < 400 * b + i then gI τ 44 0 (400 * s + (y - 400 * b)) else gI τ 54 0 y)) = B11_keep_197 N 0 v1 v2 v5 (nI b) (sIr τ 54 0 (fun y => if 400 * b ≤ y ∧ y < 400 * b + z then gI τ 44 0 (400 * s + (y - 400 * b)) else gI τ 54 0 y)) := by
  intro k
  have e45 : ∀ f, gI (sIr τ 54 0 f) 45 0 s = nI z := fun f => h45
  induction k with
  | zero =>
    intro n i hn hi
    obtain ⟨m, rfl⟩ : ∃ m', n = m' + 1 := ⟨n - 1, by omega⟩
    show B11_keep_151 N (L11_keep_151 N m) 0 v1 v2 (nI s) v5 (nI b) (nI i) _ = _
    unfold B11_keep_151
    have : i = z := by omega
    rw [gN_sIr, idx_nI _ (by omega) (by omega), e45, if_pos (nI_le (by omega) (by omega)), this]
  | succ k ih =>
    intro n i hn hi
    obtain ⟨m, rfl⟩ : ∃ m', n = m' + 1 := ⟨n - 1, by omega⟩
    show B11_keep_151 N (L11_keep_151 N m) 0 v1 v2 (nI s) v5 (nI b) (nI i) _ = _
    unfold B11_keep_151
    rw [gN_sIr, idx_nI _ (by omega) (by omega), e45, if_neg (nI_ge (by omega) (by omega))]
    simp (disch := omega) only [gN_sIr, ix44, ↓idx_nI, olet_eq, nI_1]
    rw [sI_sIr, ← ih m (i + 1) (by omega) (by omega)]
    congr 1
    apply sIr_congr
    intro y
    have e : gI (sIr τ 54 0 (fun y => if 400 * b ≤ y ∧ y < 400 * b + i then gI τ 44 0 (400 * s + (y - 400 * b)) else gI τ 54 0 y)) 44 0 (400 * s + i) = gI τ 44 0 (400 * s + i) := rfl
    rw [e]
    by_cases e1 : y = 400 * b + i
    · rw [if_pos e1, if_pos (by omega), e1]
      congr 1; omega
    · rw [if_neg e1]
      by_cases e2 : 400 * b ≤ y ∧ y < 400 * b + i
      · rw [if_pos e2, if_pos (by omega)]
      · rw [if_neg e2, if_neg (by omega)]
theorem keep75 {N t h s : Nat} {σ τ : rS} {x : Int64} {v7 v5 : Int32} (hN : 500 ≤ N) (ht : t < 100) (hI : Inv t σ τ) (hh : h < gC σ 17) (hs1 : s < gC σ 15) (hv : (v7 = -1 ∧ v5 = -1 ∧ nE σ h < 12) ∨ (∃ e, e < nE σ h ∧ v7 = nI e ∧ v5 = nI (12 * h + e))) {v6 : Int32} (h6 : f11_likeBody N 0 (nI s) τ = some (v6, τ)) : Bth t (B10_keep_75 N 0 x h s v7 σ) (B11_keep_75 N 0 (nI h) x (nI s) v5 v6 τ) := by
  have hc := hI.2.2.2.1.1
  have g45 := hI.1.2.1.2.2.2.2.2.2.2.2.2.1
  have g44 := hI.1.2.1.2.2.2.2.2.2.2.2.1
  have g54 := hI.1.2.2.2.2.2.1
  have g51 := hI.1.2.2.1
  have g52 := hI.1.2.2.2.1
  have g53 := hI.1.2.2.2.2.1
  obtain ⟨-, q1, q2, q3, q4, q5, q6, q7, q8, q9, q10⟩ := hI.2.2.2.1.2.2.2.2 s hs1
  have hb30 := hI.2.2.2.2.1.1
  unfold B10_keep_75
  rcases likeCase hN ht hI hs1 with ⟨b, hb, hu, a1, a2⟩ | ⟨a1, a2⟩
  · rw [a2] at h6
    have e6 : v6 = nI b := by cases h6; rfl
    subst e6
    unfold B11_keep_75 B11_keep_93
    rw [a1, obind_some, onul_some, if_neg (nI_nm1 (by omega)), if_neg (nI_nm1 (by omega))]
    exact keep_both hN (like_InvD hI hb hu) hh hv
  · rw [a2] at h6
    have e6 : v6 = -1 := by cases h6; rfl
    subst e6
    unfold B11_keep_75 B11_keep_93
    rw [a1, obind_some, onul_none, if_pos rfl]
    unfold f8_newBody f11_freeBody
    rcases free_loop (N := N) ht hI hs1 30 31 N 0 (by omega) (by omega) (by omega) (fun b hb => absurd hb (Nat.not_lt_zero b)) with ⟨b, ρ, hb, c1, c2, c3, c4⟩ | ⟨c1, c2⟩
    · have c1' : L11_freeBody_2 N N 0 0 τ = _ := c1
      have c2' : L8_newBody_2 N 31 0 s 0 σ = _ := c2
      have n30 : ¬ nI b = 30 := fun q => by
        have := (nI_eq (a := b) (b := 30) (by omega) (by omega)).mp q
        omega
      rw [c1', c2', obind_some, obind_some, if_neg n30, if_pos rfl, c1', obind_some]
      rw [idx_nI _ (by omega) (by omega)]
      have E1 : gI (sI (sI τ 51 0 b (gI τ 29 0 25)) 29 0 25 (gI (sI τ 51 0 b (gI τ 29 0 25)) 29 0 25 + 1)) 45 0 s = nI (zS σ s) := q3
      simp (disch := omega) only [olet_eq, gN_sI, ↓idx_nI, E1]
      have L := cp_loop (N := N) (s := s) (b := b) (z := zS σ s) (τ := sI (sI (sI (sI τ 51 0 b (gI τ 29 0 25)) 29 0 25 (gI τ 29 0 25 + 1)) 52 0 b (nI (zS σ s))) 53 0 b 0) (v1 := nI h) (v5 := v5) (v2 := x) (by omega) hb q1 q3 g45 g44 g54 (zS σ s) N 0 (by omega) (by omega)
      rw [sIr_congr (g := gI (sI (sI (sI (sI τ 51 0 b (gI τ 29 0 25)) 29 0 25 (gI τ 29 0 25 + 1)) 52 0 b (nI (zS σ s))) 53 0 b 0) 54 0) (fun y => by rw [if_neg (by omega)]), sIr_id] at L
      have L' : L11_keep_151 N N 0 (nI h) x (nI s) v5 (nI b) 0 (sI (sI (sI (sI τ 51 0 b (gI τ 29 0 25)) 29 0 25 (gI τ 29 0 25 + 1)) 52 0 b (nI (zS σ s))) 53 0 b 0) = B11_keep_197 N 0 (nI h) x v5 (nI b) (nbM τ s b (zS σ s)) := L
      have E2 : gI (sI τ 51 0 b (gI τ 29 0 25)) 29 0 25 = gI τ 29 0 25 := rfl
      rw [E2, L']
      have hD := new_InvD ht hI hs1 c3 c4
      have hh2 : h < gC (nbX ρ s b) 17 := by
        rcases c3 with ⟨rfl, -⟩ | ⟨rfl, -⟩
        · exact hh
        · exact hh
      have hv2 : (v7 = -1 ∧ v5 = -1 ∧ nE (nbX ρ s b) h < 12) ∨ (∃ e, e < nE (nbX ρ s b) h ∧ v7 = nI e ∧ v5 = nI (12 * h + e)) := by
        rcases c3 with ⟨rfl, -⟩ | ⟨rfl, -⟩
        · exact hv
        · exact hv
      exact keep_both hN hD hh2 hv2
    · have c1' : L11_freeBody_2 N N 0 0 τ = _ := c1
      have c2' : L8_newBody_2 N 31 0 s 0 σ = _ := c2
      rw [c1', c2', obind_some, obind_some, if_pos rfl]
      unfold B10_keep_102
      rw [onul_none]
      exact bth_ret hI _
theorem eq_keep {N : Nat} (hN : 500 ≤ N) : EQ_keep N Inv := by
  intro v x w t σ τ ht h
  show Bth t _ _
  unfold f10_keep f11_keep
  rcases houCase h v with ⟨e1, e2⟩ | ⟨j, hj, rfl, e1, e2⟩
  · rw [e1, e2]
    rcases strCase h w with ⟨e3, e4⟩ | ⟨k, hk, rfl, e3, e4⟩
    · simp only [obind_some, e3]; exact bth_ret h _
    · simp only [obind_some, e3]; exact bth_ret h _
  rw [e1, e2]
  rcases strCase h w with ⟨e3, e4⟩ | ⟨k, hk, rfl, e3, e4⟩
  · simp only [obind_some, e3, e4]; exact bth_ret h _
  have hc := h.2.2.2.1.1
  have hz := h.2.2.2.2.2.1.1
  have g47 := h.1.2.1.2.2.2.2.2.2.2.2.2.2.2
  have g57 := h.1.2.2.2.2.2.2.1
  obtain ⟨-, q1, q2, q3, q4, q5, q6, q7, q8, q9, q10⟩ := h.2.2.2.1.2.2.2.2 k hk
  obtain ⟨-, p1, p2, p3, p4, p5, p6⟩ := h.2.2.2.2.2.1.2.2.2.2.2 j hj
  rw [obind_some, obind_some, e3, obind_some, if_pos rfl, e4, obind_some, if_pos rfl, onul_some, onul_some]
  by_cases hx : 0 ≤ x
  · rw [if_pos hx, if_pos hx, idx_nI _ (by omega) (by omega), q8]
    by_cases hl : gI σ 15 k 3 = 0
    · rw [if_pos hl, if_pos hl]; exact bth_ret h _
    · rw [if_neg hl, if_neg hl]
      obtain ⟨v6, h6⟩ : ∃ v6, f11_likeBody N 0 (nI k) τ = some (v6, τ) := by
        rcases likeCase hN ht h hk with ⟨b, -, -, -, a2⟩ | ⟨-, a2⟩
        · exact ⟨_, a2⟩
        · exact ⟨_, a2⟩
      rcases entCase hN h hj x with ⟨a1, a2, a3⟩ | ⟨e, a2, a3, a4, a5⟩
      · rw [a2, a3, obind_some, obind_some, h6, obind_some, if_pos rfl, if_pos rfl, idx_nI _ (by omega) (by omega), p3, p2]
        by_cases hn : nE σ j < 12
        · have c1 : nI (nE σ j) < 12 := nI_lt (b := 12) hn (by omega)
          have c2 : ¬ nI (nE σ j) = 12 := fun q => by
            have := (nI_eq (a := nE σ j) (b := 12) (by omega) (by omega)).mp q
            omega
          rw [if_pos c1, if_neg c2]
          exact keep75 hN ht h hj hk (Or.inl ⟨rfl, rfl, hn⟩) h6
        · have e12 : nE σ j = 12 := by omega
          rw [e12, if_neg (by decide), if_pos (by decide)]
          exact bth_ret h _
      · rw [a4, a5, obind_some, obind_some, h6, obind_some, if_neg (nI_nm1 (by omega)), if_neg (nI_nm1 (by omega))]
        exact keep75 hN ht h hj hk (Or.inr ⟨e, a2, rfl, rfl⟩) h6
  · rw [if_neg hx, if_neg hx]; exact bth_ret h _
