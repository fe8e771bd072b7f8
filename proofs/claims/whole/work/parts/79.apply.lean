/-! ===== apply ===== -/
theorem ap_in {N d s w e p q z0' : Nat} {g : Nat → Int32} (K : Nat → Int32 → Int32 → Int32 → Int32 → Int32 → rS → Option (Int32 × rS)) (i : Nat) (hd : d < 16) (hs : s < 24) (hw : w < 24) (hi : i < 400) (he : e ≤ 400) (x3 : Int32) (hx : (x3 = -1 ∧ p + e ≤ 400) ∨ (x3 = nI q ∧ q + e ≤ 400 ∧ s ≠ w)) : ∀ (k n j z : Nat) (τ : rS), k < n → j + k = e → gI τ 65 0 (400 * d + i) = nI e → (x3 = -1 → ∀ y, y < e → gI τ 66 0 (400 * d + p + y) = g (p + y)) → (x3 ≠ -1 → ∀ y, y < e → gI τ 44 0 (400 * s + q + y) = g (q + y)) → gI τ 45 0 w = nI z → z + k ≤ 400 → gN τ 65 0 = 6400 → gN τ 66 0 = 6400 → gN τ 44 0 = 9600 → gN τ 45 0 = 24 → L11_apply_114 N K n 0 (nI d) (nI s) (nI w) (nI (if x3 = -1 then p + j else p)) (nI i) x3 (nI j) τ = K 0 (nI d) (nI s) (nI w) (nI (if x3 = -1 then p + e else p)) (nI (i + 1)) (layR w g ((if x3 = -1 then p else q) + j) z k τ) := by
  intro k
  induction k with
  | zero =>
    intro n j z τ hn hj h65 hg1 hg2 h45 hz g65 g66 g44 g45
    obtain ⟨m, rfl⟩ : ∃ m', n = m' + 1 := ⟨n - 1, by omega⟩
    show B11_apply_114 N K (L11_apply_114 N K m) 0 (nI d) (nI s) (nI w) _ (nI i) x3 (nI j) τ = _
    unfold B11_apply_114
    have : j = e := by omega
    rw [ix44, idx_nI _ (by omega) (by omega), h65, if_pos (nI_le (by omega) (by omega)), nI_1, this]
    rfl
  | succ k ih =>
    intro n j z τ hn hj h65 hg1 hg2 h45 hz g65 g66 g44 g45
    obtain ⟨m, rfl⟩ : ∃ m', n = m' + 1 := ⟨n - 1, by omega⟩
    show B11_apply_114 N K (L11_apply_114 N K m) 0 (nI d) (nI s) (nI w) _ (nI i) x3 (nI j) τ = _
    unfold B11_apply_114 B11_apply_183
    rw [ix44, idx_nI _ (by omega) (by omega), h65, if_neg (nI_ge (by omega) (by omega)), nI_1]
    by_cases e1 : x3 = -1
    · have hp : p + e ≤ 400 := by
        rcases hx with ⟨-, h⟩ | ⟨h, h2, -⟩
        · exact h
        · rw [e1] at h; exact absurd h.symm (nI_nm1 (by omega))
      have G := hg1 e1 j (by omega)
      rw [show 400 * d + p + j = 400 * d + (p + j) by omega] at G
      rw [if_pos e1, if_pos e1, if_pos e1, if_pos e1, ix44, idx_nI _ (by omega) (by omega), G, lay_eq h45 hw g44 g45 (by omega), obind_some, nI_1]
      have I := ih m (j + 1) (z + 1) (lay τ w z (g (p + j))) (by omega) (by omega) h65 hg1 (fun h => absurd e1 h) (by unfold lay; rw [gI_sI, if_pos ⟨rfl, rfl, rfl⟩, h45, nI_1]) (by omega) g65 g66 g44 g45
      rw [if_pos e1, if_pos e1, if_pos e1] at I
      exact I
    · obtain ⟨e2, e3, e4⟩ : x3 = nI q ∧ q + e ≤ 400 ∧ s ≠ w := by
        rcases hx with ⟨h, -⟩ | h
        · exact absurd h e1
        · exact h
      have G := hg2 e1 j (by omega)
      have ex : (400 : Int32) * nI s + x3 + nI j = nI (400 * s + q + j) := by rw [e2, ix44, nI_add]
      rw [if_neg e1, if_neg e1, if_neg e1, if_neg e1, ex, idx_nI _ (by omega) (by omega), G, lay_eq h45 hw g44 g45 (by omega), obind_some, nI_1]
      have I := ih m (j + 1) (z + 1) (lay τ w z (g (q + j))) (by omega) (by omega) h65 (fun h => absurd h e1) (fun h y hy => by
        have := hg2 h y hy
        unfold lay
        rw [gI_sI, if_neg (by omega), gI_sI, if_neg (by omega)]
        exact this) (by unfold lay; rw [gI_sI, if_pos ⟨rfl, rfl, rfl⟩, h45, nI_1]) (by omega) g65 g66 g44 g45
      rw [if_neg e1, if_neg e1, if_neg e1] at I
      exact I
theorem ap_loop {N t d s w : Nat} {σ0 τ0 : rS} (hN : 500 ≤ N) (h0 : Inv t σ0 τ0) (hd : d < gC σ0 22) (hs1 : s < gC σ0 15) (hw : w < gC σ0 15) (hsw : s ≠ w) (hz0 : zS σ0 w = 0) (hsz : gI σ0 22 d 0 = nI (zS σ0 s)) : ∀ (k n n' i : Nat) (σ τ : rS), k < n → k < n' → i + k = nA σ0 d → Inv t σ τ → (∀ q a x, q ≠ 15 → (q ≠ 16 ∨ a ≠ w) → gI σ q a x = gI σ0 q a x) → σ.2 = σ0.2 → (∀ x, gI σ 15 s x = gI σ0 15 s x) → zS σ w = sumA σ0 d true i + sumA σ0 d false i → ∃ σ1 τ1, L1_make_5 N n d s w (nI (sumA σ0 d false i)) (nI i) σ = some ((), σ1) ∧ L11_apply_85 N n' 0 (nI d) (nI s) (nI w) (nI (sumA σ0 d false i)) (nI i) τ = some (nI w, τ1) ∧ Inv t σ1 τ1 := by
  have hz22 := h0.2.2.2.2.2.2.1
  have hz15 := h0.2.2.2.1.1
  obtain ⟨-, q1, q2, q3, q4, q5, q6, q7, q8, q9, q10, q11, q12, q13, q14⟩ := h0.2.2.2.2.2.2.2.2.2.2.2.2 d hd
  have smono : ∀ c i j, i ≤ j → sumA σ0 d c i ≤ sumA σ0 d c j := by
    intro c i j hij
    induction j with
    | zero => have : i = 0 := by omega
              subst this; exact Nat.le_refl _
    | succ j ih =>
      by_cases e : i = j + 1
      · subst e; exact Nat.le_refl _
      · have := ih (by omega)
        have e2 : sumA σ0 d c (j + 1) = sumA σ0 d c j + (if decide (gI σ0 23 d j = -1) = c then 0 else (gI σ0 24 d j).toNatClampNeg) := rfl
        omega
  intro k
  induction k with
  | zero =>
    intro n n' i σ τ hn hn' hi hI hf h2 h15 hz
    obtain ⟨m, rfl⟩ : ∃ m', n = m' + 1 := ⟨n - 1, by omega⟩
    obtain ⟨m', rfl⟩ : ∃ m'', n' = m'' + 1 := ⟨n' - 1, by omega⟩
    have hd' : d < gC σ 22 := by show d < σ.2.2.2.2 22; rw [h2]; exact hd
    obtain ⟨-, p1, p2, p3, -⟩ := hI.2.2.2.2.2.2.2.2.2.2.2.2 d hd'
    have g63 := hI.1.2.2.2.2.2.2.2.2.2.2.2.1
    have eA : nA σ d = nA σ0 d := by unfold nA; rw [hf 22 d 5 (by omega) (by omega)]
    refine ⟨σ, τ, ?_, ?_, hI⟩
    · show B1_make_5 N (L1_make_5 N m) d s w _ (nI i) σ = _
      unfold B1_make_5
      rw [p2, eA, if_pos (nI_le (by omega) (by omega))]
    · show B11_apply_85 N (L11_apply_85 N m') 0 (nI d) (nI s) (nI w) _ (nI i) τ = _
      unfold B11_apply_85
      rw [idx_nI _ (by omega) (by omega), p3, eA, if_pos (nI_le (by omega) (by omega))]
  | succ k ih =>
    intro n n' i σ τ hn hn' hi hI hf h2 h15 hz
    obtain ⟨m, rfl⟩ : ∃ m', n = m' + 1 := ⟨n - 1, by omega⟩
    obtain ⟨m', rfl⟩ : ∃ m'', n' = m'' + 1 := ⟨n' - 1, by omega⟩
    have hd' : d < gC σ 22 := by show d < σ.2.2.2.2 22; rw [h2]; exact hd
    have hw' : w < gC σ 15 := by show w < σ.2.2.2.2 15; rw [h2]; exact hw
    have hs' : s < gC σ 15 := by show s < σ.2.2.2.2 15; rw [h2]; exact hs1
    obtain ⟨-, p1, p2, p3, p4, p5, p6, p7, p8, p9, p10, p11, p12, p13, p14⟩ := hI.2.2.2.2.2.2.2.2.2.2.2.2 d hd'
    have g63 := hI.1.2.2.2.2.2.2.2.2.2.2.2.1
    have g64 := hI.1.2.2.2.2.2.2.2.2.2.2.2.2.1
    have g65 := hI.1.2.2.2.2.2.2.2.2.2.2.2.2.2.1
    have g66 := hI.1.2.2.2.2.2.2.2.2.2.2.2.2.2.2
    have g44 := hI.1.2.1.2.2.2.2.2.2.2.2.1
    have g45 := hI.1.2.1.2.2.2.2.2.2.2.2.2.1
    have eA : nA σ d = nA σ0 d := by unfold nA; rw [hf 22 d 5 (by omega) (by omega)]
    have eS : ∀ c n, sumA σ d c n = sumA σ0 d c n := by
      intro c n
      have e1 : (fun k => gI σ 23 d k) = fun k => gI σ0 23 d k := funext fun k => hf 23 d k (by omega) (by omega)
      have e2 : (fun k => gI σ 24 d k) = fun k => gI σ0 24 d k := funext fun k => hf 24 d k (by omega) (by omega)
      unfold sumA
      rw [e1, e2]
    obtain ⟨a1, a2, ⟨e, ae, ae1, ae2⟩, a4⟩ := p13 i (by omega)
    have m1 := smono true (i + 1) (nA σ0 d) (by omega)
    have m2 := smono false (i + 1) (nA σ0 d) (by omega)
    have ae0 : gI σ0 24 d i = nI e := by rw [← hf 24 d i (by omega) (by omega)]; exact ae
    have u1 : ∀ c, sumA σ0 d c (i + 1) = sumA σ0 d c i + (if decide (gI σ0 23 d i = -1) = c then 0 else e) := by
      intro c
      have : sumA σ0 d c (i + 1) = sumA σ0 d c i + (if decide (gI σ0 23 d i = -1) = c then 0 else (gI σ0 24 d i).toNatClampNeg) := rfl
      rw [this, ae0, nI_clamp (by omega)]
    obtain ⟨-, w1, w2, w3, w4, w5, w6, w7, w8, w9, w10⟩ := hI.2.2.2.1.2.2.2.2 w hw'
    obtain ⟨-, s1, s2, s3, s4, s5, s6, s7, s8, s9, s10⟩ := hI.2.2.2.1.2.2.2.2 s hs'
    have ezs : zS σ s = zS σ0 s := by unfold zS; rw [h15]
    have e22 : gI σ 22 d 0 = nI (zS σ s) := by rw [hf 22 d 0 (by omega) (by omega), hsz, ezs]
    have eP : gI σ0 23 d i = gI σ 23 d i := (hf 23 d i (by omega) (by omega)).symm
    have g16 : gN σ 16 w = 400 := w9
    by_cases e1 : gI σ 23 d i = -1
    · have ut := u1 true
      have uf := u1 false
      rw [eP, decide_eq_true e1, if_pos rfl] at ut
      rw [eP, decide_eq_true e1, if_neg (by decide)] at uf
      have hle : sumA σ0 d false i + e ≤ sumA σ d false (nA σ d) := by rw [eS, eA]; omega
      have A1 := all_eq (N := N) (k1 := 25) (v1 := d) (a := sumA σ0 d false i) (e := sumA σ0 d false i + e) (s := w) (f := fun y => gI σ 25 d y) (σ := σ) hN (by omega) (by omega) (by omega) (by omega) (fun y h3 h4 => bt_by8 (p14 y (by omega))) (by omega) (by omega) w2 w9 (by omega)
      rw [Nat.add_sub_cancel_left] at A1
      obtain ⟨I1, I2⟩ := appR_Inv (s := w) (f := fun y => gI σ 25 d y) (g := fun y => gI τ 66 0 (400 * d + y)) e (sumA σ0 d false i) σ τ hI hw' (by omega) (fun y h3 h4 => p14 y (by omega))
      have R := ap_in (N := N) (d := d) (s := s) (w := w) (e := e) (p := sumA σ0 d false i) (q := 0) (z0' := 0) (g := fun y => gI τ 66 0 (400 * d + y)) (L11_apply_85 N m') i (by omega) (by omega) (by omega) (by omega) ae2 (-1) (Or.inl ⟨rfl, by omega⟩) e N 0 (zS σ w) τ (by omega) (by omega) (by rw [a2]; exact ae) (fun _ y hy => by rw [show 400 * d + sumA σ0 d false i + y = 400 * d + (sumA σ0 d false i + y) by omega]) (fun h => absurd rfl h) w3 (by omega) g65 g66 g44 g45
      rw [if_pos rfl, if_pos rfl, if_pos rfl, Nat.add_zero] at R
      have R' : L11_apply_114 N (L11_apply_85 N m') N 0 (nI d) (nI s) (nI w) (nI (sumA σ0 d false i)) (nI i) (-1) 0 τ = _ := R
      obtain ⟨σ1, τ1, x1, x2, x3⟩ := ih m m' (i + 1) (appR w (fun y => gI σ 25 d y) (sumA σ0 d false i) e σ) (layR w (fun y => gI τ 66 0 (400 * d + y)) (sumA σ0 d false i) (zS σ w) e τ) (by omega) (by omega) (by omega) I1 (fun q a x h3 h4 => by rw [gI_appR w _ h3 h4]; exact hf q a x h3 h4) (by rw [appR_2]; exact h2) (fun x => by
        have : ∀ (k a : Nat) (ρ : rS) (f : Nat → Int32), gI (appR w f a k ρ) 15 s x = gI ρ 15 s x := by
          intro k
          induction k with
          | zero => intro a ρ f; rfl
          | succ k ih2 =>
            intro a ρ f
            show gI (appR w f (a + 1) k (app ρ w (f a))) 15 s x = _
            rw [ih2]
            unfold app
            rw [gI_sI, if_neg (fun z => hsw z.2.1), gI_sI, if_neg (fun z => by omega)]
        rw [this, h15]) (by rw [I2, hz, ut, uf]; omega)
      refine ⟨σ1, τ1, ?_, ?_, x3⟩
      · show B1_make_5 N (L1_make_5 N m) d s w _ (nI i) σ = _
        unfold B1_make_5 B1_make_86
        rw [p2, eA, if_neg (nI_ge (by omega) (by omega)), idx_nI _ (by omega) (by omega), if_pos e1, idx_nI _ (by omega) (by omega), ae, nI_add, A1, obind_some, gN_appR, idx_nI _ (by omega) (by omega), olet_eq, gI_appR w _ (by omega) (by omega), ae, nI_add, nI_1, ← uf]
        exact x1
      · show B11_apply_85 N (L11_apply_85 N m') 0 (nI d) (nI s) (nI w) _ (nI i) τ = _
        unfold B11_apply_85
        rw [idx_nI _ (by omega) (by omega), p3, eA, if_neg (nI_ge (by omega) (by omega)), ix44, idx_nI _ (by omega) (by omega), olet_eq, a1, e1, R', ← uf]
        exact x2
    · obtain ⟨q, aq1, aq2⟩ := a4.resolve_left e1
      rw [ae, nI_clamp (by omega), e22, nI_toInt (by omega)] at aq2
      have ut := u1 true
      have uf := u1 false
      rw [eP, decide_eq_false e1, if_neg (by decide)] at ut
      rw [eP, decide_eq_false e1, if_pos rfl] at uf
      have aq3 : q + e ≤ zS σ s := by omega
      have A1 := all_eq (N := N) (k1 := 16) (v1 := s) (a := q) (e := q + e) (s := w) (f := fun y => gI σ 16 s y) (σ := σ) hN (by omega) (Or.inr hsw) (by omega) (by omega) (fun y h3 h4 => bt_by8 (s10 y (by omega))) (by omega) (by omega) w2 w9 (by omega)
      rw [Nat.add_sub_cancel_left] at A1
      obtain ⟨I1, I2⟩ := appR_Inv (s := w) (f := fun y => gI σ 16 s y) (g := fun y => gI τ 44 0 (400 * s + y)) e q σ τ hI hw' (by omega) (fun y h3 h4 => s10 y (by omega))
      have R := ap_in (N := N) (d := d) (s := s) (w := w) (e := e) (p := sumA σ0 d false i) (q := q) (z0' := 0) (g := fun y => gI τ 44 0 (400 * s + y)) (L11_apply_85 N m') i (by omega) (by omega) (by omega) (by omega) ae2 (nI q) (Or.inr ⟨rfl, by omega, hsw⟩) e N 0 (zS σ w) τ (by omega) (by omega) (by rw [a2]; exact ae) (fun h => absurd h (nI_nm1 (by omega))) (fun _ y hy => by rw [show 400 * s + q + y = 400 * s + (q + y) by omega]) w3 (by omega) g65 g66 g44 g45
      have nq : ¬ nI q = -1 := nI_nm1 (by omega)
      rw [if_neg nq, if_neg nq, if_neg nq, Nat.add_zero] at R
      have R' : L11_apply_114 N (L11_apply_85 N m') N 0 (nI d) (nI s) (nI w) (nI (sumA σ0 d false i)) (nI i) (nI q) 0 τ = _ := R
      obtain ⟨σ1, τ1, x1, x2, x3⟩ := ih m m' (i + 1) (appR w (fun y => gI σ 16 s y) q e σ) (layR w (fun y => gI τ 44 0 (400 * s + y)) q (zS σ w) e τ) (by omega) (by omega) (by omega) I1 (fun q a x h3 h4 => by rw [gI_appR w _ h3 h4]; exact hf q a x h3 h4) (by rw [appR_2]; exact h2) (fun x => by
        have : ∀ (k a : Nat) (ρ : rS) (f : Nat → Int32), gI (appR w f a k ρ) 15 s x = gI ρ 15 s x := by
          intro k
          induction k with
          | zero => intro a ρ f; rfl
          | succ k ih2 =>
            intro a ρ f
            show gI (appR w f (a + 1) k (app ρ w (f a))) 15 s x = _
            rw [ih2]
            unfold app
            rw [gI_sI, if_neg (fun z => hsw z.2.1), gI_sI, if_neg (fun z => by omega)]
        rw [this, h15]) (by rw [I2, hz, ut, uf]; omega)
      have uf : sumA σ0 d false (i + 1) = sumA σ0 d false i := uf
      refine ⟨σ1, τ1, ?_, ?_, x3⟩
      · show B1_make_5 N (L1_make_5 N m) d s w _ (nI i) σ = _
        unfold B1_make_5 B1_make_86
        rw [p2, eA, if_neg (nI_ge (by omega) (by omega)), idx_nI _ (by omega) (by omega), if_neg e1, idx_nI _ (by omega) (by omega), idx_nI _ (by omega) (by omega), idx_nI _ (by omega) (by omega), ae, aq1, nI_add, A1, obind_some, nI_1, ← uf]
        exact x1
      · show B11_apply_85 N (L11_apply_85 N m') 0 (nI d) (nI s) (nI w) _ (nI i) τ = _
        unfold B11_apply_85
        rw [idx_nI _ (by omega) (by omega), p3, eA, if_neg (nI_ge (by omega) (by omega)), ix44, idx_nI _ (by omega) (by omega), olet_eq, a1, aq1, R', ← uf]
        exact x2
theorem eq_apply {N : Nat} (hN : 500 ≤ N) : EQ_apply N Inv := by
  intro v w t σ τ ht h
  show Bth t _ _
  unfold f10_apply f11_apply
  rcases delCase h v with ⟨e1, e2⟩ | ⟨d, hd, rfl, e1, e2⟩
  · rw [e1, e2]
    rcases strCase h w with ⟨e3, e4⟩ | ⟨k, hk, rfl, e3, e4⟩
    · simp only [obind_some, e3]; exact bth_ret h _
    · simp only [obind_some, e3]; exact bth_ret h _
  rw [e1, e2]
  rcases strCase h w with ⟨e3, e4⟩ | ⟨s, hs1, rfl, e3, e4⟩
  · simp only [obind_some, e3, e4]; exact bth_ret h _
  have h3 := h.2.2.2.1
  have hc := h.2.2.2.1.1
  have hz22 := h.2.2.2.2.2.2.1
  have g45 := h.1.2.1.2.2.2.2.2.2.2.2.2.1
  have g61 := h.1.2.2.2.2.2.2.2.2.2.1
  have g62 := h.1.2.2.2.2.2.2.2.2.2.2.1
  obtain ⟨-, q1, q2, q3, q4, q5, -⟩ := h.2.2.2.2.2.2.2.2.2.2.2.2 d hd
  obtain ⟨-, s1, s2, s3, s4, s5, s6, s7, s8, s9, s10⟩ := h.2.2.2.1.2.2.2.2 s hs1
  obtain ⟨r, a1, a2⟩ := sum_both hN h hs1 (Nat.le_refl _) (Nat.zero_le (zS σ s))
  have a1' : f9_sum N s 0 (nI (zS σ s)) σ = some (r, σ) := a1
  have a2' : f11_sumOf N 0 (nI s) 0 (nI (zS σ s)) τ = some (r, τ) := a2
  rw [obind_some, obind_some, e3, obind_some, if_pos rfl, e4, obind_some, if_pos rfl, onul_some, onul_some]
  unfold f1_fits
  rw [idx_nI _ (by omega) (by omega), idx_nI _ (by omega) (by omega), s2, s3, q4]
  by_cases hf : nI (zS σ s) = gI σ 22 d 0
  · rw [if_pos hf, if_pos hf, a1', obind_some, idx_nI _ (by omega) (by omega), s3, a2', obind_some, idx_nI _ (by omega) (by omega), q5]
    by_cases hr : r = gI σ 22 d 1
    · rw [if_pos hr, if_pos hr, obind_some, if_pos rfl, h3.2.2.1, h3.2.2.2.1]
      by_cases hn : gC σ 15 < 24
      · have c3 : nI (gC σ 15) < 24 := nI_lt (b := 24) hn (by omega)
        have c4 : ¬ nI (gC σ 15) = 24 := fun q => by
          have := (nI_eq (a := gC σ 15) (b := 24) (by omega) (by omega)).mp q
          omega
        have hI := str_Inv h hn
        have hw1 : gC σ 15 < gC (strX σ) 15 := Nat.lt_succ_self _
        have b2 : ∀ r f, gI (strX σ) 15 r f = if r = gC σ 15 then 0 else gI σ 15 r f := by
          intro r f
          simp [strX, mkStream, olet_eq, gI_sI, gI_sR, gI_sC, gI_sN, gI_sRr, gI_sIr]
        have ez : zS (strX σ) (gC σ 15) = 0 := by
          unfold zS
          rw [b2, if_pos rfl]; rfl
        have ezs : zS (strX σ) s = zS σ s := by
          unfold zS
          rw [b2, if_neg (by omega)]
        have s0 := (hI.2.2.2.1.2.2.2.2 (gC σ 15) hw1).1
        have G2 : gN (strX σ) 2 0 = 24 := h.1.1.2.1
        rw [if_pos c3, if_neg c4, newStr10_eq h hn, newStr11_eq h hn, obind_some, obind_some, G2, idx_nI _ (by omega) (by omega), olet_eq, s0, onul_some]
        have e22 : gI (strX σ) 22 d 0 = nI (zS (strX σ) s) := by rw [ezs, hf]; rfl
        have hs2 : s < gC (strX σ) 15 := Nat.lt_succ_of_lt hs1
        obtain ⟨σ1, τ1, L1, L2, I⟩ := ap_loop (N := N) (t := t) (d := d) (s := s) (w := gC σ 15) hN hI hd hs2 hw1 (by omega) ez e22 (nA (strX σ) d) N N 0 (strX σ) (strM τ (gC σ 15)) (by show nA σ d < N; omega) (by show nA σ d < N; omega) (by omega) hI (fun _ _ _ _ _ => rfl) rfl (fun _ => rfl) ez
        have L1' : f1_make N d s (gC σ 15) (strX σ) = _ := L1
        have L2' : L11_apply_85 N N 0 (nI d) (nI s) (nI (gC σ 15)) 0 0 (strM τ (gC σ 15)) = _ := L2
        rw [L1', L2', obind_some]
        exact bth_ret I _
      · have e60 : gC σ 15 = 24 := by omega
        have c3 : ¬ nI (gC σ 15) < 24 := by rw [e60]; decide
        have c4 : nI (gC σ 15) = 24 := by rw [e60]; rfl
        rw [if_neg c3, if_pos c4]
        exact bth_ret h _
    · rw [if_neg hr, if_neg hr, obind_some, if_neg (by decide)]
      exact bth_fnd h 9 rfl (by omega)
  · rw [if_neg hf, if_neg hf, obind_some, if_neg (by decide)]
    exact bth_fnd h 9 rfl (by omega)
