/-! ===== pieces, read ===== -/
theorem zS_K {σ σ' : rS} (h : KC0 σ σ') (s : Nat) : zS σ' s = zS σ s := by
  unfold zS
  rw [h.2.2.2]
theorem pcs_loop {N t s z : Nat} (hN : 500 ≤ N) : ∀ (F n n' p k : Nat) (σ τ : rS), z - p ≤ F → F < n → F < n' → 7 * k ≤ p → p ≤ z → zS σ s = z → z ≤ 400 → Inv t σ τ → s < gC σ 15 → Bth t (L10_pieces_18 N n 0 s (nI k) (nI p) σ) (L11_pieces_15 N n' 0 (nI s) (nI p) (nI k) τ) := by
  intro F
  induction F with
  | zero =>
    intro n n' p k σ τ hF hn hn' hk hp hz hz4 h hs1
    obtain ⟨m, rfl⟩ : ∃ m', n = m' + 1 := ⟨n - 1, by omega⟩
    obtain ⟨m', rfl⟩ : ∃ m', n' = m' + 1 := ⟨n' - 1, by omega⟩
    show Bth t (B10_pieces_18 N (L10_pieces_18 N m) 0 s (nI k) (nI p) σ) (B11_pieces_15 N (L11_pieces_15 N m') 0 (nI s) (nI p) (nI k) τ)
    unfold B10_pieces_18 B11_pieces_15
    rw [if_neg (show ¬ (400 : Int32) ≤ nI k from nI_ge (b := 400) (by omega) (by omega))]
    rcases exam_both (N := N) hN h hs1 (p := p) (by omega) with ⟨σ', τ', kd, l, b, G, a1, a2, a3, a4, a5, a6, a7, a8, a9⟩ | ⟨σ', τ', f, a1, a2, a3, a4, a5, a6⟩
    · omega
    · rw [a1, a2, obind_some, obind_some, if_neg (nI_ne0 a3 (by omega)), if_neg (nI_ne0 a3 (by omega))]
      exact bth_ret (a6.1 _ _ (a5.1 _ _ h)) _
  | succ F ih =>
    intro n n' p k σ τ hF hn hn' hk hp hz hz4 h hs1
    obtain ⟨m, rfl⟩ : ∃ m', n = m' + 1 := ⟨n - 1, by omega⟩
    obtain ⟨m', rfl⟩ : ∃ m', n' = m' + 1 := ⟨n' - 1, by omega⟩
    show Bth t (B10_pieces_18 N (L10_pieces_18 N m) 0 s (nI k) (nI p) σ) (B11_pieces_15 N (L11_pieces_15 N m') 0 (nI s) (nI p) (nI k) τ)
    unfold B10_pieces_18 B11_pieces_15
    rw [if_neg (show ¬ (400 : Int32) ≤ nI k from nI_ge (b := 400) (by omega) (by omega))]
    rcases exam_both (N := N) hN h hs1 (p := p) (by omega) with ⟨σ', τ', kd, l, b, G, a1, a2, a3, a4, a5, a6, a7, a8, a9, a10, a11, a12, a13, a14⟩ | ⟨σ', τ', f, a1, a2, a3, a4, a5, a6⟩
    · rw [a1, a2, obind_some, obind_some, if_pos rfl, if_pos rfl, olet_eq, olet_eq, a11, a13, nI_1]
      exact ih m m' b (k + 1) σ' τ' (by omega) (by omega) (by omega) (by omega) (by omega) (by rw [zS_K a3, hz]) hz4 (a4.1 _ _ (a3.1 _ _ h)) (by rw [a3.2.2.1]; exact hs1)
    · rw [a1, a2, obind_some, obind_some, if_neg (nI_ne0 a3 (by omega)), if_neg (nI_ne0 a3 (by omega))]
      exact bth_ret (a6.1 _ _ (a5.1 _ _ h)) _
theorem eq_pieces {N : Nat} (hN : 500 ≤ N) : EQ_pieces N Inv := by
  intro v t σ τ ht h
  show Bth t _ _
  unfold f10_pieces f11_pieces
  rcases strCase h v with ⟨e1, e2⟩ | ⟨s, hs1, rfl, e1, e2⟩
  · rw [e1, e2]; exact bth_ret h _
  have hz4 := (strZ h hs1).1
  rw [e1, e2, obind_some, obind_some, onul_some, if_pos rfl]
  exact pcs_loop hN (zS σ s) N N 0 0 σ τ (by omega) (by omega) (by omega) (by omega) (by omega) rfl hz4 h hs1
theorem rd_loop {N s r l b : Nat} {F : Nat → Int64} {τ : rS} (hr : r < 60) (hs : s < 24) (hl : l ≤ 24) (h10 : gI τ 29 0 10 = nI l) (h19 : gI τ 29 0 19 + 2 = nI b) (hF : ∀ x, x < l → gL τ 39 0 x = F x) (g37 : gN τ 37 0 = 1440) (g39 : gN τ 39 0 = 24) (g46 : gN τ 46 0 = 24) : ∀ (f n i : Nat), f < n → i + f = l → L11_read_76 N n 0 (nI s) (nI r) (nI i) (sLr τ 37 0 (fun x => if 24 * r ≤ x ∧ x < 24 * r + i then F (x - 24 * r) else gL τ 37 0 x)) = some (nI r, sI (sLr τ 37 0 (fun x => if 24 * r ≤ x ∧ x < 24 * r + l then F (x - 24 * r) else gL τ 37 0 x)) 46 0 s (nI b)) := by
  intro f
  have e1 : ∀ G, gI (sLr τ 37 0 G) 29 0 10 = nI l := fun _ => h10
  have e2 : ∀ G, gI (sLr τ 37 0 G) 29 0 19 + 2 = nI b := fun _ => h19
  have e3 : ∀ G, gN (sLr τ 37 0 G) 46 0 = 24 := fun _ => g46
  have e4 : ∀ G, gN (sLr τ 37 0 G) 39 0 = 24 := fun _ => g39
  have e5 : ∀ G, gN (sLr τ 37 0 G) 37 0 = 1440 := fun _ => g37
  have e6 : ∀ G x, gL (sLr τ 37 0 G) 39 0 x = gL τ 39 0 x := fun _ _ => rfl
  induction f with
  | zero =>
    intro n i hn hi
    obtain ⟨m, rfl⟩ : ∃ m', n = m' + 1 := ⟨n - 1, by omega⟩
    have e : i = l := by omega
    subst e
    show B11_read_76 N (L11_read_76 N m) 0 (nI s) (nI r) (nI i) _ = _
    unfold B11_read_76
    rw [e1, if_pos (nI_le (by omega) (by omega)), e3, idx_nI _ hs (by omega), olet_eq, e2]
  | succ f ih =>
    intro n i hn hi
    obtain ⟨m, rfl⟩ : ∃ m', n = m' + 1 := ⟨n - 1, by omega⟩
    show B11_read_76 N (L11_read_76 N m) 0 (nI s) (nI r) (nI i) _ = _
    unfold B11_read_76
    rw [e1, if_neg (nI_ge (by omega) (by omega)), e4, idx_nI _ (by omega) (by omega), ix24, e5, idx_nI _ (by omega) (by omega), olet_eq, sL_sLr, e6, hF i (by omega), nI_1, ← ih m (i + 1) (by omega) (by omega)]
    congr 2
    funext x
    by_cases c : x = 24 * r + i
    · subst c
      rw [if_pos rfl, if_pos (by omega)]
      congr 1
      omega
    · rw [if_neg c]
      by_cases c2 : 24 * r ≤ x ∧ x < 24 * r + i
      · rw [if_pos c2, if_pos (by omega)]
      · rw [if_neg c2, if_neg (by omega)]
theorem fill_Inv {t r l : Nat} {σ τ : rS} {G : Nat → Int64} {F : Nat → Int64} (h : Inv t σ τ) (hr : r < gC σ 13) (hl : gN σ 14 r = l) (hG : ∀ x, x < l → G x = F x ∧ cutw (gI σ 13 r 0) (F x) = F x) : Inv t (sLr σ 14 r G) (sLr τ 37 0 (fun x => if 24 * r ≤ x ∧ x < 24 * r + l then F (x - 24 * r) else gL τ 37 0 x)) := by
  obtain ⟨h1, h2, ⟨r1, r2, r3, r4, r5⟩, h4, h5, h6, h7⟩ := h
  refine ⟨h1, h2, ⟨r1, r2, r3, r4, fun j hj => ?_⟩, h4, h5, h6, h7⟩
  obtain ⟨p1, p2, p3, p4, p5, p6, p7, p8⟩ := r5 r hr
  obtain ⟨q1, q2, q3, q4, q5, q6, q7, q8⟩ := r5 j hj
  refine ⟨q1, q2, q3, q4, q5, q6, q7, fun i hi => ?_⟩
  have hi' : i < gN σ 14 j := hi
  have q4' : gN σ 14 j ≤ 24 := q4
  have p4' : gN σ 14 r ≤ 24 := p4
  simp only [gL_sLr, gI_sLr]
  simp only [true_and, and_self, if_true]
  by_cases ej : j = r
  · subst ej
    rw [if_pos rfl, if_pos (by omega)]
    have e : 24 * j + i - 24 * j = i := by omega
    rw [e]
    obtain ⟨g1, g2⟩ := hG i (by omega)
    rw [g1]
    exact ⟨rfl, g2⟩
  · rw [if_neg ej, if_neg (by omega)]
    exact q8 i hi'
theorem eq_read {N : Nat} (hN : 500 ≤ N) : EQ_read N Inv := by
  intro v t σ τ ht h
  show Bth t _ _
  unfold f10_read f11_read
  rcases strCase h v with ⟨e1, e2⟩ | ⟨s, hs1, rfl, e1, e2⟩
  · rw [e1, e2]; exact bth_ret h _
  have hs24 : s < 24 := Nat.lt_of_lt_of_le hs1 h.2.2.2.1.1
  obtain ⟨q1, q2, q3, q4, q5, q6, q7, q8, q9, q10, q11⟩ := h.2.2.2.1.2.2.2.2 s hs1
  have g46 := h.1.2.1.2.2.2.2.2.2.2.2.2.2.1
  rw [e1, e2, obind_some, obind_some, onul_some, if_pos rfl, g46, idx_nI _ hs24 (by omega), q6, q7]
  rcases exam_both (N := N) hN h hs1 (p := pS σ s) q5 with ⟨σ', τ', kd, l, b, F, a1, a2, a3, a4, a5, a6, a7, a8, a9, a10, a11, a12, a13, a14, a15⟩ | ⟨σ', τ', f, a1, a2, a3, a4, a5, a6⟩
  · have hI := a4.1 _ _ (a3.1 _ _ h)
    have h60 := hI.2.2.1.1
    have g60 : gI σ' 0 0 8 = nI (gC σ' 13) := hI.2.2.1.2.2.1
    have m60 : gI τ' 29 0 3 = nI (gC σ' 13) := hI.2.2.1.2.2.2.1
    rw [a1, a2, obind_some, obind_some, if_pos rfl, if_pos (show (0 : Int32) ≤ 0 by decide), g60, m60]
    by_cases c60 : gC σ' 13 = 60
    · rw [c60, if_neg (show ¬ nI 60 < 60 by decide), if_pos (show nI 60 = 60 from rfl)]
      exact bth_ret hI _
    · have hs1' : s < gC σ' 15 := by rw [a3.2.2.1]; exact hs1
      obtain ⟨q1', q2', q3', q4', q5', q6', q7', q8', q9', q10', q11'⟩ := hI.2.2.2.1.2.2.2.2 s hs1'
      have ep : pS σ' s = pS σ s := by
        unfold pS
        rw [a3.2.2.2]
      have g46' := hI.1.2.1.2.2.2.2.2.2.2.2.2.2.1
      have g44' := hI.1.2.1.2.2.2.2.2.2.2.2.1
      have e44 : (400 : Int32) * nI s + nI (pS σ s) + 1 = nI (400 * s + (pS σ s + 1)) := by
        rw [ix44, nI_1]
        congr 1
      rw [if_pos (show nI (gC σ' 13) < (60 : Int32) from nI_lt (b := 60) (by omega) (by omega)), if_neg (show ¬ nI (gC σ' 13) = (60 : Int32) from fun q => c60 ((nI_eq (b := 60) (by omega) (by omega)).mp q)), g46', idx_nI _ hs24 (by omega), q7', ep, e44, g44', idx_nI _ (by omega) (by omega), a4.2, a14, a12, a9, a10, newRow10_eq hI (by omega) a6, newRow11_eq hN hI (by omega), obind_some, obind_some]
      have hI2 := row_Inv hI (k := kd) (l := l) (by omega) a5 a6
      have c13 : gC (rowX σ' (nI kd) (nI l)) 13 = gC σ' 13 + 1 := rfl
      have n1 : gN (rowX σ' (nI kd) (nI l)) 1 0 = 60 := hI2.1.1.1
      have hrow := hI2.2.2.1.2.2.2.2 (gC σ' 13) (by rw [c13]; omega)
      have k13 : gI (rowX σ' (nI kd) (nI l)) 13 (gC σ' 13) 0 = nI kd := by simp [rowX, mkRow, olet_eq, gI_sI, gI_sR, gI_sC, gI_sN, gI_sRr, gI_sLr]
      have n14 : gN (rowX σ' (nI kd) (nI l)) 14 (gC σ' 13) = l := by simp [rowX, mkRow, olet_eq, gN_sI, gN_sR, gN_sC, gN_sN, gN_sRr, gN_sLr, nI_clamp (show l < 2 ^ 31 by omega)]
      have n10 : gN (rowX σ' (nI kd) (nI l)) 10 0 = 24 := hI2.1.1.2.2.2.2.2.2.2.1
      have i12 : gI (rowX σ' (nI kd) (nI l)) 12 0 1 = nI l := a10
      have ok : okcp (rowX σ' (nI kd) (nI l)) 10 0 14 (gC σ' 13) 0 0 (nI l) = true := by
        unfold okcp
        have z0' : (0 : Int32).toNatClampNeg = 0 := rfl
        rw [z0, nI_toInt (by omega), nI_clamp (by omega), z0', n14, n10]
        simp only [Bool.and_eq_true, decide_eq_true_eq]
        omega
      rw [n1, idx_nI _ (by omega) (by omega), olet_eq, hrow.1, onul_some, i12, ock_pos ok, olet_eq, olet_eq, nI_clamp (by omega)]
      have L := rd_loop (N := N) (s := s) (r := gC σ' 13) (l := l) (b := b) (F := F) (τ := rowM τ' (gC σ' 13) (nI kd) (nI l)) (by omega) hs24 a6 a12 a13 (fun x hx => (a15 x hx).2.1) hI2.1.2.1.2.2.2.2.1 hI2.1.2.1.2.2.2.2.2.2.1 hI2.1.2.1.2.2.2.2.2.2.2.2.2.2.1 l N 0 (by omega) (by omega)
      have e0 : sLr (rowM τ' (gC σ' 13) (nI kd) (nI l)) 37 0 (fun x => if 24 * gC σ' 13 ≤ x ∧ x < 24 * gC σ' 13 + 0 then F (x - 24 * gC σ' 13) else gL (rowM τ' (gC σ' 13) (nI kd) (nI l)) 37 0 x) = rowM τ' (gC σ' 13) (nI kd) (nI l) := by
        refine (sLr_congr (g := gL (rowM τ' (gC σ' 13) (nI kd) (nI l)) 37 0) (fun x => ?_)).trans (sLr_id _ _ _)
        rw [if_neg (by omega)]
      rw [e0] at L
      have L' : L11_read_76 N N 0 (nI s) (nI (gC σ' 13)) 0 (rowM τ' (gC σ' 13) (nI kd) (nI l)) = _ := L
      have i123 : ∀ G, gI (sLr (rowX σ' (nI kd) (nI l)) 14 (gC σ' 13) G) 12 0 2 = nI b := fun _ => a11
      rw [L', i123]
      refine bth_ret ?_ _
      have hI3 := fill_Inv (G := va_cpy (gL (rowX σ' (nI kd) (nI l)) 10 0) (gL (rowX σ' (nI kd) (nI l)) 14 (gC σ' 13)) (Int32.toNatClampNeg 0) (Int32.toNatClampNeg 0) l) (F := F) hI2 (r := gC σ' 13) (l := l) (by rw [c13]; omega) n14 (fun x hx => by
        have z0' : (0 : Int32).toNatClampNeg = 0 := rfl
        rw [z0', pk_cpy_in (by omega) (by omega), k13, Nat.zero_add, Nat.sub_zero]
        exact ⟨(a15 x hx).1, (a15 x hx).2.2⟩)
      refine place_Inv hI3 hs1' ?_
      have ez : ∀ G, zS (sLr (rowX σ' (nI kd) (nI l)) 14 (gC σ' 13) G) s = zS σ' s := fun _ => rfl
      rw [ez, zS_K a3]
      omega
  · rw [a1, a2, obind_some, obind_some, if_neg (nI_ne0 a3 (by omega)), if_neg (nI_nle a3 (by omega))]
    exact bth_fnd (a6.1 _ _ (a5.1 _ _ h)) f rfl a4
