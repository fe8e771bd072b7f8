/-! ===== write ===== -/
theorem wrt_loop {N s len : Nat} {v4 : Int32} {g : Nat → Int32} (hs : s < 24) (hl : len ≤ 264) : ∀ (f n i z : Nat) (τ : rS), f < n → i + f = len → gI τ 29 0 12 = nI len → (∀ j, i ≤ j → j < len → gI τ 41 0 j = g j) → gI τ 45 0 s = nI z → z + f ≤ 400 → gN τ 41 0 = 600 → gN τ 44 0 = 9600 → gN τ 45 0 = 24 → L11_write_158 N n 0 (nI s) v4 (nI i) τ = B11_write_158 N (fun _ _ _ _ _ => none) 0 (nI s) v4 (nI len) (layR s g i z f τ) := by
  intro f
  induction f with
  | zero =>
    intro n i z τ hn hi h12 hg h45 hz g41 g44 g45
    obtain ⟨m, rfl⟩ : ∃ m', n = m' + 1 := ⟨n - 1, by omega⟩
    have e : i = len := by omega
    subst e
    show B11_write_158 N (L11_write_158 N m) 0 (nI s) v4 (nI i) τ = B11_write_158 N (fun _ _ _ _ _ => none) 0 (nI s) v4 (nI i) τ
    unfold B11_write_158
    rw [h12, if_pos (nI_le (by omega) (by omega)), if_pos (nI_le (by omega) (by omega))]
  | succ f ih =>
    intro n i z τ hn hi h12 hg h45 hz g41 g44 g45
    obtain ⟨m, rfl⟩ : ∃ m', n = m' + 1 := ⟨n - 1, by omega⟩
    show B11_write_158 N (L11_write_158 N m) 0 (nI s) v4 (nI i) τ = _
    have step : B11_write_158 N (L11_write_158 N m) 0 (nI s) v4 (nI i) τ = L11_write_158 N m 0 (nI s) v4 (nI (i + 1)) (lay τ s z (g i)) := by
      unfold B11_write_158
      rw [h12, if_neg (nI_ge (by omega) (by omega)), g41, idx_nI _ (by omega) (by omega), hg i (by omega) (by omega), lay_eq h45 hs g44 g45 (by omega), obind_some, nI_1]
    rw [step]
    refine ih m (i + 1) (z + 1) (lay τ s z (g i)) (by omega) (by omega) h12 (fun j h3 h4 => hg j (by omega) h4) ?_ (by omega) g41 g44 g45
    unfold lay
    rw [gI_sI, if_pos ⟨rfl, rfl, rfl⟩, h45, nI_1]
theorem strZ {t s : Nat} {σ τ : rS} (h : Inv t σ τ) (hs1 : s < gC σ 15) : zS σ s ≤ 400 ∧ gI σ 15 s 1 = nI (zS σ s) ∧ gI τ 45 0 s = nI (zS σ s) ∧ gN σ 16 s = 400 := by
  obtain ⟨q1, q2, q3, q4, q5, q6, q7, q8, q9, q10, q11⟩ := h.2.2.2.1.2.2.2.2 s hs1
  exact ⟨q2, q3, q4, q10⟩
theorem piece_both {N t s r c len : Nat} {σ τ : rS} (hN : 500 ≤ N) (h : Inv t σ τ) (hs1 : s < gC σ 15) (hr : r < gC σ 13) (hc : c < 5) (hC : gI σ 8 0 1 = nI len) (hR : gI τ 29 0 12 = nI len) (hl : len ≤ 264) (hz : zS σ s + 7 + len ≤ 400) (hb : ∀ i, i < len → bt (gI σ 9 0 i) (gI τ 41 0 i)) :
    Bth t (obind (f10_appendPiece N 0 s (nI c) r σ) fun r11 σ12 => some ((gI σ12 15 s 1), σ12))
      (olet (nI (zS σ s)) fun x13 =>
              obind (f11_lay 0 (nI s) (160 + nI c) τ) fun r14 σ15 =>
              idx (nI r) (gN σ15 34 0) fun j16 =>
              obind (f11_lay 0 (nI s) (gI σ15 34 0 j16) σ15) fun r17 σ18 =>
              idx (nI r) (gN σ18 35 0) fun j19 =>
              obind (f11_lay 0 (nI s) (gI σ18 35 0 j19) σ18) fun r20 σ21 =>
              obind (f11_lay 0 (nI s) ((gI σ21 29 0 12) &&& 255) σ21) fun r22 σ23 =>
              obind (f11_lay 0 (nI s) ((gI σ23 29 0 12) >>> (8 &&& 31)) σ23) fun r24 σ25 =>
              L11_write_158 N N 0 (nI s) x13 0 σ25) := by
  have hz60 := h.2.2.1.1
  have hs24 : s < 24 := Nat.lt_of_lt_of_le hs1 h.2.2.2.1.1
  obtain ⟨p1, ⟨kd, hkd, p2⟩, p3, p4, p5, p6, p7, p8⟩ := h.2.2.1.2.2.2.2 r hr
  unfold f10_appendPiece f9_appendPair
  rw [olet_eq, olet_eq, (strZ h hs1).2.1]
  have e160 : (160 : Int32) + nI c = nI (160 + c) := nI_add 160 c
  rw [e160]
  obtain ⟨σ1, τ1, a1, b1, I1, z1, s1, u1, c1, d1⟩ := lay_step h hs1 (by omega) (v := nI (160 + c)) (w := nI (160 + c)) (bt_sm _ (by omega))
  have C1 : gC σ1 15 = gC σ 15 := by show σ1.2.2.2.2 15 = _; rw [s1]; rfl
  have N1 : ∀ q i, gN σ1 q i = gN σ q i := fun q i => by show σ1.2.2.2.1 q i = _; rw [s1]; rfl
  have M1 : ∀ q i, gN τ1 q i = gN τ q i := fun q i => by show τ1.2.2.2.1 q i = _; rw [u1]; rfl
  rw [a1, b1, obind_some, obind_some, M1, h.1.2.1.2.1, idx_nI _ (by omega) (by omega), c1 13 r 0 (by omega) (by omega), d1 34 0 r (by omega) (by omega), p3, p2]
  obtain ⟨σ2, τ2, a2, b2, I2, z2, s2, u2, c2, d2⟩ := lay_step (s := s) I1 (by omega) (by omega) (v := nI kd) (w := nI kd) (bt_sm _ (by omega))
  have C2 : gC σ2 15 = gC σ 15 := by rw [← C1]; show σ2.2.2.2.2 15 = _; rw [s2]; rfl
  have N2 : ∀ q i, gN σ2 q i = gN σ q i := fun q i => by rw [← N1]; show σ2.2.2.2.1 q i = _; rw [s2]; rfl
  have M2 : ∀ q i, gN τ2 q i = gN τ q i := fun q i => by rw [← M1]; show τ2.2.2.2.1 q i = _; rw [u2]; rfl
  rw [a2, b2, obind_some, obind_some, M2, h.1.2.1.2.2.1, idx_nI _ (by omega) (by omega), N2, d2 35 0 r (by omega) (by omega), d1 35 0 r (by omega) (by omega), p5]
  obtain ⟨σ3, τ3, a3, b3, I3, z3, s3, u3, c3, d3⟩ := lay_step (s := s) I2 (by omega) (by omega) (v := nI (gN σ 14 r)) (w := nI (gN σ 14 r)) (bt_sm _ (by omega))
  have C3 : gC σ3 15 = gC σ 15 := by rw [← C2]; show σ3.2.2.2.2 15 = _; rw [s3]; rfl
  have N3 : ∀ q i, gN σ3 q i = gN σ q i := fun q i => by rw [← N2]; show σ3.2.2.2.1 q i = _; rw [s3]; rfl
  have M3 : ∀ q i, gN τ3 q i = gN τ q i := fun q i => by rw [← M2]; show τ3.2.2.2.1 q i = _; rw [u3]; rfl
  rw [a3, b3, obind_some, obind_some, c3 8 0 1 (by omega) (by omega), c2 8 0 1 (by omega) (by omega), c1 8 0 1 (by omega) (by omega), hC, d3 29 0 12 (by omega) (by omega), d2 29 0 12 (by omega) (by omega), d1 29 0 12 (by omega) (by omega), hR]
  obtain ⟨σ4, τ4, a4, b4, I4, z4, s4, u4, c4, d4⟩ := lay_step (s := s) I3 (by omega) (by omega) (v := nI len) (w := nI len &&& 255) (bt_lo _ (by omega))
  have C4 : gC σ4 15 = gC σ 15 := by rw [← C3]; show σ4.2.2.2.2 15 = _; rw [s4]; rfl
  have N4 : ∀ q i, gN σ4 q i = gN σ q i := fun q i => by rw [← N3]; show σ4.2.2.2.1 q i = _; rw [s4]; rfl
  have M4 : ∀ q i, gN τ4 q i = gN τ q i := fun q i => by rw [← M3]; show τ4.2.2.2.1 q i = _; rw [u4]; rfl
  rw [a4, b4, obind_some, obind_some, d4 29 0 12 (by omega) (by omega), d3 29 0 12 (by omega) (by omega), d2 29 0 12 (by omega) (by omega), d1 29 0 12 (by omega) (by omega), hR]
  obtain ⟨σ5, τ5, a5, b5, I5, z5, s5, u5, c5, d5⟩ := lay_step (s := s) I4 (by omega) (by omega) (v := nI len >>> (8 &&& 31)) (w := nI len >>> (8 &&& 31)) (bt_hi _ (by omega))
  have C5 : gC σ5 15 = gC σ 15 := by rw [← C4]; show σ5.2.2.2.2 15 = _; rw [s5]; rfl
  have N5 : ∀ q i, gN σ5 q i = gN σ q i := fun q i => by rw [← N4]; show σ5.2.2.2.1 q i = _; rw [s5]; rfl
  have M5 : ∀ q i, gN τ5 q i = gN τ q i := fun q i => by rw [← M4]; show τ5.2.2.2.1 q i = _; rw [u5]; rfl
  have G5 : ∀ q i x, q ≠ 15 → q ≠ 16 → gI σ5 q i x = gI σ q i x := fun q i x h1 h2 => by rw [c5 q i x h1 h2, c4 q i x h1 h2, c3 q i x h1 h2, c2 q i x h1 h2, c1 q i x h1 h2]
  have D5 : ∀ q i x, q ≠ 44 → q ≠ 45 → gI τ5 q i x = gI τ q i x := fun q i x h1 h2 => by rw [d5 q i x h1 h2, d4 q i x h1 h2, d3 q i x h1 h2, d2 q i x h1 h2, d1 q i x h1 h2]
  rw [a5, b5, obind_some, obind_some, obind_some, G5 8 0 1 (by omega) (by omega), hC]
  have Z5 := strZ (s := s) I5 (by omega)
  have hA := all_eq (N := N) (k1 := 9) (v1 := 0) (a := 0) (e := len) (s := s) (f := fun j => by8 (gI σ5 9 0 j)) (σ := σ5) hN (by omega) (Or.inl (by omega)) (by omega) (by omega) (fun j _ _ => rfl) (by rw [N5, h.1.1.2.2.2.2.2.2.1]; omega) (by rw [N5, h.1.1.2.2.2.2.2.2.1]; omega) Z5.2.1 Z5.2.2.2 (by omega)
  have hA' : f9_appendAll N 9 s 0 0 (nI len) σ5 = _ := hA
  have g5 := h.1.2.1
  have hW := wrt_loop (N := N) (s := s) (len := len) (v4 := nI (zS σ s)) (g := gI τ5 41 0) hs24 hl len N 0 (zS σ5 s) τ5 (by omega) (by omega) (by rw [D5 29 0 12 (by omega) (by omega), hR]) (fun j _ _ => rfl) Z5.2.2.1 (by omega) (by rw [M5]; exact g5.2.2.2.2.2.2.2.1) (by rw [M5]; exact g5.2.2.2.2.2.2.2.2.1) (by rw [M5]; exact g5.2.2.2.2.2.2.2.2.2.1)
  have hW' : L11_write_158 N N 0 (nI s) (nI (zS σ s)) 0 τ5 = _ := hW
  rw [hA', hW', obind_some, Nat.sub_zero]
  have hI6 := appR_Inv (t := t) (s := s) (f := fun j => by8 (gI σ5 9 0 j)) (g := gI τ5 41 0) len 0 σ5 τ5 I5 (by omega) (by omega) (fun i _ hi => by
    have q := hb i (by omega)
    rw [G5 9 0 i (by omega) (by omega), D5 41 0 i (by omega) (by omega), bt_by8 q]
    exact q)
  have E12 : gI (layR s (gI τ5 41 0) 0 (zS σ5 s) len τ5) 29 0 12 = nI len := by rw [gI_layR s _ (by omega) (Or.inl (by omega)), D5 29 0 12 (by omega) (by omega), hR]
  have E45 : gN (layR s (gI τ5 41 0) 0 (zS σ5 s) len τ5) 45 0 = 24 := by rw [gN_layR, M5]; exact g5.2.2.2.2.2.2.2.2.2.1
  have C6 : gC (appR s (fun j => by8 (gI σ5 9 0 j)) 0 len σ5) 15 = gC σ 15 := by rw [gC_appR, C5]
  generalize appR s (fun j => by8 (gI σ5 9 0 j)) 0 len σ5 = σ6 at hI6 C6 ⊢
  generalize layR s (gI τ5 41 0) 0 (zS σ5 s) len τ5 = τ6 at hI6 E12 E45 ⊢
  obtain ⟨I6, z6⟩ := hI6
  have Z6 := strZ (s := s) I6 (by omega)
  unfold B11_write_158
  rw [E12, if_pos (nI_le (by omega) (by omega)), E45, idx_nI _ hs24 (by omega), Z6.2.1, Z6.2.2.1]
  obtain ⟨n, hn, f1, f2⟩ := sum_both2 (N := N) (t := t) (s := s) (a := zS σ s) (e := zS σ6 s) hN I6 (by omega) (Nat.le_refl _) (by omega)
  rw [f1, f2, obind_some, obind_some]
  obtain ⟨σ7, τ7, a7, b7, I7, z7, s7, u7, c7, d7⟩ := lay_step (s := s) I6 (by omega) (by omega) (v := nI n) (w := nI n &&& 255) (bt_lo _ hn)
  have C7 : gC σ7 15 = gC σ 15 := by rw [← C6]; show σ7.2.2.2.2 15 = _; rw [s7]; rfl
  rw [a7, b7, obind_some, obind_some]
  obtain ⟨σ8, τ8, a8, b8, I8, z8, s8, u8, c8, d8⟩ := lay_step (s := s) I7 (by omega) (by omega) (v := nI n >>> (8 &&& 31)) (w := nI n >>> (8 &&& 31)) (bt_hi _ hn)
  have C8 : gC σ8 15 = gC σ 15 := by rw [← C7]; show σ8.2.2.2.2 15 = _; rw [s8]; rfl
  have Z8 := strZ (s := s) I8 (by omega)
  have E8 : gN τ8 45 0 = 24 := by
    show τ8.2.2.2.1 45 0 = _
    rw [u8, u7]
    exact E45
  rw [a8, b8, obind_some, obind_some, obind_some, obind_some, E8, idx_nI _ hs24 (by omega), Z8.2.2.1, Z8.2.1]
  exact bth_ret I8 _
theorem wr_bytes {M M' : Nat → Int32} {B : List Nat} (hB : ∀ b ∈ B, b < 256) {i : Nat} (hi : i < B.length) : bt (wrL sb M 0 B i) (wrL nI M' 0 B i) := by
  have e1 := wrL_at sb B M 0 i hi
  have e2 := wrL_at nI B M' 0 i hi
  rw [Nat.zero_add] at e1 e2
  rw [e1, e2]
  exact bt_mk (hB _ (List.getElem_mem hi))
theorem eq_write {N : Nat} (hN : 500 ≤ N) : EQ_write N Inv := by
  intro v w x t σ τ ht h
  show Bth t _ _
  unfold f10_write f11_write
  rcases strCase h v with ⟨e1, e2⟩ | ⟨s, hs1, rfl, e1, e2⟩
  · rw [e1, e2]
    rcases rowCase h w with ⟨e3, e4⟩ | ⟨r, hr, rfl, e3, e4⟩
    · simp only [↓obind_some, e3]; exact bth_ret h _
    · simp only [↓obind_some, e3]; exact bth_ret h _
  rcases rowCase h w with ⟨e3, e4⟩ | ⟨r, hr, rfl, e3, e4⟩
  · rw [e1, e2]
    simp only [↓obind_some, ↓reduceIte, e3, e4]; exact bth_ret h _
  have hz := h.2.2.1.1
  have hs24 : s < 24 := Nat.lt_of_lt_of_le hs1 h.2.2.2.1.1
  obtain ⟨q1, q2, q3, q4, q5, q6, q7, q8⟩ := h.2.2.1.2.2.2.2 r hr
  have hst := h.2.2.2.1.2.2.2.2 s hs1
  have Z := strZ h hs1
  rw [e1, e2]
  simp only [↓obind_some, ↓onul_some, ↓reduceIte, e3, e4, coder_in, coder_in11]
  by_cases hx : 0 ≤ x.toInt ∧ x.toInt ≤ 4
  · rw [decide_eq_true hx, if_pos rfl, if_pos rfl, h.1.2.1.2.2.2.2.2.2.2.2.2.2.2, idx_nI _ hs24 (by omega), hst.2.2.2.2.2.2.2.2.1]
    by_cases hd : gI σ 15 s 3 = 0
    · rw [if_pos hd, if_pos hd, h.1.2.1.2.2.2.1, idx_nI _ (by omega) (by omega), q7]
      by_cases hl : gI σ 13 r 2 = 0
      · obtain ⟨c, hc, rfl⟩ := of_in (v := x) (n := 5) (by omega) (by omega)
        obtain ⟨W, hW⟩ := pack_eq (N := N) (k2 := 14) (v2 := r) (l := gN σ 14 r) (c := c) hN hc h.1.1.2.2.2.2.2.2.1 h.1.1.2.2.2.2.2.2.2.2 q4 (Nat.le_refl _)
        obtain ⟨V, hV⟩ := codeRow_eq (N := N) hN h hr hc
        have hle := codeB_len c (gL σ 14 r) (gN σ 14 r) q4
        have hbb := codeB_b c (gL σ 14 r) (gN σ 14 r)
        have hI := pc_Inv h W V (gI σ 9 0) (gI τ 41 0) (nI (gN σ 14 r)) (codeB c (gL σ 14 r) (gN σ 14 r)) (codeB c (gL σ 14 r) (gN σ 14 r))
        rw [if_pos hl, if_pos hl, hW, hV, obind_some, obind_some]
        have x1 : ∀ W M B, gI (pC σ W M B) 8 0 1 = nI B.length := fun _ _ _ => rfl
        have x2 : ∀ V M c B, gI (pR τ V M c B) 29 0 12 = nI B.length := fun _ _ _ _ => rfl
        have x3 : ∀ W M B, gI (pC σ W M B) 15 s 1 = nI (zS σ s) := fun _ _ _ => Z.2.1
        have x4 : ∀ V M c B, gI (pR τ V M c B) 45 0 s = nI (zS σ s) := fun _ _ _ _ => Z.2.2.1
        have x5 : ∀ V M c B, gN (pR τ V M c B) 45 0 = 24 := fun _ _ _ _ => h.1.2.1.2.2.2.2.2.2.2.2.2.1
        have y1 : ∀ n : Nat, nI n + 7 = nI (n + 7) := fun n => nI_add n 7
        have y2 : (400 : Int32) = nI 400 := rfl
        rw [x1, x2, x3, x5, idx_nI _ hs24 (by omega), x4, y1, nI_add, nI_add, y1, y2, idx_nI _ hs24 (by omega), x4]
        generalize hB : codeB c (gL σ 14 r) (gN σ 14 r) = B at hle hbb hI ⊢
        by_cases cz : zS σ s + 7 + B.length ≤ 400
        · rw [if_pos (nI_le cz (by omega)), if_pos (nI_le (show zS σ s + B.length + 7 ≤ 400 by omega) (by omega))]
          exact piece_both hN hI hs1 hr hc rfl rfl hle cz (fun i hi => wr_bytes hbb hi)
        · rw [if_neg (nI_ge (by omega) (by omega)), if_neg (nI_ge (by omega) (by omega))]
          exact bth_ret hI _
      · rw [if_neg hl, if_neg hl]
        exact bth_fnd h 1 rfl (by omega)
    · rw [if_neg hd, if_neg hd]
      exact bth_ret h _
  · rw [decide_eq_false hx]
    exact bth_ret h _
