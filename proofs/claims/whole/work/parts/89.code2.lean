/-! ===== the coders, whole; cost, best ===== -/
theorem plsC_loop {N k2 l : Nat} {σ : rS} {F : Nat → Int64} {M : Nat → Int32} (hN : 500 ≤ N) (h9 : gN σ 9 0 = 264) (h11 : gN σ 11 0 = 24) (hl : l ≤ 24) : ∀ (f n i : Nat), f < n → i + f = l → L5_pack_91 N k2 n 0 (nI l) (nI i) (pC σ F M (plains F i)) = some ((), pC σ F M (plains F l)) := by
  intro f
  induction f with
  | zero =>
    intro n i hn hi
    obtain ⟨m, rfl⟩ : ∃ m', n = m' + 1 := ⟨n - 1, by omega⟩
    show B5_pack_91 N k2 (L5_pack_91 N k2 m) 0 (nI l) (nI i) _ = _
    unfold B5_pack_91
    have e : i = l := by omega
    rw [if_pos (nI_le (by omega) (by omega)), e]
  | succ f ih =>
    intro n i hn hi
    obtain ⟨m, rfl⟩ : ∃ m', n = m' + 1 := ⟨n - 1, by omega⟩
    show B5_pack_91 N k2 (L5_pack_91 N k2 m) 0 (nI l) (nI i) _ = _
    unfold B5_pack_91
    have e1 : ∀ B, gN (pC σ F M B) 11 0 = 24 := fun _ => h11
    have e2 : ∀ B y, gL (pC σ F M B) 11 0 y = F y := fun _ _ => rfl
    have h1 := plains_len F i
    have h2 := plainB_len (F i)
    rw [if_neg (nI_ge (by omega) (by omega)), e1, idx_nI _ (by omega) (by omega), e2, packPlain_eq hN h9 _ (by omega), obind_some, nI_1]
    exact ih m (i + 1) (by omega) (by omega)
theorem plsR_loop {N l : Nat} {τ : rS} {F : Nat → Int64} {M : Nat → Int32} {v1 : Int32} (hN : 500 ≤ N) (h41 : gN τ 41 0 = 600) (h39 : gN τ 39 0 = 24) (hl : l ≤ 24) : ∀ (f n i : Nat), f < n → i + f = l → L11_code_106 N n 0 v1 (nI i) (pR τ F M (nI l) (plains F i)) = B11_code_137 N 0 v1 (pR τ F M (nI l) (plains F l)) := by
  intro f
  have e0 : ∀ B : List Nat, gI (pR τ F M (nI l) B) 29 0 10 = nI l := fun _ => rfl
  induction f with
  | zero =>
    intro n i hn hi
    obtain ⟨m, rfl⟩ : ∃ m', n = m' + 1 := ⟨n - 1, by omega⟩
    show B11_code_106 N (L11_code_106 N m) 0 v1 (nI i) _ = _
    unfold B11_code_106
    have e : i = l := by omega
    rw [e0, if_pos (nI_le (by omega) (by omega)), e]
  | succ f ih =>
    intro n i hn hi
    obtain ⟨m, rfl⟩ : ∃ m', n = m' + 1 := ⟨n - 1, by omega⟩
    show B11_code_106 N (L11_code_106 N m) 0 v1 (nI i) _ = _
    unfold B11_code_106
    have e1 : ∀ B, gN (pR τ F M (nI l) B) 39 0 = 24 := fun _ => h39
    have e2 : ∀ B y, gL (pR τ F M (nI l) B) 39 0 y = F y := fun _ _ => rfl
    have h1 := plains_len F i
    have h2 := plainB_len (F i)
    rw [e0, if_neg (nI_ge (by omega) (by omega)), e1, idx_nI _ (by omega) (by omega), e2, plain_eq hN h41 _ (by omega), obind_some, nI_1]
    exact ih m (i + 1) (by omega) (by omega)
noncomputable def codeB (c : Nat) (F : Nat → Int64) (n : Nat) : List Nat :=
  if c = 0 then plains F n else if c = 1 then plains (dif F n) n else if c = 2 then plains (dif (dif F n) n) n else if c = 3 then runs F n n 0 1 else wid (dif F n) n :: wides (dif F n) (wid (dif F n) n) n
theorem codeB_congr {c n : Nat} {F G : Nat → Int64} (h : ∀ x, x < n → F x = G x) : codeB c F n = codeB c G n := by
  unfold codeB
  have h1 := dif_congr h
  have h2 := dif_congr h1
  have h3 : runs F n n 0 1 = runs G n n 0 1 := by
    cases n with
    | zero => rfl
    | succ n => exact runs_congr h (n + 1) 0 1 (by omega) (by omega) (by omega)
  rw [plains_congr n h, plains_congr n h1, plains_congr n h2, h3, wid_congr n h1, wides_congr n h1]
theorem codeB_b (c : Nat) (F : Nat → Int64) (n : Nat) : ∀ b ∈ codeB c F n, b < 256 := by
  intro b hb
  unfold codeB at hb
  split at hb
  · exact plains_b _ _ b hb
  split at hb
  · exact plains_b _ _ b hb
  split at hb
  · exact plains_b _ _ b hb
  split at hb
  · exact runs_b _ _ _ _ _ b hb
  · rcases List.mem_cons.mp hb with q | q
    · have := wid_rng (dif F n) n
      omega
    · exact wides_b _ _ _ b q
theorem codeB_len (c : Nat) (F : Nat → Int64) (n : Nat) (hn : n ≤ 24) : (codeB c F n).length ≤ 264 := by
  unfold codeB
  split
  · have := plains_len F n; omega
  split
  · have := plains_len (dif F n) n; omega
  split
  · have := plains_len (dif (dif F n) n) n; omega
  split
  · have := runs_len F n hn n 0 1 (by omega) (by omega); omega
  · have h1 := wid_rng (dif F n) n
    have h2 : wid (dif F n) n * n ≤ 8 * 24 := Nat.mul_le_mul h1.2 hn
    rw [List.length_cons, wides_len]
    omega
theorem sI_8_1 (σ : rS) (W : Nat → Int64) : sLr (sI σ 8 0 1 0) 11 0 W = pC σ W (gI σ 9 0) [] := by
  refine ext5 ?_ rfl
  funext k i x
  simp only [pC, mkC, wrL, sI, sIr, sLr, gI, List.length_nil]
  have : nI 0 = 0 := rfl
  rw [this]
  grind
theorem pack_eq {N k2 v2 l c : Nat} {σ : rS} (hN : 500 ≤ N) (hc : c < 5) (h9 : gN σ 9 0 = 264) (h11 : gN σ 11 0 = 24) (hl : l ≤ 24) (hk : l ≤ gN σ k2 v2) : ∃ W, f5_pack N k2 0 (nI c) v2 (nI l) σ = some ((), pC σ W (gI σ 9 0) (codeB c (gL σ k2 v2) l)) := by
  unfold f5_pack
  have ok : okcp (sI σ 8 0 1 0) k2 v2 11 0 0 0 (nI l) = true := by
    unfold okcp
    have e0 : (0 : Int32).toNatClampNeg = 0 := rfl
    have e1 : gN (sI σ 8 0 1 0) k2 v2 = gN σ k2 v2 := rfl
    have e2 : gN (sI σ 8 0 1 0) 11 0 = gN σ 11 0 := rfl
    rw [z0, nI_toInt (by omega), nI_clamp (by omega), e0, e1, e2]
    simp only [Bool.and_eq_true, decide_eq_true_eq]
    omega
  rw [olet_eq, ock_pos ok, olet_eq, nI_clamp (by omega), sI_8_1]
  have eW : ∀ x, x < l → va_cpy (gL (sI σ 8 0 1 0) k2 v2) (gL (sI σ 8 0 1 0) 11 0) (Int32.toNatClampNeg 0) (Int32.toNatClampNeg 0) l x = gL σ k2 v2 x := by
    intro x hx
    have e0 : (0 : Int32).toNatClampNeg = 0 := rfl
    rw [e0, pk_cpy_in (by omega) (by omega)]
    show gL σ k2 v2 (0 + (x - 0)) = _
    rw [Nat.zero_add, Nat.sub_zero]
  generalize va_cpy (gL (sI σ 8 0 1 0) k2 v2) (gL (sI σ 8 0 1 0) 11 0) (Int32.toNatClampNeg 0) (Int32.toNatClampNeg 0) l = W at eW
  rw [← codeB_congr eW]
  have hs : ∀ V, f5_makeSteps N 0 (nI l) (pC σ V (gI σ 9 0) []) = some ((), pC σ (dif V l) (gI σ 9 0) []) := fun V => makeSteps_eq hN h11 hl
  have hp : ∀ V, L5_pack_91 N k2 N 0 (nI l) 0 (pC σ V (gI σ 9 0) []) = some ((), pC σ V (gI σ 9 0) (plains V l)) := fun V => plsC_loop (N := N) hN h9 h11 hl l N 0 (by omega) (by omega)
  have hcc : c = 0 ∨ c = 1 ∨ c = 2 ∨ c = 3 ∨ c = 4 := by omega
  rcases hcc with rfl | rfl | rfl | rfl | rfl
  · refine ⟨W, ?_⟩
    rw [if_neg (by decide), if_neg (by decide), if_neg (by decide)]
    unfold B5_pack_36 B5_pack_46
    rw [if_neg (by decide), if_neg (by decide), if_neg (by decide), hp]
    rfl
  · refine ⟨dif W l, ?_⟩
    rw [if_pos (by decide)]
    unfold B5_pack_31 B5_pack_36 B5_pack_46
    rw [hs, obind_some, if_neg (by decide), if_neg (by decide), if_neg (by decide), hp]
    rfl
  · refine ⟨dif (dif W l) l, ?_⟩
    rw [if_neg (by decide), if_pos (by decide)]
    unfold B5_pack_31 B5_pack_36 B5_pack_46
    rw [hs, obind_some, if_pos (by decide), hs, obind_some, if_neg (by decide), if_neg (by decide), hp]
    rfl
  · refine ⟨W, ?_⟩
    rw [if_neg (by decide), if_neg (by decide), if_neg (by decide)]
    unfold B5_pack_36 B5_pack_46
    rw [if_neg (by decide), if_pos (by decide), packRuns_eq hN h9 h11 hl]
    rfl
  · refine ⟨dif W l, ?_⟩
    rw [if_neg (by decide), if_neg (by decide), if_pos (by decide)]
    unfold B5_pack_31 B5_pack_36 B5_pack_46
    rw [hs, obind_some, if_neg (by decide), if_neg (by decide), if_pos (by decide), packWide_eq hN h9 h11 hl]
    rfl
theorem code_eq {N l c : Nat} {τ : rS} {V : Nat → Int64} {M : Nat → Int32} {z : Int32} (hN : 500 ≤ N) (hc : c < 5) (h41 : gN τ 41 0 = 600) (h39 : gN τ 39 0 = 24) (hl : l ≤ 24) : ∃ V', (∀ x, x < l → V' x = V x) ∧ f11_code N 0 (nI c) (mkR τ V M (nI l) z) = some ((), pR τ V' M (nI l) (codeB c V l)) := by
  unfold f11_code
  have e0 : sI (mkR τ V M (nI l) z) 29 0 12 0 = pR τ V M (nI l) [] := mkR_z _ _ _ _ _ _
  rw [olet_eq, e0]
  have hs : ∀ V, f11_differences N 0 (pR τ V M (nI l) []) = some ((), pR τ (dif V l) M (nI l) []) := fun V => differences_eq hN h39 hl
  have hp : ∀ V v1, L11_code_106 N N 0 v1 0 (pR τ V M (nI l) []) = B11_code_137 N 0 v1 (pR τ V M (nI l) (plains V l)) := fun V v1 => plsR_loop (N := N) hN h41 h39 hl l N 0 (by omega) (by omega)
  have hu : ∀ V B, f11_sums N 0 (pR τ V M (nI l) B) = some ((), pR τ (sm V l) M (nI l) B) := fun V B => sums_eq hN h39 hl
  have hcc : c = 0 ∨ c = 1 ∨ c = 2 ∨ c = 3 ∨ c = 4 := by omega
  rcases hcc with rfl | rfl | rfl | rfl | rfl
  · refine ⟨V, fun x _ => rfl, ?_⟩
    rw [if_neg (by decide), if_pos (by decide)]
    unfold B11_code_90 B11_code_99
    rw [if_neg (by decide), if_neg (by decide), hp]
    unfold B11_code_137 B11_code_146
    rw [if_neg (by decide), if_pos (by decide)]
    rfl
  · refine ⟨sm (dif V l) l, sm_dif V _ l (fun x _ => rfl), ?_⟩
    rw [if_neg (by decide), if_neg (by decide), hs, obind_some]
    unfold B11_code_90 B11_code_99
    rw [if_neg (by decide), if_neg (by decide), hp]
    unfold B11_code_137 B11_code_146
    rw [if_neg (by decide), if_neg (by decide), hu]
    rfl
  · refine ⟨sm (sm (dif (dif V l) l) l) l, sm_dif V _ l (sm_dif (dif V l) _ l (fun x _ => rfl)), ?_⟩
    rw [if_neg (by decide), if_neg (by decide), hs, obind_some]
    unfold B11_code_90 B11_code_99
    rw [if_pos (by decide), hs, obind_some, if_neg (by decide), hp]
    unfold B11_code_137 B11_code_146
    rw [if_pos (by decide), hu, obind_some, if_neg (by decide), hu]
    rfl
  · refine ⟨V, fun x _ => rfl, ?_⟩
    rw [if_pos (by decide), codeRuns_eq hN h41 h39 hl]
    rfl
  · refine ⟨sm (dif V l) l, sm_dif V _ l (fun x _ => rfl), ?_⟩
    rw [if_neg (by decide), if_neg (by decide), hs, obind_some]
    unfold B11_code_90 B11_code_99
    rw [if_neg (by decide), if_pos (by decide), wide_eq hN h41 h39 hl, obind_some]
    unfold B11_code_137 B11_code_146
    rw [if_neg (by decide), if_neg (by decide), hu]
    rfl
theorem mkR_0 (τ : rS) (c : Int32) : sI τ 29 0 10 c = mkR τ (gL τ 39 0) (gI τ 41 0) c (gI τ 29 0 12) := by
  refine ext5 ?_ (Prod.ext ?_ rfl)
  · funext k i x
    simp only [mkR, sI, sIr, sLr, gI, gL]
    grind
  · funext k i x
    simp only [mkR, sI, sIr, sLr, gI, gL]
    grind
theorem codeRow_eq {N t r c : Nat} {σ τ : rS} (hN : 500 ≤ N) (h : Inv t σ τ) (hr : r < gC σ 13) (hc : c < 5) : ∃ V, f11_codeRow N 0 (nI r) (nI c) τ = some ((), pR τ V (gI τ 41 0) (nI (gN σ 14 r)) (codeB c (gL σ 14 r) (gN σ 14 r))) := by
  have hz := h.2.2.1.1
  have g35 := h.1.2.1.2.2.1
  have g37 := h.1.2.1.2.2.2.2.1
  have g39 := h.1.2.1.2.2.2.2.2.2.1
  have g41 := h.1.2.1.2.2.2.2.2.2.2.1
  obtain ⟨q1, q2, q3, q4, q5, q6, q7, q8⟩ := h.2.2.1.2.2.2.2 r hr
  unfold f11_codeRow
  rw [g35, idx_nI _ (by omega) (by omega), olet_eq, q5, mkR_0]
  have L : ∀ (f n i : Nat) (V : Nat → Int64), f < n → i + f = gN σ 14 r → (∀ x, x < i → V x = gL σ 14 r x) → ∃ V', L11_codeRow_12 N n 0 (nI r) (nI c) (nI i) (mkR τ V (gI τ 41 0) (nI (gN σ 14 r)) (gI τ 29 0 12)) = some ((), pR τ V' (gI τ 41 0) (nI (gN σ 14 r)) (codeB c (gL σ 14 r) (gN σ 14 r))) := by
    intro f
    have e0 : ∀ V, gI (mkR τ V (gI τ 41 0) (nI (gN σ 14 r)) (gI τ 29 0 12)) 29 0 10 = nI (gN σ 14 r) := fun _ => rfl
    induction f with
    | zero =>
      intro n i V hn hi hV
      obtain ⟨m, rfl⟩ : ∃ m', n = m' + 1 := ⟨n - 1, by omega⟩
      have e : i = gN σ 14 r := by omega
      rw [e] at hV
      obtain ⟨V', _, hV'⟩ := code_eq (N := N) (l := gN σ 14 r) (c := c) (τ := τ) (V := V) (M := gI τ 41 0) (z := gI τ 29 0 12) hN hc g41 g39 q4
      refine ⟨V', ?_⟩
      show B11_codeRow_12 N (L11_codeRow_12 N m) 0 (nI r) (nI c) (nI i) _ = _
      unfold B11_codeRow_12
      rw [e0, if_pos (nI_le (by omega) (by omega)), hV', codeB_congr hV]
      rfl
    | succ f ih =>
      intro n i V hn hi hV
      obtain ⟨m, rfl⟩ : ∃ m', n = m' + 1 := ⟨n - 1, by omega⟩
      obtain ⟨V', hV'⟩ := ih m (i + 1) (up V i (gL σ 14 r i)) (by omega) (by omega) (fun x hx => by
        unfold up
        by_cases c : x = i
        · rw [if_pos c, c]
        · rw [if_neg c, hV x (by omega)])
      refine ⟨V', ?_⟩
      show B11_codeRow_12 N (L11_codeRow_12 N m) 0 (nI r) (nI c) (nI i) _ = _
      unfold B11_codeRow_12
      have e1 : gN (mkR τ V (gI τ 41 0) (nI (gN σ 14 r)) (gI τ 29 0 12)) 37 0 = 1440 := g37
      have e2 : gN (mkR τ V (gI τ 41 0) (nI (gN σ 14 r)) (gI τ 29 0 12)) 39 0 = 24 := g39
      have e3 : gL (mkR τ V (gI τ 41 0) (nI (gN σ 14 r)) (gI τ 29 0 12)) 37 0 (24 * r + i) = gL τ 37 0 (24 * r + i) := rfl
      rw [e0, if_neg (nI_ge (by omega) (by omega)), e1, e2, ix24, idx_nI _ (by omega) (by omega), idx_nI _ (by omega) (by omega), olet_eq, e3, (q8 i (by omega)).1, mkR_V, nI_1]
      exact hV'
  exact L (gN σ 14 r) N 0 (gL τ 39 0) (by omega) (by omega) (fun x hx => absurd hx (Nat.not_lt_zero x))
theorem pc_Inv {t : Nat} {σ τ : rS} (h : Inv t σ τ) (W V : Nat → Int64) (M M' : Nat → Int32) (c : Int32) (B B' : List Nat) : Inv t (pC σ W M B) (pR τ V M' c B') := by
  obtain ⟨h1, h2, h3, h4, h5, h6, h7⟩ := h
  exact ⟨h1, h2, h3, h4, h5, h6, h7⟩
theorem coder_in (x : Int32) (σ : rS) : f10_isCoder x σ = some (decide (0 ≤ x.toInt ∧ x.toInt ≤ 4), σ) := by
  unfold f10_isCoder
  have i4 : (4 : Int32).toInt = 4 := rfl
  simp only [Int32.lt_iff_toInt_lt, z0, i4]
  by_cases c1 : x.toInt < 0
  · rw [if_pos c1, decide_eq_false (by omega)]
  · rw [if_neg c1]
    by_cases c2 : 4 < x.toInt
    · rw [if_pos c2, decide_eq_false (by omega)]
    · rw [if_neg c2, decide_eq_true (by omega)]
theorem coder_in11 (x : Int32) (τ : rS) : f11_in (Int32.toInt64 x) 0 4 τ = some (decide (0 ≤ x.toInt ∧ x.toInt ≤ 4), τ) := by
  have e := in_lit 0 4 x τ
  have i4 : (4 : Int32).toInt = 4 := rfl
  rw [z0, i4] at e
  exact e
theorem eq_cost {N : Nat} (hN : 500 ≤ N) : EQ_cost N Inv := by
  intro v x t σ τ ht h
  show Bth t _ _
  unfold f10_cost f11_cost
  rcases rowCase h v with ⟨e1, e2⟩ | ⟨r, hr, rfl, e1, e2⟩
  · rw [e1, e2]; exact bth_ret h _
  have hz := h.2.2.1.1
  have g36 := h.1.2.1.2.2.2.1
  obtain ⟨q1, q2, q3, q4, q5, q6, q7, q8⟩ := h.2.2.1.2.2.2.2 r hr
  rw [e1, e2]
  simp only [↓obind_some, ↓onul_some, ↓reduceIte, coder_in, coder_in11]
  by_cases hx : 0 ≤ x.toInt ∧ x.toInt ≤ 4
  · rw [decide_eq_true hx, if_pos rfl, if_pos rfl, idx_nI _ (by omega) (by omega), q7]
    by_cases hl : gI σ 13 r 2 = 0
    · obtain ⟨c, hc, rfl⟩ := of_in (v := x) (n := 5) (by omega) (by omega)
      obtain ⟨W, hW⟩ := pack_eq (N := N) (k2 := 14) (v2 := r) (l := gN σ 14 r) (c := c) hN hc h.1.1.2.2.2.2.2.2.1 h.1.1.2.2.2.2.2.2.2.2 q4 (Nat.le_refl _)
      obtain ⟨V, hV⟩ := codeRow_eq (N := N) hN h hr hc
      rw [if_pos hl, if_pos hl, hW, hV]
      exact bth_ret (pc_Inv h _ _ _ _ _ _ _) _
    · rw [if_neg hl, if_neg hl]
      exact bth_fnd h 1 rfl (by omega)
  · rw [decide_eq_false hx]
    exact bth_ret h _
theorem pC_pC (σ : rS) (W W' : Nat → Int64) (M M' : Nat → Int32) (B B' : List Nat) : pC (pC σ W M B) W' M' B' = pC σ W' M' B' := mkC_mkC _ _ _ _ _ _ _
theorem pR_pR (τ : rS) (V V' : Nat → Int64) (M M' : Nat → Int32) (c c' : Int32) (B B' : List Nat) : pR (pR τ V M c B) V' M' c' B' = pR τ V' M' c' B' := mkR_mkR _ _ _ _ _ _ _ _ _
