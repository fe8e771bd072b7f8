/-! ===== best, write ===== -/
theorem best_loop {N t r : Nat} (hN : 500 ≤ N) : ∀ (f n n' c b m1 m2 : Nat) (σ τ : rS), f < n → f < n' → c + f = 5 → m1 < 2000 → m2 < 2000 → (∀ x, x ≤ 264 → (m1 ≤ x ↔ m2 ≤ x)) → Inv t σ τ → r < gC σ 13 → Bth t (L10_best_36 N n 0 r (nI b) (nI m1) (nI c) σ) (L11_best_35 N n' 0 (nI r) (nI b) (nI m2) (nI c) τ) := by
  intro f
  induction f with
  | zero =>
    intro n n' c b m1 m2 σ τ hn hn' hc h1 h2 hm h hr
    obtain ⟨m, rfl⟩ : ∃ m', n = m' + 1 := ⟨n - 1, by omega⟩
    obtain ⟨m', rfl⟩ : ∃ m'', n' = m'' + 1 := ⟨n' - 1, by omega⟩
    show Bth t (B10_best_36 N (L10_best_36 N m) 0 r (nI b) (nI m1) (nI c) σ) (B11_best_35 N (L11_best_35 N m') 0 (nI r) (nI b) (nI m2) (nI c) τ)
    unfold B10_best_36 B11_best_35
    have e : c = 5 := by omega
    subst e
    rw [if_pos (show (4 : Int32) < nI 5 by decide), if_pos (show (5 : Int32) ≤ nI 5 by decide)]
    exact bth_ret h _
  | succ f ih =>
    intro n n' c b m1 m2 σ τ hn hn' hc h1 h2 hm h hr
    obtain ⟨m, rfl⟩ : ∃ m', n = m' + 1 := ⟨n - 1, by omega⟩
    obtain ⟨m', rfl⟩ : ∃ m'', n' = m'' + 1 := ⟨n' - 1, by omega⟩
    show Bth t (B10_best_36 N (L10_best_36 N m) 0 r (nI b) (nI m1) (nI c) σ) (B11_best_35 N (L11_best_35 N m') 0 (nI r) (nI b) (nI m2) (nI c) τ)
    unfold B10_best_36 B11_best_35 B10_best_84 B11_best_64
    obtain ⟨q1, q2, q3, q4, q5, q6, q7, q8⟩ := h.2.2.1.2.2.2.2 r hr
    obtain ⟨W, hW⟩ := pack_eq (N := N) (k2 := 14) (v2 := r) (l := gN σ 14 r) (c := c) hN (by omega) h.1.1.2.2.2.2.2.2.1 h.1.1.2.2.2.2.2.2.2.2 q4 (Nat.le_refl _)
    obtain ⟨V, hV⟩ := codeRow_eq (N := N) (c := c) hN h hr (by omega)
    have hle := codeB_len c (gL σ 14 r) (gN σ 14 r) q4
    rw [if_neg (show ¬ (4 : Int32) < nI c from nI_nlt (a := 4) (by omega) (by omega)), if_neg (show ¬ (5 : Int32) ≤ nI c from nI_ge (b := 5) (by omega) (by omega)), hW, hV, obind_some, obind_some]
    have e1 : ∀ W M B, gI (pC σ W M B) 8 0 1 = nI B.length := fun _ _ _ => rfl
    have e2 : ∀ V M c B, gI (pR τ V M c B) 29 0 12 = nI B.length := fun _ _ _ _ => rfl
    rw [e1, e2, nI_1]
    have hI := pc_Inv h W V (gI σ 9 0) (gI τ 41 0) (nI (gN σ 14 r)) (codeB c (gL σ 14 r) (gN σ 14 r)) (codeB c (gL σ 14 r) (gN σ 14 r))
    by_cases cm : m1 ≤ (codeB c (gL σ 14 r) (gN σ 14 r)).length
    · rw [if_pos (nI_le cm (by omega)), if_pos (nI_le ((hm _ hle).mp cm) (by omega))]
      exact ih m m' (c + 1) b m1 m2 _ _ (by omega) (by omega) (by omega) h1 h2 hm hI hr
    · have cm2 : ¬ m2 ≤ (codeB c (gL σ 14 r) (gN σ 14 r)).length := fun q => cm ((hm _ hle).mpr q)
      rw [if_neg (nI_ge (by omega) (by omega)), if_neg (nI_ge (by omega) (by omega)), olet_eq, olet_eq]
      exact ih m m' (c + 1) c _ _ _ _ (by omega) (by omega) (by omega) (by omega) (by omega) (fun x _ => Iff.rfl) hI hr
theorem eq_best {N : Nat} (hN : 500 ≤ N) : EQ_best N Inv := by
  intro v t σ τ ht h
  show Bth t _ _
  unfold f10_best f11_best
  rcases rowCase h v with ⟨e1, e2⟩ | ⟨r, hr, rfl, e1, e2⟩
  · rw [e1, e2]; exact bth_ret h _
  have hz := h.2.2.1.1
  have g36 := h.1.2.1.2.2.2.1
  obtain ⟨q1, q2, q3, q4, q5, q6, q7, q8⟩ := h.2.2.1.2.2.2.2 r hr
  rw [e1, e2]
  simp only [↓obind_some, ↓onul_some, ↓reduceIte]
  rw [idx_nI _ (by omega) (by omega), q7]
  by_cases hl : gI σ 13 r 2 = 0
  · rw [if_pos hl, if_pos hl]
    exact best_loop hN 5 N N 0 0 265 1000 σ τ (by omega) (by omega) (by omega) (by omega) (by omega) (fun x hx => by omega) h hr
  · rw [if_neg hl, if_neg hl]
    exact bth_fnd h 1 rfl (by omega)
theorem hs_lt (f : Nat → Int32) : ∀ (k i : Nat) (c : Int32), (∃ n : Nat, n < 65536 ∧ c = nI n) → ∃ n : Nat, n < 65536 ∧ hs f i k c = nI n
  | 0, _, _, h => h
  | k + 1, i, c, _ => by
    refine hs_lt f k (i + 1) _ ?_
    obtain ⟨j, hj, e⟩ := pk_andE (31 * c + f i) (m := 65535) 16 rfl
    exact ⟨j, hj, e⟩
theorem sum_both2 {N t s a e : Nat} {σ τ : rS} (hN : 500 ≤ N) (h : Inv t σ τ) (hs1 : s < gC σ 15) (he : e ≤ zS σ s) (ha : a ≤ e) : ∃ n : Nat, n < 65536 ∧ f9_sum N s (nI a) (nI e) σ = some (nI n, σ) ∧ f11_sumOf N 0 (nI s) (nI a) (nI e) τ = some (nI n, τ) := by
  obtain ⟨r, e1, e2⟩ := sum_both hN h hs1 he ha
  obtain ⟨q1, q2, q3, q4, q5, q6, q7, q8, q9, q10, q11⟩ := h.2.2.2.1.2.2.2.2 s hs1
  have e3 := sum_eq (N := N) (s := s) (a := a) (e := e) hN q10 (by omega) ha
  obtain ⟨n, hn, e4⟩ := hs_lt (fun j => gI σ 16 s j &&& 255) (e - a) a 0 ⟨0, by omega, rfl⟩
  rw [e4] at e3
  rw [e3] at e1
  have e5 : nI n = r := by cases e1; rfl
  rw [← e5] at e2
  exact ⟨n, hn, e3, e2⟩
theorem bt_lo (n : Nat) (hn : n < 65536) : bt (Int8.toInt32 (Int32.toInt8 (Int8.toInt32 (Int32.toInt8 (nI n))))) (nI n &&& 255) := bt_of _
theorem bt_hi (n : Nat) (hn : n < 65536) : bt (Int8.toInt32 (Int32.toInt8 (Int8.toInt32 (Int32.toInt8 (nI n >>> (8 &&& 31)))))) (nI n >>> (8 &&& 31)) := by
  have e : nI n >>> (8 &&& 31) = nI (n / 256) := pk_shrN (by omega) _ 8 (by decide)
  rw [e]
  have h := bt_of (nI (n / 256))
  have e2 : nI (n / 256) &&& 255 = nI (n / 256) := by
    rw [pk_andN (m := 255) (by omega) 8 rfl]
    congr 1
    omega
  rw [e2] at h
  exact h
theorem bt_sm (n : Nat) (hn : n < 256) : bt (Int8.toInt32 (Int32.toInt8 (Int8.toInt32 (Int32.toInt8 (nI n))))) (nI n) := by
  have h := bt_of (nI n)
  have e2 : nI n &&& 255 = nI n := by
    rw [pk_andN (m := 255) (by omega) 8 rfl]
    congr 1
    omega
  rw [e2] at h
  exact h
/-- one byte more on both sides: what holds then -/
theorem lay_step {t s : Nat} {σ τ : rS} (h : Inv t σ τ) (hs1 : s < gC σ 15) (hz : zS σ s < 400) {v w : Int32} (hw : bt (Int8.toInt32 (Int32.toInt8 (Int8.toInt32 (Int32.toInt8 v)))) w) : ∃ σ1 τ1 : rS, f9_append s v σ = some ((), σ1) ∧ f11_lay 0 (nI s) w τ = some ((), τ1) ∧ Inv t σ1 τ1 ∧ zS σ1 s = zS σ s + 1 ∧ σ1.2 = σ.2 ∧ τ1.2 = τ.2 ∧ (∀ q i x, q ≠ 15 → q ≠ 16 → gI σ1 q i x = gI σ q i x) ∧ (∀ q i x, q ≠ 44 → q ≠ 45 → gI τ1 q i x = gI τ q i x) := by
  obtain ⟨q1, q2, q3, q4, q5, q6, q7, q8, q9, q10, q11⟩ := h.2.2.2.1.2.2.2.2 s hs1
  obtain ⟨σ1, τ1, e1, e2, rfl, rfl, hI⟩ := lay_both h hs1 hz hw
  refine ⟨_, _, e1, e2, hI, ?_, rfl, rfl, ?_, ?_⟩
  · rw [zS_app q3 (by omega), if_pos rfl]
  · intro q i x h1 h2
    unfold app
    rw [gI_sI, gI_sI, if_neg (fun a => h1 a.1), if_neg (fun a => h2 a.1)]
  · intro q i x h1 h2
    unfold lay
    rw [gI_sI, gI_sI, if_neg (fun a => h2 a.1), if_neg (fun a => h1 a.1)]
