/-! ===== many bytes to a stream ===== -/
def by8 (x : Int32) : Int32 := Int8.toInt32 (Int32.toInt8 (Int8.toInt32 (Int32.toInt8 x)))
theorem bt_by8 {a b : Int32} (h : bt a b) : by8 a = a := by
  obtain ⟨n, hn, rfl, rfl⟩ := h
  simp [by8]
noncomputable def appR (s : Nat) (f : Nat → Int32) : Nat → Nat → rS → rS
  | _, 0, σ => σ
  | a, k + 1, σ => appR s f (a + 1) k (app σ s (f a))
noncomputable def layR (s : Nat) (g : Nat → Int32) : Nat → Nat → Nat → rS → rS
  | _, _, 0, τ => τ
  | a, z, k + 1, τ => layR s g (a + 1) (z + 1) k (lay τ s z (g a))
theorem appR_2 (s : Nat) (f : Nat → Int32) : ∀ (k a : Nat) (σ : rS), (appR s f a k σ).2 = σ.2
  | 0, _, _ => rfl
  | k + 1, a, σ => by
    show (appR s f (a + 1) k (app σ s (f a))).2 = _
    rw [appR_2 s f k (a + 1)]; rfl
theorem layR_2 (s : Nat) (g : Nat → Int32) : ∀ (k a z : Nat) (τ : rS), (layR s g a z k τ).2 = τ.2
  | 0, _, _, _ => rfl
  | k + 1, a, z, τ => by
    show (layR s g (a + 1) (z + 1) k (lay τ s z (g a))).2 = _
    rw [layR_2 s g k (a + 1) (z + 1)]; rfl
theorem gI_appR (s : Nat) (f : Nat → Int32) {q i x : Nat} (hq : q ≠ 15) (hq2 : q ≠ 16 ∨ i ≠ s) : ∀ (k a : Nat) (σ : rS), gI (appR s f a k σ) q i x = gI σ q i x
  | 0, _, _ => rfl
  | k + 1, a, σ => by
    show gI (appR s f (a + 1) k (app σ s (f a))) q i x = _
    rw [gI_appR s f hq hq2 k (a + 1)]
    unfold app
    rw [gI_sI, if_neg (fun z => hq z.1), gI_sI, if_neg (fun z => by omega)]
theorem gI_layR (s : Nat) (g : Nat → Int32) {q i x : Nat} (hq : q ≠ 45) (hq2 : q ≠ 44 ∨ x < 400 * s) : ∀ (k a z : Nat) (τ : rS), gI (layR s g a z k τ) q i x = gI τ q i x
  | 0, _, _, _ => rfl
  | k + 1, a, z, τ => by
    show gI (layR s g (a + 1) (z + 1) k (lay τ s z (g a))) q i x = _
    rw [gI_layR s g hq hq2 k (a + 1) (z + 1)]
    unfold lay
    rw [gI_sI, if_neg (fun y => hq y.1), gI_sI, if_neg (fun y => by omega)]
theorem gC_appR (s : Nat) (f : Nat → Int32) (k a : Nat) (σ : rS) (q : Nat) : gC (appR s f a k σ) q = gC σ q := by
  show (appR s f a k σ).2.2.2.2 q = σ.2.2.2.2 q
  rw [appR_2]
theorem gN_appR (s : Nat) (f : Nat → Int32) (k a : Nat) (σ : rS) (q i : Nat) : gN (appR s f a k σ) q i = gN σ q i := by
  show (appR s f a k σ).2.2.2.1 q i = σ.2.2.2.1 q i
  rw [appR_2]
theorem gR_appR (s : Nat) (f : Nat → Int32) (k a : Nat) (σ : rS) (q i x : Nat) : gR (appR s f a k σ) q i x = gR σ q i x := by
  show (appR s f a k σ).2.2.1 q i x = σ.2.2.1 q i x
  rw [appR_2]
theorem gN_layR (s : Nat) (g : Nat → Int32) (k a z : Nat) (τ : rS) (q i : Nat) : gN (layR s g a z k τ) q i = gN τ q i := by
  show (layR s g a z k τ).2.2.2.1 q i = τ.2.2.2.1 q i
  rw [layR_2]
theorem appR_Inv {t s : Nat} {f g : Nat → Int32} : ∀ (k a : Nat) (σ τ : rS), Inv t σ τ → s < gC σ 15 → zS σ s + k ≤ 400 → (∀ i, a ≤ i → i < a + k → bt (f i) (g i)) → Inv t (appR s f a k σ) (layR s g a (zS σ s) k τ) ∧ zS (appR s f a k σ) s = zS σ s + k
  | 0, _, _, _, h, _, _, _ => ⟨h, rfl⟩
  | k + 1, a, σ, τ, h, hs1, hz, hb => by
    have h1 := app_Inv h hs1 (by omega) (hb a (by omega) (by omega))
    obtain ⟨-, p1, p2, -⟩ := h.2.2.2.1.2.2.2.2 s hs1
    have ez := zS_app (b := f a) p2 p1 s
    rw [if_pos rfl] at ez
    have ih := appR_Inv (f := f) (g := g) k (a + 1) _ _ h1 hs1 (by omega) (fun i h3 h4 => hb i (by omega) (by omega))
    rw [ez] at ih
    exact ⟨ih.1, by rw [show zS σ s + (k + 1) = zS σ s + 1 + k by omega]; exact ih.2⟩
theorem all_loop {N k1 v1 e s : Nat} {f : Nat → Int32} (hk : k1 ≠ 15) (hk2 : k1 ≠ 16 ∨ v1 ≠ s) : ∀ (k n i : Nat) (σ : rS), k < n → i + k = e → e < 2 ^ 30 → (∀ j, i ≤ j → j < e → by8 (gI σ k1 v1 j) = f j) → e ≤ gN σ k1 v1 → gN σ k1 v1 < 2 ^ 30 → gI σ 15 s 1 = nI (zS σ s) → gN σ 16 s = 400 → zS σ s + k ≤ 400 → L9_appendAll_7 N k1 n s v1 (nI e) (nI i) σ = some ((), appR s f i k σ) := by
  intro k
  induction k with
  | zero =>
    intro n i σ hn hi he hf hN hN2 h2 h9 hz
    obtain ⟨m, rfl⟩ : ∃ m', n = m' + 1 := ⟨n - 1, by omega⟩
    show B9_appendAll_7 N k1 (L9_appendAll_7 N k1 m) s v1 (nI e) (nI i) σ = _
    unfold B9_appendAll_7
    rw [if_pos (nI_le (by omega) (by omega))]
    rfl
  | succ k ih =>
    intro n i σ hn hi he hf hN hN2 h2 h9 hz
    obtain ⟨m, rfl⟩ : ∃ m', n = m' + 1 := ⟨n - 1, by omega⟩
    show B9_appendAll_7 N k1 (L9_appendAll_7 N k1 m) s v1 (nI e) (nI i) σ = _
    unfold B9_appendAll_7
    rw [if_neg (nI_ge (by omega) (by omega)), if_neg (nI_ge (by omega) (by omega)), idx_nI _ (by omega) (by omega), append_eq h2 h9 (by omega), obind_some, nI_1]
    have ef : Int8.toInt32 (Int32.toInt8 (Int8.toInt32 (Int32.toInt8 (gI σ k1 v1 i)))) = f i := hf i (by omega) (by omega)
    rw [ef]
    have ez := zS_app (b := f i) h2 (by omega) s
    rw [if_pos rfl] at ez
    refine ih m (i + 1) (app σ s (f i)) (by omega) (by omega) he (fun j h3 h4 => ?_) hN hN2 ?_ h9 (by omega)
    · have : gI (app σ s (f i)) k1 v1 j = gI σ k1 v1 j := by
        unfold app
        rw [gI_sI, if_neg (fun z => hk z.1), gI_sI, if_neg (fun z => by omega)]
      rw [this]
      exact hf j (by omega) h4
    · rw [ez]
      unfold app
      rw [gI_sI, if_pos ⟨rfl, rfl, rfl⟩, h2, nI_1]
theorem max0 (a : Nat) (ha : a < 2 ^ 30) (σ : rS) : fJ_max 0 (nI a) σ = some (nI a, σ) := by
  unfold fJ_max
  by_cases h : (0 : Int32) < nI a
  · rw [if_pos h]
  · rw [if_neg h]
    have h2 : a = 0 := by
      rw [Int32.lt_iff_toInt_lt, nI_toInt (by omega), z0] at h
      omega
    rw [h2]; rfl
theorem all_eq {N k1 v1 a e s : Nat} {f : Nat → Int32} {σ : rS} (hN0 : 500 ≤ N) (hk : k1 ≠ 15) (hk2 : k1 ≠ 16 ∨ v1 ≠ s) (ha : a ≤ e) (he : e < 2 ^ 30) (hf : ∀ j, a ≤ j → j < e → by8 (gI σ k1 v1 j) = f j) (h1 : e ≤ gN σ k1 v1) (h1' : gN σ k1 v1 < 2 ^ 30) (h2 : gI σ 15 s 1 = nI (zS σ s)) (h9 : gN σ 16 s = 400) (hz : zS σ s + (e - a) ≤ 400) : f9_appendAll N k1 s v1 (nI a) (nI e) σ = some ((), appR s f a (e - a) σ) := by
  unfold f9_appendAll
  rw [max0 a (by omega), obind_some]
  exact all_loop (N := N) hk hk2 (e - a) N a σ (by omega) (by omega) he hf h1 h1' h2 h9 hz
theorem end_Inv {t j : Nat} {σ τ : rS} (h : Inv t σ τ) : Inv t (sI σ 15 j 3 1) (sI τ 47 0 j (vp_nar .boolean 1)) := by
  obtain ⟨h1, h2, h3, ⟨r1, r2, r3, r4, r5⟩, h5, h6, h7⟩ := h
  refine ⟨h1, h2, h3, ⟨r1, r2, r3, r4, fun r hr => ?_⟩, h5, h6, h7⟩
  obtain ⟨q0, q1, q2, q3, q4, q5, q6, q7, q8, q9, q10⟩ := r5 r hr
  have ez : zS (sI σ 15 j 3 1) r = zS σ r := by simp [zS, gI_sI]
  have ep : pS (sI σ 15 j 3 1) r = pS σ r := by simp [pS, gI_sI]
  refine ⟨q0, by rw [ez]; exact q1, by rw [ez, ← q2]; simp [gI_sI], by rw [ez, ← q3]; simp [gI_sI], by rw [ez, ep]; exact q4, by rw [ep, ← q5]; simp [gI_sI], by rw [ep, ← q6]; simp [gI_sI], ?_, ?_, q9, by rw [ez]; exact q10⟩
  · simp only [gI_sI]
    by_cases e : r = j
    · simp [e]
    · simp [e, q7]
  · simp only [gI_sI]
    by_cases e : r = j
    · simp [e]; decide
    · simp [e, q8]
theorem take_loop {N s b e : Nat} {g : Nat → Int32} (hs : s < 24) (hb : b < 30) (he : e ≤ 400) : ∀ (k n i z : Nat) (τ : rS), k < n → i + k = e → gI τ 52 0 b = nI e → (∀ j, i ≤ j → j < e → gI τ 54 0 (400 * b + j) = g j) → gI τ 45 0 s = nI z → z + k ≤ 400 → gN τ 52 0 = 30 → gN τ 47 0 = 24 → gN τ 54 0 = 12000 → gN τ 44 0 = 9600 → gN τ 45 0 = 24 → L11_take_67 N n 0 (nI s) (nI b) (nI i) τ = some (nI s, sI (layR s g i z k τ) 47 0 s (vp_nar .boolean 1)) := by
  intro k
  induction k with
  | zero =>
    intro n i z τ hn hi h52 hg h45 hz g52 g47 g54 g44 g45
    obtain ⟨m, rfl⟩ : ∃ m', n = m' + 1 := ⟨n - 1, by omega⟩
    show B11_take_67 N (L11_take_67 N m) 0 (nI s) (nI b) (nI i) τ = _
    unfold B11_take_67
    rw [idx_nI _ (by omega) (by omega), h52, if_pos (nI_le (by omega) (by omega)), idx_nI _ (by omega) (by omega)]
    rfl
  | succ k ih =>
    intro n i z τ hn hi h52 hg h45 hz g52 g47 g54 g44 g45
    obtain ⟨m, rfl⟩ : ∃ m', n = m' + 1 := ⟨n - 1, by omega⟩
    show B11_take_67 N (L11_take_67 N m) 0 (nI s) (nI b) (nI i) τ = _
    unfold B11_take_67
    rw [idx_nI _ (by omega) (by omega), h52, if_neg (nI_ge (by omega) (by omega)), ix44, idx_nI _ (by omega) (by omega), hg i (by omega) (by omega), lay_eq h45 hs g44 g45 (by omega), obind_some, nI_1]
    refine ih m (i + 1) (z + 1) (lay τ s z (g i)) (by omega) (by omega) h52 (fun j h3 h4 => hg j (by omega) h4) ?_ (by omega) g52 g47 g54 g44 g45
    unfold lay
    rw [gI_sI, if_pos ⟨rfl, rfl, rfl⟩, h45, nI_1]
theorem eq_take {N : Nat} (hN : 500 ≤ N) : EQ_take N Inv := by
  intro v x t σ τ _ h
  show Bth t _ _
  unfold f10_take f11_take
  rcases houCase h v with ⟨e1, e2⟩ | ⟨j, hj, rfl, e1, e2⟩
  · rw [e1, e2]; exact bth_ret h _
  · have hz := h.2.2.2.2.2.1.1
    have h3 := h.2.2.2.1
    have g59 := h.1.2.2.2.2.2.2.2.2.1
    obtain ⟨-, q1, q2, q3, q4, q5, q6⟩ := h.2.2.2.2.2.1.2.2.2.2.2 j hj
    obtain ⟨b1, b2, b3, b4, b5, ev, b6, b7, b8, b9, b10⟩ := h.2.2.2.2.1
    rw [e1, e2]
    simp only [↓obind_some, ↓onul_some, ↓reduceIte]
    by_cases hx : 0 ≤ x
    · rw [if_pos hx, if_pos hx]
      rcases entCase hN h hj x with ⟨a1, a2, a3⟩ | ⟨e, a2, a3, a4, a5⟩
      · rw [a2, a3]; exact bth_ret h _
      · obtain ⟨b, hb1, hb2, hb3⟩ := (q6 e a2).2
        have hl := live_of h hj a2 hb2 hb1
        obtain ⟨y1, y2, y3, y4, y5⟩ := b9 b hb1
        obtain ⟨z1, z2, z3, z4, z5, z6, z7⟩ := y5 hl
        rw [a4, a5]
        simp (disch := omega) only [↓obind_some, nI_nm1, if_false, h3.2.2.1, h3.2.2.2.1]
        by_cases hn : gC σ 15 < 24
        · have c3 : nI (gC σ 15) < 24 := nI_lt (b := 24) hn (by omega)
          have c4 : ¬ nI (gC σ 15) = 24 := fun q => by
            have := (nI_eq (a := gC σ 15) (b := 24) (by omega) (by omega)).mp q
            omega
          have hI := str_Inv h hn
          have hs1 : gC σ 15 < gC (strX σ) 15 := Nat.lt_succ_self _
          have ez : zS (strX σ) (gC σ 15) = 0 := by
            have : gI (strX σ) 15 (gC σ 15) 1 = 0 := by simp [strX, mkStream, olet_eq, gI_sI, gI_sR, gI_sC, gI_sN, gI_sRr, gI_sIr]
            unfold zS
            rw [this]; rfl
          obtain ⟨s0, s1, s2, s3, s4, s5, s6, s7, s8, s9, s10⟩ := hI.2.2.2.1.2.2.2.2 (gC σ 15) hs1
          rw [if_pos c3, if_neg c4, idx_nI _ (by omega) (by omega), newStr10_eq h hn, newStr11_eq h hn, obind_some, hb2, olet_eq, obind_some]
          have G2 : gN (strX σ) 2 0 = 24 := h.1.1.2.1
          have G59 : gN (strM τ (gC σ 15)) 59 0 = 72 := g59
          have E59 : gI (strM τ (gC σ 15)) 59 0 (12 * j + e) = nI b := hb3
          have E20 : gI (strX σ) 20 b 1 = nI (zB σ b) := z5
          rw [G2, idx_nI _ (by omega) (by omega), G59, idx_nI _ (by omega) (by omega), olet_eq, olet_eq, E59, s0, onul_some, onul_some, E20]
          have A1 := all_eq (N := N) (k1 := 21) (v1 := b) (a := 0) (e := zB σ b) (s := gC σ 15) (f := fun i => gI σ 21 b i) (σ := strX σ) hN (by omega) (by omega) (by omega) (by omega) (fun i _ h4 => bt_by8 (z7 i h4)) (by show zB σ b ≤ gN σ 21 b; omega) (by show gN σ 21 b < 2 ^ 30; omega) s2 s9 (by omega)
          have A1' : f9_appendAll N 21 (gC σ 15) b 0 (nI (zB σ b)) (strX σ) = _ := A1
          rw [A1', obind_some, gN_appR, G2, idx_nI _ (by omega) (by omega), olet_eq, gR_appR, s0, onul_some, olet_eq]
          have A2 := take_loop (N := N) (s := gC σ 15) (b := b) (e := zB σ b) (g := fun i => gI τ 54 0 (400 * b + i)) (by omega) (by omega) z4 (zB σ b) N 0 0 (strM τ (gC σ 15)) (by omega) (by omega) z6 (fun _ _ _ => rfl) (by rw [s3, ez]) (by omega) h.1.2.2.2.1 h.1.2.1.2.2.2.2.2.2.2.2.2.2.2 h.1.2.2.2.2.2.1 h.1.2.1.2.2.2.2.2.2.2.2.1 h.1.2.1.2.2.2.2.2.2.2.2.2.1
          have A2' : L11_take_67 N N 0 (nI (gC σ 15)) (nI b) 0 (strM τ (gC σ 15)) = _ := A2
          rw [A2']
          have I1 := appR_Inv (s := gC σ 15) (f := fun i => gI σ 21 b i) (g := fun i => gI τ 54 0 (400 * b + i)) (zB σ b) 0 _ _ hI hs1 (by omega) (fun i _ h4 => z7 i (by omega))
          rw [ez] at I1
          exact bth_ret (end_Inv I1.1) _
        · have e60 : gC σ 15 = 24 := by have := h3.1; omega
          have c3 : ¬ nI (gC σ 15) < 24 := by rw [e60]; decide
          have c4 : nI (gC σ 15) = 24 := by rw [e60]; rfl
          rw [if_neg c3, if_pos c4]
          exact bth_ret h _
    · rw [if_neg hx, if_neg hx]
      exact bth_ret h _
