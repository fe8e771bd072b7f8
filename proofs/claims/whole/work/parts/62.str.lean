/-! ===== bytes, sums, streams ===== -/
theorem z0 : (0 : Int32).toInt = 0 := rfl
theorem byte_low (x : Int32) : (x &&& 255).toInt8 = x.toInt8 := by
  apply Int8.toBitVec_inj.mp
  apply BitVec.eq_of_toNat_eq
  simp [BitVec.toNat_and]
  have h1 := Nat.and_two_pow_sub_one_eq_mod (BitVec.signExtend 8 x.toBitVec).toNat 8
  have h2 := (BitVec.signExtend 8 x.toBitVec).isLt
  rw [Nat.mod_eq_of_lt h2] at h1
  exact h1
theorem bt_of (x : Int32) : bt (Int8.toInt32 (Int32.toInt8 (Int8.toInt32 (Int32.toInt8 x)))) (x &&& 255) := by
  obtain ⟨n, hn, e⟩ := pk_andE x (m := 255) 8 rfl
  refine ⟨n, hn, e, ?_⟩
  rw [← e, byte_low, Int8.toInt8_toInt32]
theorem bt_255 {a b : Int32} (h : bt a b) : a &&& 255 = b := by
  obtain ⟨n, hn, rfl, rfl⟩ := h
  exact sc_k8 n hn
theorem bt_inj {a b c d : Int32} (h : bt a b) (h2 : bt c d) : (a = c ↔ b = d) := by
  constructor
  · intro e; rw [← bt_255 h, ← bt_255 h2, e]
  · intro e
    obtain ⟨n, hn, rfl, rfl⟩ := h
    obtain ⟨m, hm, rfl, rfl⟩ := h2
    rw [e]
theorem bt_n {a b : Int32} (h : bt a b) : ∃ n : Nat, n < 256 ∧ b = nI n := by
  obtain ⟨n, hn, rfl, rfl⟩ := h
  exact ⟨n, hn, rfl⟩
theorem bt_mk {n : Nat} (hn : n < 256) : bt (nI n).toInt8.toInt32 (nI n) := ⟨n, hn, rfl, rfl⟩
/-- the rolling sum of k bytes from i on -/
def hs (f : Nat → Int32) : Nat → Nat → Int32 → Int32
  | _, 0, c => c
  | i, k + 1, c => hs f (i + 1) k ((31 * c + f i) &&& 65535)
theorem hs_congr {f g : Nat → Int32} : ∀ (k i : Nat) (c : Int32), (∀ j, i ≤ j → j < i + k → f j = g j) → hs f i k c = hs g i k c := by
  intro k
  induction k with
  | zero => intro i c _; rfl
  | succ k ih =>
    intro i c h
    show hs f (i + 1) k _ = hs g (i + 1) k _
    rw [h i (by omega) (by omega)]
    exact ih _ _ (fun j h1 h2 => h j (by omega) (by omega))
theorem nI_a1 (n : Nat) : nI n + 1 = nI (n + 1) := nI_1 n
theorem sum_loop {N s e : Nat} {σ : rS} (hs4 : gN σ 16 s = 400) (he : e ≤ 400) : ∀ (k n i : Nat) (c : Int32), k < n → i + k = e → L9_sum_9 N n s (nI e) c (nI i) σ = some (hs (fun j => gI σ 16 s j &&& 255) i k c, σ) := by
  intro k
  induction k with
  | zero =>
    intro n i c hn hi
    obtain ⟨m, rfl⟩ : ∃ m, n = m + 1 := ⟨n - 1, by omega⟩
    show B9_sum_9 N (L9_sum_9 N m) s (nI e) c (nI i) σ = _
    unfold B9_sum_9
    rw [if_pos (nI_le (by omega) (by omega))]
    rfl
  | succ k ih =>
    intro n i c hn hi
    obtain ⟨m, rfl⟩ : ∃ m, n = m + 1 := ⟨n - 1, by omega⟩
    show B9_sum_9 N (L9_sum_9 N m) s (nI e) c (nI i) σ = _
    unfold B9_sum_9
    rw [if_neg (nI_ge (by omega) (by omega)), hs4, if_neg (nI_ge (by omega) (by omega)), idx_nI _ (by omega) (by omega), olet_eq, nI_1, ih m (i + 1) _ (by omega) (by omega)]
    rfl
theorem sum_eq {N s a e : Nat} {σ : rS} (hN : 500 ≤ N) (hs4 : gN σ 16 s = 400) (he : e ≤ 400) (ha : a ≤ e) : f9_sum N s (nI a) (nI e) σ = some (hs (fun j => gI σ 16 s j &&& 255) a (e - a) 0, σ) := by
  unfold f9_sum fJ_max
  have e1 : (if (0 : Int32) < nI a then some (nI a, σ) else some (0, σ)) = some (nI a, σ) := by
    by_cases h : (0 : Int32) < nI a
    · rw [if_pos h]
    · rw [if_neg h]
      have h2 : a = 0 := by
        rw [Int32.lt_iff_toInt_lt, nI_toInt (by omega), z0] at h
        omega
      rw [h2]; rfl
  rw [e1]
  exact sum_loop hs4 he (e - a) N a 0 (by omega) (by omega)
theorem ix44 (s i : Nat) : (400 : Int32) * nI s + nI i = nI (400 * s + i) := by
  rw [← nI_add, ← pk_mul]; rfl
theorem ix24 (s i : Nat) : (24 : Int32) * nI s + nI i = nI (24 * s + i) := by
  rw [← nI_add, ← pk_mul]; rfl
theorem ix12 (s i : Nat) : (12 : Int32) * nI s + nI i = nI (12 * s + i) := by
  rw [← nI_add, ← pk_mul]; rfl
theorem sumOf_loop {N s e : Nat} {τ : rS} (hs4 : gN τ 44 0 = 9600) (hs24 : s < 24) (he : e ≤ 400) : ∀ (k n i : Nat) (c : Int32), k < n → i + k = e → L11_sumOf_6 N n 0 (nI s) (nI e) c (nI i) τ = some (hs (fun j => gI τ 44 0 (400 * s + j)) i k c, τ) := by
  intro k
  induction k with
  | zero =>
    intro n i c hn hi
    obtain ⟨m, rfl⟩ : ∃ m, n = m + 1 := ⟨n - 1, by omega⟩
    show B11_sumOf_6 N (L11_sumOf_6 N m) 0 (nI s) (nI e) c (nI i) τ = _
    unfold B11_sumOf_6
    rw [if_pos (nI_le (by omega) (by omega))]
    rfl
  | succ k ih =>
    intro n i c hn hi
    obtain ⟨m, rfl⟩ : ∃ m, n = m + 1 := ⟨n - 1, by omega⟩
    show B11_sumOf_6 N (L11_sumOf_6 N m) 0 (nI s) (nI e) c (nI i) τ = _
    unfold B11_sumOf_6
    rw [if_neg (nI_ge (by omega) (by omega)), hs4, ix44, idx_nI _ (by omega) (by omega), olet_eq, nI_1, ih m (i + 1) _ (by omega) (by omega)]
    rfl
theorem sumOf_eq {N s a e : Nat} {τ : rS} (hN : 500 ≤ N) (hs4 : gN τ 44 0 = 9600) (hs24 : s < 24) (he : e ≤ 400) (ha : a ≤ e) : f11_sumOf N 0 (nI s) (nI a) (nI e) τ = some (hs (fun j => gI τ 44 0 (400 * s + j)) a (e - a) 0, τ) := by
  unfold f11_sumOf
  exact sumOf_loop hs4 hs24 he (e - a) N a 0 (by omega) (by omega)
theorem sum_both {N t s a e : Nat} {σ τ : rS} (hN : 500 ≤ N) (h : Inv t σ τ) (hs1 : s < gC σ 15) (he : e ≤ zS σ s) (ha : a ≤ e) : ∃ r : Int32, f9_sum N s (nI a) (nI e) σ = some (r, σ) ∧ f11_sumOf N 0 (nI s) (nI a) (nI e) τ = some (r, τ) := by
  have hz := h.2.2.2.1.1
  obtain ⟨-, q1, q2, q3, q4, q5, q6, q7, q8, q9, q10⟩ := h.2.2.2.1.2.2.2.2 s hs1
  refine ⟨_, sum_eq hN q9 (by omega) ha, ?_⟩
  rw [sumOf_eq hN h.1.2.1.2.2.2.2.2.2.2.2.1 (by omega) (by omega) ha]
  rw [hs_congr (f := fun j => gI τ 44 0 (400 * s + j)) (g := fun j => gI σ 16 s j &&& 255)]
  intro j h1 h2
  exact (bt_255 (q10 j (by omega))).symm
theorem eq_about {N : Nat} (hN : 500 ≤ N) : EQ_about N Inv := by
  intro v w t σ τ _ h
  show Bth t _ _
  unfold f10_about f11_about
  rcases strCase h v with ⟨e1, e2⟩ | ⟨j, hj, rfl, e1, e2⟩
  · rw [e1, e2]; exact bth_ret h _
  · have hz := h.2.2.2.1.1
    obtain ⟨-, q1, q2, q3, q4, q5, q6, q7, q8, q9, q10⟩ := h.2.2.2.1.2.2.2.2 j hj
    obtain ⟨r, s1, s2⟩ := sum_both hN h hj (Nat.le_refl _) (Nat.zero_le (zS σ j))
    rw [e1, e2]
    have s1' : f9_sum N j 0 (nI (zS σ j)) σ = some (r, σ) := s1
    have s2' : f11_sumOf N 0 (nI j) 0 (nI (zS σ j)) τ = some (r, τ) := s2
    simp (disch := omega) only [obind_some, onul_some, if_true, h.1.2.1.2.2.2.2.2.2.2.2.2.1, h.1.2.1.2.2.2.2.2.2.2.2.2.2.1, h.1.2.1.2.2.2.2.2.2.2.2.2.2.2, idx_nI, q3, q6, q8, q2, q5, s1', s2']
    split
    · exact bth_ret h _
    · split
      · exact bth_ret h _
      · split
        · split
          · exact bth_ret h _
          · exact bth_ret h _
        · split
          · exact bth_ret h _
          · exact bth_ret h _
