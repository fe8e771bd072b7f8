/-! ===== deltas: like bytes, the longest stretch ===== -/
def mtF (A B : Nat → Int32) (q p : Nat) : Nat → Nat → Nat
  | 0, n => n
  | f + 1, n => if A (q + n) = B (p + n) then mtF A B q p f (n + 1) else n
theorem mtF_le (A B : Nat → Int32) (q p : Nat) : ∀ f n, n ≤ mtF A B q p f n ∧ mtF A B q p f n ≤ n + f
  | 0, n => by unfold mtF; omega
  | f + 1, n => by
    unfold mtF
    split
    · have := mtF_le A B q p f (n + 1); omega
    · omega
def mt (A B : Nat → Int32) (za zb q p : Nat) : Nat := mtF A B q p (min (za - q) (zb - p)) 0
theorem mt_le (A B : Nat → Int32) (za zb q p : Nat) : mt A B za zb q p ≤ za - q ∧ mt A B za zb q p ≤ zb - p := by
  have := mtF_le A B q p (min (za - q) (zb - p)) 0
  unfold mt
  omega
theorem lkC_loop {N a b q p m : Nat} {σ : rS} (ha : gN σ 16 a = 400) (hb : gN σ 16 b = 400) (hq : q + m ≤ 400) (hp : p + m ≤ 400) : ∀ (f n i : Nat), f < n → i + f = m → L1_likeBytes_20 N n a (nI q) b (nI p) (nI m) (nI i) σ = some (nI (mtF (gI σ 16 a) (gI σ 16 b) q p f i), σ) := by
  intro f
  induction f with
  | zero =>
    intro n i hn hi
    obtain ⟨m', rfl⟩ : ∃ m', n = m' + 1 := ⟨n - 1, by omega⟩
    show B1_likeBytes_20 N (L1_likeBytes_20 N m') a (nI q) b (nI p) (nI m) (nI i) σ = _
    unfold B1_likeBytes_20
    rw [if_pos (nI_le (by omega) (by omega))]
    rfl
  | succ f ih =>
    intro n i hn hi
    obtain ⟨m', rfl⟩ : ∃ m', n = m' + 1 := ⟨n - 1, by omega⟩
    show B1_likeBytes_20 N (L1_likeBytes_20 N m') a (nI q) b (nI p) (nI m) (nI i) σ = _
    unfold B1_likeBytes_20
    rw [if_neg (nI_ge (by omega) (by omega)), nI_add, nI_add, ha, hb, idx_nI _ (by omega) (by omega), idx_nI _ (by omega) (by omega), nI_1]
    show _ = some (nI (if gI σ 16 a (q + i) = gI σ 16 b (p + i) then mtF (gI σ 16 a) (gI σ 16 b) q p f (i + 1) else i), σ)
    by_cases c : gI σ 16 a (q + i) = gI σ 16 b (p + i)
    · rw [if_pos c, if_pos c]
      exact ih m' (i + 1) (by omega) (by omega)
    · rw [if_neg c, if_neg c]
theorem min_eq (a b : Nat) (ha : a < 2 ^ 31) (hb : b < 2 ^ 31) (σ : rS) : fJ_min (nI a) (nI b) σ = some (nI (min a b), σ) := by
  unfold fJ_min
  by_cases h : b < a
  · rw [if_pos (nI_lt h ha), Nat.min_eq_right (by omega)]
  · rw [if_neg (nI_nlt (by omega) hb), Nat.min_eq_left (by omega)]
theorem likeBytes_eq {N a b q p za zb : Nat} {σ : rS} (hN : 500 ≤ N) (ha : gN σ 16 a = 400) (hb : gN σ 16 b = 400) (za1 : gI σ 15 a 1 = nI za) (zb1 : gI σ 15 b 1 = nI zb) (hza : za ≤ 400) (hzb : zb ≤ 400) (hq : q ≤ za) (hp : p ≤ zb) : f1_likeBytes N a (nI q) b (nI p) σ = some (nI (mt (gI σ 16 a) (gI σ 16 b) za zb q p), σ) := by
  unfold f1_likeBytes
  rw [za1, zb1, pk_sub hq, pk_sub hp, min_eq _ _ (by omega) (by omega), obind_some]
  exact lkC_loop (N := N) ha hb (by omega) (by omega) (min (za - q) (zb - p)) N 0 (by omega) (by omega)
/-- the bytes of two streams on both sides -/
def AB (σ τ : rS) (a b za zb : Nat) : Prop := a < 24 ∧ b < 24 ∧ za ≤ 400 ∧ zb ≤ 400 ∧ gI σ 15 a 1 = nI za ∧ gI σ 15 b 1 = nI zb ∧ gN σ 16 a = 400 ∧ gN σ 16 b = 400 ∧ gI τ 45 0 a = nI za ∧ gI τ 45 0 b = nI zb ∧ gN τ 44 0 = 9600 ∧ gN τ 45 0 = 24 ∧ (∀ i j, i < za → j < zb → (gI σ 16 a i = gI σ 16 b j ↔ gI τ 44 0 (400 * a + i) = gI τ 44 0 (400 * b + j))) ∧ ∀ j, j < zb → bt (gI σ 16 b j) (gI τ 44 0 (400 * b + j))
theorem lkR_loop {N a b q p za zb : Nat} {σ τ : rS} (h : AB σ τ a b za zb) (hq : q ≤ za) (hp : p ≤ zb) : ∀ (f n i : Nat), f < n → i + f = min (za - q) (zb - p) → L11_matching_3 N n 0 (nI a) (nI q) (nI b) (nI p) (nI i) τ = some (nI (mtF (gI σ 16 a) (gI σ 16 b) q p f i), τ) := by
  obtain ⟨h1, h2, h3, h4, h5, h6, h7, h8, h9, h10, h11, h12, h13, h14⟩ := h
  intro f
  induction f with
  | zero =>
    intro n i hn hi
    obtain ⟨m', rfl⟩ : ∃ m', n = m' + 1 := ⟨n - 1, by omega⟩
    show B11_matching_3 N (L11_matching_3 N m') 0 (nI a) (nI q) (nI b) (nI p) (nI i) τ = _
    unfold B11_matching_3
    rw [h12, idx_nI _ h1 (by omega), idx_nI _ h2 (by omega), h9, h10, nI_add, nI_add]
    by_cases c : za ≤ q + i
    · rw [if_pos (nI_le c (by omega))]
      rfl
    · rw [if_neg (nI_ge (by omega) (by omega)), if_pos (nI_le (by omega) (by omega))]
      rfl
  | succ f ih =>
    intro n i hn hi
    obtain ⟨m', rfl⟩ : ∃ m', n = m' + 1 := ⟨n - 1, by omega⟩
    show B11_matching_3 N (L11_matching_3 N m') 0 (nI a) (nI q) (nI b) (nI p) (nI i) τ = _
    unfold B11_matching_3
    rw [h12, idx_nI _ h1 (by omega), idx_nI _ h2 (by omega), h9, h10, nI_add, nI_add, if_neg (nI_ge (by omega) (by omega)), if_neg (nI_ge (by omega) (by omega)), ix44, ix44, nI_add, nI_add, h11, idx_nI _ (by omega) (by omega), idx_nI _ (by omega) (by omega), nI_1]
    have e1 : 400 * a + q + i = 400 * a + (q + i) := by omega
    have e2 : 400 * b + p + i = 400 * b + (p + i) := by omega
    rw [e1, e2]
    show _ = some (nI (if gI σ 16 a (q + i) = gI σ 16 b (p + i) then mtF (gI σ 16 a) (gI σ 16 b) q p f (i + 1) else i), τ)
    have hiff := h13 (q + i) (p + i) (by omega) (by omega)
    by_cases c : gI σ 16 a (q + i) = gI σ 16 b (p + i)
    · rw [if_pos c, if_pos (hiff.mp c)]
      exact ih m' (i + 1) (by omega) (by omega)
    · rw [if_neg c, if_neg (fun w => c (hiff.mpr w))]
theorem matching_eq {N a b q p za zb : Nat} {σ τ : rS} (hN : 500 ≤ N) (h : AB σ τ a b za zb) (hq : q ≤ za) (hp : p ≤ zb) : f11_matching N 0 (nI a) (nI q) (nI b) (nI p) τ = some (nI (mt (gI σ 16 a) (gI σ 16 b) za zb q p), τ) := by
  unfold f11_matching
  exact lkR_loop (N := N) h hq hp (min (za - q) (zb - p)) N 0 (by have := h.2.2.1; omega) (by omega)
/-- the first longest stretch from place i on -/
def lgF (M : Nat → Nat) : Nat → Nat → Int32 → Nat → Int32 × Nat
  | 0, _, pl, m => (pl, m)
  | f + 1, i, pl, m => if M i ≤ m then lgF M f (i + 1) pl m else lgF M f (i + 1) (nI i) (M i)
theorem lgF_stop (M : Nat → Nat) (u : Nat) (hM : ∀ i, M i ≤ u) : ∀ f i pl m, u ≤ m → lgF M f i pl m = (pl, m)
  | 0, _, _, _, _ => rfl
  | f + 1, i, pl, m, h => by
    unfold lgF
    have := hM i
    rw [if_pos (by omega)]
    exact lgF_stop M u hM f (i + 1) pl m h
theorem lgF_inv (M : Nat → Nat) (za : Nat) : ∀ f i pl m, i + f = za → ((pl = -1 ∧ m = 3) ∨ ∃ q, q < za ∧ pl = nI q ∧ m = M q ∧ 4 ≤ m) → (((lgF M f i pl m).1 = -1 ∧ (lgF M f i pl m).2 = 3) ∨ ∃ q, q < za ∧ (lgF M f i pl m).1 = nI q ∧ (lgF M f i pl m).2 = M q ∧ 4 ≤ M q)
  | 0, i, pl, m, _, h => by
    rcases h with h | ⟨q, h1, h2, h3, h4⟩
    · exact Or.inl h
    · exact Or.inr ⟨q, h1, h2, h3, by omega⟩
  | f + 1, i, pl, m, hi, h => by
    have hm : 3 ≤ m := by
      rcases h with h | ⟨q, h1, h2, h3, h4⟩
      · omega
      · omega
    unfold lgF
    by_cases c : M i ≤ m
    · rw [if_pos c]
      exact lgF_inv M za f (i + 1) pl m (by omega) h
    · rw [if_neg c]
      exact lgF_inv M za f (i + 1) (nI i) (M i) (by omega) (Or.inr ⟨i, by omega, rfl, rfl, by omega⟩)
theorem lgC_loop {N a b p za zb : Nat} {σ : rS} (hN : 500 ≤ N) (ha : gN σ 16 a = 400) (hb : gN σ 16 b = 400) (za1 : gI σ 15 a 1 = nI za) (zb1 : gI σ 15 b 1 = nI zb) (hza : za ≤ 400) (hzb : zb ≤ 400) (hp : p ≤ zb) : ∀ (f n i m : Nat) (pl : Int32), f < n → i + f = za → m < 1000 → L1_longestLike_8 N n a b (nI p) pl (nI m) (nI i) σ = some ((lgF (fun q => mt (gI σ 16 a) (gI σ 16 b) za zb q p) f i pl m).1, σ) := by
  intro f
  induction f with
  | zero =>
    intro n i m pl hn hi hm
    obtain ⟨m', rfl⟩ : ∃ m', n = m' + 1 := ⟨n - 1, by omega⟩
    show B1_longestLike_8 N (L1_longestLike_8 N m') a b (nI p) pl (nI m) (nI i) σ = _
    unfold B1_longestLike_8
    rw [za1, if_pos (nI_le (by omega) (by omega))]
    rfl
  | succ f ih =>
    intro n i m pl hn hi hm
    obtain ⟨m', rfl⟩ : ∃ m', n = m' + 1 := ⟨n - 1, by omega⟩
    show B1_longestLike_8 N (L1_longestLike_8 N m') a b (nI p) pl (nI m) (nI i) σ = _
    unfold B1_longestLike_8 B1_longestLike_52
    rw [za1, if_neg (nI_ge (by omega) (by omega)), zb1, pk_sub hp]
    by_cases c : zb - p ≤ m
    · rw [if_pos (nI_le c (by omega)), lgF_stop _ (zb - p) (fun q => (mt_le _ _ _ _ _ _).2) _ _ _ _ c]
    · have hm2 := mt_le (gI σ 16 a) (gI σ 16 b) za zb i p
      rw [if_neg (nI_ge (by omega) (by omega)), likeBytes_eq hN ha hb za1 zb1 hza hzb (by omega) hp, obind_some, nI_1]
      show _ = some ((if mt (gI σ 16 a) (gI σ 16 b) za zb i p ≤ m then lgF (fun q => mt (gI σ 16 a) (gI σ 16 b) za zb q p) f (i + 1) pl m else lgF (fun q => mt (gI σ 16 a) (gI σ 16 b) za zb q p) f (i + 1) (nI i) (mt (gI σ 16 a) (gI σ 16 b) za zb i p)).1, σ)
      by_cases c2 : mt (gI σ 16 a) (gI σ 16 b) za zb i p ≤ m
      · rw [if_pos (nI_le c2 (by omega)), if_pos c2]
        exact ih m' (i + 1) m pl (by omega) (by omega) hm
      · rw [if_neg (nI_ge (by omega) (by omega)), if_neg c2]
        exact ih m' (i + 1) _ (nI i) (by omega) (by omega) (by omega)
