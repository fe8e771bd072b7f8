/-! ===== packing: steps, runs, wide ===== -/
def dif (F : Nat → Int64) (n : Nat) : Nat → Int64 := fun x => if 0 < x ∧ x < n then F x - F (x - 1) else F x
def ps (F : Nat → Int64) : Nat → Int64
  | 0 => F 0
  | x + 1 => F (x + 1) + ps F x
def sm (F : Nat → Int64) (n : Nat) : Nat → Int64 := fun x => if x < n then ps F x else F x
theorem ps_dif (F : Nat → Int64) (n : Nat) : ∀ x, x < n → ps (dif F n) x = F x
  | 0, h => by
    show dif F n 0 = F 0
    unfold dif
    rw [if_neg (by omega)]
  | x + 1, h => by
    show dif F n (x + 1) + ps (dif F n) x = F (x + 1)
    rw [ps_dif F n x (by omega)]
    unfold dif
    rw [if_pos (by omega)]
    have e : x + 1 - 1 = x := rfl
    rw [e, Int64.sub_add_cancel]
theorem ps_congr {F G : Nat → Int64} : ∀ x, (∀ y, y ≤ x → F y = G y) → ps F x = ps G x
  | 0, h => h 0 (Nat.le_refl 0)
  | x + 1, h => by
    show F (x + 1) + ps F x = G (x + 1) + ps G x
    rw [ps_congr x (fun y hy => h y (by omega)), h (x + 1) (Nat.le_refl _)]
theorem sm_dif (F G : Nat → Int64) (n : Nat) (h : ∀ x, x < n → G x = dif F n x) : ∀ x, x < n → sm G n x = F x := by
  intro x hx
  unfold sm
  rw [if_pos hx, ps_congr x (fun y hy => h y (by omega)), ps_dif F n x hx]
theorem dif_congr {F G : Nat → Int64} {n : Nat} (h : ∀ x, x < n → F x = G x) : ∀ x, x < n → dif F n x = dif G n x := by
  intro x hx
  unfold dif
  by_cases c : 0 < x ∧ x < n
  · rw [if_pos c, if_pos c, h x hx, h (x - 1) (by omega)]
  · rw [if_neg c, if_neg c, h x hx]
theorem stpC_loop {N l : Nat} {σ : rS} {F : Nat → Int64} {M : Nat → Int32} {z : Int32} (h11 : gN σ 11 0 = 24) (hl : l ≤ 24) : ∀ (i n : Nat), i < n → i < l → L5_makeSteps_4 N n 0 (nI i) (mkC σ (fun x => if i < x ∧ x < l then F x - F (x - 1) else F x) M z) = some ((), mkC σ (dif F l) M z) := by
  intro i
  induction i with
  | zero =>
    intro n hn hi
    obtain ⟨m, rfl⟩ : ∃ m', n = m' + 1 := ⟨n - 1, by omega⟩
    show B5_makeSteps_4 N (L5_makeSteps_4 N m) 0 (nI 0) _ = _
    unfold B5_makeSteps_4
    rw [if_pos (show nI 0 ≤ 0 by decide)]
    rfl
  | succ i ih =>
    intro n hn hi
    obtain ⟨m, rfl⟩ : ∃ m', n = m' + 1 := ⟨n - 1, by omega⟩
    show B5_makeSteps_4 N (L5_makeSteps_4 N m) 0 (nI (i + 1)) _ = _
    unfold B5_makeSteps_4
    have e1 : ∀ G, gN (mkC σ G M z) 11 0 = 24 := fun _ => h11
    have e2 : ∀ G y, gL (mkC σ G M z) 11 0 y = G y := fun _ _ => rfl
    rw [if_neg (nI_nle (by omega) (by omega)), e1, idx_nI _ (by omega) (by omega), nI_pred, idx_nI _ (by omega) (by omega), idx_nI _ (by omega) (by omega), olet_eq, pk_m1, e2, e2, mkC_W, ← ih m (by omega) (by omega)]
    congr 2
    funext x
    unfold up
    by_cases c : x = i + 1
    · subst c
      simp only [Nat.lt_irrefl, false_and, if_false, if_true]
      rw [if_neg (by omega), if_pos ⟨by omega, hi⟩]
      rfl
    · simp only [c, if_false]
      by_cases c2 : i + 1 < x ∧ x < l
      · rw [if_pos c2, if_pos (by omega)]
      · rw [if_neg c2, if_neg (by omega)]
theorem makeSteps_eq {N l : Nat} {σ : rS} {F : Nat → Int64} {M : Nat → Int32} {z : Int32} (hN : 500 ≤ N) (h11 : gN σ 11 0 = 24) (hl : l ≤ 24) : f5_makeSteps N 0 (nI l) (mkC σ F M z) = some ((), mkC σ (dif F l) M z) := by
  unfold f5_makeSteps
  rw [olet_eq]
  cases l with
  | zero =>
    obtain ⟨m, rfl⟩ : ∃ m', N = m' + 1 := ⟨N - 1, by omega⟩
    show B5_makeSteps_4 (m + 1) (L5_makeSteps_4 (m + 1) m) 0 (nI 0 - 1) _ = _
    unfold B5_makeSteps_4
    rw [if_pos (show nI 0 - 1 ≤ 0 by decide)]
    have e : dif F 0 = F := by
      funext x
      unfold dif
      rw [if_neg (by omega)]
    rw [e]
  | succ l =>
    rw [nI_pred]
    have := stpC_loop (N := N) (F := F) (M := M) (z := z) h11 hl l N (by omega) (by omega)
    rw [← this]
    congr 2
    funext x
    rw [if_neg (by omega)]
theorem stpR_loop {N l : Nat} {τ : rS} {F : Nat → Int64} {M : Nat → Int32} {cc z : Int32} (h39 : gN τ 39 0 = 24) (hl : l ≤ 24) : ∀ (i n : Nat), i < n → i < l → L11_differences_7 N n 0 (nI i) (mkR τ (fun x => if i < x ∧ x < l then F x - F (x - 1) else F x) M cc z) = some ((), mkR τ (dif F l) M cc z) := by
  intro i
  induction i with
  | zero =>
    intro n hn hi
    obtain ⟨m, rfl⟩ : ∃ m', n = m' + 1 := ⟨n - 1, by omega⟩
    show B11_differences_7 N (L11_differences_7 N m) 0 (nI 0) _ = _
    unfold B11_differences_7
    rw [if_pos (show nI 0 ≤ 0 by decide)]
    rfl
  | succ i ih =>
    intro n hn hi
    obtain ⟨m, rfl⟩ : ∃ m', n = m' + 1 := ⟨n - 1, by omega⟩
    show B11_differences_7 N (L11_differences_7 N m) 0 (nI (i + 1)) _ = _
    unfold B11_differences_7
    have e1 : ∀ G, gN (mkR τ G M cc z) 39 0 = 24 := fun _ => h39
    have e2 : ∀ G y, gL (mkR τ G M cc z) 39 0 y = G y := fun _ _ => rfl
    rw [if_neg (nI_nle (by omega) (by omega)), e1, idx_nI _ (by omega) (by omega), nI_pred, idx_nI _ (by omega) (by omega), idx_nI _ (by omega) (by omega), olet_eq, pk_m1, e2, e2, mkR_V, ← ih m (by omega) (by omega)]
    congr 2
    funext x
    unfold up
    by_cases c : x = i + 1
    · subst c
      simp only [Nat.lt_irrefl, false_and, if_false, if_true]
      rw [if_neg (by omega), if_pos ⟨by omega, hi⟩]
      rfl
    · simp only [c, if_false]
      by_cases c2 : i + 1 < x ∧ x < l
      · rw [if_pos c2, if_pos (by omega)]
      · rw [if_neg c2, if_neg (by omega)]
theorem differences_eq {N l : Nat} {τ : rS} {F : Nat → Int64} {M : Nat → Int32} {z : Int32} (hN : 500 ≤ N) (h39 : gN τ 39 0 = 24) (hl : l ≤ 24) : f11_differences N 0 (mkR τ F M (nI l) z) = some ((), mkR τ (dif F l) M (nI l) z) := by
  unfold f11_differences
  have e0 : gI (mkR τ F M (nI l) z) 29 0 10 = nI l := rfl
  rw [olet_eq, e0]
  cases l with
  | zero =>
    obtain ⟨m, rfl⟩ : ∃ m', N = m' + 1 := ⟨N - 1, by omega⟩
    show B11_differences_7 (m + 1) (L11_differences_7 (m + 1) m) 0 (nI 0 - 1) _ = _
    unfold B11_differences_7
    rw [if_pos (show nI 0 - 1 ≤ 0 by decide)]
    have e : dif F 0 = F := by
      funext x
      unfold dif
      rw [if_neg (by omega)]
    rw [e]
  | succ l =>
    rw [nI_pred]
    have := stpR_loop (N := N) (F := F) (M := M) (cc := nI (l + 1)) (z := z) h39 hl l N (by omega) (by omega)
    rw [← this]
    congr 2
    funext x
    rw [if_neg (by omega)]
theorem smR_loop {N l : Nat} {τ : rS} {F : Nat → Int64} {M : Nat → Int32} {z : Int32} (h39 : gN τ 39 0 = 24) (hl : l ≤ 24) : ∀ (k n i : Nat), k < n → (i + 1) + k = l → L11_sums_2 N n 0 (nI (i + 1)) (mkR τ (fun x => if x < i + 1 then ps F x else F x) M (nI l) z) = some ((), mkR τ (sm F l) M (nI l) z) := by
  intro k
  induction k with
  | zero =>
    intro n i hn hi
    obtain ⟨m, rfl⟩ : ∃ m', n = m' + 1 := ⟨n - 1, by omega⟩
    show B11_sums_2 N (L11_sums_2 N m) 0 (nI (i + 1)) _ = _
    unfold B11_sums_2
    have e0 : ∀ G, gI (mkR τ G M (nI l) z) 29 0 10 = nI l := fun _ => rfl
    rw [e0, if_pos (nI_le (by omega) (by omega))]
    have : i + 1 = l := by omega
    rw [this]
    rfl
  | succ k ih =>
    intro n i hn hi
    obtain ⟨m, rfl⟩ : ∃ m', n = m' + 1 := ⟨n - 1, by omega⟩
    show B11_sums_2 N (L11_sums_2 N m) 0 (nI (i + 1)) _ = _
    unfold B11_sums_2
    have e0 : ∀ G, gI (mkR τ G M (nI l) z) 29 0 10 = nI l := fun _ => rfl
    have e1 : ∀ G, gN (mkR τ G M (nI l) z) 39 0 = 24 := fun _ => h39
    have e2 : ∀ G y, gL (mkR τ G M (nI l) z) 39 0 y = G y := fun _ _ => rfl
    rw [e0, if_neg (nI_ge (by omega) (by omega)), e1, idx_nI _ (by omega) (by omega), nI_pred, idx_nI _ (by omega) (by omega), idx_nI _ (by omega) (by omega), olet_eq, nI_1, e2, e2, mkR_V, ← ih m (i + 1) (by omega) (by omega)]
    congr 2
    funext x
    unfold up
    by_cases c : x = i + 1
    · subst c
      simp only [Nat.lt_irrefl, if_false, if_true]
      rw [if_pos (by omega), if_pos (by omega)]
      rfl
    · simp only [c, if_false]
      by_cases c2 : x < i + 1
      · rw [if_pos c2, if_pos (by omega)]
      · rw [if_neg c2, if_neg (by omega)]
theorem sums_eq {N l : Nat} {τ : rS} {F : Nat → Int64} {M : Nat → Int32} {z : Int32} (hN : 500 ≤ N) (h39 : gN τ 39 0 = 24) (hl : l ≤ 24) : f11_sums N 0 (mkR τ F M (nI l) z) = some ((), mkR τ (sm F l) M (nI l) z) := by
  unfold f11_sums
  cases l with
  | zero =>
    obtain ⟨m, rfl⟩ : ∃ m', N = m' + 1 := ⟨N - 1, by omega⟩
    show B11_sums_2 (m + 1) (L11_sums_2 (m + 1) m) 0 1 _ = _
    unfold B11_sums_2
    have e0 : gI (mkR τ F M (nI 0) z) 29 0 10 = nI 0 := rfl
    rw [e0, if_pos (show nI 0 ≤ 1 by decide)]
    have e : sm F 0 = F := by
      funext x
      unfold sm
      rw [if_neg (by omega)]
    rw [e]
  | succ l =>
    have := smR_loop (N := N) (F := F) (M := M) (z := z) h39 hl l N 0 (by omega) (by omega)
    rw [← this]
    show L11_sums_2 N N 0 1 _ = L11_sums_2 N N 0 1 _
    congr 2
    funext x
    by_cases c : x < 0 + 1
    · rw [if_pos c]
      have : x = 0 := by omega
      rw [this]
      rfl
    · rw [if_neg c]
/-! the bytes of a row -/
noncomputable def plains (F : Nat → Int64) : Nat → List Nat
  | 0 => []
  | i + 1 => plains F i ++ plainB (F i)
theorem plains_len (F : Nat → Int64) : ∀ n, (plains F n).length ≤ 10 * n
  | 0 => Nat.le_refl 0
  | n + 1 => by
    have h1 := plains_len F n
    have h2 := plainB_len (F n)
    show (plains F n ++ plainB (F n)).length ≤ 10 * (n + 1)
    rw [List.length_append]
    omega
theorem plains_congr {F G : Nat → Int64} : ∀ n, (∀ x, x < n → F x = G x) → plains F n = plains G n
  | 0, _ => rfl
  | n + 1, h => by
    show plains F n ++ plainB (F n) = plains G n ++ plainB (G n)
    rw [plains_congr n (fun x hx => h x (by omega)), h n (by omega)]
theorem plains_b (F : Nat → Int64) : ∀ n, ∀ b ∈ plains F n, b < 256
  | 0, b, h => by cases h
  | n + 1, b, h => by
    rcases List.mem_append.mp h with q | q
    · exact plains_b F n b q
    · exact plainB_b (F n) b q
theorem small_B {n : Nat} (h : n < 64) : plainB (Int32.toInt64 (nI n)) = [2 * n] := by
  unfold plainB
  have e : uN (zz (Int32.toInt64 (nI n))) = 2 * n := by
    have : ∀ m : Fin 64, uN (zz (Int32.toInt64 (nI m.1))) = 2 * m.1 := by decide
    exact this ⟨n, h⟩
  rw [e, plainN_small (by omega)]
noncomputable def runs (F : Nat → Int64) (n : Nat) : Nat → Nat → Nat → List Nat
  | 0, _, _ => []
  | f + 1, s, i => if i < n ∧ F i = F s then runs F n f s (i + 1) else plainB (F s) ++ (plainB (Int32.toInt64 (nI (i - s - 1))) ++ runs F n f i (i + 1))
theorem runs_len (F : Nat → Int64) (n : Nat) (hn : n ≤ 24) : ∀ f s i, s < i → i + f = n + 1 → (runs F n f s i).length ≤ 11 * f
  | 0, _, _, _, _ => Nat.le_refl 0
  | f + 1, s, i, hs, hi => by
    unfold runs
    split
    · have := runs_len F n hn f s (i + 1) (by omega) (by omega)
      omega
    · have h1 := runs_len F n hn f i (i + 1) (by omega) (by omega)
      have h2 := plainB_len (F s)
      rw [small_B (by omega), List.length_append, List.length_append, List.length_singleton]
      omega
theorem runs_congr {F G : Nat → Int64} {n : Nat} (h : ∀ x, x < n → F x = G x) : ∀ f s i, s < i → s < n → i + f = n + 1 → runs F n f s i = runs G n f s i
  | 0, _, _, _, _, _ => rfl
  | f + 1, s, i, hs, hsn, hi => by
    unfold runs
    by_cases c : i < n
    · rw [h s hsn, h i c, runs_congr h f s (i + 1) (by omega) hsn (by omega), runs_congr h f i (i + 1) (by omega) c (by omega)]
    · have hf : f = 0 := by omega
      subst hf
      rw [if_neg (fun q => c q.1), if_neg (fun q => c q.1), h s hsn]
      rfl
theorem runs_b (F : Nat → Int64) (n : Nat) : ∀ f s i, ∀ b ∈ runs F n f s i, b < 256
  | 0, _, _, b, h => by cases h
  | f + 1, s, i, b, h => by
    unfold runs at h
    split at h
    · exact runs_b F n f s (i + 1) b h
    · rcases List.mem_append.mp h with q | q
      · exact plainB_b _ b q
      · rcases List.mem_append.mp q with q | q
        · exact plainB_b _ b q
        · exact runs_b F n f i (i + 1) b q
theorem runC_loop {N l : Nat} {σ : rS} {F : Nat → Int64} {M : Nat → Int32} (hN : 500 ≤ N) (h9 : gN σ 9 0 = 264) (h11 : gN σ 11 0 = 24) (hl : l ≤ 24) : ∀ (f n s i : Nat) (B : List Nat), f < n → s < i → s < l ∨ f = 0 → i + f = l + 1 → B.length + 11 * f ≤ 264 → L5_packRuns_4 N n 0 (nI l) (nI s) (nI i) (pC σ F M B) = some ((), pC σ F M (B ++ runs F l f s i)) := by
  intro f
  induction f with
  | zero =>
    intro n s i B hn hs hs2 hi hB
    obtain ⟨m, rfl⟩ : ∃ m', n = m' + 1 := ⟨n - 1, by omega⟩
    show B5_packRuns_4 N (L5_packRuns_4 N m) 0 (nI l) (nI s) (nI i) _ = _
    unfold B5_packRuns_4
    rw [if_pos (nI_lt (by omega) (by omega))]
    show _ = some ((), pC σ F M (B ++ []))
    rw [List.append_nil]
  | succ f ih =>
    intro n s i B hn hs hs2 hi hB
    obtain ⟨m, rfl⟩ : ∃ m', n = m' + 1 := ⟨n - 1, by omega⟩
    show B5_packRuns_4 N (L5_packRuns_4 N m) 0 (nI l) (nI s) (nI i) _ = _
    have hsl : s < l := by omega
    have e1 : ∀ B, gN (pC σ F M B) 11 0 = 24 := fun _ => h11
    have e2 : ∀ B y, gL (pC σ F M B) 11 0 y = F y := fun _ _ => rfl
    have key : B5_packRuns_33 N (L5_packRuns_4 N m) 0 (nI l) (nI s) (nI i) (pC σ F M B) = some ((), pC σ F M (B ++ (plainB (F s) ++ (plainB (Int32.toInt64 (nI (i - s - 1))) ++ runs F l f i (i + 1))))) := by
      unfold B5_packRuns_33 B5_packRuns_55
      have h2 := plainB_len (F s)
      have h3 := small_B (n := i - s - 1) (by omega)
      have h4 : (plainB (Int32.toInt64 (nI (i - s - 1)))).length = 1 := by rw [h3]; rfl
      have e3 : nI i - nI s - 1 = nI (i - s - 1) := by
        rw [pk_sub (by omega)]
        exact pk_sub (b := 1) (by omega)
      rw [e1, idx_nI _ (by omega) (by omega), e2, packPlain_eq hN h9 _ (by omega), obind_some, e3, packPlain_eq hN h9 _ (by rw [List.length_append]; omega), obind_some, nI_1, ih m i (i + 1) _ (by omega) (by omega) (by omega) (by omega) (by rw [List.length_append, List.length_append]; omega), List.append_assoc, List.append_assoc]
    unfold B5_packRuns_4 B5_packRuns_55
    have er : runs F l (f + 1) s i = if i < l ∧ F i = F s then runs F l f s (i + 1) else plainB (F s) ++ (plainB (Int32.toInt64 (nI (i - s - 1))) ++ runs F l f i (i + 1)) := rfl
    rw [if_neg (nI_nlt (by omega) (by omega)), er]
    by_cases c : i < l
    · rw [if_neg (nI_ge c (by omega)), e1, idx_nI _ (by omega) (by omega), idx_nI _ (by omega) (by omega), e2, e2]
      by_cases c2 : F i = F s
      · rw [if_pos c2, if_pos ⟨c, c2⟩, nI_1, ih m s (i + 1) B (by omega) (by omega) (by omega) (by omega) (by omega)]
      · rw [if_neg c2, if_neg (fun q => c2 q.2), key]
    · rw [if_pos (nI_le (by omega) (by omega)), if_neg (fun q => c q.1), key]
theorem packRuns_eq {N l : Nat} {σ : rS} {F : Nat → Int64} {M : Nat → Int32} (hN : 500 ≤ N) (h9 : gN σ 9 0 = 264) (h11 : gN σ 11 0 = 24) (hl : l ≤ 24) : f5_packRuns N 0 (nI l) (pC σ F M []) = some ((), pC σ F M (runs F l l 0 1)) :=
  runC_loop (N := N) hN h9 h11 hl l N 0 1 [] (by omega) (by omega) (by omega) (by omega) (by simp only [List.length_nil]; omega)
theorem runR_loop {N l : Nat} {τ : rS} {F : Nat → Int64} {M : Nat → Int32} (hN : 500 ≤ N) (h41 : gN τ 41 0 = 600) (h39 : gN τ 39 0 = 24) (hl : l ≤ 24) : ∀ (f n m s i : Nat) (B : List Nat), f < n → f < m → s < i → s < l → i ≤ l → i + f = l + 1 → B.length + 11 * f ≤ 600 → L11_code_22 N (L11_code_12 N m) n 0 (nI s) (nI (i - s)) (pR τ F M (nI l) B) = some ((), pR τ F M (nI l) (B ++ runs F l f s i)) := by
  intro f
  induction f with
  | zero => intro n m s i B hn hm hs hsl hil hi hB; omega
  | succ f ih =>
    intro n m s i B hn hm hs hsl hil hi hB
    obtain ⟨n', rfl⟩ : ∃ m', n = m' + 1 := ⟨n - 1, by omega⟩
    obtain ⟨m', rfl⟩ : ∃ m'', m = m'' + 1 := ⟨m - 1, by omega⟩
    show B11_code_22 N (L11_code_12 N (m' + 1)) (L11_code_22 N (L11_code_12 N (m' + 1)) n') 0 (nI s) (nI (i - s)) _ = _
    have e0 : ∀ B, gI (pR τ F M (nI l) B) 29 0 10 = nI l := fun _ => rfl
    have e1 : ∀ B, gN (pR τ F M (nI l) B) 39 0 = 24 := fun _ => h39
    have e2 : ∀ B y, gL (pR τ F M (nI l) B) 39 0 y = F y := fun _ _ => rfl
    have e4 : s + (i - s) = i := by omega
    have key : B11_code_56 N (L11_code_12 N (m' + 1)) 0 (nI s) (nI (i - s)) (pR τ F M (nI l) B) = some ((), pR τ F M (nI l) (B ++ (plainB (F s) ++ (plainB (Int32.toInt64 (nI (i - s - 1))) ++ runs F l f i (i + 1))))) := by
      unfold B11_code_56
      have h2 := plainB_len (F s)
      have h3 := small_B (n := i - s - 1) (by omega)
      have h4 : (plainB (Int32.toInt64 (nI (i - s - 1)))).length = 1 := by rw [h3]; rfl
      have e3 : nI (i - s) - 1 = nI (i - s - 1) := pk_sub (b := 1) (by omega)
      rw [e1, idx_nI _ (by omega) (by omega), e2, plain_eq hN h41 _ (by omega), obind_some, e3, plain_eq hN h41 _ (by rw [List.length_append]; omega), obind_some, olet_eq, nI_add, e4]
      show B11_code_12 N (L11_code_12 N m') 0 (nI i) _ = _
      unfold B11_code_12
      rw [e0]
      by_cases c : l ≤ i
      · have hf : f = 0 := by omega
        subst hf
        rw [if_pos (nI_le (by omega) (by omega)), List.append_assoc]
        show _ = some ((), pR τ F M (nI l) (B ++ (plainB (F s) ++ (plainB (Int32.toInt64 (nI (i - s - 1))) ++ []))))
        rw [List.append_nil]
      · rw [if_neg (nI_ge (by omega) (by omega))]
        have e5 : i + 1 - i = 1 := by omega
        have := ih N m' i (i + 1) (B ++ plainB (F s) ++ plainB (Int32.toInt64 (nI (i - s - 1)))) (by omega) (by omega) (by omega) (by omega) (by omega) (by omega) (by rw [List.length_append, List.length_append]; omega)
        rw [e5] at this
        have this' : L11_code_22 N (L11_code_12 N m') N 0 (nI i) 1 (pR τ F M (nI l) (B ++ plainB (F s) ++ plainB (Int32.toInt64 (nI (i - s - 1))))) = _ := this
        rw [this', List.append_assoc, List.append_assoc]
    unfold B11_code_22
    have er : runs F l (f + 1) s i = if i < l ∧ F i = F s then runs F l f s (i + 1) else plainB (F s) ++ (plainB (Int32.toInt64 (nI (i - s - 1))) ++ runs F l f i (i + 1)) := rfl
    rw [e0, nI_add, e4, er]
    by_cases c : i < l
    · rw [if_neg (nI_ge c (by omega)), e1, idx_nI _ (by omega) (by omega), idx_nI _ (by omega) (by omega), e2, e2]
      by_cases c2 : F i = F s
      · have e5 : i - s + 1 = i + 1 - s := by omega
        rw [if_pos c2, if_pos ⟨c, c2⟩, nI_1, e5, ih n' (m' + 1) s (i + 1) B (by omega) (by omega) (by omega) (by omega) (by omega) (by omega) (by omega)]
      · rw [if_neg c2, if_neg (fun q => c2 q.2), key]
    · rw [if_pos (nI_le (by omega) (by omega)), if_neg (fun q => c q.1), key]
theorem codeRuns_eq {N l : Nat} {τ : rS} {F : Nat → Int64} {M : Nat → Int32} (hN : 500 ≤ N) (h41 : gN τ 41 0 = 600) (h39 : gN τ 39 0 = 24) (hl : l ≤ 24) : L11_code_12 N N 0 0 (pR τ F M (nI l) []) = some ((), pR τ F M (nI l) (runs F l l 0 1)) := by
  obtain ⟨m, hm⟩ : ∃ m', N = m' + 1 := ⟨N - 1, by omega⟩
  have e0 : gI (pR τ F M (nI l) []) 29 0 10 = nI l := rfl
  have : L11_code_12 N (m + 1) 0 0 (pR τ F M (nI l) []) = some ((), pR τ F M (nI l) (runs F l l 0 1)) := by
    show B11_code_12 N (L11_code_12 N m) 0 (nI 0) _ = _
    unfold B11_code_12
    rw [e0]
    by_cases c : l = 0
    · subst c
      rw [if_pos (nI_le (by omega) (by omega))]
      rfl
    · rw [if_neg (nI_ge (by omega) (by omega))]
      exact runR_loop (N := N) (M := M) hN h41 h39 hl l N m 0 1 [] (by omega) (by omega) (by omega) (by omega) (by omega) (by omega) (by simp only [List.length_nil]; omega)
  rw [← hm] at this
  exact this
