/-! ===== the width, the wide bytes ===== -/
theorem widC_loop {N : Nat} {v : Int64} {σ : rS} : ∀ (k n w : Nat), k < n → 1 ≤ w → w + k = 8 → L5_widthOf_4 N n v (nI (min (wdI v.toInt) w)) (nI w) σ = some (nI (wdI v.toInt), σ) := by
  intro k
  have hr := wdI_rng v.toInt
  induction k with
  | zero =>
    intro n w hn hw hk
    obtain ⟨m, rfl⟩ : ∃ m', n = m' + 1 := ⟨n - 1, by omega⟩
    show B5_widthOf_4 N (L5_widthOf_4 N m) v (nI (min (wdI v.toInt) w)) (nI w) σ = _
    unfold B5_widthOf_4
    have e : w = 8 := by omega
    subst e
    rw [if_pos (show (8 : Int32) ≤ nI 8 by decide), Nat.min_eq_left (by omega)]
  | succ k ih =>
    intro n w hn hw hk
    obtain ⟨m, rfl⟩ : ∃ m', n = m' + 1 := ⟨n - 1, by omega⟩
    show B5_widthOf_4 N (L5_widthOf_4 N m) v (nI (min (wdI v.toInt) w)) (nI w) σ = _
    unfold B5_widthOf_4 B5_widthOf_40
    have ih2 := ih m (w + 1) (by omega) (by omega) (by omega)
    have hc := clsW v w hw (by omega)
    rw [if_neg (show ¬ (8 : Int32) ≤ nI w from nI_ge (b := 8) (by omega) (by omega)), olet_eq, nI_1]
    by_cases c : wdI v.toInt ≤ w
    · have e : min (wdI v.toInt) (w + 1) = min (wdI v.toInt) w := by omega
      rw [e] at ih2
      rcases hc.mpr c with q | q
      · rw [if_pos q, ih2]
      · by_cases q0 : v >>> (Int32.toInt64 ((8 * nI w) - 1) &&& 63) = 0
        · rw [if_pos q0, ih2]
        · rw [if_neg q0, if_pos q, ih2]
    · have e : min (wdI v.toInt) (w + 1) = w + 1 := by omega
      rw [e] at ih2
      rw [if_neg (fun q => c (hc.mp (Or.inl q))), if_neg (fun q => c (hc.mp (Or.inr q))), olet_eq, ih2]
theorem widthOf_eq {N : Nat} (hN : 500 ≤ N) (v : Int64) (σ : rS) : f5_widthOf N v σ = some (nI (wdI v.toInt), σ) := by
  unfold f5_widthOf
  have h := widC_loop (N := N) (v := v) (σ := σ) 7 N 1 (by omega) (by omega) (by omega)
  have hr := wdI_rng v.toInt
  rw [Nat.min_eq_right (by omega)] at h
  exact h
theorem max_eq (a b : Nat) (ha : a < 2 ^ 31) (hb : b < 2 ^ 31) (σ : rS) : fJ_max (nI a) (nI b) σ = some (nI (max a b), σ) := by
  unfold fJ_max
  by_cases h : a < b
  · rw [if_pos (nI_lt h hb), Nat.max_eq_right (by omega)]
  · rw [if_neg (nI_nlt (by omega) ha), Nat.max_eq_left (by omega)]
def wid (F : Nat → Int64) : Nat → Nat
  | 0 => 1
  | i + 1 => max (wid F i) (wdI (F i).toInt)
theorem wid_rng (F : Nat → Int64) : ∀ n, 1 ≤ wid F n ∧ wid F n ≤ 8
  | 0 => by unfold wid; omega
  | n + 1 => by
    have h1 := wid_rng F n
    have h2 := wdI_rng (F n).toInt
    unfold wid
    omega
theorem wid_congr {F G : Nat → Int64} : ∀ n, (∀ x, x < n → F x = G x) → wid F n = wid G n
  | 0, _ => rfl
  | n + 1, h => by
    show max (wid F n) (wdI (F n).toInt) = max (wid G n) (wdI (G n).toInt)
    rw [wid_congr n (fun x hx => h x (by omega)), h n (by omega)]
noncomputable def bk (v : Int64) (k : Nat) : Nat := uN (v >>> (Int32.toInt64 (8 * nI k) &&& 63)) % 256
noncomputable def wb (v : Int64) : Nat → List Nat
  | 0 => []
  | k + 1 => wb v k ++ [bk v k]
theorem wb_len (v : Int64) : ∀ k, (wb v k).length = k
  | 0 => rfl
  | k + 1 => by
    show (wb v k ++ [bk v k]).length = k + 1
    rw [List.length_append, wb_len v k]
    rfl
theorem wb_b (v : Int64) : ∀ k, ∀ b ∈ wb v k, b < 256
  | 0, b, h => by cases h
  | k + 1, b, h => by
    rcases List.mem_append.mp h with q | q
    · exact wb_b v k b q
    · have e : b = bk v k := by simpa using q
      rw [e]
      exact Nat.mod_lt _ (by omega)
noncomputable def wides (F : Nat → Int64) (w : Nat) : Nat → List Nat
  | 0 => []
  | i + 1 => wides F w i ++ wb (F i) w
theorem wides_len (F : Nat → Int64) (w : Nat) : ∀ n, (wides F w n).length = w * n
  | 0 => rfl
  | n + 1 => by
    show (wides F w n ++ wb (F n) w).length = w * (n + 1)
    rw [List.length_append, wides_len F w n, wb_len, Nat.mul_succ]
theorem wides_congr {F G : Nat → Int64} {w : Nat} : ∀ n, (∀ x, x < n → F x = G x) → wides F w n = wides G w n
  | 0, _ => rfl
  | n + 1, h => by
    show wides F w n ++ wb (F n) w = wides G w n ++ wb (G n) w
    rw [wides_congr n (fun x hx => h x (by omega)), h n (by omega)]
theorem wides_b (F : Nat → Int64) (w : Nat) : ∀ n, ∀ b ∈ wides F w n, b < 256
  | 0, b, h => by cases h
  | n + 1, b, h => by
    rcases List.mem_append.mp h with q | q
    · exact wides_b F w n b q
    · exact wb_b _ _ b q
theorem wC_in {N l w i : Nat} {σ : rS} {F : Nat → Int64} {M : Nat → Int32} {B : List Nat} (K : Nat → Int32 → Int32 → Int32 → rS → Option (Unit × rS)) (h9 : gN σ 9 0 = 264) (h11 : gN σ 11 0 = 24) (hi : i < 24) (hw : w ≤ 8) (hB : B.length + w ≤ 264) : ∀ (f n k : Nat), f < n → k + f = w → L5_packWide_45 N K n 0 (nI l) (nI w) (nI i) (nI k) (pC σ F M (B ++ wb (F i) k)) = K 0 (nI l) (nI w) (nI (i + 1)) (pC σ F M (B ++ wb (F i) w)) := by
  intro f
  induction f with
  | zero =>
    intro n k hn hk
    obtain ⟨m, rfl⟩ : ∃ m', n = m' + 1 := ⟨n - 1, by omega⟩
    show B5_packWide_45 N K (L5_packWide_45 N K m) 0 (nI l) (nI w) (nI i) (nI k) _ = _
    unfold B5_packWide_45
    have e : k = w := by omega
    rw [if_pos (nI_le (by omega) (by omega)), nI_1, e]
  | succ f ih =>
    intro n k hn hk
    obtain ⟨m, rfl⟩ : ∃ m', n = m' + 1 := ⟨n - 1, by omega⟩
    show B5_packWide_45 N K (L5_packWide_45 N K m) 0 (nI l) (nI w) (nI i) (nI k) _ = _
    unfold B5_packWide_45
    have e1 : ∀ B, gN (pC σ F M B) 11 0 = 24 := fun _ => h11
    have e2 : ∀ B y, gL (pC σ F M B) 11 0 y = F y := fun _ _ => rfl
    rw [if_neg (nI_ge (by omega) (by omega)), e1, idx_nI _ hi (by omega), e2, packByte_eq _ h9 (by rw [List.length_append, wb_len]; omega), obind_some, nI_1, List.append_assoc]
    exact ih m (k + 1) (by omega) (by omega)
theorem wC_out {N l w : Nat} {σ : rS} {F : Nat → Int64} {M : Nat → Int32} {B : List Nat} (hN : 500 ≤ N) (h9 : gN σ 9 0 = 264) (h11 : gN σ 11 0 = 24) (hl : l ≤ 24) (hw : w ≤ 8) (hB : B.length ≤ 1) : ∀ (f n i : Nat), f < n → i + f = l → L5_packWide_37 N n 0 (nI l) (nI w) (nI i) (pC σ F M (B ++ wides F w i)) = some ((), pC σ F M (B ++ wides F w l)) := by
  intro f
  induction f with
  | zero =>
    intro n i hn hi
    obtain ⟨m, rfl⟩ : ∃ m', n = m' + 1 := ⟨n - 1, by omega⟩
    show B5_packWide_37 N (L5_packWide_37 N m) 0 (nI l) (nI w) (nI i) _ = _
    unfold B5_packWide_37
    have e : i = l := by omega
    rw [if_pos (nI_le (by omega) (by omega)), e]
  | succ f ih =>
    intro n i hn hi
    obtain ⟨m, rfl⟩ : ∃ m', n = m' + 1 := ⟨n - 1, by omega⟩
    show B5_packWide_37 N (L5_packWide_37 N m) 0 (nI l) (nI w) (nI i) _ = _
    unfold B5_packWide_37
    have hm : w * i ≤ 8 * 23 := Nat.mul_le_mul hw (by omega)
    have key := wC_in (N := N) (l := l) (w := w) (i := i) (σ := σ) (F := F) (M := M) (B := B ++ wides F w i) (L5_packWide_37 N m) h9 h11 (by omega) hw (by rw [List.length_append, wides_len]; omega) w N 0 (by omega) (by omega)
    have e0 : B ++ wides F w i ++ wb (F i) 0 = B ++ wides F w i := List.append_nil _
    rw [e0] at key
    rw [if_neg (nI_ge (by omega) (by omega))]
    refine key.trans ?_
    rw [List.append_assoc]
    exact ih m (i + 1) (by omega) (by omega)
theorem packWide_eq {N l : Nat} {σ : rS} {F : Nat → Int64} {M : Nat → Int32} (hN : 500 ≤ N) (h9 : gN σ 9 0 = 264) (h11 : gN σ 11 0 = 24) (hl : l ≤ 24) : f5_packWide N 0 (nI l) (pC σ F M []) = some ((), pC σ F M (wid F l :: wides F (wid F l) l)) := by
  have L : ∀ (f n i : Nat), f < n → i + f = l → L5_packWide_4 N n 0 (nI l) (nI (wid F i)) (nI i) (pC σ F M []) = some ((), pC σ F M (wid F l :: wides F (wid F l) l)) := by
    intro f
    induction f with
    | zero =>
      intro n i hn hi
      obtain ⟨m, rfl⟩ : ∃ m', n = m' + 1 := ⟨n - 1, by omega⟩
      show B5_packWide_4 N (L5_packWide_4 N m) 0 (nI l) (nI (wid F i)) (nI i) _ = _
      unfold B5_packWide_4
      have e : i = l := by omega
      subst e
      have hr := wid_rng F i
      have ew : uN (Int32.toInt64 (nI (wid F i))) % 256 = wid F i := by
        have : ∀ m : Fin 9, uN (Int32.toInt64 (nI m.1)) % 256 = m.1 := by decide
        exact this ⟨wid F i, by omega⟩
      rw [if_pos (nI_le (by omega) (by omega)), packByte_eq _ h9 (by simp only [List.length_nil]; omega), obind_some, ew]
      exact wC_out (N := N) (B := [wid F i]) hN h9 h11 hl (by omega) (Nat.le_refl 1) i N 0 (by omega) (by omega)
    | succ f ih =>
      intro n i hn hi
      obtain ⟨m, rfl⟩ : ∃ m', n = m' + 1 := ⟨n - 1, by omega⟩
      show B5_packWide_4 N (L5_packWide_4 N m) 0 (nI l) (nI (wid F i)) (nI i) _ = _
      unfold B5_packWide_4
      have hr := wid_rng F i
      have hr2 := wdI_rng (F i).toInt
      have e1 : ∀ B, gN (pC σ F M B) 11 0 = 24 := fun _ => h11
      have e2 : ∀ B y, gL (pC σ F M B) 11 0 y = F y := fun _ _ => rfl
      rw [if_neg (nI_ge (by omega) (by omega)), e1, idx_nI _ (by omega) (by omega), e2, widthOf_eq hN, obind_some, max_eq _ _ (by omega) (by omega), obind_some, nI_1]
      exact ih m (i + 1) (by omega) (by omega)
  exact L l N 0 (by omega) (by omega)
theorem wR_in {N l w i : Nat} {τ : rS} {F : Nat → Int64} {M : Nat → Int32} {B : List Nat} (K : Nat → Int32 → Int32 → rS → Option (Unit × rS)) (h41 : gN τ 41 0 = 600) (h39 : gN τ 39 0 = 24) (hi : i < 24) (hw : w ≤ 8) (hB : B.length + w ≤ 600) : ∀ (f n k : Nat), f < n → k + f = w → L11_wide_86 N K n 0 (nI w) (nI i) (nI k) (pR τ F M (nI l) (B ++ wb (F i) k)) = K 0 (nI w) (nI (i + 1)) (pR τ F M (nI l) (B ++ wb (F i) w)) := by
  intro f
  induction f with
  | zero =>
    intro n k hn hk
    obtain ⟨m, rfl⟩ : ∃ m', n = m' + 1 := ⟨n - 1, by omega⟩
    show B11_wide_86 N K (L11_wide_86 N K m) 0 (nI w) (nI i) (nI k) _ = _
    unfold B11_wide_86
    have e : k = w := by omega
    rw [if_pos (nI_le (by omega) (by omega)), nI_1, e]
  | succ f ih =>
    intro n k hn hk
    obtain ⟨m, rfl⟩ : ∃ m', n = m' + 1 := ⟨n - 1, by omega⟩
    show B11_wide_86 N K (L11_wide_86 N K m) 0 (nI w) (nI i) (nI k) _ = _
    unfold B11_wide_86
    have e0 : ∀ B : List Nat, gI (pR τ F M (nI l) B) 29 0 12 = nI B.length := fun _ => rfl
    have e1 : ∀ B, gN (pR τ F M (nI l) B) 39 0 = 24 := fun _ => h39
    have e2 : ∀ B y, gL (pR τ F M (nI l) B) 39 0 y = F y := fun _ _ => rfl
    have e3 : ∀ B, gN (pR τ F M (nI l) B) 41 0 = 600 := fun _ => h41
    have e4 : ∀ (B : List Nat) j x, gI (sI (pR τ F M (nI l) B) 41 0 j x) 29 0 12 = nI B.length := fun _ _ _ => rfl
    have e5 : Int64.toInt32 (F i >>> (Int32.toInt64 (8 * nI k) &&& 63)) &&& 255 = nI (bk (F i) k) := by
      rw [pk_and _ (m := 255) 8 rfl, toI32_nat]
      unfold bk
      congr 1
      omega
    rw [if_neg (nI_ge (by omega) (by omega)), e1, idx_nI _ hi (by omega), e0, e3, idx_nI _ (by rw [List.length_append, wb_len]; omega) (by rw [List.length_append, wb_len]; omega), e2, olet_eq, olet_eq, e4, e5, putR_eq, nI_1, List.append_assoc]
    exact ih m (k + 1) (by omega) (by omega)
theorem wR_out {N l w : Nat} {τ : rS} {F : Nat → Int64} {M : Nat → Int32} {B : List Nat} (hN : 500 ≤ N) (h41 : gN τ 41 0 = 600) (h39 : gN τ 39 0 = 24) (hl : l ≤ 24) (hw : w ≤ 8) (hB : B.length ≤ 1) : ∀ (f n i : Nat), f < n → i + f = l → L11_wide_76 N n 0 (nI w) (nI i) (pR τ F M (nI l) (B ++ wides F w i)) = some ((), pR τ F M (nI l) (B ++ wides F w l)) := by
  intro f
  induction f with
  | zero =>
    intro n i hn hi
    obtain ⟨m, rfl⟩ : ∃ m', n = m' + 1 := ⟨n - 1, by omega⟩
    show B11_wide_76 N (L11_wide_76 N m) 0 (nI w) (nI i) _ = _
    unfold B11_wide_76
    have e : i = l := by omega
    have e0 : ∀ B : List Nat, gI (pR τ F M (nI l) B) 29 0 10 = nI l := fun _ => rfl
    rw [e0, if_pos (nI_le (by omega) (by omega)), e]
  | succ f ih =>
    intro n i hn hi
    obtain ⟨m, rfl⟩ : ∃ m', n = m' + 1 := ⟨n - 1, by omega⟩
    show B11_wide_76 N (L11_wide_76 N m) 0 (nI w) (nI i) _ = _
    unfold B11_wide_76
    have e0 : ∀ B : List Nat, gI (pR τ F M (nI l) B) 29 0 10 = nI l := fun _ => rfl
    have hm : w * i ≤ 8 * 23 := Nat.mul_le_mul hw (by omega)
    have key := wR_in (N := N) (l := l) (w := w) (i := i) (τ := τ) (F := F) (M := M) (B := B ++ wides F w i) (L11_wide_76 N m) h41 h39 (by omega) hw (by rw [List.length_append, wides_len]; omega) w N 0 (by omega) (by omega)
    have e1 : B ++ wides F w i ++ wb (F i) 0 = B ++ wides F w i := List.append_nil _
    rw [e1] at key
    rw [e0, if_neg (nI_ge (by omega) (by omega))]
    refine key.trans ?_
    rw [List.append_assoc]
    exact ih m (i + 1) (by omega) (by omega)
theorem wR_w {N l i : Nat} {τ : rS} {F : Nat → Int64} {M : Nat → Int32} (K : Nat → Int32 → Int32 → rS → Option (Unit × rS)) (h39 : gN τ 39 0 = 24) (hi : i < 24) : ∀ (f n w : Nat), f < n → 1 ≤ w → w + f = 8 → L11_wide_12 N K n 0 (nI w) (nI i) (pR τ F M (nI l) []) = K 0 (nI (max w (wdI (F i).toInt))) (nI (i + 1)) (pR τ F M (nI l) []) := by
  intro f
  have hr := wdI_rng (F i).toInt
  induction f with
  | zero =>
    intro n w hn hw hk
    obtain ⟨m, rfl⟩ : ∃ m', n = m' + 1 := ⟨n - 1, by omega⟩
    show B11_wide_12 N K (L11_wide_12 N K m) 0 (nI w) (nI i) _ = _
    unfold B11_wide_12 B11_wide_56
    have e : w = 8 := by omega
    subst e
    rw [if_pos (show (8 : Int32) ≤ nI 8 by decide), nI_1, Nat.max_eq_left (by omega)]
  | succ f ih =>
    intro n w hn hw hk
    obtain ⟨m, rfl⟩ : ∃ m', n = m' + 1 := ⟨n - 1, by omega⟩
    show B11_wide_12 N K (L11_wide_12 N K m) 0 (nI w) (nI i) _ = _
    unfold B11_wide_12 B11_wide_56
    have e1 : ∀ B, gN (pR τ F M (nI l) B) 39 0 = 24 := fun _ => h39
    have e2 : ∀ B y, gL (pR τ F M (nI l) B) 39 0 y = F y := fun _ _ => rfl
    have hc := refW (F i) w hw (by omega)
    rw [if_neg (show ¬ (8 : Int32) ≤ nI w from nI_ge (b := 8) (by omega) (by omega)), e1, idx_nI _ hi (by omega), idx_nI _ hi (by omega), e2]
    by_cases c : wdI (F i).toInt ≤ w
    · rw [if_pos (hc.mpr c), nI_1, Nat.max_eq_left c]
    · rw [if_neg (fun q => c (hc.mp q)), nI_1, ih m (w + 1) (by omega) (by omega) (by omega)]
      have e : max (w + 1) (wdI (F i).toInt) = max w (wdI (F i).toInt) := by omega
      rw [e]
theorem wide_eq {N l : Nat} {τ : rS} {F : Nat → Int64} {M : Nat → Int32} (hN : 500 ≤ N) (h41 : gN τ 41 0 = 600) (h39 : gN τ 39 0 = 24) (hl : l ≤ 24) : f11_wide N 0 (pR τ F M (nI l) []) = some ((), pR τ F M (nI l) (wid F l :: wides F (wid F l) l)) := by
  have e0 : ∀ B : List Nat, gI (pR τ F M (nI l) B) 29 0 10 = nI l := fun _ => rfl
  have L : ∀ (f n i : Nat), f < n → i + f = l → L11_wide_4 N n 0 (nI (wid F i)) (nI i) (pR τ F M (nI l) []) = some ((), pR τ F M (nI l) (wid F l :: wides F (wid F l) l)) := by
    intro f
    induction f with
    | zero =>
      intro n i hn hi
      obtain ⟨m, rfl⟩ : ∃ m', n = m' + 1 := ⟨n - 1, by omega⟩
      show B11_wide_4 N (L11_wide_4 N m) 0 (nI (wid F i)) (nI i) _ = _
      unfold B11_wide_4
      have e : i = l := by omega
      subst e
      have hr := wid_rng F i
      have e3 : gN (pR τ F M (nI i) []) 41 0 = 600 := h41
      have e4 : (0 : Int32) = nI 0 := rfl
      have e5 : (1 : Int32) = nI ([] : List Nat).length + 1 := by decide
      rw [e0, if_pos (nI_le (by omega) (by omega)), e3, e4, idx_nI _ (by omega) (by omega), olet_eq, olet_eq, e5]
      have e6 := putR_eq (τ := τ) (V := F) (M := M) (c := nI i) (B := []) (wid F i)
      have e6' : sI (sI (pR τ F M (nI i) []) 41 0 0 (nI (wid F i))) 29 0 12 (nI ([] : List Nat).length + 1) = _ := e6
      rw [e6']
      exact wR_out (N := N) (B := [wid F i]) hN h41 h39 hl (by omega) (Nat.le_refl 1) i N 0 (by omega) (by omega)
    | succ f ih =>
      intro n i hn hi
      obtain ⟨m, rfl⟩ : ∃ m', n = m' + 1 := ⟨n - 1, by omega⟩
      show B11_wide_4 N (L11_wide_4 N m) 0 (nI (wid F i)) (nI i) _ = _
      unfold B11_wide_4
      have hr := wid_rng F i
      rw [e0, if_neg (nI_ge (by omega) (by omega)), wR_w (N := N) (L11_wide_4 N m) h39 (by omega) (8 - wid F i) N (wid F i) (by omega) (by omega) (by omega)]
      exact ih m (i + 1) (by omega) (by omega)
  exact L l N 0 (by omega) (by omega)
