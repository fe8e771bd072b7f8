/-! ===== opening: wide numbers ===== -/
noncomputable def wacc (D : Nat → Nat) (b : Nat) : Nat → Int64
  | 0 => 0
  | k + 1 => wacc D b k ||| ((Int32.toInt64 (nI (D (b + k)))) <<< (Int32.toInt64 (8 * nI k) &&& 63))
noncomputable def sx (w : Nat) (v : Int64) : Int64 := (v <<< (Int32.toInt64 (64 - (8 * nI w)) &&& 63)) >>> (Int32.toInt64 (64 - (8 * nI w)) &&& 63)
theorem sx_wd (w : Nat) (v : Int64) (h1 : 1 ≤ w) (h8 : w ≤ 8) : wdI (sx w v).toInt ≤ w := by
  have hv := uN_lt v
  have hw : w = 1 ∨ w = 2 ∨ w = 3 ∨ w = 4 ∨ w = 5 ∨ w = 6 ∨ w = 7 ∨ w = 8 := by omega
  unfold sx
  rcases hw with rfl | rfl | rfl | rfl | rfl | rfl | rfl | rfl
  · rw [refW_h v _ 56 (by decide)]; unfold wdI; repeat' split
    all_goals omega
  · rw [refW_h v _ 48 (by decide)]; unfold wdI; repeat' split
    all_goals omega
  · rw [refW_h v _ 40 (by decide)]; unfold wdI; repeat' split
    all_goals omega
  · rw [refW_h v _ 32 (by decide)]; unfold wdI; repeat' split
    all_goals omega
  · rw [refW_h v _ 24 (by decide)]; unfold wdI; repeat' split
    all_goals omega
  · rw [refW_h v _ 16 (by decide)]; unfold wdI; repeat' split
    all_goals omega
  · rw [refW_h v _ 8 (by decide)]; unfold wdI; repeat' split
    all_goals omega
  · exact (wdI_rng _).2
theorem dif_sm {O : Nat → Int64} {l : Nat} : ∀ x, x < l → dif (sm O l) l x = O x := by
  intro x hx
  unfold dif sm
  cases x with
  | zero =>
    rw [if_neg (by omega), if_pos hx]
    rfl
  | succ x =>
    rw [if_pos ⟨by omega, hx⟩, if_pos hx, if_pos (show x + 1 - 1 < l by omega)]
    show O (x + 1) + ps O x - ps O x = O (x + 1)
    rw [Int64.add_sub_cancel]
section OW
variable {N : Nat} {σ τ : rS} {s z un l w : Nat} {D : Nat → Nat}
theorem wO_in {b i : Nat} {O : Nat → Int64} {v1 a : Int32} (K : Nat → Int32 → Int32 → Int32 → rS → Option (Unit × rS)) (hS : SB σ τ s z D) (h4 : gR σ 8 0 4 = some s) (hu : un ≤ z) (hi : i < 24) (hw : w ≤ 8) (hb : b + w ≤ un) : ∀ (f n k : Nat), f < n → k + f = w → L5_openWide_35 N K n 0 v1 (nI w) (nI i) (wacc D b k) (nI k) (uC σ O (nI (b + k)) (nI un) a) = K 0 v1 (nI w) (nI (i + 1)) (uC σ (up O i (sx w (wacc D b w))) (nI (b + w)) (nI un) a) := by
  intro f
  have hz4 := hS.2.1
  induction f with
  | zero =>
    intro n k hn hk
    obtain ⟨m, rfl⟩ : ∃ m', n = m' + 1 := ⟨n - 1, by omega⟩
    show B5_openWide_35 N K (L5_openWide_35 N K m) 0 v1 (nI w) (nI i) (wacc D b k) (nI k) _ = _
    unfold B5_openWide_35
    have e : k = w := by omega
    subst e
    have e2 : ∀ O fr, gN (uC σ O fr (nI un) a) 10 0 = 24 := fun _ _ => hS.2.2.2.2.2.2.1
    rw [if_pos (nI_le (by omega) (by omega)), olet_eq, e2, idx_nI _ hi (by omega), olet_eq, uC_O, nI_1]
    rfl
  | succ f ih =>
    intro n k hn hk
    obtain ⟨m, rfl⟩ : ∃ m', n = m' + 1 := ⟨n - 1, by omega⟩
    show B5_openWide_35 N K (L5_openWide_35 N K m) 0 v1 (nI w) (nI i) (wacc D b k) (nI k) _ = _
    unfold B5_openWide_35
    rw [if_neg (nI_ge (by omega) (by omega)), openByte_in hS h4 hu (by omega), obind_some, olet_eq, nI_1]
    exact ih m (k + 1) (by omega) (by omega)
theorem wO_any {i : Nat} {v1 : Int32} (K : Nat → Int32 → Int32 → Int32 → rS → Option (Unit × rS)) (hS : SB σ τ s z D) (h4 : gR σ 8 0 4 = some s) (hu : un ≤ z) (hi : i < 24) (hw : w ≤ 8) : ∀ (f n k fr : Nat) (v : Int64) (O : Nat → Int64) (a : Int32), f < n → k + f = w → fr ≤ un → a = 0 ∨ a = 1 → ∃ O' fr' a', fr' ≤ un ∧ (a' = 1 ∨ (a' = 0 ∧ a = 0 ∧ fr' = fr + f)) ∧ L5_openWide_35 N K n 0 v1 (nI w) (nI i) v (nI k) (uC σ O (nI fr) (nI un) a) = K 0 v1 (nI w) (nI (i + 1)) (uC σ O' (nI fr') (nI un) a') := by
  intro f
  have hz4 := hS.2.1
  induction f with
  | zero =>
    intro n k fr v O a hn hk hf ha
    obtain ⟨m, rfl⟩ : ∃ m', n = m' + 1 := ⟨n - 1, by omega⟩
    refine ⟨up O i (sx w v), fr, a, hf, ?_, ?_⟩
    · rcases ha with rfl | rfl
      · exact Or.inr ⟨rfl, rfl, rfl⟩
      · exact Or.inl rfl
    show B5_openWide_35 N K (L5_openWide_35 N K m) 0 v1 (nI w) (nI i) v (nI k) _ = _
    unfold B5_openWide_35
    have e : k = w := by omega
    subst e
    have e2 : ∀ O fr, gN (uC σ O fr (nI un) a) 10 0 = 24 := fun _ _ => hS.2.2.2.2.2.2.1
    rw [if_pos (nI_le (by omega) (by omega)), olet_eq, e2, idx_nI _ hi (by omega), olet_eq, uC_O, nI_1]
    rfl
  | succ f ih =>
    intro n k fr v O a hn hk hf ha
    obtain ⟨m, rfl⟩ : ∃ m', n = m' + 1 := ⟨n - 1, by omega⟩
    by_cases c : fr < un
    · obtain ⟨O', fr', a', g1, g2, g3⟩ := ih m (k + 1) (fr + 1) (v ||| ((Int32.toInt64 (nI (D fr))) <<< (Int32.toInt64 (8 * nI k) &&& 63))) O a (by omega) (by omega) (by omega) ha
      refine ⟨O', fr', a', g1, ?_, ?_⟩
      · rcases g2 with q | ⟨q1, q2, q3⟩
        · exact Or.inl q
        · exact Or.inr ⟨q1, q2, by omega⟩
      · show B5_openWide_35 N K (L5_openWide_35 N K m) 0 v1 (nI w) (nI i) v (nI k) _ = _
        unfold B5_openWide_35
        rw [if_neg (nI_ge (by omega) (by omega)), openByte_in hS h4 hu c, obind_some, olet_eq, nI_1]
        exact g3
    · obtain ⟨O', fr', a', g1, g2, g3⟩ := ih m (k + 1) fr (v ||| ((Int32.toInt64 0) <<< (Int32.toInt64 (8 * nI k) &&& 63))) O 1 (by omega) (by omega) hf (Or.inr rfl)
      refine ⟨O', fr', a', g1, ?_, ?_⟩
      · rcases g2 with q | ⟨q1, q2, q3⟩
        · exact Or.inl q
        · exact absurd q2 (by decide)
      · show B5_openWide_35 N K (L5_openWide_35 N K m) 0 v1 (nI w) (nI i) v (nI k) _ = _
        unfold B5_openWide_35
        rw [if_neg (nI_ge (by omega) (by omega)), openByte_out (by omega) (by omega), obind_some, olet_eq, nI_1]
        exact g3
theorem wO_out {b0 : Nat} {a : Int32} (hN : 500 ≤ N) (hS : SB σ τ s z D) (h4 : gR σ 8 0 4 = some s) (hu : un ≤ z) (hl : l ≤ 24) (hw : w ≤ 8) (hb : b0 + l * w ≤ un) : ∀ (f n i : Nat) (O : Nat → Int64), f < n → i + f = l → (∀ x, x < i → O x = sx w (wacc D (b0 + x * w) w)) → ∃ O', (∀ x, x < l → O' x = sx w (wacc D (b0 + x * w) w)) ∧ L5_openWide_24 N n 0 (nI l) (nI w) (nI i) (uC σ O (nI (b0 + i * w)) (nI un) a) = some ((), uC σ O' (nI (b0 + l * w)) (nI un) a) := by
  intro f
  induction f with
  | zero =>
    intro n i O hn hi hO
    obtain ⟨m, rfl⟩ : ∃ m', n = m' + 1 := ⟨n - 1, by omega⟩
    have e : i = l := by omega
    subst e
    refine ⟨O, hO, ?_⟩
    show B5_openWide_24 N (L5_openWide_24 N m) 0 (nI i) (nI w) (nI i) _ = _
    unfold B5_openWide_24
    rw [if_pos (nI_le (by omega) (by omega))]
  | succ f ih =>
    intro n i O hn hi hO
    obtain ⟨m, rfl⟩ : ∃ m', n = m' + 1 := ⟨n - 1, by omega⟩
    have e3 : b0 + i * w + w = b0 + (i + 1) * w := by rw [Nat.succ_mul]; omega
    have e4 : (i + 1) * w ≤ l * w := Nat.mul_le_mul_right w (by omega)
    obtain ⟨O', g1, g2⟩ := ih m (i + 1) (up O i (sx w (wacc D (b0 + i * w) w))) (by omega) (by omega) (fun x hx => by
      unfold up
      by_cases c : x = i
      · rw [if_pos c, c]
      · rw [if_neg c, hO x (by omega)])
    refine ⟨O', g1, ?_⟩
    show B5_openWide_24 N (L5_openWide_24 N m) 0 (nI l) (nI w) (nI i) _ = _
    unfold B5_openWide_24
    rw [if_neg (nI_ge (by omega) (by omega))]
    have key := wO_in (N := N) (b := b0 + i * w) (i := i) (O := O) (v1 := nI l) (a := a) (L5_openWide_24 N m) hS h4 hu (by omega) hw (by omega) w N 0 (by omega) (by omega)
    rw [e3] at key
    exact key.trans g2
theorem wO_outA (hN : 500 ≤ N) (hS : SB σ τ s z D) (h4 : gR σ 8 0 4 = some s) (hu : un ≤ z) (hl : l ≤ 24) (hw : w ≤ 8) : ∀ (f n i fr : Nat) (O : Nat → Int64) (a : Int32), f < n → i + f = l → fr ≤ un → a = 0 ∨ a = 1 → ∃ O' fr' a', (a' = 1 ∨ (a' = 0 ∧ a = 0 ∧ fr + f * w ≤ un)) ∧ L5_openWide_24 N n 0 (nI l) (nI w) (nI i) (uC σ O (nI fr) (nI un) a) = some ((), uC σ O' fr' (nI un) a') := by
  intro f
  induction f with
  | zero =>
    intro n i fr O a hn hi hf ha
    obtain ⟨m, rfl⟩ : ∃ m', n = m' + 1 := ⟨n - 1, by omega⟩
    refine ⟨O, nI fr, a, ?_, ?_⟩
    · rcases ha with rfl | rfl
      · exact Or.inr ⟨rfl, rfl, by omega⟩
      · exact Or.inl rfl
    show B5_openWide_24 N (L5_openWide_24 N m) 0 (nI l) (nI w) (nI i) _ = _
    unfold B5_openWide_24
    rw [if_pos (nI_le (by omega) (by omega))]
  | succ f ih =>
    intro n i fr O a hn hi hf ha
    obtain ⟨m, rfl⟩ : ∃ m', n = m' + 1 := ⟨n - 1, by omega⟩
    obtain ⟨O1, fr1, a1, g1, g2, g3⟩ := wO_any (N := N) (i := i) (v1 := nI l) (L5_openWide_24 N m) hS h4 hu (by omega) hw w N 0 fr 0 O a (by omega) (by omega) hf ha
    obtain ⟨O2, fr2, a2, k1, k2⟩ := ih m (i + 1) fr1 O1 a1 (by omega) (by omega) g1 (by rcases g2 with q | ⟨q, -, -⟩; exact Or.inr q; exact Or.inl q)
    refine ⟨O2, fr2, a2, ?_, ?_⟩
    · rcases k1 with q | ⟨q1, q2, q3⟩
      · exact Or.inl q
      · rcases g2 with p | ⟨p1, p2, p3⟩
        · rw [p] at q2; exact absurd q2 (by decide)
        · refine Or.inr ⟨q1, p2, ?_⟩
          rw [Nat.succ_mul]
          omega
    · show B5_openWide_24 N (L5_openWide_24 N m) 0 (nI l) (nI w) (nI i) _ = _
      unfold B5_openWide_24
      rw [if_neg (nI_ge (by omega) (by omega))]
      exact g3.trans k2
theorem wT_in {b i : Nat} {V : Nat → Int64} {v2 v3 : Int32} {tk : Int64} (K : Nat → Int32 → Int32 → Int32 → Int32 → rS → Option (Bool × rS)) (hS : SB σ τ s z D) (hu : un ≤ z) (hi : i < 24) (hw : w ≤ 8) (hb : b + w ≤ un) : ∀ (f n k : Nat), f < n → k + f = w → L11_decode_99 N K n 0 (nI s) v2 v3 (nI w) (wacc D b k) (nI k) (uR τ V (nI i) (nI (b + k)) (nI un) tk) = K 0 (nI s) v2 v3 (nI w) (uR τ (up V i (sx w (wacc D b w))) (nI (i + 1)) (nI (b + w)) (nI un) tk) := by
  intro f
  have hz4 := hS.2.1
  have hs24 := hS.1
  induction f with
  | zero =>
    intro n k hn hk
    obtain ⟨m, rfl⟩ : ∃ m', n = m' + 1 := ⟨n - 1, by omega⟩
    show B11_decode_99 N K (L11_decode_99 N K m) 0 (nI s) v2 v3 (nI w) (wacc D b k) (nI k) _ = _
    unfold B11_decode_99
    have e : k = w := by omega
    subst e
    have e1 : ∀ V c fr, gI (uR τ V c fr (nI un) tk) 29 0 10 = c := fun _ _ _ => rfl
    have e2 : ∀ V c fr, gN (uR τ V c fr (nI un) tk) 39 0 = 24 := fun _ _ _ => hS.2.2.2.2.2.1
    rw [if_pos (nI_le (by omega) (by omega)), e1, e2, idx_nI _ hi (by omega), olet_eq, uR_V, olet_eq, e1, uR_c, nI_1]
    rfl
  | succ f ih =>
    intro n k hn hk
    obtain ⟨m, rfl⟩ : ∃ m', n = m' + 1 := ⟨n - 1, by omega⟩
    show B11_decode_99 N K (L11_decode_99 N K m) 0 (nI s) v2 v3 (nI w) (wacc D b k) (nI k) _ = _
    unfold B11_decode_99
    have r1 : ∀ x, gI (uR τ V (nI i) x (nI un) tk) 29 0 18 = x := fun _ => rfl
    have r3 : ∀ x j, gI (uR τ V (nI i) x (nI un) tk) 44 0 j = gI τ 44 0 j := fun _ _ => rfl
    have h44 : ∀ x, gN (uR τ V (nI i) x (nI un) tk) 44 0 = 9600 := fun _ => hS.2.2.2.2.1
    rw [if_neg (nI_ge (by omega) (by omega)), r1, h44, ix44, idx_nI _ (by omega) (by omega), olet_eq, olet_eq, r3, (hS.2.2.2.2.2.2.2 (b + k) (by omega)).2.2, nI_1, nI_1, uR_fr]
    exact ih m (k + 1) (by omega) (by omega)
theorem wT_out {b0 : Nat} {v2 : Int32} {tk : Int64} (hN : 500 ≤ N) (hS : SB σ τ s z D) (hu : un ≤ z) (hl : l ≤ 24) (hw : w ≤ 8) (hb : b0 + l * w ≤ un) : ∀ (f n i : Nat) (V : Nat → Int64), f < n → i + f = l → (∀ x, x < i → V x = sx w (wacc D (b0 + x * w) w)) → ∃ V', (∀ x, x < l → V' x = sx w (wacc D (b0 + x * w) w)) ∧ L11_decode_85 N n 0 (nI s) v2 (nI l) (nI w) (uR τ V (nI i) (nI (b0 + i * w)) (nI un) tk) = B11_decode_191 N (fun _ _ _ _ _ => none) 0 (nI s) v2 (nI l) (uR τ V' (nI l) (nI (b0 + l * w)) (nI un) tk) := by
  intro f
  have e1 : ∀ V c fr, gI (uR τ V c fr (nI un) tk) 29 0 10 = c := fun _ _ _ => rfl
  induction f with
  | zero =>
    intro n i V hn hi hV
    obtain ⟨m, rfl⟩ : ∃ m', n = m' + 1 := ⟨n - 1, by omega⟩
    have e : i = l := by omega
    subst e
    refine ⟨V, hV, ?_⟩
    show B11_decode_85 N (L11_decode_85 N m) 0 (nI s) v2 (nI i) (nI w) _ = _
    unfold B11_decode_85
    rw [e1, if_pos (nI_le (by omega) (by omega))]
    obtain ⟨m', hm'⟩ : ∃ m', N = m' + 1 := ⟨N - 1, by omega⟩
    have : L11_decode_191 N (m' + 1) 0 (nI s) v2 (nI i) (uR τ V (nI i) (nI (b0 + i * w)) (nI un) tk) = B11_decode_191 N (fun _ _ _ _ _ => none) 0 (nI s) v2 (nI i) (uR τ V (nI i) (nI (b0 + i * w)) (nI un) tk) := by
      show B11_decode_191 N (L11_decode_191 N m') 0 (nI s) v2 (nI i) _ = _
      unfold B11_decode_191
      rw [e1, if_pos (nI_le (by omega) (by omega)), if_pos (nI_le (by omega) (by omega))]
    rw [← hm'] at this
    exact this
  | succ f ih =>
    intro n i V hn hi hV
    obtain ⟨m, rfl⟩ : ∃ m', n = m' + 1 := ⟨n - 1, by omega⟩
    have e3 : b0 + i * w + w = b0 + (i + 1) * w := by rw [Nat.succ_mul]; omega
    have e4 : (i + 1) * w ≤ l * w := Nat.mul_le_mul_right w (by omega)
    obtain ⟨V', g1, g2⟩ := ih m (i + 1) (up V i (sx w (wacc D (b0 + i * w) w))) (by omega) (by omega) (fun x hx => by
      unfold up
      by_cases c : x = i
      · rw [if_pos c, c]
      · rw [if_neg c, hV x (by omega)])
    refine ⟨V', g1, ?_⟩
    show B11_decode_85 N (L11_decode_85 N m) 0 (nI s) v2 (nI l) (nI w) _ = _
    unfold B11_decode_85
    rw [e1, if_neg (nI_ge (by omega) (by omega))]
    have key := wT_in (N := N) (b := b0 + i * w) (i := i) (V := V) (v2 := v2) (v3 := nI l) (tk := tk) (L11_decode_85 N m) hS hu (by omega) hw (by omega) w N 0 (by omega) (by omega)
    rw [e3] at key
    exact key.trans g2
end OW
