/-! ===== opening: the numbers of a piece ===== -/
theorem f265 {N i0 m : Nat} {τ : rS} {v : Int64} {v1 v2 v3 fr un : Int32} {tk : Int64} (K : Nat → Int32 → Int32 → Int32 → rS → Option (Bool × rS)) (h39 : gN τ 39 0 = 24) (hm : i0 + m ≤ 24) : ∀ (f n j : Nat) (V : Nat → Int64), f < n → j + f = m → L11_decode_265 N K n 0 v1 v2 v3 v (nI m) (nI j) (uR τ V (nI (i0 + j)) fr un tk) = K 0 v1 v2 v3 (uR τ (fun x => if i0 + j ≤ x ∧ x < i0 + m then v else V x) (nI (i0 + m)) fr un tk) := by
  intro f
  induction f with
  | zero =>
    intro n j V hn hj
    obtain ⟨m', rfl⟩ : ∃ m', n = m' + 1 := ⟨n - 1, by omega⟩
    show B11_decode_265 N K (L11_decode_265 N K m') 0 v1 v2 v3 v (nI m) (nI j) _ = _
    unfold B11_decode_265
    have e : j = m := by omega
    subst e
    rw [if_pos (nI_le (by omega) (by omega))]
    congr 2
    funext x
    rw [if_neg (by omega)]
  | succ f ih =>
    intro n j V hn hj
    obtain ⟨m', rfl⟩ : ∃ m', n = m' + 1 := ⟨n - 1, by omega⟩
    show B11_decode_265 N K (L11_decode_265 N K m') 0 v1 v2 v3 v (nI m) (nI j) _ = _
    unfold B11_decode_265
    have e1 : ∀ V c, gI (uR τ V c fr un tk) 29 0 10 = c := fun _ _ => rfl
    have e2 : ∀ V c, gN (uR τ V c fr un tk) 39 0 = 24 := fun _ _ => h39
    rw [if_neg (nI_ge (by omega) (by omega)), e1, e2, idx_nI _ (by omega) (by omega), olet_eq, uR_V, olet_eq, e1, uR_c, nI_1, nI_1]
    have := ih m' (j + 1) (up V (i0 + j) v) (by omega) (by omega)
    refine this.trans ?_
    congr 2
    funext x
    unfold up
    by_cases c : x = i0 + j
    · subst c
      rw [if_neg (by omega), if_pos rfl, if_pos (by omega)]
    · by_cases c2 : i0 + j ≤ x ∧ x < i0 + m
      · rw [if_pos c2, if_pos (by omega)]
      · rw [if_neg c2, if_neg (by omega), if_neg c]
theorem fill262 {N i0 m : Nat} {τ : rS} {v : Int64} {v1 v2 v3 fr un : Int32} {tk : Int64} {V : Nat → Int64} (K : Nat → Int32 → Int32 → Int32 → rS → Option (Bool × rS)) (hN : 500 ≤ N) (h39 : gN τ 39 0 = 24) (hm : i0 + m ≤ 24) : B11_decode_262 N K 0 v1 v2 v3 v (nI m) (uR τ V (nI i0) fr un tk) = K 0 v1 v2 v3 (uR τ (fun x => if i0 ≤ x ∧ x < i0 + m then v else V x) (nI (i0 + m)) fr un tk) := by
  unfold B11_decode_262
  exact f265 (N := N) (i0 := i0) (m := m) K h39 hm m N 0 V (by omega) (by omega)
theorem f55 {N e l : Nat} {σ : rS} {v : Int64} {fr un a : Int32} (K : Nat → Int32 → Int32 → rS → Option (Unit × rS)) (h10 : gN σ 10 0 = 24) (he : e < 24) : ∀ (f n i : Nat) (O : Nat → Int64), f < n → i + f = e + 1 → L5_openRuns_55 N K n 0 (nI l) (nI i) v (nI e) (uC σ O fr un a) = K 0 (nI l) (nI (e + 1)) (uC σ (fun x => if i ≤ x ∧ x ≤ e then v else O x) fr un a) := by
  intro f
  induction f with
  | zero =>
    intro n i O hn hi
    obtain ⟨m', rfl⟩ : ∃ m', n = m' + 1 := ⟨n - 1, by omega⟩
    show B5_openRuns_55 N K (L5_openRuns_55 N K m') 0 (nI l) (nI i) v (nI e) _ = _
    unfold B5_openRuns_55
    have e1 : i = e + 1 := by omega
    subst e1
    rw [if_pos (nI_lt (by omega) (by omega))]
    congr 2
    funext x
    rw [if_neg (by omega)]
  | succ f ih =>
    intro n i O hn hi
    obtain ⟨m', rfl⟩ : ∃ m', n = m' + 1 := ⟨n - 1, by omega⟩
    show B5_openRuns_55 N K (L5_openRuns_55 N K m') 0 (nI l) (nI i) v (nI e) _ = _
    unfold B5_openRuns_55
    have e2 : ∀ O, gN (uC σ O fr un a) 10 0 = 24 := fun _ => h10
    rw [if_neg (nI_nlt (by omega) (by omega)), e2, idx_nI _ (by omega) (by omega), olet_eq, uC_O, nI_1]
    refine (ih m' (i + 1) (up O i v) (by omega) (by omega)).trans ?_
    congr 2
    funext x
    unfold up
    by_cases c : x = i
    · subst c
      rw [if_neg (by omega), if_pos rfl, if_pos (by omega)]
    · by_cases c2 : i ≤ x ∧ x ≤ e
      · rw [if_pos c2, if_pos (by omega)]
      · rw [if_neg c2, if_neg (by omega), if_neg c]
section OP
variable {N : Nat} {σ τ : rS} {s z un l : Nat} {D : Nat → Nat}
theorem dA_loop {v1 v2 v5 v6 : Int32} (hN : 500 ≤ N) (hS : SB σ τ s z D) (h4 : gR σ 8 0 4 = some s) (hu : un ≤ z) (hl : l ≤ 24) : ∀ (f n i fr : Nat) (O : Nat → Int64), f < n → i + f = l → fr ≤ un → ∃ O' fr', L5_unpack_71 N n 0 v1 v2 (nI l) v5 v6 (nI i) (uC σ O (nI fr) (nI un) 1) = B5_unpack_94 N 0 v1 v2 (nI l) v5 v6 (uC σ O' fr' (nI un) 1) := by
  intro f
  induction f with
  | zero =>
    intro n i fr O hn hi hf
    obtain ⟨m', rfl⟩ : ∃ m', n = m' + 1 := ⟨n - 1, by omega⟩
    refine ⟨O, nI fr, ?_⟩
    show B5_unpack_71 N (L5_unpack_71 N m') 0 v1 v2 (nI l) v5 v6 (nI i) _ = _
    unfold B5_unpack_71
    rw [if_pos (nI_le (by omega) (by omega))]
  | succ f ih =>
    intro n i fr O hn hi hf
    obtain ⟨m', rfl⟩ : ∃ m', n = m' + 1 := ⟨n - 1, by omega⟩
    obtain ⟨v, fr', g1, g2⟩ := openA (O := O) hN hS h4 hu hf
    obtain ⟨O', fr2, g3⟩ := ih m' (i + 1) fr' (up O i v) (by omega) (by omega) g1
    refine ⟨O', fr2, ?_⟩
    show B5_unpack_71 N (L5_unpack_71 N m') 0 v1 v2 (nI l) v5 v6 (nI i) _ = _
    unfold B5_unpack_71
    have e2 : ∀ O fr, gN (uC σ O fr (nI un) 1) 10 0 = 24 := fun _ _ => hS.2.2.2.2.2.2.1
    rw [if_neg (nI_ge (by omega) (by omega)), g2, obind_some, e2, idx_nI _ (by omega) (by omega), olet_eq, uC_O, nI_1]
    exact g3
theorem dP_loop {v1 v2 v5 v6 w2 : Int32} (hN : 500 ≤ N) (hS : SB σ τ s z D) (h4 : gR σ 8 0 4 = some s) (hu : un ≤ z) (hl : l ≤ 24) (hw : ¬ w2 = 3) : ∀ (f n n' i fr : Nat) (O V : Nat → Int64) (tk : Int64), f < n → f < n' → i + f = l → fr ≤ un → (∀ x, x < i → O x = V x) →
    (∃ O' V' fr' tk', (∀ x, x < l → O' x = V' x) ∧ L5_unpack_71 N n 0 v1 v2 (nI l) v5 v6 (nI i) (uC σ O (nI fr) (nI un) 0) = B5_unpack_94 N 0 v1 v2 (nI l) v5 v6 (uC σ O' fr' (nI un) 0) ∧ L11_decode_191 N n' 0 (nI s) w2 (nI l) (uR τ V (nI i) (nI fr) (nI un) tk) = B11_decode_191 N (fun _ _ _ _ _ => none) 0 (nI s) w2 (nI l) (uR τ V' (nI l) fr' (nI un) tk')) ∨
    (∃ O' fr' V' c' fr'' tk', L5_unpack_71 N n 0 v1 v2 (nI l) v5 v6 (nI i) (uC σ O (nI fr) (nI un) 0) = B5_unpack_94 N 0 v1 v2 (nI l) v5 v6 (uC σ O' fr' (nI un) 1) ∧ L11_decode_191 N n' 0 (nI s) w2 (nI l) (uR τ V (nI i) (nI fr) (nI un) tk) = some (false, uR τ V' c' fr'' (nI un) tk')) := by
  intro f
  have e1 : ∀ V c fr tk, gI (uR τ V c fr (nI un) tk) 29 0 10 = c := fun _ _ _ _ => rfl
  induction f with
  | zero =>
    intro n n' i fr O V tk hn hn' hi hf hOV
    obtain ⟨m, rfl⟩ : ∃ m', n = m' + 1 := ⟨n - 1, by omega⟩
    obtain ⟨m', rfl⟩ : ∃ m', n' = m' + 1 := ⟨n' - 1, by omega⟩
    have e : i = l := by omega
    subst e
    refine Or.inl ⟨O, V, nI fr, tk, hOV, ?_, ?_⟩
    · show B5_unpack_71 N (L5_unpack_71 N m) 0 v1 v2 (nI i) v5 v6 (nI i) _ = _
      unfold B5_unpack_71
      rw [if_pos (nI_le (by omega) (by omega))]
    · show B11_decode_191 N (L11_decode_191 N m') 0 (nI s) w2 (nI i) _ = _
      unfold B11_decode_191
      rw [e1, if_pos (nI_le (by omega) (by omega)), if_pos (nI_le (by omega) (by omega))]
  | succ f ih =>
    intro n n' i fr O V tk hn hn' hi hf hOV
    obtain ⟨m, rfl⟩ : ∃ m', n = m' + 1 := ⟨n - 1, by omega⟩
    obtain ⟨m', rfl⟩ : ∃ m', n' = m' + 1 := ⟨n' - 1, by omega⟩
    have e2 : ∀ O fr a, gN (uC σ O fr (nI un) a) 10 0 = 24 := fun _ _ _ => hS.2.2.2.2.2.2.1
    rcases openP (O := O) (V := V) (c := nI i) (tk := tk) hN hS h4 hu hf with ⟨v, fr', g1, g2, g3, g4⟩ | ⟨v, fr', fr'', tk', g1, g3, g4⟩
    · have A : L5_unpack_71 N (m + 1) 0 v1 v2 (nI l) v5 v6 (nI i) (uC σ O (nI fr) (nI un) 0) = L5_unpack_71 N m 0 v1 v2 (nI l) v5 v6 (nI (i + 1)) (uC σ (up O i v) (nI fr') (nI un) 0) := by
        show B5_unpack_71 N (L5_unpack_71 N m) 0 v1 v2 (nI l) v5 v6 (nI i) _ = _
        unfold B5_unpack_71
        rw [if_neg (nI_ge (by omega) (by omega)), g3, obind_some, e2, idx_nI _ (by omega) (by omega), olet_eq, uC_O, nI_1]
      have B : L11_decode_191 N (m' + 1) 0 (nI s) w2 (nI l) (uR τ V (nI i) (nI fr) (nI un) tk) = L11_decode_191 N m' 0 (nI s) w2 (nI l) (uR τ (fun x => if i ≤ x ∧ x < i + 1 then v else V x) (nI (i + 1)) (nI fr') (nI un) v) := by
        show B11_decode_191 N (L11_decode_191 N m') 0 (nI s) w2 (nI l) _ = _
        unfold B11_decode_191
        have e3 : gL (uR τ V (nI i) (nI fr') (nI un) v) 29 0 20 = v := rfl
        rw [e1, if_neg (nI_ge (by omega) (by omega)), g4, obind_some, if_pos rfl, olet_eq, if_neg hw, e3]
        exact fill262 (m := 1) _ hN hS.2.2.2.2.2.1 (by omega)
      rw [A, B]
      exact ih m m' (i + 1) fr' _ _ v (by omega) (by omega) (by omega) g2 (fun x hx => by
        unfold up
        by_cases c : x = i
        · rw [if_pos c, if_pos (by omega)]
        · rw [if_neg c, if_neg (by omega), hOV x (by omega)])
    · obtain ⟨O', fr2, g5⟩ := dA_loop (v1 := v1) (v2 := v2) (v5 := v5) (v6 := v6) hN hS h4 hu hl f m (i + 1) fr' (up O i v) (by omega) (by omega) g1
      refine Or.inr ⟨O', fr2, V, nI i, nI fr'', tk', ?_, ?_⟩
      · rw [← g5]
        show B5_unpack_71 N (L5_unpack_71 N m) 0 v1 v2 (nI l) v5 v6 (nI i) _ = _
        unfold B5_unpack_71
        rw [if_neg (nI_ge (by omega) (by omega)), g3, obind_some, e2, idx_nI _ (by omega) (by omega), olet_eq, uC_O, nI_1]
      · show B11_decode_191 N (L11_decode_191 N m') 0 (nI s) w2 (nI l) _ = _
        unfold B11_decode_191
        rw [e1, if_neg (nI_ge (by omega) (by omega)), g4, obind_some, if_neg (by decide)]
theorem toI32_small {v : Int64} {q : Nat} (h : v.toInt = (q : Int)) (hq : q < 2 ^ 31) : Int64.toInt32 v = nI q := by
  apply Int32.toInt_inj.mp
  rw [Int64.toInt_toInt32, h, nI_toInt hq]
  exact Int.bmod_eq_of_le (by omega) (by omega)
theorem runsExit {O : Nat → Int64} {i n : Nat} {fr : Int32} (hn : 0 < n) : L5_openRuns_2 N n 0 (nI l) (nI i) (uC σ O fr (nI un) 1) = some ((), uC σ O fr (nI un) 1) := by
  obtain ⟨m, rfl⟩ : ∃ m', n = m' + 1 := ⟨n - 1, by omega⟩
  show B5_openRuns_2 N (L5_openRuns_2 N m) 0 (nI l) (nI i) _ = _
  unfold B5_openRuns_2
  have e1 : gI (uC σ O fr (nI un) 1) 8 0 7 = 1 := rfl
  rw [e1]
  by_cases c : nI l ≤ nI i
  · rw [if_pos c]
  · rw [if_neg c, if_neg (by decide)]
theorem dR_loop (hN : 500 ≤ N) (hS : SB σ τ s z D) (h4 : gR σ 8 0 4 = some s) (hu : un ≤ z) (hl : l ≤ 24) : ∀ (F f n n' i fr : Nat) (O V : Nat → Int64) (tk : Int64), f ≤ F → F + 1 < n → F < n' → i + f = l → fr ≤ un → (∀ x, x < i → O x = V x) →
    (∃ O' V' fr' tk', (∀ x, x < l → O' x = V' x) ∧ L5_openRuns_2 N n 0 (nI l) (nI i) (uC σ O (nI fr) (nI un) 0) = some ((), uC σ O' fr' (nI un) 0) ∧ L11_decode_191 N n' 0 (nI s) 3 (nI l) (uR τ V (nI i) (nI fr) (nI un) tk) = B11_decode_191 N (fun _ _ _ _ _ => none) 0 (nI s) 3 (nI l) (uR τ V' (nI l) fr' (nI un) tk')) ∨
    (∃ O' fr' V' c' fr'' tk', L5_openRuns_2 N n 0 (nI l) (nI i) (uC σ O (nI fr) (nI un) 0) = some ((), uC σ O' fr' (nI un) 1) ∧ L11_decode_191 N n' 0 (nI s) 3 (nI l) (uR τ V (nI i) (nI fr) (nI un) tk) = some (false, uR τ V' c' fr'' (nI un) tk')) := by
  intro F
  have e1 : ∀ V c fr tk, gI (uR τ V c fr (nI un) tk) 29 0 10 = c := fun _ _ _ _ => rfl
  have e2 : ∀ V c fr tk, gL (uR τ V c fr (nI un) tk) 29 0 20 = tk := fun _ _ _ _ => rfl
  have e7 : ∀ O fr a, gI (uC σ O fr (nI un) a) 8 0 7 = a := fun _ _ _ => rfl
  induction F with
  | zero =>
    intro f n n' i fr O V tk hF hn hn' hi hf hOV
    obtain ⟨m, rfl⟩ : ∃ m', n = m' + 1 := ⟨n - 1, by omega⟩
    obtain ⟨m', rfl⟩ : ∃ m', n' = m' + 1 := ⟨n' - 1, by omega⟩
    have e : i = l := by omega
    subst e
    refine Or.inl ⟨O, V, nI fr, tk, hOV, ?_, ?_⟩
    · show B5_openRuns_2 N (L5_openRuns_2 N m) 0 (nI i) (nI i) _ = _
      unfold B5_openRuns_2
      rw [if_pos (nI_le (by omega) (by omega))]
    · show B11_decode_191 N (L11_decode_191 N m') 0 (nI s) 3 (nI i) _ = _
      unfold B11_decode_191
      rw [e1, if_pos (nI_le (by omega) (by omega)), if_pos (nI_le (by omega) (by omega))]
  | succ F ih =>
    intro f n n' i fr O V tk hF hn hn' hi hf hOV
    obtain ⟨m, rfl⟩ : ∃ m', n = m' + 1 := ⟨n - 1, by omega⟩
    obtain ⟨m', rfl⟩ : ∃ m', n' = m' + 1 := ⟨n' - 1, by omega⟩
    by_cases ci : i = l
    · subst ci
      refine Or.inl ⟨O, V, nI fr, tk, hOV, ?_, ?_⟩
      · show B5_openRuns_2 N (L5_openRuns_2 N m) 0 (nI i) (nI i) _ = _
        unfold B5_openRuns_2
        rw [if_pos (nI_le (by omega) (by omega))]
      · show B11_decode_191 N (L11_decode_191 N m') 0 (nI s) 3 (nI i) _ = _
        unfold B11_decode_191
        rw [e1, if_pos (nI_le (by omega) (by omega)), if_pos (nI_le (by omega) (by omega))]
    have hil : i < l := by omega
    have hsub : Int32.toInt64 (nI l - nI i) = Int32.toInt64 (nI (l - i)) := by rw [pk_sub (by omega)]
    have hsubI : (Int32.toInt64 (nI (l - i))).toInt = ((l - i : Nat) : Int) := by rw [Int32.toInt_toInt64, nI_toInt (by omega)]
    -- the class's turn, once both numbers are there, with the mark a
    have turn : ∀ (v more : Int64) (fr1 : Int32) (a : Int32), (0 ≤ more.toInt ∧ more.toInt < ((l - i : Nat) : Int) → ∃ q : Nat, q < l - i ∧ more.toInt = (q : Int) ∧ (if more < 0 then olet (sI (uC σ O fr1 (nI un) a) 8 0 7 1) fun σ5 => some ((), σ5) else if more < (Int32.toInt64 (nI l - nI i)) then (olet (nI i + (Int64.toInt32 more)) fun x6 => L5_openRuns_55 N (L5_openRuns_2 N m) N 0 (nI l) (nI i) v x6 (uC σ O fr1 (nI un) a)) else olet (sI (uC σ O fr1 (nI un) a) 8 0 7 1) fun σ7 => some ((), σ7)) = L5_openRuns_2 N m 0 (nI l) (nI (i + q + 1)) (uC σ (fun x => if i ≤ x ∧ x ≤ i + q then v else O x) fr1 (nI un) a)) ∧ (¬ (0 ≤ more.toInt ∧ more.toInt < ((l - i : Nat) : Int)) → (if more < 0 then olet (sI (uC σ O fr1 (nI un) a) 8 0 7 1) fun σ5 => some ((), σ5) else if more < (Int32.toInt64 (nI l - nI i)) then (olet (nI i + (Int64.toInt32 more)) fun x6 => L5_openRuns_55 N (L5_openRuns_2 N m) N 0 (nI l) (nI i) v x6 (uC σ O fr1 (nI un) a)) else olet (sI (uC σ O fr1 (nI un) a) 8 0 7 1) fun σ7 => some ((), σ7)) = some ((), uC σ O fr1 (nI un) 1)) := by
      intro v more fr1 a
      have q1 : more < 0 ↔ more.toInt < 0 := by rw [Int64.lt_iff_toInt_lt, l0i]
      have q2 : more < Int32.toInt64 (nI l - nI i) ↔ more.toInt < ((l - i : Nat) : Int) := by rw [hsub, Int64.lt_iff_toInt_lt, hsubI]
      constructor
      · intro hm
        refine ⟨more.toInt.toNat, by omega, by omega, ?_⟩
        have e3 : more.toInt = (more.toInt.toNat : Int) := by omega
        rw [if_neg (fun w => by have := q1.mp w; omega), if_pos (q2.mpr hm.2), olet_eq, toI32_small e3 (by omega), nI_add]
        exact f55 (N := N) (l := l) (L5_openRuns_2 N m) hS.2.2.2.2.2.2.1 (by omega) (more.toInt.toNat + 1) N i O (by omega) (by omega)
      · intro hm
        by_cases c1 : more.toInt < 0
        · rw [if_pos (q1.mpr c1), olet_eq, uC_a]
        · rw [if_neg (fun w => c1 (q1.mp w)), if_neg (fun w => by have := q2.mp w; omega), olet_eq, uC_a]
    rcases openP (O := O) (V := V) (c := nI i) (tk := tk) hN hS h4 hu hf with ⟨v, fr1, g1, g2, g3, g4⟩ | ⟨v, fr1, fr'', tk', g1, g3, g4⟩
    · rcases openP (O := O) (V := V) (c := nI i) (tk := v) hN hS h4 hu g2 with ⟨more, fr2, k1, k2, k3, k4⟩ | ⟨more, fr2, fr'', tk', k1, k3, k4⟩
      · have A : L5_openRuns_2 N (m + 1) 0 (nI l) (nI i) (uC σ O (nI fr) (nI un) 0) = (if more < 0 then olet (sI (uC σ O (nI fr2) (nI un) 0) 8 0 7 1) fun σ5 => some ((), σ5) else if more < (Int32.toInt64 (nI l - nI i)) then (olet (nI i + (Int64.toInt32 more)) fun x6 => L5_openRuns_55 N (L5_openRuns_2 N m) N 0 (nI l) (nI i) v x6 (uC σ O (nI fr2) (nI un) 0)) else olet (sI (uC σ O (nI fr2) (nI un) 0) 8 0 7 1) fun σ7 => some ((), σ7)) := by
          show B5_openRuns_2 N (L5_openRuns_2 N m) 0 (nI l) (nI i) _ = _
          unfold B5_openRuns_2
          rw [if_neg (nI_ge (by omega) (by omega)), e7, if_pos rfl, g3, obind_some, k3, obind_some]
        have hin : f11_in more 0 (Int32.toInt64 ((nI l - nI i) - 1)) (uR τ V (nI i) (nI fr2) (nI un) more) = some (decide (0 ≤ more.toInt ∧ more.toInt < ((l - i : Nat) : Int)), uR τ V (nI i) (nI fr2) (nI un) more) := by
          rw [in_eq]
          have e8 : (nI l - nI i) - 1 = nI (l - i - 1) := by
            rw [pk_sub (by omega)]
            exact pk_sub (b := 1) (by omega)
          have e9 : ((0 : Int64) ≤ more ∧ more ≤ Int32.toInt64 ((nI l - nI i) - 1)) ↔ (0 ≤ more.toInt ∧ more.toInt < ((l - i : Nat) : Int)) := by
            rw [e8, Int64.le_iff_toInt_le, Int64.le_iff_toInt_le, Int32.toInt_toInt64, nI_toInt (by omega), l0i]
            omega
          rw [decide_eq_decide.mpr e9]
        by_cases hm : 0 ≤ more.toInt ∧ more.toInt < ((l - i : Nat) : Int)
        · obtain ⟨q, hq, hqe, hT⟩ := (turn v more (nI fr2) 0).1 hm
          have B : L11_decode_191 N (m' + 1) 0 (nI s) 3 (nI l) (uR τ V (nI i) (nI fr) (nI un) tk) = L11_decode_191 N m' 0 (nI s) 3 (nI l) (uR τ (fun x => if i ≤ x ∧ x < i + (q + 1) then v else V x) (nI (i + (q + 1))) (nI fr2) (nI un) more) := by
            show B11_decode_191 N (L11_decode_191 N m') 0 (nI s) 3 (nI l) _ = _
            unfold B11_decode_191
            rw [e1, if_neg (nI_ge (by omega) (by omega)), g4, obind_some, if_pos rfl, olet_eq, if_pos rfl, e2, k4, obind_some, if_pos rfl, e2, e1, hin, obind_some, decide_eq_true hm, if_pos rfl, olet_eq, e2, toI32_small hqe (by omega), nI_1]
            exact fill262 (m := q + 1) _ hN hS.2.2.2.2.2.1 (by omega)
          rw [A, hT, B]
          have e10 : i + q + 1 = i + (q + 1) := by omega
          rw [e10]
          exact ih (f - (q + 1)) m m' (i + (q + 1)) fr2 _ _ more (by omega) (by omega) (by omega) (by omega) k2 (fun x hx => by
            by_cases c : i ≤ x ∧ x ≤ i + q
            · rw [if_pos c, if_pos (by omega)]
            · rw [if_neg c, if_neg (by omega), hOV x (by omega)])
        · refine Or.inr ⟨O, nI fr2, V, nI i, nI fr2, more, ?_, ?_⟩
          · rw [A, (turn v more (nI fr2) 0).2 hm]
          · show B11_decode_191 N (L11_decode_191 N m') 0 (nI s) 3 (nI l) _ = _
            unfold B11_decode_191
            rw [e1, if_neg (nI_ge (by omega) (by omega)), g4, obind_some, if_pos rfl, olet_eq, if_pos rfl, e2, k4, obind_some, if_pos rfl, e2, e1, hin, obind_some, decide_eq_false hm, if_neg (by decide)]
      · have A : L5_openRuns_2 N (m + 1) 0 (nI l) (nI i) (uC σ O (nI fr) (nI un) 0) = (if more < 0 then olet (sI (uC σ O (nI fr2) (nI un) 1) 8 0 7 1) fun σ5 => some ((), σ5) else if more < (Int32.toInt64 (nI l - nI i)) then (olet (nI i + (Int64.toInt32 more)) fun x6 => L5_openRuns_55 N (L5_openRuns_2 N m) N 0 (nI l) (nI i) v x6 (uC σ O (nI fr2) (nI un) 1)) else olet (sI (uC σ O (nI fr2) (nI un) 1) 8 0 7 1) fun σ7 => some ((), σ7)) := by
          show B5_openRuns_2 N (L5_openRuns_2 N m) 0 (nI l) (nI i) _ = _
          unfold B5_openRuns_2
          rw [if_neg (nI_ge (by omega) (by omega)), e7, if_pos rfl, g3, obind_some, k3, obind_some]
        have B : L11_decode_191 N (m' + 1) 0 (nI s) 3 (nI l) (uR τ V (nI i) (nI fr) (nI un) tk) = some (false, uR τ V (nI i) (nI fr'') (nI un) tk') := by
          show B11_decode_191 N (L11_decode_191 N m') 0 (nI s) 3 (nI l) _ = _
          unfold B11_decode_191
          rw [e1, if_neg (nI_ge (by omega) (by omega)), g4, obind_some, if_pos rfl, olet_eq, if_pos rfl, e2, k4, obind_some, if_neg (by decide)]
        rw [A, B]
        by_cases hm : 0 ≤ more.toInt ∧ more.toInt < ((l - i : Nat) : Int)
        · obtain ⟨q, hq, hqe, hT⟩ := (turn v more (nI fr2) 1).1 hm
          exact Or.inr ⟨_, _, V, nI i, nI fr'', tk', by rw [hT, runsExit (by omega)], rfl⟩
        · exact Or.inr ⟨O, nI fr2, V, nI i, nI fr'', tk', (turn v more (nI fr2) 1).2 hm, rfl⟩
    · obtain ⟨more, fr2, k1, k3⟩ := openA (O := O) hN hS h4 hu g1
      have A : L5_openRuns_2 N (m + 1) 0 (nI l) (nI i) (uC σ O (nI fr) (nI un) 0) = (if more < 0 then olet (sI (uC σ O (nI fr2) (nI un) 1) 8 0 7 1) fun σ5 => some ((), σ5) else if more < (Int32.toInt64 (nI l - nI i)) then (olet (nI i + (Int64.toInt32 more)) fun x6 => L5_openRuns_55 N (L5_openRuns_2 N m) N 0 (nI l) (nI i) v x6 (uC σ O (nI fr2) (nI un) 1)) else olet (sI (uC σ O (nI fr2) (nI un) 1) 8 0 7 1) fun σ7 => some ((), σ7)) := by
        show B5_openRuns_2 N (L5_openRuns_2 N m) 0 (nI l) (nI i) _ = _
        unfold B5_openRuns_2
        rw [if_neg (nI_ge (by omega) (by omega)), e7, if_pos rfl, g3, obind_some, k3, obind_some]
      have B : L11_decode_191 N (m' + 1) 0 (nI s) 3 (nI l) (uR τ V (nI i) (nI fr) (nI un) tk) = some (false, uR τ V (nI i) (nI fr'') (nI un) tk') := by
        show B11_decode_191 N (L11_decode_191 N m') 0 (nI s) 3 (nI l) _ = _
        unfold B11_decode_191
        rw [e1, if_neg (nI_ge (by omega) (by omega)), g4, obind_some, if_neg (by decide)]
      rw [A, B]
      by_cases hm : 0 ≤ more.toInt ∧ more.toInt < ((l - i : Nat) : Int)
      · obtain ⟨q, hq, hqe, hT⟩ := (turn v more (nI fr2) 1).1 hm
        exact Or.inr ⟨_, _, V, nI i, nI fr'', tk', by rw [hT, runsExit (by omega)], rfl⟩
      · exact Or.inr ⟨O, nI fr2, V, nI i, nI fr'', tk', (turn v more (nI fr2) 1).2 hm, rfl⟩
end OP
