/-! ===== opening: bytes, plain numbers ===== -/
noncomputable def uC (σ : rS) (O : Nat → Int64) (fr un a : Int32) : rS := sI (sI (sI (sLr σ 10 0 O) 8 0 5 fr) 8 0 6 un) 8 0 7 a
noncomputable def uR (τ : rS) (V : Nat → Int64) (c fr un : Int32) (tk : Int64) : rS := sL (sI (sI (sI (sLr τ 39 0 V) 29 0 10 c) 29 0 18 fr) 29 0 19 un) 29 0 20 tk
theorem uC_fr (σ : rS) (O : Nat → Int64) (fr un a v : Int32) : sI (uC σ O fr un a) 8 0 5 v = uC σ O v un a := by
  refine ext5 ?_ rfl
  funext k i x
  simp only [uC, sI, sLr]
  grind
theorem uC_a (σ : rS) (O : Nat → Int64) (fr un a v : Int32) : sI (uC σ O fr un a) 8 0 7 v = uC σ O fr un v := by
  refine ext5 ?_ rfl
  funext k i x
  simp only [uC, sI, sLr]
  grind
theorem uC_O (σ : rS) (O : Nat → Int64) (fr un a : Int32) (j : Nat) (v : Int64) : sL (uC σ O fr un a) 10 0 j v = uC σ (up O j v) fr un a := by
  refine ext5 rfl (Prod.ext ?_ rfl)
  funext k i x
  simp only [uC, sI, sLr, sL, up]
  grind
theorem uR_V (τ : rS) (V : Nat → Int64) (c fr un : Int32) (tk : Int64) (j : Nat) (v : Int64) : sL (uR τ V c fr un tk) 39 0 j v = uR τ (up V j v) c fr un tk := by
  refine ext5 rfl (Prod.ext ?_ rfl)
  funext k i x
  simp only [uR, sI, sLr, sL, up]
  grind
theorem uR_c (τ : rS) (V : Nat → Int64) (c fr un v : Int32) (tk : Int64) : sI (uR τ V c fr un tk) 29 0 10 v = uR τ V v fr un tk := by
  refine ext5 ?_ rfl
  funext k i x
  simp only [uR, sI, sLr, sL]
  grind
theorem uR_fr (τ : rS) (V : Nat → Int64) (c fr un v : Int32) (tk : Int64) : sI (uR τ V c fr un tk) 29 0 18 v = uR τ V c v un tk := by
  refine ext5 ?_ rfl
  funext k i x
  simp only [uR, sI, sLr, sL]
  grind
theorem uR_tk (τ : rS) (V : Nat → Int64) (c fr un : Int32) (tk v : Int64) : sL (uR τ V c fr un tk) 29 0 20 v = uR τ V c fr un v := by
  refine ext5 rfl (Prod.ext ?_ rfl)
  funext k i x
  simp only [uR, sI, sLr, sL]
  grind
/-- the bytes of a stream on both sides -/
def SB (σ τ : rS) (s z : Nat) (D : Nat → Nat) : Prop := s < 24 ∧ z ≤ 400 ∧ gI σ 15 s 1 = nI z ∧ gN σ 16 s = 400 ∧ gN τ 44 0 = 9600 ∧ gN τ 39 0 = 24 ∧ gN σ 10 0 = 24 ∧ ∀ i, i < z → D i < 256 ∧ gI σ 16 s i &&& 255 = nI (D i) ∧ gI τ 44 0 (400 * s + i) = nI (D i)
theorem openByte_in {σ τ : rS} {s z un fr : Nat} {D : Nat → Nat} {O : Nat → Int64} {a : Int32} (hS : SB σ τ s z D) (h4 : gR σ 8 0 4 = some s) (hu : un ≤ z) (hf : fr < un) : f5_openByte 0 (uC σ O (nI fr) (nI un) a) = some (nI (D fr), uC σ O (nI (fr + 1)) (nI un) a) := by
  obtain ⟨s1, s2, s3, s4, s5, s6, s7, s8⟩ := hS
  unfold f5_openByte
  have e1 : ∀ x, gI (uC σ O x (nI un) a) 8 0 5 = x := fun _ => rfl
  have e2 : gI (uC σ O (nI fr) (nI un) a) 8 0 6 = nI un := rfl
  rw [e1, e2, if_pos (nI_lt hf (by omega)), olet_eq, nI_1, uC_fr, e1, olet_eq]
  have e3 : ∀ x, gR (uC σ O x (nI un) a) 8 0 4 = gR σ 8 0 4 := fun _ => rfl
  have e4 : ∀ x, gI (uC σ O x (nI un) a) 15 s 1 = nI z := fun _ => s3
  have e5 : ∀ x, zS (uC σ O x (nI un) a) s = z := fun x => by
    unfold zS
    rw [e4, nI_clamp (by omega)]
  have e6 : ∀ x, gN (uC σ O x (nI un) a) 16 s = 400 := fun _ => s4
  have e7 : ∀ x i, gI (uC σ O x (nI un) a) 16 s i = gI σ 16 s i := fun _ _ => rfl
  rw [e3, h4, onul_some, nI_pred, byteAt_eq (by rw [e4, e5]) (e6 _) (by rw [e5]; omega) (by rw [e5]; omega), obind_some, e7, (s8 fr (by omega)).2.1]
theorem openByte_out {σ : rS} {un fr : Nat} {O : Nat → Int64} {a : Int32} (hu : un ≤ fr) (hf : fr < 2 ^ 30) : f5_openByte 0 (uC σ O (nI fr) (nI un) a) = some (0, uC σ O (nI fr) (nI un) 1) := by
  unfold f5_openByte
  have e1 : gI (uC σ O (nI fr) (nI un) a) 8 0 5 = nI fr := rfl
  have e2 : gI (uC σ O (nI fr) (nI un) a) 8 0 6 = nI un := rfl
  rw [e1, e2, if_neg (nI_nlt hu (by omega)), olet_eq, uC_a]
noncomputable def unz (x : Int64) : Int64 := (UInt64.toInt64 (Int64.toUInt64 x >>> (Int64.toUInt64 (Int32.toInt64 1) &&& Int64.toUInt64 63))) ^^^ (-(x &&& 1))
noncomputable def acc7 (x : Int64) (b : Int32) (k : Int32) : Int64 := x ||| ((Int32.toInt64 (b &&& 127)) <<< (Int32.toInt64 (7 * k) &&& 63))
theorem oA_loop {N : Nat} {σ τ : rS} {s z un : Nat} {D : Nat → Nat} {O : Nat → Int64} (hS : SB σ τ s z D) (h4 : gR σ 8 0 4 = some s) (hu : un ≤ z) : ∀ (f n k fr : Nat) (x : Int64), f < n → k + f = 10 → fr ≤ un → ∃ v fr', fr' ≤ un ∧ L5_openPlain_4 N n 0 x (nI k) (uC σ O (nI fr) (nI un) 1) = some (v, uC σ O (nI fr') (nI un) 1) := by
  intro f
  have hz4 := hS.2.1
  induction f with
  | zero =>
    intro n k fr x hn hk hf
    obtain ⟨m, rfl⟩ : ∃ m', n = m' + 1 := ⟨n - 1, by omega⟩
    refine ⟨0, fr, hf, ?_⟩
    show B5_openPlain_4 N (L5_openPlain_4 N m) 0 x (nI k) _ = _
    unfold B5_openPlain_4
    have e : k = 10 := by omega
    subst e
    rw [if_pos (show (10 : Int32) ≤ nI 10 by decide), olet_eq, uC_a]
  | succ f ih =>
    intro n k fr x hn hk hf
    obtain ⟨m, rfl⟩ : ∃ m', n = m' + 1 := ⟨n - 1, by omega⟩
    have c10 : ¬ (10 : Int32) ≤ nI k := nI_ge (b := 10) (by omega) (by omega)
    by_cases c : fr < un
    · have e1 := openByte_in (O := O) (a := 1) hS h4 hu c
      have hD := (hS.2.2.2.2.2.2.2 fr (by omega)).1
      by_cases c2 : 128 ≤ D fr
      · obtain ⟨v, fr', g1, g2⟩ := ih m (k + 1) (fr + 1) (acc7 x (nI (D fr)) (nI k)) (by omega) (by omega) (by omega)
        refine ⟨v, fr', g1, ?_⟩
        show B5_openPlain_4 N (L5_openPlain_4 N m) 0 x (nI k) _ = _
        unfold B5_openPlain_4
        rw [if_neg c10, e1, obind_some, olet_eq, if_pos (show (128 : Int32) ≤ nI (D fr) from nI_le (a := 128) c2 (by omega)), nI_1]
        exact g2
      · refine ⟨unz (acc7 x (nI (D fr)) (nI k)), fr + 1, by omega, ?_⟩
        show B5_openPlain_4 N (L5_openPlain_4 N m) 0 x (nI k) _ = _
        unfold B5_openPlain_4
        rw [if_neg c10, e1, obind_some, olet_eq, if_neg (show ¬ (128 : Int32) ≤ nI (D fr) from nI_ge (b := 128) (by omega) (by omega))]
        rfl
    · refine ⟨unz (acc7 x 0 (nI k)), fr, hf, ?_⟩
      show B5_openPlain_4 N (L5_openPlain_4 N m) 0 x (nI k) _ = _
      unfold B5_openPlain_4
      rw [if_neg c10, openByte_out (by omega) (by omega), obind_some, olet_eq, if_neg (show ¬ (128 : Int32) ≤ 0 by decide)]
      rfl
theorem oP_loop {N : Nat} {σ τ : rS} {s z un : Nat} {D : Nat → Nat} {O V : Nat → Int64} {c : Int32} (hS : SB σ τ s z D) (h4 : gR σ 8 0 4 = some s) (hu : un ≤ z) : ∀ (f n n' k fr : Nat) (x tk : Int64), f < n → f < n' → k + f = 10 → fr ≤ un →
    (∃ v fr', fr ≤ fr' ∧ fr' ≤ un ∧ L5_openPlain_4 N n 0 x (nI k) (uC σ O (nI fr) (nI un) 0) = some (v, uC σ O (nI fr') (nI un) 0) ∧ L11_takes_5 N n' 0 (nI s) x (nI k) (uR τ V c (nI fr) (nI un) tk) = some (true, uR τ V c (nI fr') (nI un) v)) ∨
    (∃ v fr' fr'' tk', fr' ≤ un ∧ L5_openPlain_4 N n 0 x (nI k) (uC σ O (nI fr) (nI un) 0) = some (v, uC σ O (nI fr') (nI un) 1) ∧ L11_takes_5 N n' 0 (nI s) x (nI k) (uR τ V c (nI fr) (nI un) tk) = some (false, uR τ V c (nI fr'') (nI un) tk')) := by
  intro f
  have hz4 := hS.2.1
  have hs24 := hS.1
  have h44 : ∀ fr tk, gN (uR τ V c fr (nI un) tk) 44 0 = 9600 := fun _ _ => hS.2.2.2.2.1
  induction f with
  | zero =>
    intro n n' k fr x tk hn hn' hk hf
    obtain ⟨m, rfl⟩ : ∃ m', n = m' + 1 := ⟨n - 1, by omega⟩
    obtain ⟨m', rfl⟩ : ∃ m'', n' = m'' + 1 := ⟨n' - 1, by omega⟩
    have e : k = 10 := by omega
    subst e
    refine Or.inr ⟨0, fr, fr, tk, hf, ?_, ?_⟩
    · show B5_openPlain_4 N (L5_openPlain_4 N m) 0 x (nI 10) _ = _
      unfold B5_openPlain_4
      rw [if_pos (show (10 : Int32) ≤ nI 10 by decide), olet_eq, uC_a]
    · show B11_takes_5 N (L11_takes_5 N m') 0 (nI s) x (nI 10) _ = _
      unfold B11_takes_5
      rw [if_pos (show (10 : Int32) ≤ nI 10 by decide)]
  | succ f ih =>
    intro n n' k fr x tk hn hn' hk hf
    obtain ⟨m, rfl⟩ : ∃ m', n = m' + 1 := ⟨n - 1, by omega⟩
    obtain ⟨m', rfl⟩ : ∃ m'', n' = m'' + 1 := ⟨n' - 1, by omega⟩
    have c10 : ¬ (10 : Int32) ≤ nI k := nI_ge (b := 10) (by omega) (by omega)
    have r1 : ∀ x, gI (uR τ V c x (nI un) tk) 29 0 18 = x := fun _ => rfl
    have r2 : ∀ x, gI (uR τ V c x (nI un) tk) 29 0 19 = nI un := fun _ => rfl
    have r3 : ∀ x i, gI (uR τ V c x (nI un) tk) 44 0 i = gI τ 44 0 i := fun _ _ => rfl
    by_cases c1 : fr < un
    · have e1 := openByte_in (O := O) (a := 0) hS h4 hu c1
      have hD := hS.2.2.2.2.2.2.2 fr (by omega)
      by_cases c2 : 128 ≤ D fr
      · have A : L5_openPlain_4 N (m + 1) 0 x (nI k) (uC σ O (nI fr) (nI un) 0) = L5_openPlain_4 N m 0 (acc7 x (nI (D fr)) (nI k)) (nI (k + 1)) (uC σ O (nI (fr + 1)) (nI un) 0) := by
          show B5_openPlain_4 N (L5_openPlain_4 N m) 0 x (nI k) _ = _
          unfold B5_openPlain_4
          rw [if_neg c10, e1, obind_some, olet_eq, if_pos (show (128 : Int32) ≤ nI (D fr) from nI_le (a := 128) c2 (by omega)), nI_1]
          rfl
        have B : L11_takes_5 N (m' + 1) 0 (nI s) x (nI k) (uR τ V c (nI fr) (nI un) tk) = L11_takes_5 N m' 0 (nI s) (acc7 x (nI (D fr)) (nI k)) (nI (k + 1)) (uR τ V c (nI (fr + 1)) (nI un) tk) := by
          show B11_takes_5 N (L11_takes_5 N m') 0 (nI s) x (nI k) _ = _
          unfold B11_takes_5
          rw [if_neg c10, r1, r2, if_neg (nI_ge c1 (by omega)), h44, ix44, idx_nI _ (by omega) (by omega), olet_eq, olet_eq, olet_eq, r3, hD.2.2, if_pos (show (128 : Int32) ≤ nI (D fr) from nI_le (a := 128) c2 (by omega)), nI_1, uR_fr, nI_1]
          rfl
        rw [A, B]
        rcases ih m m' (k + 1) (fr + 1) (acc7 x (nI (D fr)) (nI k)) tk (by omega) (by omega) (by omega) (by omega) with ⟨v, fr', g1, g2, g3, g4⟩ | ⟨v, fr', fr'', tk', g1, g3, g4⟩
        · exact Or.inl ⟨v, fr', by omega, g2, g3, g4⟩
        · exact Or.inr ⟨v, fr', fr'', tk', g1, g3, g4⟩
      · refine Or.inl ⟨unz (acc7 x (nI (D fr)) (nI k)), fr + 1, by omega, by omega, ?_, ?_⟩
        · show B5_openPlain_4 N (L5_openPlain_4 N m) 0 x (nI k) _ = _
          unfold B5_openPlain_4
          rw [if_neg c10, e1, obind_some, olet_eq, if_neg (show ¬ (128 : Int32) ≤ nI (D fr) from nI_ge (b := 128) (by omega) (by omega))]
          rfl
        · show B11_takes_5 N (L11_takes_5 N m') 0 (nI s) x (nI k) _ = _
          unfold B11_takes_5
          rw [if_neg c10, r1, r2, if_neg (nI_ge c1 (by omega)), h44, ix44, idx_nI _ (by omega) (by omega), olet_eq, olet_eq, olet_eq, r3, hD.2.2, if_neg (show ¬ (128 : Int32) ≤ nI (D fr) from nI_ge (b := 128) (by omega) (by omega)), nI_1, uR_fr, olet_eq, uR_tk]
          rfl
    · refine Or.inr ⟨unz (acc7 x 0 (nI k)), fr, fr, tk, hf, ?_, ?_⟩
      · show B5_openPlain_4 N (L5_openPlain_4 N m) 0 x (nI k) _ = _
        unfold B5_openPlain_4
        rw [if_neg c10, openByte_out (by omega) (by omega), obind_some, olet_eq, if_neg (show ¬ (128 : Int32) ≤ 0 by decide)]
        rfl
      · show B11_takes_5 N (L11_takes_5 N m') 0 (nI s) x (nI k) _ = _
        unfold B11_takes_5
        rw [if_neg c10, r1, r2, if_pos (nI_le (by omega) (by omega))]
theorem openA {N : Nat} {σ τ : rS} {s z un fr : Nat} {D : Nat → Nat} {O : Nat → Int64} (hN : 500 ≤ N) (hS : SB σ τ s z D) (h4 : gR σ 8 0 4 = some s) (hu : un ≤ z) (hf : fr ≤ un) : ∃ v fr', fr' ≤ un ∧ f5_openPlain N 0 (uC σ O (nI fr) (nI un) 1) = some (v, uC σ O (nI fr') (nI un) 1) :=
  oA_loop (N := N) hS h4 hu 10 N 0 fr 0 (by omega) (by omega) hf
theorem openP {N : Nat} {σ τ : rS} {s z un fr : Nat} {D : Nat → Nat} {O V : Nat → Int64} {c : Int32} {tk : Int64} (hN : 500 ≤ N) (hS : SB σ τ s z D) (h4 : gR σ 8 0 4 = some s) (hu : un ≤ z) (hf : fr ≤ un) :
    (∃ v fr', fr ≤ fr' ∧ fr' ≤ un ∧ f5_openPlain N 0 (uC σ O (nI fr) (nI un) 0) = some (v, uC σ O (nI fr') (nI un) 0) ∧ f11_takes N 0 (nI s) (uR τ V c (nI fr) (nI un) tk) = some (true, uR τ V c (nI fr') (nI un) v)) ∨
    (∃ v fr' fr'' tk', fr' ≤ un ∧ f5_openPlain N 0 (uC σ O (nI fr) (nI un) 0) = some (v, uC σ O (nI fr') (nI un) 1) ∧ f11_takes N 0 (nI s) (uR τ V c (nI fr) (nI un) tk) = some (false, uR τ V c (nI fr'') (nI un) tk')) :=
  oP_loop (N := N) hS h4 hu 10 N N 0 fr 0 tk (by omega) (by omega) (by omega) hf
