/-! ===== a piece examined ===== -/
def KC0 (σ σ' : rS) : Prop := (∀ t τ, Inv t σ τ → Inv t σ' τ) ∧ gC σ' 13 = gC σ 13 ∧ gC σ' 15 = gC σ 15 ∧ ∀ s x, gI σ' 15 s x = gI σ 15 s x
theorem KC0_of {σ σ' : rS} (h : KC σ σ') : KC0 σ σ' := ⟨h.1, h.2.1, h.2.2.1, h.2.2.2.1⟩
theorem KC0_r (σ : rS) : KC0 σ σ := ⟨fun _ _ h => h, rfl, rfl, fun _ _ => rfl⟩
theorem KR_r (τ : rS) : KR τ τ := ⟨fun _ _ h => h, fun _ => rfl⟩
theorem KC0_t {a b c : rS} (h1 : KC0 a b) (h2 : KC0 b c) : KC0 a c := ⟨fun t τ h => h2.1 t τ (h1.1 t τ h), h2.2.1.trans h1.2.1, h2.2.2.1.trans h1.2.2.1, fun s x => (h2.2.2.2 s x).trans (h1.2.2.2 s x)⟩
theorem KC0_12 (σ : rS) (j : Nat) (v : Int32) : KC0 σ (sI σ 12 0 j v) := by
  refine ⟨fun t τ h => ?_, rfl, rfl, fun _ _ => rfl⟩
  obtain ⟨h1, h2, h3, h4, h5, h6, h7⟩ := h
  exact ⟨h1, h2, h3, h4, h5, h6, h7⟩
theorem KR_fu (τ : rS) (a b : Int32) : KR τ (sI (sI τ 29 0 18 a) 29 0 19 b) := by
  refine ⟨fun t σ h => ?_, fun _ => rfl⟩
  obtain ⟨h1, h2, h3, h4, h5, h6, h7⟩ := h
  exact ⟨h1, h2, h3, h4, h5, h6, h7⟩
/-- what comes of examining: fine, with all that is told of it; or a finding -/
def EOut (σ τ : rS) (s p z : Nat) (A B : Option (Int32 × rS)) : Prop :=
  (∃ (σ' τ' : rS) (kd l b : Nat) (F : Nat → Int64), A = some (0, σ') ∧ B = some (0, τ') ∧ KC0 σ σ' ∧ KR τ τ' ∧ kd < 8 ∧ l ≤ 24 ∧ p + 7 ≤ b ∧ b ≤ z ∧ gI σ' 12 0 0 = nI kd ∧ gI σ' 12 0 1 = nI l ∧ gI σ' 12 0 2 = nI b ∧ gI τ' 29 0 10 = nI l ∧ gI τ' 29 0 19 + 2 = nI b ∧ gI τ 44 0 (400 * s + (p + 1)) = nI kd ∧ ∀ x, x < l → gL σ' 10 0 x = F x ∧ gL τ' 39 0 x = F x ∧ cutw (nI kd) (F x) = F x) ∨
  (∃ (σ' τ' : rS) (f : Nat), A = some (nI f, σ') ∧ B = some (nI f, τ') ∧ 0 < f ∧ f < 10 ∧ KC0 σ σ' ∧ KR τ τ')
theorem EOut_f {σ τ σ' τ' : rS} {s p z : Nat} (f : Nat) (h0 : 0 < f) (h1 : f < 10) (hC : KC0 σ σ') (hR : KR τ τ') : EOut σ τ s p z (some (nI f, σ')) (some (nI f, τ')) := Or.inr ⟨σ', τ', f, rfl, rfl, h0, h1, hC, hR⟩
theorem bAt {σ : rS} {s z i : Nat} {D : Nat → Nat} (hz : z ≤ 400) (h3 : gI σ 15 s 1 = nI z) (h4 : gN σ 16 s = 400) (hD : ∀ i, i < z → D i < 256 ∧ gI σ 16 s i &&& 255 = nI (D i)) (hi : i < z) : f9_byteAt s (nI i) σ = some (nI (D i), σ) := by
  have ez : zS σ s = z := by
    unfold zS
    rw [h3, nI_clamp (by omega)]
  rw [byteAt_eq (by rw [ez]; exact h3) h4 (by rw [ez]; omega) (by rw [ez]; omega), (hD i hi).2]
theorem pAt {σ : rS} {s z i : Nat} {D : Nat → Nat} (hz : z ≤ 400) (h3 : gI σ 15 s 1 = nI z) (h4 : gN σ 16 s = 400) (hD : ∀ i, i < z → D i < 256 ∧ gI σ 16 s i &&& 255 = nI (D i)) (hi : i + 1 < z) : f9_pairAt s (nI i) σ = some (nI (D i + 256 * D (i + 1)), σ) := by
  unfold f9_pairAt
  have hb := hD (i + 1) hi
  rw [bAt hz h3 h4 hD (by omega), obind_some, nI_1, bAt hz h3 h4 hD hi, obind_some, pk_shlN _ 8 (by decide) (by omega), nI_add]
  congr 3
  omega
theorem kind_in (n : Nat) (hn : n < 256) (σ : rS) : f10_isKind (nI n) σ = some (decide (n ≤ 7), σ) := by
  unfold f10_isKind
  rw [if_neg (nI_pos (by omega))]
  by_cases c : n ≤ 7
  · rw [if_neg (show ¬ (7 : Int32) < nI n from nI_nlt (a := 7) (by omega) (by omega)), decide_eq_true c]
  · rw [if_pos (show (7 : Int32) < nI n from nI_lt (a := 7) (by omega) (by omega)), decide_eq_false c]
theorem exam_both {N t s p : Nat} {σ τ : rS} (hN : 500 ≤ N) (h : Inv t σ τ) (hs1 : s < gC σ 15) (hp : p ≤ zS σ s) : EOut σ τ s p (zS σ s) (f6_examine N 0 0 s (nI p) σ) (f11_piece N 0 (nI s) (nI p) τ) := by
  have hs24 : s < 24 := Nat.lt_of_lt_of_le hs1 h.2.2.2.1.1
  obtain ⟨q1, q2, q3, q4, q5, q6, q7, q8, q9, q10, q11⟩ := h.2.2.2.1.2.2.2.2 s hs1
  obtain ⟨D, hD⟩ : ∃ D : Nat → Nat, ∀ i, i < zS σ s → D i < 256 ∧ gI σ 16 s i = sb (D i) ∧ gI τ 44 0 (400 * s + i) = nI (D i) := by
    refine ⟨fun i => (gI τ 44 0 (400 * s + i)).toNatClampNeg, fun i hi => ?_⟩
    obtain ⟨n, hn, e1, e2⟩ := q11 i hi
    have e3 : (gI τ 44 0 (400 * s + i)).toNatClampNeg = n := by rw [e1, nI_clamp (by omega)]
    show (gI τ 44 0 (400 * s + i)).toNatClampNeg < 256 ∧ gI σ 16 s i = sb (gI τ 44 0 (400 * s + i)).toNatClampNeg ∧ gI τ 44 0 (400 * s + i) = nI (gI τ 44 0 (400 * s + i)).toNatClampNeg
    rw [e3]
    exact ⟨hn, e2, e1⟩
  have hD2 : ∀ i, i < zS σ s → D i < 256 ∧ gI σ 16 s i &&& 255 = nI (D i) := fun i hi => ⟨(hD i hi).1, by rw [(hD i hi).2.1]; exact bt_255 (bt_mk (hD i hi).1)⟩
  have hIg := h.1.2.1
  have g45 := hIg.2.2.2.2.2.2.2.2.2.1
  have g44 := hIg.2.2.2.2.2.2.2.2.1
  have g39 := hIg.2.2.2.2.2.2.1
  have g41 := hIg.2.2.2.2.2.2.2.1
  have c9 := h.1.1.2.2.2.2.2.2.1
  have c10 := h.1.1.2.2.2.2.2.2.2.1
  have c11 := h.1.1.2.2.2.2.2.2.2.2
  generalize hz : zS σ s = z at *
  unfold f6_examine f11_piece
  rw [g45, idx_nI _ hs24 (by omega), olet_eq, olet_eq, olet_eq, q3, q4, pk_sub hp, ix44]
  by_cases c0 : z = p
  · have e0 : nI (z - p) = 0 := by rw [c0, Nat.sub_self]; rfl
    rw [if_pos e0, if_pos e0]
    exact EOut_f 6 (by omega) (by omega) (KC0_r σ) (KR_r τ)
  have e0 : ¬ nI (z - p) = 0 := nI_ne0 (by omega) (by omega)
  rw [if_neg e0, if_neg e0]
  by_cases c7 : z - p < 7
  · rw [if_neg (show ¬ (7 : Int32) ≤ nI (z - p) from nI_ge (b := 7) c7 (by omega)), if_pos (show nI (z - p) < (7 : Int32) from nI_lt (b := 7) c7 (by omega))]
    exact EOut_f 7 (by omega) (by omega) (KC0_r σ) (KR_r τ)
  have a3 : ∀ n : Nat, nI n + 3 = nI (n + 3) := fun n => nI_add n 3
  have a4 : ∀ n : Nat, nI n + 4 = nI (n + 4) := fun n => nI_add n 4
  have a1 : ∀ n : Nat, nI n + 1 = nI (n + 1) := fun n => nI_add n 1
  have a2 : ∀ n : Nat, nI n + 2 = nI (n + 2) := fun n => nI_add n 2
  have a5 : ∀ n : Nat, nI n + 5 = nI (n + 5) := fun n => nI_add n 5
  have a7 : ∀ n : Nat, nI n + 7 = nI (n + 7) := fun n => nI_add n 7
  have b7 : ∀ n : Nat, 7 + nI n = nI (7 + n) := fun n => nI_add 7 n
  have m256 : ∀ n : Nat, 256 * nI n = nI (256 * n) := fun n => pk_mul 256 n
  have d3 := hD (p + 3) (by omega)
  have d4 := hD (p + 4) (by omega)
  have d0 := hD p (by omega)
  have d1 := hD (p + 1) (by omega)
  have d2 := hD (p + 2) (by omega)
  have x3 : 400 * s + p + 3 = 400 * s + (p + 3) := by omega
  have x4 : 400 * s + p + 4 = 400 * s + (p + 4) := by omega
  have x1 : 400 * s + p + 1 = 400 * s + (p + 1) := by omega
  have x2 : 400 * s + p + 2 = 400 * s + (p + 2) := by omega
  rw [if_pos (show (7 : Int32) ≤ nI (z - p) from nI_le (a := 7) (by omega) (by omega)), if_neg (show ¬ nI (z - p) < (7 : Int32) from nI_nlt (b := 7) (by omega) (by omega)), a3, a3, a4, g44, idx_nI _ (by omega) (by omega), idx_nI _ (by omega) (by omega), x3, x4, d3.2.2, d4.2.2, m256, b7, nI_add, pAt (by omega) q3 q10 hD2 (by omega), obind_some]
  have e34 : p + 3 + 1 = p + 4 := by omega
  rw [e34, b7]
  have hsz : 7 + D (p + 3) + 256 * D (p + 4) = 7 + (D (p + 3) + 256 * D (p + 4)) := by omega
  rw [hsz]
  by_cases cs : 7 + (D (p + 3) + 256 * D (p + 4)) ≤ z - p
  · rw [if_pos (nI_le cs (by omega)), if_pos (nI_le cs (by omega)), idx_nI _ (by omega) (by omega), idx_nI _ (by omega) (by omega), olet_eq, d3.2.2, d4.2.2, m256, nI_add, idx_nI _ (by omega) (by omega), olet_eq, d0.2.2, a1, a1, idx_nI _ (by omega) (by omega), olet_eq, a2, a2, idx_nI _ (by omega) (by omega), olet_eq, x1, d1.2.2, x2, d2.2.2]
    rw [bAt (by omega) q3 q10 hD2 (by omega), obind_some, olet_eq, bAt (by omega) q3 q10 hD2 (by omega), obind_some, olet_eq, bAt (σ := sI σ 12 0 0 (nI (D (p + 1)))) (z := z) (D := D) (by omega) q3 q10 hD2 (by omega), obind_some, olet_eq, coder_in, coder_in11, obind_some, obind_some]
    have f12 : ∀ v w, gI (sI (sI σ 12 0 0 v) 12 0 1 w) 12 0 0 = v := fun _ _ => rfl
    have f12b : ∀ v w, gI (sI (sI σ 12 0 0 v) 12 0 1 w) 12 0 1 = w := fun _ _ => rfl
    have hK12 : ∀ v w, KC0 σ (sI (sI σ 12 0 0 v) 12 0 1 w) := fun v w => KC0_t (KC0_12 σ 0 v) (KC0_12 _ 1 w)
    by_cases hx : 0 ≤ (nI (D p) - 160).toInt ∧ (nI (D p) - 160).toInt ≤ 4
    · rw [decide_eq_true hx, if_pos rfl, if_pos rfl, f12, kind_in _ d1.1, obind_some]
      by_cases hk : D (p + 1) ≤ 7
      · rw [decide_eq_true hk, if_pos rfl, if_neg (show ¬ (7 : Int32) < nI (D (p + 1)) from nI_nlt (a := 7) (by omega) (by omega)), f12b]
        by_cases hm : D (p + 2) ≤ 24
        · rw [if_pos (show nI (D (p + 2)) ≤ (24 : Int32) from nI_le (b := 24) (by omega) (by omega)), if_pos (show nI (D (p + 2)) ≤ (24 : Int32) from nI_le (b := 24) (by omega) (by omega)), olet_eq, olet_eq, olet_eq, olet_eq, a5, nI_add]
          have y18 : ∀ v, gI (sI τ 29 0 18 v) 29 0 18 = v := fun _ => rfl
          have y19 : ∀ v w, gI (sI (sI τ 29 0 18 v) 29 0 19 w) 29 0 19 = w := fun _ _ => rfl
          have y44 : ∀ v w j, gI (sI (sI τ 29 0 18 v) 29 0 19 w) 44 0 j = gI τ 44 0 j := fun _ _ _ => rfl
          have n44 : ∀ v w, gN (sI (sI τ 29 0 18 v) 29 0 19 w) 44 0 = 9600 := fun _ _ => g44
          obtain ⟨c, hc, ec⟩ := of_in (v := nI (D p) - 160) (n := 5) (by omega) (by omega)
          rw [y18, nI_add, y19, ec]
          generalize hsize : D (p + 3) + 256 * D (p + 4) = size at *
          generalize hkd : D (p + 1) = kd at *
          generalize hll : D (p + 2) = l at *
          have hI16 : Inv t (sI (sI σ 12 0 0 (nI kd)) 12 0 1 (nI l)) (sI (sI τ 29 0 18 (nI (p + 5))) 29 0 19 (nI (p + 5 + size))) := (KR_fu τ _ _).1 _ _ ((hK12 (nI kd) (nI l)).1 _ _ h)
          have hz16 : zS (sI (sI σ 12 0 0 (nI kd)) 12 0 1 (nI l)) s = z := hz
          obtain ⟨n, hn, k1, k2⟩ := sum_both2 (N := N) (s := s) (a := p) (e := p + 5 + size) hN hI16 hs1 (by rw [hz16]; omega) (by omega)
          have ds := hD (p + 5 + size) (by omega)
          have ds1 := hD (p + 5 + size + 1) (by omega)
          rw [k1, k2, obind_some, obind_some, pAt (σ := sI (sI σ 12 0 0 (nI kd)) 12 0 1 (nI l)) (z := z) (D := D) (by omega) q3 q10 hD2 (by omega), obind_some, y19, n44, ix44, a1, idx_nI _ (by omega) (by omega), idx_nI _ (by omega) (by omega), y44, y44, ds.2.2, show 400 * s + (p + 5 + size) + 1 = 400 * s + (p + 5 + size + 1) by omega, ds1.2.2, m256, nI_add]
          by_cases cS : nI n = nI (D (p + 5 + size) + 256 * D (p + 5 + size + 1))
          · rw [if_pos cS, if_pos cS, f12, f12b]
            have hSB : SB (sI (sI σ 12 0 0 (nI kd)) 12 0 1 (nI l)) τ s z D := ⟨hs24, by omega, q3, q10, g44, g39, c10, fun i hi => ⟨(hD i hi).1, (hD2 i hi).2, (hD i hi).2.2⟩⟩
            have hU := unpack_both (N := N) (c := c) (kd := kd) (l := l) (s := s) (z := z) (p := p) (sp := p + 5 + size) hN hc hm hSB c9 c11 g41 (by omega) (by omega) (fun i hi => (hD i hi).2.1)
            have e6 : p + 5 + size - (p + 5) = size := by omega
            rw [e6] at hU
            rcases hU with ⟨σ', τ', F, u1, u2, u3, u4, u5, u6, u7⟩ | ⟨σ', τ', u1, u2, u3, u4⟩
            · rw [u1, u2, obind_some, if_pos rfl, olet_eq, a7, nI_add]
              refine Or.inl ⟨_, τ', kd, l, p + 7 + size, F, rfl, rfl, KC0_t (hK12 (nI kd) (nI l)) (KC0_t (KC0_of u3) (KC0_12 σ' 2 _)), u4, by omega, hm, by omega, by omega, ?_, ?_, rfl, u6, ?_, ?_, u5⟩
              · show gI σ' 12 0 0 = nI kd
                rw [u3.2.2.2.2]
                rfl
              · show gI σ' 12 0 1 = nI l
                rw [u3.2.2.2.2]
                rfl
              · rw [u7, a2]
                congr 1
                omega
              · exact d1.2.2
            · rw [u1, u2, obind_some, if_neg (show ¬ (false = true) by decide)]
              exact EOut_f 8 (by omega) (by omega) (KC0_t (hK12 (nI kd) (nI l)) (KC0_of u3)) u4
          · rw [if_neg cS, if_neg cS]
            exact EOut_f 8 (by omega) (by omega) (hK12 _ _) (KR_fu τ _ _)
        · rw [if_neg (show ¬ nI (D (p + 2)) ≤ (24 : Int32) from nI_ge (a := 24) (by omega) (by omega)), if_neg (show ¬ nI (D (p + 2)) ≤ (24 : Int32) from nI_ge (a := 24) (by omega) (by omega))]
          exact EOut_f 8 (by omega) (by omega) (hK12 _ _) (KR_r τ)
      · rw [decide_eq_false hk, if_neg (show ¬ (false = true) by decide), if_pos (show (7 : Int32) < nI (D (p + 1)) from nI_lt (a := 7) (by omega) (by omega))]
        exact EOut_f 8 (by omega) (by omega) (hK12 _ _) (KR_r τ)
    · rw [decide_eq_false hx, if_neg (show ¬ (false = true) by decide), if_neg (show ¬ (false = true) by decide)]
      exact EOut_f 8 (by omega) (by omega) (hK12 _ _) (KR_r τ)
  · rw [if_neg (nI_ge (by omega) (by omega)), if_neg (nI_ge (by omega) (by omega))]
    exact EOut_f 7 (by omega) (by omega) (KC0_r σ) (KR_r τ)
