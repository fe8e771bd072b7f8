/-! ===== shape: both sides ===== -/
theorem xor_back (a b : Int64) : (a ^^^ b) ^^^ b = a := by
  rw [Int64.xor_assoc, Int64.xor_self, Int64.xor_zero]
theorem one_word {k : Int32} (hk : k = 6 ∨ k = 7) {w : Int64} (v : Int64) (hv : v.toInt = FP.Core.signed (decide (w.toInt < 0)) 1) (τ : rS) : f11_wordOf k (FP.l2d v) τ = some (wsg k (bsk k * 2 ^ fbk k) (decide (w.toInt < 0)), τ) := by
  have hbb := bsk_or k
  have eP : uOf (fbk k) (bsk k * 2 ^ fbk k) = 1 * pk1 k := by
    have := uOf_E (fb := fbk k) (E := bsk k) (y := 0) (by omega) (Nat.zero_le _)
    rw [Nat.add_zero, Nat.add_zero] at this
    rw [this, Nat.one_mul]
    unfold pk1
    rw [← Nat.pow_add, Nat.add_comm]
  have h := finR (v := v) hk hv (by decide) eP τ
  unfold B11_rounded_135 at h
  have hne : v ≠ 0 := by
    intro e
    rw [e, l0i] at hv
    have := (FP.Core.signed_eq_zero _ _).mp hv.symm
    omega
  rw [if_neg hne] at h
  cases e : f11_wordOf k (FP.l2d v) τ with
  | none => rw [e] at h; cases h
  | some p =>
    obtain ⟨r, s⟩ := p
    rw [e, obind_some] at h
    exact h
theorem shapedR {k : Int32} (hk : k = 6 ∨ k = 7) {w : Int64} (cw : cutw k w = w) {way : Int32} (hway : way = 0 ∨ way = 1 ∨ way = 2 ∨ way = 3 ∨ way = 4 ∨ way = 5) (σ τ : rS) : ∃ v, f4_shaped k w way σ = some (v, σ) ∧ f11_shapedReal k w way τ = some (v, τ) := by
  have hself := self_wsg hk cw
  have q : (0 : Int64) ≤ w ↔ ¬ w.toInt < 0 := by rw [Int64.le_iff_toInt_le, l0i]; omega
  have k0 : ¬ k = 0 := by
    rcases hk with rfl | rfl
    · decide
    · decide
  unfold f4_shaped f11_shapedReal
  rw [gap4_eq, gap11_eq, obind_some, obind_some]
  by_cases g : isg k w = true
  · rw [if_pos g, if_pos g]
    exact ⟨w, rfl, rfl⟩
  rw [if_neg g, if_neg g]
  have g' : isg k w = false := by simpa using g
  have hle : szw k w ≤ infk k := by
    rw [isg_sz hk, decide_eq_false_iff_not] at g'
    omega
  have hturn : f4_turned k w σ = some (if k = 6 then w ^^^ (-2147483648) else w ^^^ (-9223372036854775808), σ) := by
    unfold f4_turned f2_signBit
    rw [if_neg k0, flt_67 hk, obind_some, if_pos rfl]
    by_cases h6 : k = 6
    · rw [if_pos h6, if_pos h6]; rfl
    · rw [if_neg h6, if_neg h6]; rfl
  have hround : way = 1 ∨ way = 2 ∨ way = 3 → ∃ v, (obind (f2_rounded k w way σ) fun r9 σ10 => some (r9, σ10)) = some (v, σ) ∧ (obind (f11_rounded k w way τ) fun r3 σ4 => some (r3, σ4)) = some (v, τ) := by
    intro hw
    obtain ⟨S', s1, s2, s3⟩ := rndC hk cw way σ hle
    refine ⟨wsg k S' (decide (w.toInt < 0)), ?_, ?_⟩
    · rw [s3, obind_some]
    · rw [rndR hk cw g' hw s2, obind_some]
  rcases hway with rfl | rfl | rfl | rfl | rfl | rfl
  · rw [if_pos rfl, if_pos rfl]
    have e : (if k = 6 then some ((w &&& 2147483647), τ) else some ((w &&& 9223372036854775807), τ)) = some (lN (szw k w), τ) := size_eq k w τ
    rw [e]
    by_cases c : w.toInt < 0
    · rw [if_neg (fun x => q.mp x c), hturn, obind_some]
      refine ⟨_, rfl, ?_⟩
      rw [decide_eq_true c] at hself
      congr 2
      unfold wsg at hself
      rw [if_pos rfl] at hself
      by_cases h6 : k = 6
      · rw [if_pos h6] at hself ⊢
        have h1 : w ^^^ (-2147483648) = (lN (szw k w) ^^^ (-2147483648)) ^^^ (-2147483648) := by rw [← hself]
        rw [h1, xor_back]
      · rw [if_neg h6] at hself ⊢
        have h1 : w ^^^ (-9223372036854775808) = (lN (szw k w) ^^^ (-9223372036854775808)) ^^^ (-9223372036854775808) := by rw [← hself]
        rw [h1, xor_back]
    · rw [if_pos (q.mpr c)]
      refine ⟨w, rfl, ?_⟩
      rw [decide_eq_false c] at hself
      congr 2
      exact hself.symm
  · rw [if_neg (by decide), if_neg (by decide), if_neg (by decide), if_neg (by decide), if_neg (by decide), if_neg (by decide)]
    exact hround (Or.inl rfl)
  · rw [if_neg (by decide), if_neg (by decide), if_neg (by decide), if_neg (by decide), if_neg (by decide), if_neg (by decide)]
    exact hround (Or.inr (Or.inl rfl))
  · rw [if_neg (by decide), if_neg (by decide), if_neg (by decide), if_neg (by decide), if_neg (by decide), if_neg (by decide)]
    exact hround (Or.inr (Or.inr rfl))
  · rw [if_neg (by decide), if_pos rfl, if_neg (by decide), if_neg (by decide), if_pos rfl, real_eq hk g', obind_some]
    have hrz := real_zero hk g'
    unfold f2_signOf
    rw [size_eq, obind_some]
    by_cases c0 : szw k w = 0
    · rw [if_pos (by rw [c0]; rfl), obind_some, if_pos (hrz.mpr c0)]
      exact ⟨w, rfl, rfl⟩
    · have hbb := bsk_or k
      have hS := szw_lt k w
      have hne : ¬ lN (szw k w) = 0 := fun x => c0 ((lEq (b := 0) hS (by omega)).mp x)
      have hob : bsk k * 2 ^ fbk k ≤ 1023 * 2 ^ 52 := Nat.mul_le_mul (by omega) (Nat.pow_le_pow_right (by omega) (by omega))
      have eo : f2_oneOf k σ = some (lN (bsk k * 2 ^ fbk k), σ) := by
        unfold f2_oneOf
        have e0 : Int32.toInt64 (nI (bsk k)) = lN (bsk k) := by
          apply lI
          rw [Int32.toInt_toInt64, nI_toInt (by omega)]
        rw [bs_eq, obind_some, fb_eq, obind_some, e0, lshl (by omega) (by omega)]
      rw [if_neg hne, eo, obind_some, if_neg (fun x => c0 (hrz.mp x))]
      by_cases c : w.toInt < 0
      · have l1 : FP.l2d (-1) = 13830554455654793216 := by decide +kernel
        have hw := one_word hk (w := w) (-1) (by rw [decide_eq_true c]; rfl) τ
        rw [l1] at hw
        rw [if_neg (fun x => q.mp x c), if_neg (fun x => q.mp x c), wsg_eq, obind_some, obind_some, hw, obind_some, decide_eq_true c]
        exact ⟨_, rfl, rfl⟩
      · have l1 : FP.l2d 1 = 0x3ff0000000000000 := by decide +kernel
        have hw := one_word hk (w := w) 1 (by rw [decide_eq_false c]; rfl) τ
        rw [l1] at hw
        rw [if_pos (q.mpr c), if_pos (q.mpr c), wsg_eq, obind_some, obind_some, hw, obind_some, decide_eq_false c]
        exact ⟨_, rfl, rfl⟩
  · rw [if_neg (by decide), if_neg (by decide), if_pos rfl, if_neg (by decide), if_pos rfl, hturn, obind_some]
    unfold f11_signOf
    by_cases h6 : k = 6
    · rw [if_pos h6, if_pos h6]
      exact ⟨_, rfl, rfl⟩
    · rw [if_neg h6, if_neg h6]
      exact ⟨_, rfl, rfl⟩
theorem shape50 {t j i : Nat} {σ τ : rS} {way : Int32} (h : Inv t σ τ) (hj : j < gC σ 13) (hway : way = 0 ∨ way = 1 ∨ way = 2 ∨ way = 3 ∨ way = 4 ∨ way = 5) (hw2 : way = 0 ∨ way = 5 ∨ gI σ 13 j 0 = 6 ∨ gI σ 13 j 0 = 7) (y : Int32) : Bth t (B10_shape_50 0 y way j σ) (B11_shape_53 0 (nI j) y way (gI σ 13 j 0) τ) := by
  obtain ⟨q1, ⟨kd, hkd, q2⟩, q3, q4, q5, q6, q7, q8⟩ := h.2.2.1.2.2.2.2 j hj
  have hz := h.2.2.1.1
  unfold B10_shape_50 B11_shape_53
  have e1 : f10_rowNumbered 0 (nI j) σ = some (some j, σ) := by
    rcases rowCase h (nI j) with ⟨a1, a2⟩ | ⟨j', hj', hjj, a1, a2⟩
    · exfalso
      unfold f10_rowNumbered at a1
      rw [if_neg (nI_pos (by omega)), h.2.2.1.2.2.1, if_neg (nI_ge hj (by omega)), h.1.1.1, idx_nI _ (by omega) (by omega), olet_eq, q1] at a1
      cases a1
    · have : j = j' := (nI_eq (by omega) (by omega)).mp hjj
      rw [this] at a1 ⊢
      exact a1
  rcases againstCase h (nI j) y with ⟨a1, a2⟩ | ⟨j', hj', hjj, a1, rest⟩
  · rw [e1] at a1
    cases a1
  · have ejj : j' = j := by
      rw [e1] at a1
      have := (Prod.mk.inj (Option.some.inj a1)).1
      exact (Option.some.inj this).symm
    subst ejj
    rcases rest with ⟨hl, e2⟩ | ⟨hl, e3, e2⟩ | ⟨hl, e3, e2, i, hi, rfl⟩
    · rw [if_neg hl, e2, obind_some, if_neg (by decide), found_eq (v := 1) h.1 1 rfl (by omega), obind_some]
      exact bth_ret (fnd_Inv (f := 1) h (by omega)) _
    · rw [if_pos hl, e3, obind_some, if_neg (by decide), e2, obind_some, if_neg (by decide), found_eq (v := 2) h.1 2 rfl (by omega), obind_some]
      exact bth_ret (fnd_Inv (f := 2) h (by omega)) _
    · have ca := (q8 i hi).2
      rw [if_pos hl, e3, obind_some, if_pos rfl, e2, obind_some, if_pos rfl, idx_nI _ hi (by omega), ix24, h.1.2.1.2.2.2.2.1, idx_nI _ (by omega) (by omega), olet_eq, (q8 i hi).1]
      generalize hA : gL σ 14 j' i = a at *
      generalize hkk : gI σ 13 j' 0 = k at *
      rcases kd_cases q2 hkd with h67 | ⟨h6, h6', h7', hk6⟩
      · have h6 : ¬ k < 6 := by
          rcases h67 with rfl | rfl
          · decide
          · decide
        obtain ⟨v, v1, v2⟩ := shapedR h67 ca hway σ τ
        rw [v1, obind_some, olet_eq, if_neg h6, v2, obind_some, olet_eq]
        exact bth_ret (seen_Inv h _) _
      · have hlt : k < 6 := by rw [q2]; exact nI_lt (b := 6) hk6 (by omega)
        have q0 : (0 : Int64) ≤ a ↔ ¬ a.toInt < 0 := by rw [Int64.le_iff_toInt_le, l0i]; omega
        have w05 : way = 0 ∨ way = 5 := by
          rcases hw2 with w | w | w | w
          · exact Or.inl w
          · exact Or.inr w
          · exact absurd w h6'
          · exact absurd w h7'
        unfold f4_shaped f4_turned B11_shape_142
        rw [gap4_eq, isg_no h6' h7', obind_some, if_neg (show ¬ (false = true) by decide), if_pos hlt]
        simp only [flt_no h6' h7', told_eq, cut_eq, obind_some, Bool.false_eq_true, if_false, olet_eq]
        by_cases ck : k = 0
        · rw [if_pos ck, if_pos ck]
          rcases w05 with rfl | rfl
          · have hnn : 0 ≤ a := by
              rw [q0]
              rw [ck] at ca
              have e : cutw 0 a = a &&& 1 := rfl
              rw [e] at ca
              have h1 : (a &&& 1).toInt = a.toInt % 2 ^ 1 := and_mask a 1 1 (by omega) rfl
              rw [ca] at h1
              omega
            rw [if_pos rfl, if_pos rfl, if_pos hnn]
            exact bth_ret (seen_Inv h _) _
          · rw [if_neg (by decide), if_neg (by decide), if_pos rfl, if_neg (by decide)]
            exact bth_ret (seen_Inv h _) _
        · rw [if_neg ck, if_neg ck]
          rcases w05 with rfl | rfl
          · rw [if_pos rfl, if_neg (show ¬ (0 : Int32) = 5 by decide)]
            by_cases c : a.toInt < 0
            · rw [if_neg (fun x => q0.mp x c), if_neg (fun x => q0.mp x c)]
              exact bth_ret (seen_Inv h _) _
            · rw [if_pos (q0.mpr c), if_pos (q0.mpr c)]
              exact bth_ret (seen_Inv h _) _
          · rw [if_neg (by decide), if_neg (by decide), if_pos rfl, if_pos rfl]
            exact bth_ret (seen_Inv h _) _
theorem eq_shape (N : Nat) : EQ_shape N Inv := by
  intro v y x t σ τ ht h
  show Bth t _ _
  unfold f10_shape f11_shape
  rcases rowCase h v with ⟨e1, e2⟩ | ⟨j, hj, rfl, e1, e2⟩
  · rw [e1, e2]; exact bth_ret h _
  obtain ⟨q1, ⟨kd, hkd, q2⟩, q3, q4, q5, q6, q7, q8⟩ := h.2.2.1.2.2.2.2 j hj
  have hz := h.2.2.1.1
  have e := in_lit 0 5 x τ
  have i5 : (5 : Int32).toInt = 5 := rfl
  rw [z0, i5] at e
  have e' : f11_in (Int32.toInt64 x) 0 5 τ = _ := e
  rw [e1, e2, obind_some, obind_some, onul_some, if_pos rfl, e', obind_some]
  by_cases hx : 0 ≤ x.toInt ∧ x.toInt ≤ 5
  · have c1 : ¬ x < 0 := by rw [Int32.lt_iff_toInt_lt, z0]; omega
    have c2 : x ≤ 5 := by rw [Int32.le_iff_toInt_le, i5]; omega
    obtain ⟨c, hc, rfl⟩ := of_in (v := x) (n := 6) (by omega) (by omega)
    have hway : nI c = 0 ∨ nI c = 1 ∨ nI c = 2 ∨ nI c = 3 ∨ nI c = 4 ∨ nI c = 5 := by
      have hcc : c = 0 ∨ c = 1 ∨ c = 2 ∨ c = 3 ∨ c = 4 ∨ c = 5 := by omega
      rcases hcc with rfl | rfl | rfl | rfl | rfl | rfl
      · exact Or.inl rfl
      · exact Or.inr (Or.inl rfl)
      · exact Or.inr (Or.inr (Or.inl rfl))
      · exact Or.inr (Or.inr (Or.inr (Or.inl rfl)))
      · exact Or.inr (Or.inr (Or.inr (Or.inr (Or.inl rfl))))
      · exact Or.inr (Or.inr (Or.inr (Or.inr (Or.inr rfl))))
    rw [if_neg c1, if_pos c2, decide_eq_true hx, if_pos rfl, h.1.2.1.2.1, idx_nI _ (by omega) (by omega), olet_eq, q3]
    by_cases w0 : nI c = 0
    · rw [if_pos w0, if_pos w0]
      exact shape50 (i := 0) h hj hway (Or.inl w0) y
    · rw [if_neg w0, if_neg w0]
      by_cases w5 : nI c = 5
      · rw [if_pos w5, if_pos w5]
        exact shape50 (i := 0) h hj hway (Or.inr (Or.inl w5)) y
      · rw [if_neg w5, if_neg w5]
        rcases kd_cases q2 hkd with h67 | ⟨h6, h6', h7', hk6⟩
        · have h6 : 6 ≤ gI σ 13 j 0 := by
            rcases h67 with q | q
            · rw [q]; decide
            · rw [q]; decide
          rw [flt_67 h67, obind_some, if_pos rfl, if_pos h6]
          exact shape50 (i := 0) h hj hway (Or.inr (Or.inr h67)) y
        · rw [flt_no h6' h7', obind_some, if_neg (by decide), if_neg h6]
          exact bth_ret h _
  · rw [decide_eq_false hx]
    by_cases c1 : x < 0
    · rw [if_pos c1]; exact bth_ret h _
    · have c2 : ¬ x ≤ 5 := by
        rw [Int32.lt_iff_toInt_lt, z0] at c1
        rw [Int32.le_iff_toInt_le, i5]; omega
      rw [if_neg c1, if_neg c2]; exact bth_ret h _
