/-! ===== shape: rounding, both sides ===== -/
theorem cv_ite (a b : Int) (op : CmpOp) : Op.cmpValue (some (compare a b)) op = if a < b then -1 else if a = b then 0 else 1 := by
  rw [FP.Core.compare_ite]
  unfold Op.cmpValue
  by_cases h1 : a < b
  · simp only [if_pos h1]
  · by_cases h2 : a = b
    · simp only [if_neg h1, if_pos h2]
    · simp only [if_neg h1, if_neg h2]
theorem cv_ge (a b : Int) (op : CmpOp) : 0 ≤ Op.cmpValue (some (compare a b)) op ↔ b ≤ a := by
  rw [cv_ite]
  by_cases h1 : a < b
  · rw [if_pos h1]
    exact ⟨fun q => absurd q (by decide), fun q => by omega⟩
  · rw [if_neg h1]
    refine ⟨fun _ => by omega, fun _ => ?_⟩
    split <;> decide
theorem cv_gt (a b : Int) (op : CmpOp) : 0 < Op.cmpValue (some (compare a b)) op ↔ b < a := by
  rw [cv_ite]
  by_cases h1 : a < b
  · rw [if_pos h1]
    exact ⟨fun q => absurd q (by decide), fun q => by omega⟩
  · rw [if_neg h1]
    by_cases h2 : a = b
    · rw [if_pos h2]
      exact ⟨fun q => absurd q (by decide), fun q => by omega⟩
    · rw [if_neg h2]
      exact ⟨fun _ => by omega, fun _ => by decide⟩
theorem cv_le (a b : Int) (op : CmpOp) : Op.cmpValue (some (compare a b)) op ≤ 0 ↔ a ≤ b := by
  rw [cv_ite]
  by_cases h1 : a < b
  · rw [if_pos h1]
    exact ⟨fun _ => by omega, fun _ => by decide⟩
  · rw [if_neg h1]
    by_cases h2 : a = b
    · rw [if_pos h2]
      exact ⟨fun _ => by omega, fun _ => by decide⟩
    · rw [if_neg h2]
      exact ⟨fun q => absurd q (by decide), fun q => by omega⟩
theorem zc52 : FP.Core.zval FP.Core.b64 (FP.Core.val64 4841369599423283200) = ((4503599627370496 : Nat) : Int) * (FP.Core.one64 : Int) := by decide +kernel
theorem zc52n : FP.Core.zval FP.Core.b64 (FP.Core.val64 14064741636278059008) = -(((4503599627370496 : Nat) : Int) * (FP.Core.one64 : Int)) := by decide +kernel
theorem zch : 2 * FP.Core.zval FP.Core.b64 (FP.Core.val64 4602678819172646912) = (FP.Core.one64 : Int) := by decide +kernel
theorem nc52 : FP.Core.val64 4841369599423283200 ≠ .nan := (FP.Core.ne_nan _).mpr (by decide)
theorem nc52n : FP.Core.val64 14064741636278059008 ≠ .nan := (FP.Core.ne_nan _).mpr (by decide)
theorem nch : FP.Core.val64 4602678819172646912 ≠ .nan := (FP.Core.ne_nan _).mpr (by decide)
theorem rep64 {n j : Nat} (hn : n < 2 ^ 53) (hj : j ≤ 2045) : ∃ V, FP.Core.fits FP.Core.b64 V ∧ V ≠ .nan ∧ FP.Core.zval FP.Core.b64 V = ((n * 2 ^ j : Nat) : Int) := by
  have e1 : FP.Core.b64.qmin = -1074 := by decide
  have e2 : FP.Core.b64.qmax = 971 := by decide
  obtain ⟨c', q', h1, h2⟩ := FP.Core.round_exact FP.Core.good_b64 false (c := n) (q := FP.Core.b64.qmin + (j : Int)) hn (by omega) (by omega)
  refine ⟨.fin false c' q', by rw [← h1]; exact FP.Core.round_fits FP.Core.good_b64 _, FP.Core.Datum.noConfusion, ?_⟩
  show FP.Core.signed false (FP.Core.inUnits c' q' FP.Core.b64.qmin) = _
  rw [h2]
  unfold FP.Core.inUnits FP.Core.signed
  have e3 : (FP.Core.b64.qmin + (j : Int) - FP.Core.b64.qmin).toNat = j := by omega
  rw [e3]
  rfl
theorem dsub_ge {x y : UInt64} (hx : FP.Core.DFin x) (hy : FP.Core.DFin y) {V : FP.Core.Datum} (fV : FP.Core.fits FP.Core.b64 V) (nV : V ≠ .nan) (h : FP.Core.zval FP.Core.b64 V ≤ FP.Core.zval FP.Core.b64 (FP.Core.val64 x) - FP.Core.zval FP.Core.b64 (FP.Core.val64 y)) : FP.Core.zval FP.Core.b64 V ≤ FP.Core.zval FP.Core.b64 (FP.Core.val64 (FP.dsub x y)) := by
  have e : FP.Core.val64 (FP.dsub x y) = FP.Core.round FP.Core.b64 (FP.Core.exactSum (FP.Core.val64 x) (FP.Core.negate (FP.Core.val64 y))) := FP.Core.val64_dsub x y
  rw [e]
  have hy' := hy
  obtain ⟨s, c, q, ey⟩ := hy'
  refine FP.Core.sum_ge FP.Core.good_b64 hx ⟨!s, c, q, by rw [ey]; rfl⟩ (FP.Core.val64_fits x) (FP.Core.negate_fits (FP.Core.val64_fits y)) fV nV ?_
  rw [FP.Core.zval_negate]
  omega
theorem dsub_le {x y : UInt64} (hx : FP.Core.DFin x) (hy : FP.Core.DFin y) {V : FP.Core.Datum} (fV : FP.Core.fits FP.Core.b64 V) (nV : V ≠ .nan) (h : FP.Core.zval FP.Core.b64 (FP.Core.val64 x) - FP.Core.zval FP.Core.b64 (FP.Core.val64 y) ≤ FP.Core.zval FP.Core.b64 V) : FP.Core.zval FP.Core.b64 (FP.Core.val64 (FP.dsub x y)) ≤ FP.Core.zval FP.Core.b64 V := by
  have e : FP.Core.val64 (FP.dsub x y) = FP.Core.round FP.Core.b64 (FP.Core.exactSum (FP.Core.val64 x) (FP.Core.negate (FP.Core.val64 y))) := FP.Core.val64_dsub x y
  rw [e]
  have hy' := hy
  obtain ⟨s, c, q, ey⟩ := hy'
  refine FP.Core.sum_le FP.Core.good_b64 hx ⟨!s, c, q, by rw [ey]; rfl⟩ (FP.Core.val64_fits x) (FP.Core.negate_fits (FP.Core.val64_fits y)) fV nV ?_
  rw [FP.Core.zval_negate]
  omega
/-- what is over a whole one, as a number of few digits -/
theorem over_rep {sf J fb : Nat} (hsf : sf < 2 * 2 ^ fb) (hfb : fb ≤ 52) (hJ : J ≤ 2045) : (∃ n j, n < 2 ^ 53 ∧ j ≤ 2045 ∧ sf * 2 ^ J % 2 ^ 1074 = n * 2 ^ j) ∧ (sf * 2 ^ J % 2 ^ 1074 ≠ 0 → 2 ^ 1074 ≤ 2 * (sf * 2 ^ J) → ∃ n j, n < 2 ^ 53 ∧ j ≤ 2045 ∧ 2 ^ 1074 - sf * 2 ^ J % 2 ^ 1074 = n * 2 ^ j) := by
  have hp : 2 ^ fb ≤ 2 ^ 52 := Nat.pow_le_pow_right (by omega) hfb
  by_cases c : 1074 ≤ J
  · have e : sf * 2 ^ J % 2 ^ 1074 = 0 := by
      have e1 : 2 ^ J = 2 ^ 1074 * 2 ^ (J - 1074) := by
        rw [← Nat.pow_add]
        exact pow_c (by omega)
      rw [e1, Nat.mul_left_comm]
      exact Nat.mul_mod_right _ _
    refine ⟨⟨0, 0, Nat.two_pow_pos _, by omega, by rw [e, Nat.zero_mul]⟩, fun q => absurd e q⟩
  · have eU : 2 ^ 1074 = 2 ^ (1074 - J) * 2 ^ J := by
      rw [← Nat.pow_add]
      exact pow_c (by omega)
    have em : sf * 2 ^ J % 2 ^ 1074 = (sf % 2 ^ (1074 - J)) * 2 ^ J := by
      rw [eU, Nat.mul_mod_mul_right]
    have hle : sf % 2 ^ (1074 - J) ≤ sf := Nat.mod_le _ _
    refine ⟨⟨sf % 2 ^ (1074 - J), J, by omega, by omega, em⟩, fun h0 h1 => ?_⟩
    have hJ0 := Nat.two_pow_pos J
    have hlt : 2 ^ (1074 - J) ≤ 2 * sf := by
      have h2 : 2 ^ (1074 - J) * 2 ^ J ≤ (2 * sf) * 2 ^ J := by
        rw [← eU, Nat.mul_assoc]
        exact h1
      exact Nat.le_of_mul_le_mul_right h2 hJ0
    have hn : 2 ^ (1074 - J) ≤ 2 ^ 53 := by
      have h3 : 2 ^ (1074 - J) < 2 ^ 54 := by omega
      have h4 : 1074 - J < 54 := (Nat.pow_lt_pow_iff_right (by omega)).mp h3
      exact Nat.pow_le_pow_right (by omega) (by omega)
    have hne : sf % 2 ^ (1074 - J) ≠ 0 := by
      intro q
      rw [em, q, Nat.zero_mul] at h0
      exact h0 rfl
    refine ⟨2 ^ (1074 - J) - sf % 2 ^ (1074 - J), J, by omega, by omega, ?_⟩
    rw [Nat.sub_mul, ← eU, em]
