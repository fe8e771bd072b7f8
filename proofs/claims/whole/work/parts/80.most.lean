/-! ===== masks, gaps, ranks ===== -/
theorem and_mask (w m : Int64) (n : Nat) (hn : n ≤ 63) (hm : m.toBitVec.toNat = 2 ^ n - 1) : (w &&& m).toInt = w.toInt % 2 ^ n := by
  have h1 : (w &&& m).toBitVec.toNat = w.toBitVec.toNat % 2 ^ n := by
    rw [Int64.toBitVec_and, BitVec.toNat_and, hm, Nat.and_two_pow_sub_one_eq_mod]
  have hp : 2 ^ n ≤ 2 ^ 63 := Nat.pow_le_pow_right (by omega) hn
  have hp0 : 0 < 2 ^ n := Nat.pow_pos (by omega)
  have h2 : w.toBitVec.toNat % 2 ^ n < 2 ^ 63 := Nat.lt_of_lt_of_le (Nat.mod_lt _ hp0) hp
  have e1 : (w &&& m).toInt = (w &&& m).toBitVec.toInt := rfl
  have e2 : w.toInt = w.toBitVec.toInt := rfl
  rw [e1, e2, BitVec.toInt_eq_toNat_cond, BitVec.toInt_eq_toNat_cond, h1, if_pos (by omega)]
  have hc : (2 ^ 64 : Nat) = 2 ^ n * 2 ^ (64 - n) := by
    rw [← Nat.pow_add]
    congr 1
    omega
  have e3 : ((2 : Int) ^ n) = ((2 ^ n : Nat) : Int) := by
    rw [Int.natCast_pow]; rfl
  rw [e3]
  split
  · rw [Int.natCast_emod]
  · rw [hc, Int.natCast_mul, Int.sub_mul_emod_self_left, Int.natCast_emod]
noncomputable def isg (k : Int32) (w : Int64) : Bool := decide ((k = 6 ∧ 2139095040 < w.toInt % 2 ^ 31) ∨ (k = 7 ∧ 9218868437227405312 < w.toInt % 2 ^ 63))
theorem m31 (w : Int64) : (w &&& 2147483647).toInt = w.toInt % 2 ^ 31 := and_mask w _ 31 (by omega) rfl
theorem m63 (w : Int64) : (w &&& 9223372036854775807).toInt = w.toInt % 2 ^ 63 := and_mask w _ 63 (by omega) rfl
theorem c31 : (2139095040 : Int64).toInt = 2139095040 := rfl
theorem c63 : (9218868437227405312 : Int64).toInt = 9218868437227405312 := rfl
theorem gap11_eq (k : Int32) (w : Int64) (τ : rS) : f11_isGap k w τ = some (isg k w, τ) := by
  unfold f11_isGap isg
  by_cases h6 : k = 6
  · rw [if_pos h6]
    by_cases h : w &&& 2147483647 ≤ 2139095040
    · rw [if_pos h]
      rw [Int64.le_iff_toInt_le, m31, c31] at h
      rw [decide_eq_false]
      rintro (⟨-, q⟩ | ⟨q, -⟩)
      · omega
      · rw [h6] at q; exact absurd q (by decide)
    · rw [if_neg h]
      rw [Int64.le_iff_toInt_le, m31, c31] at h
      rw [decide_eq_true (Or.inl ⟨h6, by omega⟩)]
  · rw [if_neg h6]
    by_cases h7 : k = 7
    · rw [if_pos h7]
      by_cases h : w &&& 9223372036854775807 ≤ 9218868437227405312
      · rw [if_pos h]
        rw [Int64.le_iff_toInt_le, m63, c63] at h
        rw [decide_eq_false]
        rintro (⟨q, -⟩ | ⟨-, q⟩)
        · exact h6 q
        · omega
      · rw [if_neg h]
        rw [Int64.le_iff_toInt_le, m63, c63] at h
        rw [decide_eq_true (Or.inr ⟨h7, by omega⟩)]
    · rw [if_neg h7, decide_eq_false]
      rintro (⟨q, -⟩ | ⟨q, -⟩)
      · exact h6 q
      · exact h7 q
theorem gap4_eq (k : Int32) (w : Int64) (σ : rS) : f4_isGap k w σ = some (isg k w, σ) := by
  rw [← (gap11_eq k w σ)]
  unfold f4_isGap f11_isGap f4_areFloating f2_isNone f2_sizeOf f2_endless
  by_cases h6 : k = 6
  · simp only [if_pos h6, obind_some, if_true]
    by_cases h : w &&& 2147483647 ≤ 2139095040
    · rw [if_pos h]; rfl
    · rw [if_neg h]; rfl
  · simp only [if_neg h6]
    by_cases h7 : k = 7
    · simp only [if_pos h7, obind_some, if_true]
      by_cases h : w &&& 9223372036854775807 ≤ 9218868437227405312
      · rw [if_pos h]; rfl
      · rw [if_neg h]; rfl
    · simp only [if_neg h7, obind_some]; rfl
