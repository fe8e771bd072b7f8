theorem xor_top {y : Nat} (h : y < 2 ^ 63) : y ^^^ 2 ^ 63 = 2 ^ 63 + y := by
  have e : 2 ^ 63 * 1 + y = 2 ^ 63 * 1 ||| y := Nat.two_pow_add_eq_or_of_lt h 1
  rw [Nat.mul_one] at e
  rw [e]
  apply Nat.eq_of_testBit_eq
  intro i
  rw [Nat.testBit_xor, Nat.testBit_or, Nat.testBit_two_pow]
  by_cases q : 63 = i
  · subst q
    rw [Nat.testBit_lt_two_pow h]
    simp
  · simp [q]
theorem xor_max {w : Int64} (h : w.toInt < 0) : (w ^^^ 9223372036854775807).toInt = -9223372036854775809 - w.toInt := by
  have e1 : w ^^^ 9223372036854775807 = (~~~w) ^^^ (-9223372036854775808) := by
    apply Int64.toBitVec_inj.mp
    apply BitVec.eq_of_getLsbD_eq
    intro i hi
    have e : (9223372036854775807 : Int64).toBitVec = ~~~ (-9223372036854775808 : Int64).toBitVec := by decide
    simp only [Int64.toBitVec_xor, Int64.toBitVec_not, BitVec.getLsbD_xor, e, BitVec.getLsbD_not, hi, decide_true, Bool.true_and]
    cases w.toBitVec.getLsbD i <;> cases (-9223372036854775808 : Int64).toBitVec.getLsbD i <;> rfl
  have e2 : w.toInt = w.toBitVec.toInt := rfl
  have e3 : (w ^^^ 9223372036854775807).toInt = (w ^^^ 9223372036854775807).toBitVec.toInt := rfl
  have hw := w.toBitVec.isLt
  rw [e2, BitVec.toInt_eq_toNat_cond] at h
  have h2 : ¬ 2 * w.toBitVec.toNat < 2 ^ 64 := by
    intro q
    rw [if_pos q] at h
    omega
  have e4 : (w ^^^ 9223372036854775807).toBitVec.toNat = 2 ^ 63 + (2 ^ 64 - 1 - w.toBitVec.toNat) := by
    rw [e1, Int64.toBitVec_xor, BitVec.toNat_xor, Int64.toBitVec_not, BitVec.toNat_not]
    have e5 : (-9223372036854775808 : Int64).toBitVec.toNat = 2 ^ 63 := rfl
    rw [e5]
    exact xor_top (by omega)
  rw [e3, e2, BitVec.toInt_eq_toNat_cond, BitVec.toInt_eq_toNat_cond, e4, if_neg (by omega), if_neg h2]
  omega
theorem sar63 (w : Int64) : w >>> (Int32.toInt64 63 &&& 63) = if w.toInt < 0 then -1 else 0 := by
  have hb := Int64.toInt_lt w
  have hb2 := Int64.le_toInt w
  apply Int64.toInt_inj.mp
  have e1 : (w >>> (Int32.toInt64 63 &&& 63)).toInt = w.toInt >>> 63 := by
    have e : (w >>> (Int32.toInt64 63 &&& 63)).toBitVec = w.toBitVec.sshiftRight 63 := by
      rw [Int64.toBitVec_shiftRight]
      rfl
    show (w >>> (Int32.toInt64 63 &&& 63)).toBitVec.toInt = w.toBitVec.toInt >>> 63
    rw [e, BitVec.toInt_sshiftRight]
  rw [e1, Int.shiftRight_eq_div_pow]
  by_cases h : w.toInt < 0
  · rw [if_pos h]
    have e : (-1 : Int64).toInt = -1 := rfl
    rw [e]
    omega
  · rw [if_neg h]
    have e : (0 : Int64).toInt = 0 := rfl
    rw [e]
    omega
noncomputable def rkC (k : Int32) (w : Int64) : Int64 := if k = 6 ∨ k = 7 then w ^^^ ((w >>> (Int32.toInt64 63 &&& 63)) &&& 9223372036854775807) else w
theorem rank4_eq (k : Int32) (w : Int64) (σ : rS) : f4_rank k w σ = some (rkC k w, σ) := by
  unfold f4_rank f4_areFloating rkC
  by_cases h6 : k = 6
  · rw [if_pos h6, if_pos (Or.inl h6)]; rfl
  · rw [if_neg h6]
    by_cases h7 : k = 7
    · rw [if_pos h7, if_pos (Or.inr h7)]; rfl
    · rw [if_neg h7, if_neg (by rintro (q | q); exact h6 q; exact h7 q)]; rfl
theorem rkC_toInt (k : Int32) (w : Int64) : (rkC k w).toInt = if (k = 6 ∨ k = 7) ∧ w.toInt < 0 then -9223372036854775809 - w.toInt else w.toInt := by
  unfold rkC
  by_cases hk : k = 6 ∨ k = 7
  · rw [if_pos hk, sar63]
    by_cases h : w.toInt < 0
    · rw [if_pos h, if_pos ⟨hk, h⟩]
      have e : (-1 : Int64) &&& 9223372036854775807 = 9223372036854775807 := by decide
      rw [e]
      exact xor_max h
    · rw [if_neg h, if_neg (fun q => h q.2)]
      have e : (0 : Int64) &&& 9223372036854775807 = 0 := by decide
      rw [e, Int64.xor_zero]
  · rw [if_neg hk, if_neg (fun q => hk q.1)]
