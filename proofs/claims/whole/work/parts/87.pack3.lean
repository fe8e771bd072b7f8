/-! ===== packing: wide, the coders, cost, best ===== -/
theorem sarL (v s : Int64) (k : Nat) (hs : (s.toBitVec.smod 64).toNat = k) : (v >>> s).toInt = v.toInt / 2 ^ k := by
  show (v.toBitVec.sshiftRight (s.toBitVec.smod 64).toNat).toInt = _
  rw [hs, BitVec.toInt_sshiftRight, Int.shiftRight_eq_div_pow]
  rfl
theorem shlL (v s : Int64) (k : Nat) (hs : (s.toBitVec.smod 64).toNat = k) : uN (v <<< s) = uN v * 2 ^ k % 2 ^ 64 := by
  show (v.toBitVec <<< (s.toBitVec.smod 64).toNat).toNat = _
  rw [hs, BitVec.toNat_shiftLeft, Nat.shiftLeft_eq]
  rfl
theorem toInt_uN (v : Int64) : v.toInt = if uN v < 2 ^ 63 then (uN v : Int) else (uN v : Int) - 2 ^ 64 := by
  show v.toBitVec.toInt = _
  rw [BitVec.toInt_eq_toNat_cond]
  unfold uN
  split <;> split <;> omega
def wdI (x : Int) : Nat := if -128 ≤ x ∧ x < 128 then 1 else if -32768 ≤ x ∧ x < 32768 then 2 else if -8388608 ≤ x ∧ x < 8388608 then 3 else if -2147483648 ≤ x ∧ x < 2147483648 then 4 else if -549755813888 ≤ x ∧ x < 549755813888 then 5 else if -140737488355328 ≤ x ∧ x < 140737488355328 then 6 else if -36028797018963968 ≤ x ∧ x < 36028797018963968 then 7 else 8
theorem wdI_rng (x : Int) : 1 ≤ wdI x ∧ wdI x ≤ 8 := by
  unfold wdI
  repeat' split
  all_goals omega
theorem l0i : (0 : Int64).toInt = 0 := rfl
theorem lm1i : (-1 : Int64).toInt = -1 := rfl
theorem clsW_h (v : Int64) (s : Int64) (k : Nat) (hs : (s.toBitVec.smod 64).toNat = k) : (v >>> s = 0 ∨ v >>> s = -1) ↔ (v.toInt / 2 ^ k = 0 ∨ v.toInt / 2 ^ k = -1) := by
  rw [← Int64.toInt_inj, ← Int64.toInt_inj, sarL v s k hs, l0i, lm1i]
theorem clsW (v : Int64) (w : Nat) (h1 : 1 ≤ w) (h7 : w ≤ 7) : (v >>> (Int32.toInt64 ((8 * nI w) - 1) &&& 63) = 0 ∨ v >>> (Int32.toInt64 ((8 * nI w) - 1) &&& 63) = -1) ↔ wdI v.toInt ≤ w := by
  have hw : w = 1 ∨ w = 2 ∨ w = 3 ∨ w = 4 ∨ w = 5 ∨ w = 6 ∨ w = 7 := by omega
  rcases hw with rfl | rfl | rfl | rfl | rfl | rfl | rfl
  · rw [clsW_h v _ 7 (by decide)]; unfold wdI; repeat' split
    all_goals omega
  · rw [clsW_h v _ 15 (by decide)]; unfold wdI; repeat' split
    all_goals omega
  · rw [clsW_h v _ 23 (by decide)]; unfold wdI; repeat' split
    all_goals omega
  · rw [clsW_h v _ 31 (by decide)]; unfold wdI; repeat' split
    all_goals omega
  · rw [clsW_h v _ 39 (by decide)]; unfold wdI; repeat' split
    all_goals omega
  · rw [clsW_h v _ 47 (by decide)]; unfold wdI; repeat' split
    all_goals omega
  · rw [clsW_h v _ 55 (by decide)]; unfold wdI; repeat' split
    all_goals omega
theorem refW_h (v : Int64) (s : Int64) (k : Nat) (hs : (s.toBitVec.smod 64).toNat = k) : ((v <<< s) >>> s).toInt = (if uN v * 2 ^ k % 2 ^ 64 < 2 ^ 63 then ((uN v * 2 ^ k % 2 ^ 64 : Nat) : Int) else ((uN v * 2 ^ k % 2 ^ 64 : Nat) : Int) - 2 ^ 64) / 2 ^ k := by
  rw [sarL _ s k hs, toInt_uN, shlL v s k hs]
theorem refW (v : Int64) (w : Nat) (h1 : 1 ≤ w) (h7 : w ≤ 7) : ((v <<< (Int32.toInt64 (64 - (8 * nI w)) &&& 63)) >>> (Int32.toInt64 (64 - (8 * nI w)) &&& 63)) = v ↔ wdI v.toInt ≤ w := by
  have hv := uN_lt v
  have hw : w = 1 ∨ w = 2 ∨ w = 3 ∨ w = 4 ∨ w = 5 ∨ w = 6 ∨ w = 7 := by omega
  rw [← Int64.toInt_inj]
  rcases hw with rfl | rfl | rfl | rfl | rfl | rfl | rfl
  · rw [refW_h v _ 56 (by decide), toInt_uN v]; unfold wdI; constructor
    · intro h; repeat' split
      all_goals (try omega)
      all_goals (split at h <;> split at h <;> omega)
    · intro h; repeat' split at h
      all_goals (try omega)
      all_goals (split <;> split <;> omega)
  · rw [refW_h v _ 48 (by decide), toInt_uN v]; unfold wdI; constructor
    · intro h; repeat' split
      all_goals (try omega)
      all_goals (split at h <;> split at h <;> omega)
    · intro h; repeat' split at h
      all_goals (try omega)
      all_goals (split <;> split <;> omega)
  · rw [refW_h v _ 40 (by decide), toInt_uN v]; unfold wdI; constructor
    · intro h; repeat' split
      all_goals (try omega)
      all_goals (split at h <;> split at h <;> omega)
    · intro h; repeat' split at h
      all_goals (try omega)
      all_goals (split <;> split <;> omega)
  · rw [refW_h v _ 32 (by decide), toInt_uN v]; unfold wdI; constructor
    · intro h; repeat' split
      all_goals (try omega)
      all_goals (split at h <;> split at h <;> omega)
    · intro h; repeat' split at h
      all_goals (try omega)
      all_goals (split <;> split <;> omega)
  · rw [refW_h v _ 24 (by decide), toInt_uN v]; unfold wdI; constructor
    · intro h; repeat' split
      all_goals (try omega)
      all_goals (split at h <;> split at h <;> omega)
    · intro h; repeat' split at h
      all_goals (try omega)
      all_goals (split <;> split <;> omega)
  · rw [refW_h v _ 16 (by decide), toInt_uN v]; unfold wdI; constructor
    · intro h; repeat' split
      all_goals (try omega)
      all_goals (split at h <;> split at h <;> omega)
    · intro h; repeat' split at h
      all_goals (try omega)
      all_goals (split <;> split <;> omega)
  · rw [refW_h v _ 8 (by decide), toInt_uN v]; unfold wdI; constructor
    · intro h; repeat' split
      all_goals (try omega)
      all_goals (split at h <;> split at h <;> omega)
    · intro h; repeat' split at h
      all_goals (try omega)
      all_goals (split <;> split <;> omega)
