theorem cut6_rng {w : Int64} (h : cutw 6 w = w) : -2147483648 ≤ w.toInt ∧ w.toInt < 2147483648 := by
  have e : cutw 6 w = if 2139095040 < w &&& 2147483647 then 2143289344 else Int32.toInt64 (Int64.toInt32 w) := rfl
  rw [e] at h
  by_cases g : 2139095040 < w &&& 2147483647
  · rw [if_pos g] at h
    rw [← h]
    have e2 : (2143289344 : Int64).toInt = 2143289344 := rfl
    rw [e2]
    omega
  · rw [if_neg g] at h
    rw [← h, Int32.toInt_toInt64]
    have h1 := Int32.toInt_lt (Int64.toInt32 w)
    have h2 := Int32.le_toInt (Int64.toInt32 w)
    omega
noncomputable def rkR (k : Int32) (w : Int64) : Int64 := if k < 6 then w else if w < 0 then (if k = 6 then (-1) - (w &&& 2147483647) else (-1) - (w &&& 9223372036854775807)) else w
theorem rank11_eq (k : Int32) (w : Int64) (τ : rS) : f11_rank k w τ = some (rkR k w, τ) := by
  unfold f11_rank rkR
  repeat' split
  all_goals rfl
theorem neg1_sub {x : Int64} (h0 : 0 ≤ x.toInt) : ((-1 : Int64) - x).toInt = -1 - x.toInt := by
  have h1 := Int64.toInt_lt x
  rw [Int64.toInt_sub]
  have e : (-1 : Int64).toInt = -1 := rfl
  rw [e]
  apply Int.bmod_eq_of_le <;> omega
theorem l0 : (0 : Int64).toInt = 0 := rfl
theorem rkR_toInt {k : Int32} (kd : Nat) (hk : k = nI kd) (hkd : kd < 8) (w : Int64) : (rkR k w).toInt = if kd < 6 then w.toInt else if w.toInt < 0 then (if kd = 6 then -1 - w.toInt % 2 ^ 31 else -1 - w.toInt % 2 ^ 63) else w.toInt := by
  unfold rkR
  have c1 : k < 6 ↔ kd < 6 := by rw [hk]; exact nI_ltI (b := 6) (by omega) (by omega)
  have c2 : k = 6 ↔ kd = 6 := by rw [hk]; exact nI_eq (b := 6) (by omega) (by omega)
  simp only [c1, c2, Int64.lt_iff_toInt_lt, l0]
  by_cases h1 : kd < 6
  · simp only [if_pos h1]
  · simp only [if_neg h1]
    by_cases h2 : w.toInt < 0
    · simp only [if_pos h2]
      by_cases h3 : kd = 6
      · simp only [if_pos h3]
        rw [neg1_sub (by rw [m31]; omega), m31]
      · simp only [if_neg h3]
        rw [neg1_sub (by rw [m63]; omega), m63]
    · simp only [if_neg h2]
theorem rk_le {k : Int32} (kd : Nat) (hk : k = nI kd) (hkd : kd < 8) {a b : Int64} (ha : cutw k a = a) (hb : cutw k b = b) : (rkC k a ≤ rkC k b ↔ rkR k a ≤ rkR k b) := by
  have c6 : k = 6 ↔ kd = 6 := by rw [hk]; exact nI_eq (b := 6) (by omega) (by omega)
  have c7 : k = 7 ↔ kd = 7 := by rw [hk]; exact nI_eq (b := 7) (by omega) (by omega)
  have A1 := Int64.toInt_lt a
  have A2 := Int64.le_toInt a
  have B1 := Int64.toInt_lt b
  have B2 := Int64.le_toInt b
  rw [Int64.le_iff_toInt_le, Int64.le_iff_toInt_le, rkC_toInt, rkC_toInt, rkR_toInt kd hk hkd, rkR_toInt kd hk hkd]
  simp only [c6, c7]
  by_cases h6 : kd = 6
  · have k6 : k = 6 := c6.mpr h6
    rw [k6] at ha hb
    have r1 := cut6_rng ha
    have r2 := cut6_rng hb
    have n6 : ¬ kd < 6 := by omega
    simp only [h6, if_true, true_or, true_and, n6, if_false]
    split <;> split <;> omega
  · by_cases h7 : kd = 7
    · have n6 : ¬ kd < 6 := by omega
      simp only [h7, if_true, or_true, true_and]
      split <;> split <;> simp <;> omega
    · have n6 : kd < 6 := by omega
      simp only [h6, h7, if_false, or_self, false_and, n6, if_true]
