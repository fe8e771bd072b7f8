/-! ===== floats and doubles: the library's laws of the core (JvmDerived.FloatLaws) ===== -/
theorem uN_toInt (w : Int64) : (w.toInt < 0 → (uN w : Int) = w.toInt + 2 ^ 64) ∧ (0 ≤ w.toInt → (uN w : Int) = w.toInt) := by
  have h := toInt_uN w
  have h2 := uN_lt w
  constructor
  · intro q
    split at h <;> omega
  · intro q
    split at h <;> omega
noncomputable def a32 (w : Int64) : UInt32 := Int32.toUInt32 (Int64.toInt32 w)
theorem a32_nat (w : Int64) : (a32 w).toNat = uN w % 2 ^ 32 := toI32_nat w
theorem a64_nat (w : Int64) : (Int64.toUInt64 w).toNat = uN w := rfl
noncomputable def realOf (k : Int32) (w : Int64) : UInt64 := if k = 6 then FP.f2d (a32 w) else Int64.toUInt64 w
theorem isg6 {w : Int64} (h : isg 6 w = false) : w.toInt % 2 ^ 31 ≤ 2139095040 := by
  unfold isg at h
  rw [decide_eq_false_iff_not] at h
  have : ¬ 2139095040 < w.toInt % 2 ^ 31 := fun q => h (Or.inl ⟨rfl, q⟩)
  omega
theorem isg7 {w : Int64} (h : isg 7 w = false) : w.toInt % 2 ^ 63 ≤ 9218868437227405312 := by
  unfold isg at h
  rw [decide_eq_false_iff_not] at h
  have : ¬ 9218868437227405312 < w.toInt % 2 ^ 63 := fun q => h (Or.inr ⟨rfl, q⟩)
  omega
theorem sz32 (w : Int64) : (((a32 w).toNat % 2 ^ 31 : Nat) : Int) = w.toInt % 2 ^ 31 := by
  rw [a32_nat]
  have h := uN_toInt w
  by_cases c : w.toInt < 0
  · have := h.1 c
    omega
  · have := h.2 (by omega)
    omega
theorem sz64 (w : Int64) : ((uN w % 2 ^ 63 : Nat) : Int) = w.toInt % 2 ^ 63 := by
  have h := uN_toInt w
  by_cases c : w.toInt < 0
  · have := h.1 c
    omega
  · have := h.2 (by omega)
    omega
theorem nn32w {w : Int64} (h : isg 6 w = false) : FP.Core.val32 (a32 w) ≠ .nan := by
  rw [FP.Core.ne_nan32]
  have h1 := isg6 h
  have h2 := sz32 w
  omega
theorem nn64w {w : Int64} (h : isg 7 w = false) : FP.Core.val64 (Int64.toUInt64 w) ≠ .nan := by
  rw [FP.Core.ne_nan, a64_nat]
  have h1 := isg7 h
  have h2 := sz64 w
  omega
theorem nn64_iff (x : UInt64) : nn64 x = true ↔ FP.Core.val64 x ≠ .nan := by
  unfold nn64
  rw [decide_eq_true_eq, FP.Core.ne_nan, UInt64.le_iff_toNat_le, FP.Core.mask_toNat]
  exact Iff.rfl
theorem nn32_iff (x : UInt32) : nn32 x = true ↔ FP.Core.val32 x ≠ .nan := by
  unfold nn32
  rw [decide_eq_true_eq, FP.Core.ne_nan32, UInt32.le_iff_toNat_le, FP.Core.mask_toNat32]
  exact Iff.rfl
theorem okF_of {w : Int64} (h : isg 6 w = false) : okF (Int64.toInt32 w) = true := by
  have h1 := (nn32_iff (a32 w)).mpr (nn32w h)
  unfold nn32 a32 at h1
  unfold okF vn_sni2f
  rw [decide_eq_true_eq] at h1
  have : ¬ ((Int64.toInt32 w).toUInt32 &&& 0x7fffffff > 0x7f800000) := by
    rw [gt_iff_lt, UInt32.lt_iff_toNat_lt]
    rw [UInt32.le_iff_toNat_le] at h1
    omega
  simp [this]
theorem okD_of {w : Int64} (h : isg 7 w = false) : okD w = true := by
  have h1 := (nn64_iff (Int64.toUInt64 w)).mpr (nn64w h)
  unfold nn64 at h1
  unfold okD vn_snl2d
  rw [decide_eq_true_eq] at h1
  have : ¬ (w.toUInt64 &&& 0x7fffffffffffffff > 0x7ff0000000000000) := by
    rw [gt_iff_lt, UInt64.lt_iff_toNat_lt]
    rw [UInt64.le_iff_toNat_le] at h1
    omega
  simp [this]
theorem f2d_c {a : UInt32} (h : FP.Core.val32 a ≠ .nan) : FP.f2d a = FP.Core.f2d a := FP.f2d_core ((FP.Core.notNaN_iff32 a).mpr h)
theorem f2d_nn {a : UInt32} (h : FP.Core.val32 a ≠ .nan) : FP.Core.val64 (FP.f2d a) ≠ .nan := by
  rw [f2d_c h, FP.Core.val64_f2d, Ne, FP.Core.round_nan]
  exact h
theorem real_eq {k : Int32} {w : Int64} (hk : k = 6 ∨ k = 7) (h : isg k w = false) (τ : rS) : f11_real k w τ = some (realOf k w, τ) := by
  unfold f11_real realOf
  rcases hk with rfl | rfl
  · have hx : nn64 (FP.f2d (Int32.toUInt32 (Int64.toInt32 w))) = true := (nn64_iff _).mpr (f2d_nn (nn32w h))
    rw [if_pos rfl, if_pos rfl, ock_pos (okF_of h), ock_pos hx]
    rfl
  · rw [if_neg (by decide), if_neg (by decide), ock_pos (okD_of h)]
theorem real_nn {k : Int32} {w : Int64} (hk : k = 6 ∨ k = 7) (h : isg k w = false) : FP.Core.val64 (realOf k w) ≠ .nan := by
  unfold realOf
  rcases hk with rfl | rfl
  · rw [if_pos rfl]; exact f2d_nn (nn32w h)
  · rw [if_neg (by decide)]; exact nn64w h
/-- from float to double: nothing is lost, in units -/
theorem widen_units {s : Bool} {c : Nat} {q : Int} (hd : FP.Core.fits FP.Core.b32 (.fin s c q)) : ∃ c' q', FP.Core.round FP.Core.b64 (.fin s c q) = .fin s c' q' ∧ FP.Core.inUnits c' q' FP.Core.b64.qmin = FP.Core.inUnits c q FP.Core.b32.qmin * 2 ^ 925 := by
  obtain ⟨c', q', hfit, hz, hv⟩ := FP.Core.within_fit FP.Core.good_b64 FP.Core.within_32_64 hd
  refine ⟨c', q', FP.Core.roundRatio_exact FP.Core.good_b64 (by decide) hfit hv, ?_⟩
  have hq1 := hd.2.1
  have hq2 := hfit.2.1
  have e1 : FP.Core.b32.qmin = -149 := FP.Core.qmin_b32
  have e2 : FP.Core.b64.qmin = -1074 := by decide
  rw [e1] at hq1
  rw [e2] at hq2
  unfold FP.Core.inUnits
  rw [e1, e2, Nat.mul_assoc, ← Nat.pow_add]
  rw [Nat.mul_one] at hv
  have e3 : (q - -149).toNat + 925 = (q - -1074).toNat := by omega
  rw [e3]
  by_cases hqq : q' ≤ q
  · have e4 : (q' - q).toNat = 0 := by omega
    rw [e4, Nat.pow_zero, Nat.mul_one] at hv
    rw [← hv, Nat.mul_assoc, ← Nat.pow_add]
    congr 2
    omega
  · have e4 : (q - q').toNat = 0 := by omega
    rw [e4, Nat.pow_zero, Nat.mul_one] at hv
    rw [hv, Nat.mul_assoc, ← Nat.pow_add]
    congr 2
    omega
theorem zval_f2d {a : UInt32} (h : FP.Core.FFin a) : FP.Core.zval FP.Core.b64 (FP.Core.val64 (FP.f2d a)) = FP.Core.zval FP.Core.b32 (FP.Core.val32 a) * ((2 ^ 925 : Nat) : Int) := by
  have hn := h.ne_nan
  obtain ⟨s, c, q, e⟩ := h
  have hf := FP.Core.val32_fits a
  rw [e] at hf
  obtain ⟨c', q', h1, h2⟩ := widen_units hf
  rw [f2d_c hn, FP.Core.val64_f2d, e, h1]
  show FP.Core.signed s (FP.Core.inUnits c' q' FP.Core.b64.qmin) = FP.Core.signed s (FP.Core.inUnits c q FP.Core.b32.qmin) * ((2 ^ 925 : Nat) : Int)
  rw [h2, FP.Core.signed_mul]
theorem cmp_f2d {a b : UInt32} (ha : FP.Core.val32 a ≠ .nan) (hb : FP.Core.val32 b ≠ .nan) : FP.dcmp (FP.f2d a) (FP.f2d b) = FP.Core.fcmp a b := by
  show FP.Core.order (FP.Core.val64 (FP.f2d a)) (FP.Core.val64 (FP.f2d b)) = FP.Core.order (FP.Core.val32 a) (FP.Core.val32 b)
  have fa := FP.Core.val32_fits a
  have fb := FP.Core.val32_fits b
  rw [f2d_c ha, f2d_c hb, FP.Core.val64_f2d, FP.Core.val64_f2d]
  cases ea : FP.Core.val32 a with
  | nan => exact absurd ea ha
  | inf s =>
    cases eb : FP.Core.val32 b with
    | nan => exact absurd eb hb
    | inf t => rfl
    | fin t d r =>
      rw [eb] at fb
      obtain ⟨c', q', h1, h2⟩ := widen_units fb
      rw [h1]
      rfl
  | fin s c q =>
    rw [ea] at fa
    obtain ⟨c', q', h1, h2⟩ := widen_units fa
    cases eb : FP.Core.val32 b with
    | nan => exact absurd eb hb
    | inf t =>
      rw [h1]
      rfl
    | fin t d r =>
      rw [eb] at fb
      obtain ⟨d', r', h3, h4⟩ := widen_units fb
      have w1 : FP.Core.fits FP.Core.b64 (.fin s c' q') := by rw [← h1]; exact FP.Core.round_fits FP.Core.good_b64 _
      have w2 : FP.Core.fits FP.Core.b64 (.fin t d' r') := by rw [← h3]; exact FP.Core.round_fits FP.Core.good_b64 _
      rw [h1, h3, FP.Core.order_zval FP.Core.good_b64 w1 w2 FP.Core.Datum.noConfusion FP.Core.Datum.noConfusion, FP.Core.order_zval FP.Core.good_b32 fa fb FP.Core.Datum.noConfusion FP.Core.Datum.noConfusion]
      show some (compare (FP.Core.signed s (FP.Core.inUnits c' q' FP.Core.b64.qmin)) (FP.Core.signed t (FP.Core.inUnits d' r' FP.Core.b64.qmin))) = some (compare (FP.Core.signed s (FP.Core.inUnits c q FP.Core.b32.qmin)) (FP.Core.signed t (FP.Core.inUnits d r FP.Core.b32.qmin)))
      rw [h2, h4, FP.Core.signed_mul, FP.Core.signed_mul, FP.Core.compare_mul_pos _ _ _ (by
        have := Nat.two_pow_pos 925
        omega)]
noncomputable def uzw (k : Int32) (w : Int64) : Int64 := if k = 6 then (if w = -2147483648 then 0 else w) else if k = 7 then (if w = -9223372036854775808 then 0 else w) else w
theorem uz_eq (k : Int32) (w : Int64) (σ : rS) : f4_unsignedZero k w σ = some (uzw k w, σ) := by
  unfold f4_unsignedZero f4_areFloating f2_signBit uzw
  by_cases h6 : k = 6
  · simp only [if_pos h6, obind_some, if_true]
    split <;> rfl
  · simp only [if_neg h6]
    by_cases h7 : k = 7
    · simp only [if_pos h7, obind_some, if_true]
      split <;> rfl
    · simp only [if_neg h7, obind_some]
      rfl
theorem cmp_real {k : Int32} (hk : k = 6 ∨ k = 7) {a b : Int64} (ca : cutw k a = a) (cb : cutw k b = b) (ga : isg k a = false) (gb : isg k b = false) : FP.dcmp (realOf k a) (realOf k b) = some (compare (rkC k (uzw k a)).toInt (rkC k (uzw k b)).toInt) := by
  unfold realOf
  have ua := uN_toInt a
  have ub := uN_toInt b
  rcases hk with rfl | rfl
  · rw [if_pos rfl, if_pos rfl, cmp_f2d (nn32w ga) (nn32w gb), FP.Core.fcmp_key (nn32w ga) (nn32w gb)]
    have r1 := cut6_rng ca
    have r2 := cut6_rng cb
    have m0 : (-2147483648 : Int64).toInt = -2147483648 := rfl
    have key : ∀ {w : Int64}, (w.toInt < 0 → (uN w : Int) = w.toInt + 2 ^ 64) ∧ (0 ≤ w.toInt → (uN w : Int) = w.toInt) → -2147483648 ≤ w.toInt ∧ w.toInt < 2147483648 → (FP.Core.fkey (a32 w) = if w.toInt < 0 then -2147483648 - w.toInt else w.toInt) ∧ ((rkC 6 (uzw 6 w)).toInt = if w.toInt = -2147483648 then 0 else if w.toInt < 0 then -9223372036854775809 - w.toInt else w.toInt) := by
      intro w u r
      constructor
      · unfold FP.Core.fkey
        rw [a32_nat]
        by_cases c : w.toInt < 0
        · have := u.1 c
          rw [if_pos c, if_pos (by omega)]
          omega
        · have := u.2 (by omega)
          rw [if_neg c, if_neg (by omega)]
          omega
      · rw [rkC_toInt]
        have e : uzw 6 w = if w = -2147483648 then 0 else w := rfl
        rw [e]
        by_cases c : w = -2147483648
        · rw [if_pos c, l0i, if_neg (fun q => absurd q.2 (by omega)), if_pos (by rw [c]; rfl)]
        · have c' : ¬ w.toInt = -2147483648 := fun q => c (Int64.toInt_inj.mp (by rw [q]; rfl))
          rw [if_neg c, if_neg c']
          by_cases c2 : w.toInt < 0
          · rw [if_pos ⟨Or.inl rfl, c2⟩, if_pos c2]
          · rw [if_neg (fun q => c2 q.2), if_neg c2]
    obtain ⟨a1, a2⟩ := key ua r1
    obtain ⟨b1, b2⟩ := key ub r2
    rw [a1, a2, b1, b2]
    congr 1
    apply FP.Core.compare_congr
    · repeat' split
      all_goals omega
    · repeat' split
      all_goals omega
  · rw [if_neg (by decide), if_neg (by decide)]
    have e0 := FP.Core.dcmp_key (nn64w ga) (nn64w gb)
    have e0' : FP.dcmp (Int64.toUInt64 a) (Int64.toUInt64 b) = _ := e0
    rw [e0']
    have key : ∀ {w : Int64}, (w.toInt < 0 → (uN w : Int) = w.toInt + 2 ^ 64) ∧ (0 ≤ w.toInt → (uN w : Int) = w.toInt) → (FP.Core.dkey (Int64.toUInt64 w) = if w.toInt < 0 then -9223372036854775808 - w.toInt else w.toInt) ∧ ((rkC 7 (uzw 7 w)).toInt = if w.toInt = -9223372036854775808 then 0 else if w.toInt < 0 then -9223372036854775809 - w.toInt else w.toInt) := by
      intro w u
      have b1 := Int64.le_toInt w
      constructor
      · unfold FP.Core.dkey
        rw [a64_nat]
        by_cases c : w.toInt < 0
        · have := u.1 c
          rw [if_pos c, if_pos (by omega)]
          omega
        · have := u.2 (by omega)
          have b2 := Int64.toInt_lt w
          rw [if_neg c, if_neg (by omega)]
          omega
      · rw [rkC_toInt]
        have e : uzw 7 w = if w = -9223372036854775808 then 0 else w := rfl
        rw [e]
        by_cases c : w = -9223372036854775808
        · rw [if_pos c, l0i, if_neg (fun q => absurd q.2 (by omega)), if_pos (by rw [c]; rfl)]
        · have c' : ¬ w.toInt = -9223372036854775808 := fun q => c (Int64.toInt_inj.mp (by rw [q]; rfl))
          rw [if_neg c, if_neg c']
          by_cases c2 : w.toInt < 0
          · rw [if_pos ⟨Or.inr rfl, c2⟩, if_pos c2]
          · rw [if_neg (fun q => c2 q.2), if_neg c2]
    obtain ⟨a1, a2⟩ := key ua
    obtain ⟨b1, b2⟩ := key ub
    have la := Int64.le_toInt a
    have lb := Int64.le_toInt b
    rw [a1, a2, b1, b2]
    congr 1
    apply FP.Core.compare_congr
    · repeat' split
      all_goals omega
    · repeat' split
      all_goals omega
theorem cv_l0 (a b : Int) : Op.cmpValue (some (compare a b)) .l = 0 ↔ a = b := by
  rw [FP.Core.compare_ite]
  unfold Op.cmpValue
  by_cases h1 : a < b
  · simp only [if_pos h1]
    constructor
    · intro q; exact absurd q (by decide)
    · intro q; omega
  · by_cases h2 : a = b
    · simp only [if_neg h1, if_pos h2]
      simp [h2]
    · simp only [if_neg h1, if_neg h2]
      constructor
      · intro q; exact absurd q (by decide)
      · intro q; omega
theorem cv_g0 (a b : Int) : 0 ≤ Op.cmpValue (some (compare a b)) .g ↔ ¬ a < b := by
  rw [FP.Core.compare_ite]
  unfold Op.cmpValue
  by_cases h1 : a < b
  · simp only [if_pos h1]
    constructor
    · intro q; exact absurd q (by decide)
    · intro q; omega
  · by_cases h2 : a = b
    · simp only [if_neg h1, if_pos h2]
      constructor
      · intro _; exact h1
      · intro _; decide
    · simp only [if_neg h1, if_neg h2]
      constructor
      · intro _; exact h1
      · intro _; decide
