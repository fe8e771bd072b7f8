/-! ===== shape: rounding, the reference's side ===== -/
def sck (k : Int32) : Nat := if k = 6 then 2 ^ 925 else 1
theorem sck_pos (k : Int32) : 0 < sck k := by
  unfold sck
  split
  · exact Nat.two_pow_pos _
  · omega
theorem pow_c {a b : Nat} (h : a = b) : 2 ^ a = 2 ^ b := by rw [h]
theorem pk_sck {k : Int32} (hk : k = 6 ∨ k = 7) : pk1 k * sck k = FP.Core.one64 := by
  unfold pk1 sck FP.Core.one64
  rcases hk with rfl | rfl
  · have e1 : bsk 6 - 1 + fbk 6 = 149 := rfl
    rw [e1, if_pos rfl, ← Nat.pow_add]
  · have e1 : bsk 7 - 1 + fbk 7 = 1074 := rfl
    rw [e1, if_neg (by decide), Nat.mul_one]
/-- a finite word's double: its sign, its units -/
theorem realZ {k : Int32} (hk : k = 6 ∨ k = 7) {w : Int64} (cw : cutw k w = w) (hf : szw k w < infk k) : FP.Core.DFin (realOf k w) ∧ FP.Core.sgn (FP.Core.val64 (realOf k w)) = decide (w.toInt < 0) ∧ FP.Core.zmag FP.Core.b64 (FP.Core.val64 (realOf k w)) = uOf (fbk k) (szw k w) * sck k := by
  unfold realOf
  rcases hk with rfl | rfl
  · rw [if_pos rfl]
    have hA : FP.Core.FFin (a32 w) := (FP.Core.fin_bits32 _).mpr (by rw [szw6n]; exact hf)
    have hn := hA.ne_nan
    have hs := FP.Core.sgn_bits32 hn
    have hm := FP.Core.zmag_toNat32 hn
    rw [decide_eq_decide.mpr (neg32 (cut6_rng cw))] at hs
    rw [szw6n, ← uOf_32] at hm
    have hfit := FP.Core.val32_fits (a32 w)
    have hD : FP.Core.DFin (FP.f2d (a32 w)) := by rw [f2d_c hn]; exact FP.Core.f2d_fin hA
    have hA' := hA
    obtain ⟨s, c, q, e⟩ := hA'
    rw [e] at hs hm hfit
    obtain ⟨c', q', h1, h2⟩ := widen_units hfit
    refine ⟨hD, ?_, ?_⟩
    · rw [f2d_c hn, FP.Core.val64_f2d, e, h1]
      exact hs
    · rw [f2d_c hn, FP.Core.val64_f2d, e, h1]
      show FP.Core.inUnits c' q' FP.Core.b64.qmin = uOf 23 (szw 6 w) * 2 ^ 925
      rw [h2]
      have hm' : FP.Core.inUnits c q FP.Core.b32.qmin = uOf 23 (szw 6 w) := hm
      rw [hm']
  · rw [if_neg (by decide)]
    have hA : FP.Core.DFin (Int64.toUInt64 w) := (FP.Core.fin_bits _).mpr (by rw [szw7n]; exact hf)
    have hn := hA.ne_nan
    refine ⟨hA, ?_, ?_⟩
    · rw [FP.Core.sgn_bits hn, decide_eq_decide.mpr (neg64 w)]
    · rw [FP.Core.zmag_bits hn, szw7n, ← uOf_64]
      show uOf 52 (szw 7 w) = uOf 52 (szw 7 w) * 1
      rw [Nat.mul_one]
/-- the endless ones -/
theorem realInf {k : Int32} (hk : k = 6 ∨ k = 7) {w : Int64} (cw : cutw k w = w) (hf : szw k w = infk k) : FP.Core.val64 (realOf k w) ≠ .nan ∧ FP.Core.sgn (FP.Core.val64 (realOf k w)) = decide (w.toInt < 0) ∧ FP.Core.zmag FP.Core.b64 (FP.Core.val64 (realOf k w)) = FP.Core.b64.tails * 2 ^ (FP.Core.b64.exps - 2) := by
  unfold realOf
  rcases hk with rfl | rfl
  · rw [if_pos rfl]
    have hn : FP.Core.val32 (a32 w) ≠ .nan := (FP.Core.ne_nan32 _).mpr (by rw [szw6n, hf]; exact Nat.le_refl _)
    have hnf : ¬ FP.Core.FFin (a32 w) := fun q => by
      have := (FP.Core.fin_bits32 _).mp q
      rw [szw6n, hf] at this
      exact absurd this (Nat.lt_irrefl _)
    have hs := FP.Core.sgn_bits32 hn
    rw [decide_eq_decide.mpr (neg32 (cut6_rng cw))] at hs
    cases e : FP.Core.val32 (a32 w) with
    | nan => exact absurd e hn
    | fin s c q => exact absurd ⟨s, c, q, e⟩ hnf
    | inf s =>
      rw [e] at hs
      have e2 : FP.Core.val64 (FP.f2d (a32 w)) = .inf s := by
        rw [f2d_c hn, FP.Core.val64_f2d, e]
        rfl
      rw [e2]
      exact ⟨FP.Core.Datum.noConfusion, hs, rfl⟩
  · rw [if_neg (by decide)]
    have hn : FP.Core.val64 (Int64.toUInt64 w) ≠ .nan := (FP.Core.ne_nan _).mpr (by rw [szw7n, hf]; exact Nat.le_refl _)
    refine ⟨hn, ?_, ?_⟩
    · rw [FP.Core.sgn_bits hn, decide_eq_decide.mpr (neg64 w)]
    · rw [FP.Core.zmag_bits hn, szw7n, hf]
      have e : infk 7 = FP.Core.infBits FP.Core.b64 := FP.Core.infBits_b64.symm
      rw [e]
      exact FP.Core.unitsOf_inf FP.Core.good_b64
theorem cut6_of {w : Int64} (r : -2147483648 ≤ w.toInt ∧ w.toInt < 2147483648) (g : w.toInt % 2 ^ 31 ≤ 2139095040) : cutw 6 w = w := by
  have e : cutw 6 w = if 2139095040 < w &&& 2147483647 then 2143289344 else Int32.toInt64 (Int64.toInt32 w) := rfl
  have hn : ¬ (2139095040 : Int64) < w &&& 2147483647 := by
    rw [Int64.lt_iff_toInt_lt, m31, c31]
    omega
  rw [e, if_neg hn]
  apply Int64.toInt_inj.mp
  rw [Int32.toInt_toInt64, Int64.toInt_toInt32]
  exact Int.bmod_eq_of_le (by omega) (by omega)
theorem cut7_of {w : Int64} (g : w.toInt % 2 ^ 63 ≤ 9218868437227405312) : cutw 7 w = w := by
  have e : cutw 7 w = if 9218868437227405312 < w &&& 9223372036854775807 then 9221120237041090560 else w := rfl
  have hn : ¬ (9218868437227405312 : Int64) < w &&& 9223372036854775807 := by
    rw [Int64.lt_iff_toInt_lt, m63, c63]
    omega
  rw [e, if_neg hn]
/-- the word of a sign and a size -/
theorem wsg_facts {k : Int32} (hk : k = 6 ∨ k = 7) {S : Nat} (hf : S < infk k) (neg : Bool) (h0 : neg = true ∨ neg = false) : cutw k (wsg k S neg) = wsg k S neg ∧ szw k (wsg k S neg) = S ∧ decide ((wsg k S neg).toInt < 0) = neg := by
  rcases hk with rfl | rfl
  · have hf' : S < 2139095040 := hf
    have e := wsg6 (S := S) (by omega) neg
    cases neg
    · rw [if_neg (by decide)] at e
      refine ⟨cut6_of (by omega) (by omega), ?_, decide_eq_false (by omega)⟩
      rw [szw6, e]
      omega
    · rw [if_pos rfl] at e
      refine ⟨cut6_of (by omega) (by omega), ?_, decide_eq_true (by omega)⟩
      rw [szw6, e]
      omega
  · have hf' : S < 9218868437227405312 := hf
    have e := wsg7 (S := S) (by omega) neg
    cases neg
    · rw [if_neg (by decide)] at e
      refine ⟨cut7_of (by omega), ?_, decide_eq_false (by omega)⟩
      rw [szw7, e]
      omega
    · rw [if_pos rfl] at e
      refine ⟨cut7_of (by omega), ?_, decide_eq_true (by omega)⟩
      rw [szw7, e]
      omega
theorem wordOf_real {k : Int32} (hk : k = 6 ∨ k = 7) {w : Int64} (cw : cutw k w = w) (hf : szw k w < infk k) (τ : rS) : f11_wordOf k (realOf k w) τ = some (w, τ) := by
  unfold f11_wordOf realOf
  rcases hk with rfl | rfl
  · have hA : FP.Core.FFin (a32 w) := (FP.Core.fin_bits32 _).mpr (by rw [szw6n]; exact hf)
    have hn := hA.ne_nan
    have hdn := f2d_nn hn
    have e : FP.d2f (FP.f2d (a32 w)) = a32 w := by
      rw [FP.d2f_core ((FP.Core.notNaN_iff _).mpr hdn), f2d_c hn]
      exact FP.Core.d2f_f2d hn
    rw [if_pos rfl, if_pos rfl, e, ock_pos ((nn32_iff _).mpr hn), fbits_eq hn, obind_some, toI32_wsg, szw6n, decide_eq_decide.mpr (neg32 (cut6_rng cw)), ← self_wsg (Or.inl rfl) cw, cut_eq, cw, obind_some]
  · have hA : FP.Core.DFin (Int64.toUInt64 w) := (FP.Core.fin_bits _).mpr (by rw [szw7n]; exact hf)
    have hn := hA.ne_nan
    have e : UInt64.toInt64 (Int64.toUInt64 w) = w := rfl
    rw [if_neg (by decide), if_neg (by decide), dbits_eq hn, obind_some, e, cut_eq, cw, obind_some]
theorem infk_E {k : Int32} (hk : k = 6 ∨ k = 7) : ∃ Em, infk k = Em * 2 ^ fbk k + 0 ∧ 54 + bsk k ≤ Em := by
  rcases hk with rfl | rfl
  · exact ⟨255, by decide, by decide⟩
  · exact ⟨2047, by decide, by decide⟩
theorem top_lt {k : Int32} (hk : k = 6 ∨ k = 7) {S A : Nat} (hA : A ≤ 2 ^ 53) (h : uOf (fbk k) S = A * pk1 k) : S < infk k := by
  apply (uOf_lt (fbk_or k)).mp
  obtain ⟨Em, e1, e2⟩ := infk_E hk
  have hbb := bsk_or k
  rw [h, e1, uOf_E (by omega) (Nat.zero_le _), Nat.add_zero, ← Nat.pow_add]
  unfold pk1
  have h1 : A * 2 ^ (bsk k - 1 + fbk k) ≤ 2 ^ 53 * 2 ^ (bsk k - 1 + fbk k) := Nat.mul_le_mul_right _ hA
  rw [← Nat.pow_add] at h1
  exact Nat.lt_of_le_of_lt h1 (Nat.pow_lt_pow_right (by omega) (by omega))
theorem finR {k : Int32} (hk : k = 6 ∨ k = 7) {w v : Int64} {A S' : Nat} (hv : v.toInt = FP.Core.signed (decide (w.toInt < 0)) A) (hA : A ≤ 2 ^ 53) (hS : uOf (fbk k) S' = A * pk1 k) (τ : rS) : B11_rounded_135 k w v τ = some (wsg k S' (decide (w.toInt < 0)), τ) := by
  have hfb := fbk_or k
  have q : (0 : Int64) ≤ w ↔ ¬ w.toInt < 0 := by rw [Int64.le_iff_toInt_le, l0i]; omega
  unfold B11_rounded_135
  by_cases c0 : A = 0
  · subst c0
    rw [Nat.zero_mul] at hS
    have e0 : S' = 0 := uOf_inj hfb (hS.trans (uOf_0 _).symm)
    rw [FP.Core.signed_zero] at hv
    have ev : v = 0 := Int64.toInt_inj.mp (by rw [hv, l0i])
    rw [if_pos ev, e0]
    by_cases c : w.toInt < 0
    · rw [if_neg (fun x => q.mp x c), decide_eq_true c]
      unfold f11_signOf wsg
      rcases hk with rfl | rfl
      · rfl
      · rfl
    · rw [if_pos (q.mpr c), decide_eq_false c]
      rfl
  · have hfin := top_lt hk hA hS
    obtain ⟨f1, f2, f3⟩ := wsg_facts hk hfin (decide (w.toInt < 0)) (by cases decide (w.toInt < 0) <;> simp)
    have hf' : szw k (wsg k S' (decide (w.toInt < 0))) < infk k := by rw [f2]; exact hfin
    obtain ⟨r1, r2, r3⟩ := realZ hk f1 hf'
    have hne : v ≠ 0 := by
      intro e
      rw [e, l0i] at hv
      have := (FP.Core.signed_eq_zero _ _).mp hv.symm
      exact c0 this
    have hint : FP.Core.DInt v.toInt (FP.Core.l2d v) := FP.Core.l2d_int (by rw [hv, FP.Core.natAbs_signed]; exact hA)
    have hz : FP.Core.zval FP.Core.b64 (FP.Core.val64 (realOf k (wsg k S' (decide (w.toInt < 0))))) = FP.Core.zval FP.Core.b64 (FP.Core.val64 (FP.Core.l2d v)) := by
      rw [FP.Core.DInt_zval hint, hv]
      unfold FP.Core.zval
      rw [r2, r3, f2, f3, hS, Nat.mul_assoc, pk_sck hk, FP.Core.signed_mul]
    have hb : realOf k (wsg k S' (decide (w.toInt < 0))) = FP.Core.l2d v := by
      refine FP.Core.eq_bits (fun hzz => ?_) (FP.Core.dcmp_eq.mpr ⟨r1.ne_nan, FP.Core.DInt_ne_nan hint, hz⟩)
      exact FP.Core.l2d_ne_zero hne ((FP.Core.zero_bits2 _).mp hzz)
    have hb' : FP.l2d v = realOf k (wsg k S' (decide (w.toInt < 0))) := hb.symm
    rw [if_neg hne, hb', wordOf_real hk f1 hf', obind_some]
