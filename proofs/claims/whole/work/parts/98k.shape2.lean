/-! ===== shape: rounding, the class's side, whole ===== -/
theorem uOf_0 (fb : Nat) : uOf fb 0 = 0 := by
  unfold uOf
  rw [if_pos (Nat.two_pow_pos _)]
theorem big_units {fb B S : Nat} (hB : 1 ≤ B) (h1 : B + fb ≤ S / 2 ^ fb) : uOf fb S % 2 ^ (B - 1 + fb) = 0 := by
  rw [uOf_sfr]
  have e : scl fb S - 1 = (B - 1 + fb) + (scl fb S - 1 - (B - 1 + fb)) := by
    unfold scl
    omega
  rw [e, Nat.pow_add, Nat.mul_left_comm]
  exact Nat.mul_mod_right _ _
theorem rndC_small {k : Int32} {v1 : Int64} {way : Int32} {neg : Bool} {S : Nat} {σ : rS} (hS : S < 2 ^ 63) (hS0 : S ≠ 0) (h1 : S / 2 ^ fbk k < bsk k) : ∃ S', S' < 2 ^ 63 ∧ uOf (fbk k) S' = rA way neg (uOf (fbk k) S) (pk1 k) * pk1 k ∧ B2_rounded_18 k v1 way (lN S) neg σ = some (wsg k S' neg, σ) := by
  have hbb := bsk_or k
  have hfbo := fbk_or k
  have hB : 1 ≤ bsk k := by omega
  have hfb : fbk k ≤ 52 := by omega
  have hbs : bsk k ≤ 1023 := by omega
  have hp0 := Nat.two_pow_pos (fbk k)
  have hp : 2 ^ fbk k ≤ 2 ^ 52 := Nat.pow_le_pow_right (by omega) hfb
  have hdivle : S / 2 ^ fbk k ≤ S := Nat.div_le_self _ _
  have hSlt : S < bsk k * 2 ^ fbk k := (Nat.div_lt_iff_lt_mul hp0).mp h1
  have eP : uOf (fbk k) (bsk k * 2 ^ fbk k) = pk1 k := by
    have := uOf_E (fb := fbk k) (E := bsk k) (y := 0) hB (Nat.zero_le _)
    rw [Nat.add_zero, Nat.add_zero] at this
    rw [this]
    unfold pk1
    rw [← Nat.pow_add, Nat.add_comm]
  have eH : 2 * uOf (fbk k) ((bsk k - 1) * 2 ^ fbk k) = pk1 k := by
    have := uOf_E (fb := fbk k) (E := bsk k - 1) (y := 0) (by omega) (Nat.zero_le _)
    rw [Nat.add_zero, Nat.add_zero] at this
    rw [this]
    unfold pk1
    rw [← Nat.pow_add, ← Nat.pow_succ']
    congr 1
    omega
  have hMlt : uOf (fbk k) S < pk1 k := by
    rw [← eP]
    exact (uOf_lt hfbo).mpr hSlt
  have hM0 : uOf (fbk k) S ≠ 0 := by
    intro q
    have := uOf_inj hfbo (q.trans (uOf_0 _).symm)
    exact hS0 this
  have hd : uOf (fbk k) S / pk1 k = 0 := Nat.div_eq_of_lt hMlt
  have hm : uOf (fbk k) S % pk1 k = uOf (fbk k) S := Nat.mod_eq_of_lt hMlt
  unfold B2_rounded_18
  have eE : Int64.toInt32 (lN (S / 2 ^ fbk k)) = nI (S / 2 ^ fbk k) := toI32_small (lT (by omega)) (by omega)
  have hne : ¬ lN S = 0 := fun q => hS0 ((lEq (b := 0) hS (by omega)).mp q)
  have hx : (nI (S / 2 ^ fbk k) - nI (bsk k)).toInt = ((S / 2 ^ fbk k : Nat) : Int) - (bsk k : Int) := pk_sub_toInt (by omega) (by omega)
  have c1 : nI (S / 2 ^ fbk k) - nI (bsk k) < nI (fbk k) := by
    rw [Int32.lt_iff_toInt_lt, hx, nI_toInt (by omega)]
    omega
  have c2 : ¬ 0 ≤ nI (S / 2 ^ fbk k) - nI (bsk k) := by
    rw [Int32.le_iff_toInt_le, hx, z0]
    omega
  rw [fb_eq, obind_some, bs_eq, obind_some, olet_eq, lsar (by omega) hS, eE, if_neg hne, fb_eq, obind_some, if_pos c1, if_neg c2]
  have hhb : (bsk k - 1) * 2 ^ fbk k ≤ 1023 * 2 ^ 52 := Nat.mul_le_mul (by omega) hp
  have hob : bsk k * 2 ^ fbk k ≤ 1023 * 2 ^ 52 := Nat.mul_le_mul hbs hp
  have eh : f2_halfOf k σ = some (lN ((bsk k - 1) * 2 ^ fbk k), σ) := by
    unfold f2_halfOf
    have e0 : Int32.toInt64 (nI (bsk k) - 1) = lN (bsk k - 1) := by
      have e1 : nI (bsk k) - 1 = nI (bsk k - 1) := pk_sub (b := 1) hB
      rw [e1]
      apply lI
      rw [Int32.toInt_toInt64, nI_toInt (by omega)]
    rw [bs_eq, obind_some, fb_eq, obind_some, e0, lshl (by omega) (by omega)]
  have eo : f2_oneOf k σ = some (lN (bsk k * 2 ^ fbk k), σ) := by
    unfold f2_oneOf
    have e0 : Int32.toInt64 (nI (bsk k)) = lN (bsk k) := by
      apply lI
      rw [Int32.toInt_toInt64, nI_toInt (by omega)]
    rw [bs_eq, obind_some, fb_eq, obind_some, e0, lshl (by omega) (by omega)]
  rw [eh, obind_some, jcmp_eq, obind_some, lT hS, lT (by omega), gup_eq, obind_some]
  have hg := gup_iff (way := way) (neg := neg) (odd := false) (part := S) (half := (bsk k - 1) * 2 ^ fbk k) (a := 0) hS0 (by decide)
  have hup : gup way neg (if (S : Int) < (((bsk k - 1) * 2 ^ fbk k : Nat) : Int) then -1 else if (S : Int) = (((bsk k - 1) * 2 ^ fbk k : Nat) : Int) then 0 else 1) false = true ↔ rUp way neg (uOf (fbk k) S) (pk1 k) := by
    rw [hg]
    unfold rUp
    rw [hm, hd]
    have l1 := uOf_lt (S := (bsk k - 1) * 2 ^ fbk k) (T := S) hfbo
    have x1 : pk1 k < 2 * uOf (fbk k) S ↔ (bsk k - 1) * 2 ^ fbk k < S := by
      rw [← l1, ← eH]
      omega
    by_cases w1 : way = 1
    · rw [if_pos w1, if_pos w1]
      exact ⟨fun q => ⟨hM0, q⟩, fun q => q.2⟩
    · rw [if_neg w1, if_neg w1]
      by_cases w2 : way = 2
      · rw [if_pos w2, if_pos w2]
        exact ⟨fun q => ⟨hM0, q⟩, fun q => q.2⟩
      · rw [if_neg w2, if_neg w2, x1]
        constructor
        · rintro (q | ⟨-, q⟩)
          · exact ⟨hM0, Or.inl q⟩
          · exact absurd q (by decide)
        · rintro ⟨-, q | ⟨-, q⟩⟩
          · exact Or.inl q
          · exact absurd q (by decide)
  by_cases cu : rUp way neg (uOf (fbk k) S) (pk1 k)
  · refine ⟨bsk k * 2 ^ fbk k, by omega, ?_, ?_⟩
    · rw [eP, rA_up cu, hd, Nat.zero_add, Nat.one_mul]
    · rw [if_pos (hup.mpr cu), eo, obind_some, wsg_eq, obind_some]
  · refine ⟨0, by omega, ?_, ?_⟩
    · rw [uOf_0, rA_dn cu, hd, Nat.zero_mul]
    · have e0 : (0 : Int64) = lN 0 := rfl
      rw [if_neg (fun q => cu (hup.mp q)), e0, wsg_eq, obind_some]
theorem rndC {k : Int32} (hk : k = 6 ∨ k = 7) {w : Int64} (cw : cutw k w = w) (way : Int32) (σ : rS) (hf : szw k w ≤ infk k) : ∃ S', S' < 2 ^ 63 ∧ uOf (fbk k) S' = rA way (decide (w.toInt < 0)) (uOf (fbk k) (szw k w)) (pk1 k) * pk1 k ∧ f2_rounded k w way σ = some (wsg k S' (decide (w.toInt < 0)), σ) := by
  have hS := szw_lt k w
  have hself := self_wsg hk cw
  have hbb := bsk_or k
  have hE : szw k w / 2 ^ fbk k ≤ 2047 := by
    rcases hk with rfl | rfl
    · have : szw 6 w ≤ 2139095040 := hf
      show szw 6 w / 2 ^ 23 ≤ 2047
      omega
    · have : szw 7 w ≤ 9218868437227405312 := hf
      show szw 7 w / 2 ^ 52 ≤ 2047
      omega
  have main : ∀ neg : Bool, w = wsg k (szw k w) neg → ∃ S', S' < 2 ^ 63 ∧ uOf (fbk k) S' = rA way neg (uOf (fbk k) (szw k w)) (pk1 k) * pk1 k ∧ B2_rounded_18 k w way (lN (szw k w)) neg σ = some (wsg k S' neg, σ) := by
    intro neg hneg
    by_cases c0 : szw k w = 0
    · refine ⟨0, by omega, ?_, ?_⟩
      · have z : uOf (fbk k) (szw k w) = 0 := by rw [c0, uOf_0]
        rw [uOf_0, z, rA_0 (Nat.zero_mod _)]
      · unfold B2_rounded_18
        rw [fb_eq, obind_some, bs_eq, obind_some, olet_eq, if_pos (by rw [c0]; rfl)]
        rw [c0] at hneg
        rw [← hneg]
    · by_cases c1 : szw k w / 2 ^ fbk k < bsk k
      · exact rndC_small hS c0 c1
      · by_cases c2 : szw k w / 2 ^ fbk k < bsk k + fbk k
        · exact rndC_mid hS (by omega) c2 hneg
        · refine ⟨szw k w, hS, ?_, ?_⟩
          · exact (rA_0 (big_units (B := bsk k) (by omega) (by omega))).symm
          · unfold B2_rounded_18
            have eE : Int64.toInt32 (lN (szw k w / 2 ^ fbk k)) = nI (szw k w / 2 ^ fbk k) := toI32_small (lT (by omega)) (by omega)
            have hne : ¬ lN (szw k w) = 0 := fun q => c0 ((lEq (b := 0) hS (by omega)).mp q)
            rw [fb_eq, obind_some, bs_eq, obind_some, olet_eq, lsar (by omega) hS, eE, pk_sub (by omega), if_neg hne, fb_eq, obind_some, if_neg (nI_nlt (by omega) (by omega)), ← hneg]
  unfold f2_rounded
  rw [size_eq, obind_some]
  have q : (0 : Int64) ≤ w ↔ ¬ w.toInt < 0 := by rw [Int64.le_iff_toInt_le, l0i]; omega
  by_cases c : w.toInt < 0
  · rw [decide_eq_true c] at hself ⊢
    rw [if_neg (fun x => q.mp x c)]
    exact main true hself
  · rw [decide_eq_false c] at hself ⊢
    rw [if_pos (q.mpr c)]
    exact main false hself
