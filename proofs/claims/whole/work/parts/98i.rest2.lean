/-! ===== rest: both sides ===== -/
theorem xor_hi {S A n : Nat} (h : S < 2 ^ n) : S ^^^ (A * 2 ^ n) = A * 2 ^ n + S := by
  have hp := Nat.two_pow_pos n
  have h1 : (S ^^^ (A * 2 ^ n)) % 2 ^ n = S := by
    rw [Nat.xor_mod_two_pow, Nat.mod_eq_of_lt h, Nat.mul_mod_left, Nat.xor_zero]
  have h2 : (S ^^^ (A * 2 ^ n)) / 2 ^ n = A := by
    rw [Nat.xor_div_two_pow, Nat.div_eq_of_lt h, Nat.mul_div_cancel _ hp, Nat.zero_xor]
  have h3 := Nat.div_add_mod (S ^^^ (A * 2 ^ n)) (2 ^ n)
  rw [h1, h2, Nat.mul_comm] at h3
  exact h3.symm
theorem uN_xor (a b : Int64) : uN (a ^^^ b) = uN a ^^^ uN b := by
  unfold uN
  rw [Int64.toBitVec_xor, BitVec.toNat_xor]
theorem wsg6 {S : Nat} (h : S < 2 ^ 31) (neg : Bool) : (wsg 6 S neg).toInt = if neg = true then (S : Int) - 2 ^ 31 else (S : Int) := by
  unfold wsg
  cases neg
  · exact lT (by omega)
  · rw [if_pos rfl, if_pos rfl, if_pos rfl]
    have e : uN (lN S ^^^ (-2147483648)) = (2 ^ 33 - 1) * 2 ^ 31 + S := by
      rw [uN_xor, lU (by omega)]
      exact xor_hi (A := 2 ^ 33 - 1) h
    rw [toInt_uN, e]
    split <;> omega
theorem wsg7 {S : Nat} (h : S < 2 ^ 63) (neg : Bool) : (wsg 7 S neg).toInt = if neg = true then (S : Int) - 2 ^ 63 else (S : Int) := by
  unfold wsg
  cases neg
  · exact lT (by omega)
  · rw [if_pos rfl, if_neg (by decide), if_pos rfl]
    have e : uN (lN S ^^^ (-9223372036854775808)) = 1 * 2 ^ 63 + S := by
      rw [uN_xor, lU (by omega)]
      exact xor_hi (A := 1) h
    rw [toInt_uN, e]
    split <;> omega
theorem szw6 (w : Int64) : szw 6 w = (w.toInt % 2 ^ 31).toNat := rfl
theorem szw7 (w : Int64) : szw 7 w = (w.toInt % 2 ^ 63).toNat := rfl
theorem self_wsg {k : Int32} (hk : k = 6 ∨ k = 7) {w : Int64} (cw : cutw k w = w) : w = wsg k (szw k w) (decide (w.toInt < 0)) := by
  apply Int64.toInt_inj.mp
  rcases hk with rfl | rfl
  · have r := cut6_rng cw
    rw [szw6, wsg6 (by omega)]
    by_cases c : w.toInt < 0
    · rw [decide_eq_true c, if_pos rfl]
      omega
    · rw [decide_eq_false c, if_neg (by decide)]
      omega
  · have r1 := Int64.le_toInt w
    have r2 := Int64.toInt_lt w
    rw [szw7, wsg7 (by omega)]
    by_cases c : w.toInt < 0
    · rw [decide_eq_true c, if_pos rfl]
      omega
    · rw [decide_eq_false c, if_neg (by decide)]
      omega
theorem uOf_32 (S : Nat) : uOf 23 S = FP.Core.unitsOf FP.Core.b32 S := by
  unfold uOf FP.Core.unitsOf
  rw [FP.Core.tails_b32]
theorem uOf_64 (S : Nat) : uOf 52 S = FP.Core.unitsOf FP.Core.b64 S := by
  unfold uOf FP.Core.unitsOf
  rw [FP.Core.tails_b64]
theorem uOf_lt {fb S T : Nat} (hf : fb = 23 ∨ fb = 52) : uOf fb S < uOf fb T ↔ S < T := by
  rcases hf with rfl | rfl
  · rw [uOf_32, uOf_32]; exact FP.Core.unitsOf_lt_iff
  · rw [uOf_64, uOf_64]; exact FP.Core.unitsOf_lt_iff
theorem uOf_inj {fb S T : Nat} (hf : fb = 23 ∨ fb = 52) (h : uOf fb S = uOf fb T) : S = T := by
  have h1 := uOf_lt (S := S) (T := T) hf
  have h2 := uOf_lt (S := T) (T := S) hf
  omega
theorem infk_div {k : Int32} (hk : k = 6 ∨ k = 7) {S : Nat} (h : S < infk k) : S / 2 ^ fbk k < 2047 := by
  rcases hk with rfl | rfl
  · have h' : S < 2139095040 := h
    show S / 2 ^ 23 < 2047
    omega
  · have h' : S < 9218868437227405312 := h
    show S / 2 ^ 52 < 2047
    omega
theorem restOf_eq {N : Nat} {k : Int32} {a b : Int64} {σ : rS} (hN : 500 ≤ N) (hk : k = 6 ∨ k = 7) (ca : cutw k a = a) (h1 : szw k a < infk k) (h2 : szw k b ≤ infk k) (h3 : szw k b ≠ 0) : ∃ S, S < 2 ^ 63 ∧ uOf (fbk k) S = uOf (fbk k) (szw k a) % uOf (fbk k) (szw k b) ∧ f2_restOf N k a b σ = some (wsg k S (decide (a.toInt < 0)), σ) := by
  have hfb := fbk_or k
  have hp : 2 ^ fbk k ≤ 2 ^ 52 := by rcases hfb with e | e <;> rw [e] <;> decide
  have hp0 := Nat.two_pow_pos (fbk k)
  have hi := infk_lt k
  unfold f2_restOf
  rw [size_eq, obind_some, size_eq, obind_some]
  by_cases c : szw k b ≤ szw k a
  · have d1 := infk_div hk h1
    have d2 := infk_div hk (S := szw k b) (by omega)
    rw [if_pos ((lLe (by omega) (by omega)).mpr c), sfr_eq k (by omega), obind_some]
    have hd := sfr_lt (fb := fbk k) (S := szw k b)
    have hd0 : 0 < sfr (fbk k) (szw k b) := by
      unfold sfr
      split
      · omega
      · rw [Nat.mod_eq_of_lt (by omega)]
        omega
    have ha := sfr_lt (fb := fbk k) (S := szw k a)
    have hne : ¬ lN (sfr (fbk k) (szw k b)) = 0 := fun q => by
      have := (lEq (b := 0) (by omega) (by omega)).mp q
      omega
    have hsc : scl (fbk k) (szw k b) ≤ scl (fbk k) (szw k a) := by
      have := Nat.div_le_div_right (c := 2 ^ fbk k) c
      unfold scl
      omega
    have hs1 : 1 ≤ scl (fbk k) (szw k b) := by unfold scl; omega
    have hs2 : scl (fbk k) (szw k a) < 2047 := by unfold scl; omega
    rw [if_neg hne, scl_eq k (by omega) (by omega), obind_some, sfr_eq k (by omega), obind_some, ock_pos hne, olet_eq, lrem (by omega) hd0 (by omega), scl_eq k (by omega) (by omega), obind_some, olet_eq, pk_sub hsc]
    obtain ⟨S, s1, s2, s3⟩ := rst_loop (N := N) (k := k) (v1 := a) (σ := σ) (dv := sfr (fbk k) (szw k b)) (sc := scl (fbk k) (szw k b)) hN hd0 hd hs1 (by omega) 205 N (sfr (fbk k) (szw k a) % sfr (fbk k) (szw k b)) (scl (fbk k) (szw k a) - scl (fbk k) (szw k b)) (by omega) (by omega) (by omega) (Nat.mod_lt _ hd0)
    refine ⟨S, s1, ?_, s3⟩
    rw [s2, uOf_sfr, uOf_sfr, Nat.mod_mul_mod, ← Nat.mul_mod_mul_right, Nat.mul_assoc, ← Nat.pow_add]
    congr 3
    omega
  · rw [if_neg (fun q => c ((lLe (by omega) (by omega)).mp q))]
    refine ⟨szw k a, by omega, ?_, ?_⟩
    · rw [Nat.mod_eq_of_lt ((uOf_lt hfb).mpr (by omega))]
    · rw [← self_wsg hk ca]
theorem dbits_eq {x : UInt64} (h : FP.Core.val64 x ≠ .nan) (τ : rS) : fJ_dbits x τ = some (UInt64.toInt64 x, τ) := by
  unfold fJ_dbits fJ_dnan
  have e : FP.dcmp x x = some .eq := FP.Core.dcmp_self h
  rw [e, if_pos (show Op.cmpValue (some .eq) .l = 0 from rfl), obind_some, if_neg (by decide)]
theorem fbits_eq {x : UInt32} (h : FP.Core.val32 x ≠ .nan) (τ : rS) : fJ_fbits x τ = some (UInt32.toInt32 x, τ) := by
  unfold fJ_fbits fJ_fnan
  have e : FP.fcmp x x = some .eq := FP.Core.fcmp_self h
  rw [e, if_pos (show Op.cmpValue (some .eq) .l = 0 from rfl), obind_some, if_neg (by decide)]
theorem toI64_wsg (x : UInt64) : UInt64.toInt64 x = wsg 7 (x.toNat % 2 ^ 63) (decide (2 ^ 63 ≤ x.toNat)) := by
  apply Int64.toInt_inj.mp
  have hx := x.toNat_lt
  have e : uN (UInt64.toInt64 x) = x.toNat := rfl
  rw [wsg7 (by omega), toInt_uN, e]
  by_cases c : 2 ^ 63 ≤ x.toNat
  · rw [decide_eq_true c, if_pos rfl, if_neg (by omega)]
    omega
  · rw [decide_eq_false c, if_pos (by omega), if_neg (show ¬ (false = true) by decide)]
    omega
theorem toI32_wsg (x : UInt32) : Int32.toInt64 (UInt32.toInt32 x) = wsg 6 (x.toNat % 2 ^ 31) (decide (2 ^ 31 ≤ x.toNat)) := by
  apply Int64.toInt_inj.mp
  have hx := x.toNat_lt
  rw [wsg6 (by omega), Int32.toInt_toInt64]
  have e : (UInt32.toInt32 x).toInt = if 2 * x.toNat < 2 ^ 32 then (x.toNat : Int) else (x.toNat : Int) - ((2 ^ 32 : Nat) : Int) := BitVec.toInt_eq_toNat_cond x.toBitVec
  rw [e]
  by_cases c : 2 ^ 31 ≤ x.toNat
  · rw [decide_eq_true c, if_pos rfl, if_neg (by omega)]
    omega
  · rw [decide_eq_false c, if_pos (by omega), if_neg (show ¬ (false = true) by decide)]
    omega
theorem neg32 {w : Int64} (r : -2147483648 ≤ w.toInt ∧ w.toInt < 2147483648) : (2 ^ 31 ≤ (a32 w).toNat) ↔ w.toInt < 0 := by
  rw [a32_nat]
  have h := uN_toInt w
  by_cases c : w.toInt < 0
  · have := h.1 c
    omega
  · have := h.2 (by omega)
    omega
theorem neg64 (w : Int64) : (2 ^ 63 ≤ (Int64.toUInt64 w).toNat) ↔ w.toInt < 0 := by
  rw [a64_nat]
  have h := uN_toInt w
  have h2 := Int64.toInt_lt w
  have h3 := Int64.le_toInt w
  by_cases c : w.toInt < 0
  · have := h.1 c
    omega
  · have := h.2 (by omega)
    omega
theorem szw6n (w : Int64) : (a32 w).toNat % 2 ^ 31 = szw 6 w := by
  have := sz32 w
  rw [szw6]
  omega
theorem szw7n (w : Int64) : (Int64.toUInt64 w).toNat % 2 ^ 63 = szw 7 w := by
  have := sz64 w
  rw [szw7, a64_nat]
  omega
/-- the remainder of the core, as a word -/
theorem drem_w {a b : Int64} (h1 : szw 7 a < infk 7) (h2 : szw 7 b ≤ infk 7) (h3 : szw 7 b ≠ 0) : ∃ S, S < 2 ^ 63 ∧ uOf 52 S = uOf 52 (szw 7 a) % uOf 52 (szw 7 b) ∧ FP.Core.val64 (FP.drem (Int64.toUInt64 a) (Int64.toUInt64 b)) ≠ .nan ∧ UInt64.toInt64 (FP.drem (Int64.toUInt64 a) (Int64.toUInt64 b)) = wsg 7 S (decide (a.toInt < 0)) := by
  have i7 : infk 7 = 9218868437227405312 := rfl
  rw [i7] at h1 h2
  have hA : FP.Core.DFin (Int64.toUInt64 a) := (FP.Core.fin_bits _).mpr (by rw [szw7n]; exact h1)
  have hB : FP.Core.val64 (Int64.toUInt64 b) ≠ .nan := (FP.Core.ne_nan _).mpr (by rw [szw7n]; exact h2)
  have hZ : ¬ FP.Core.DZero (Int64.toUInt64 b) := fun q => h3 (by rw [← szw7n]; exact (FP.Core.zero_bits2 _).mp q)
  obtain ⟨r1, r2, r3⟩ := FP.Core.drem_zval hA hB hZ
  rw [FP.Core.zmag_bits r1, FP.Core.zmag_bits hA.ne_nan, FP.Core.zmag_bits hB, szw7n a, szw7n b] at r3
  rw [FP.Core.sgn_bits r1, FP.Core.sgn_bits hA.ne_nan, decide_eq_decide.mpr (neg64 a)] at r2
  refine ⟨(FP.drem (Int64.toUInt64 a) (Int64.toUInt64 b)).toNat % 2 ^ 63, Nat.mod_lt _ (by omega), ?_, r1, ?_⟩
  · rw [uOf_64, uOf_64, uOf_64]
    exact r3
  · rw [toI64_wsg, r2]
theorem frem_w {a b : Int64} (ca : cutw 6 a = a) (h1 : szw 6 a < infk 6) (h2 : szw 6 b ≤ infk 6) (h3 : szw 6 b ≠ 0) : ∃ S, S < 2 ^ 31 ∧ uOf 23 S = uOf 23 (szw 6 a) % uOf 23 (szw 6 b) ∧ FP.Core.val32 (FP.frem (a32 a) (a32 b)) ≠ .nan ∧ Int32.toInt64 (UInt32.toInt32 (FP.frem (a32 a) (a32 b))) = wsg 6 S (decide (a.toInt < 0)) := by
  have i6 : infk 6 = 2139095040 := rfl
  rw [i6] at h1 h2
  have hA : FP.Core.FFin (a32 a) := (FP.Core.fin_bits32 _).mpr (by rw [szw6n]; exact h1)
  have hB : FP.Core.val32 (a32 b) ≠ .nan := (FP.Core.ne_nan32 _).mpr (by rw [szw6n]; exact h2)
  have hZ : ¬ FP.Core.FZero (a32 b) := fun q => h3 (by rw [← szw6n]; exact (FP.Core.zero_bits232 _).mp q)
  obtain ⟨r1, r2, r3⟩ := FP.Core.frem_zval hA hB hZ
  rw [FP.Core.zmag_toNat32 r1, FP.Core.zmag_toNat32 hA.ne_nan, FP.Core.zmag_toNat32 hB, szw6n a, szw6n b] at r3
  rw [FP.Core.sgn_bits32 r1, FP.Core.sgn_bits32 hA.ne_nan, decide_eq_decide.mpr (neg32 (cut6_rng ca))] at r2
  refine ⟨(FP.frem (a32 a) (a32 b)).toNat % 2 ^ 31, Nat.mod_lt _ (by omega), ?_, r1, ?_⟩
  · rw [uOf_32, uOf_32, uOf_32]
    exact r3
  · rw [toI32_wsg, r2]
theorem isg_sz {k : Int32} (hk : k = 6 ∨ k = 7) (w : Int64) : isg k w = decide (infk k < szw k w) := by
  unfold isg
  apply decide_eq_decide.mpr
  rcases hk with rfl | rfl
  · rw [szw6]
    show _ ↔ 2139095040 < (w.toInt % 2 ^ 31).toNat
    constructor
    · rintro (⟨-, q⟩ | ⟨q, -⟩)
      · omega
      · exact absurd q (by decide)
    · intro q
      exact Or.inl ⟨rfl, by omega⟩
  · rw [szw7]
    show _ ↔ 9218868437227405312 < (w.toInt % 2 ^ 63).toNat
    constructor
    · rintro (⟨q, -⟩ | ⟨-, q⟩)
      · exact absurd q (by decide)
      · omega
    · intro q
      exact Or.inr ⟨rfl, by omega⟩
theorem real_zero {k : Int32} (hk : k = 6 ∨ k = 7) {w : Int64} (h : isg k w = false) : Op.cmpValue (FP.dcmp (realOf k w) 0) .l = 0 ↔ szw k w = 0 := by
  have key : ∀ o : Option Ordering, Op.cmpValue o .l = 0 ↔ o = some .eq := by
    intro o
    rcases o with _ | (_ | _ | _)
    · constructor
      · intro q; exact absurd q (by decide)
      · intro q; cases q
    · constructor
      · intro q; exact absurd q (by decide)
      · intro q; cases q
    · exact ⟨fun _ => rfl, fun _ => rfl⟩
    · constructor
      · intro q; exact absurd q (by decide)
      · intro q; cases q
  rw [key]
  unfold realOf
  rcases hk with rfl | rfl
  · have e0 : FP.f2d 0 = 0 := by decide +kernel
    have n0 : FP.Core.val32 0 ≠ .nan := by rw [FP.Core.val32_zero]; exact FP.Core.Datum.noConfusion
    rw [if_pos rfl, ← szw6n]
    have c := cmp_f2d (nn32w h) n0
    rw [e0] at c
    rw [c]
    exact FP.Core.zero_iff32.trans (FP.Core.zero_bits232 _)
  · rw [if_neg (by decide), ← szw7n]
    exact FP.Core.zero_iff.trans (FP.Core.zero_bits2 _)
theorem lvRest_eq {k : Int32} (a b : Int64) (σ : rS) : f2_leaveRest k a b σ = some (decide (szw k b ≤ infk k ∧ szw k b ≠ 0 ∧ szw k a < infk k), σ) := by
  have hi := infk_lt k
  have ha := szw_lt k a
  have hb := szw_lt k b
  unfold f2_leaveRest f2_isNone
  rw [size_eq, obind_some, endless_eq, obind_some]
  by_cases c1 : szw k b ≤ infk k
  · rw [if_pos ((lLe hb hi).mpr c1), obind_some, if_neg (by decide), size_eq, obind_some]
    by_cases c2 : szw k b = 0
    · rw [if_pos (by rw [c2]; rfl), decide_eq_false (fun q => q.2.1 c2)]
    · rw [if_neg (show ¬ lN (szw k b) = 0 from fun q => c2 ((lEq (b := 0) hb (by omega)).mp q)), size_eq, obind_some, endless_eq, obind_some]
      by_cases c3 : szw k a < infk k
      · rw [if_neg (fun q => by have := (lLe hi ha).mp q; omega), decide_eq_true ⟨c1, c2, c3⟩]
      · rw [if_pos ((lLe hi ha).mpr (by omega)), decide_eq_false (fun q => c3 q.2.2)]
  · rw [if_neg (fun q => c1 ((lLe hb hi).mp q)), obind_some, if_pos rfl, decide_eq_false (fun q => c1 q.1)]
theorem flt_67 {k : Int32} (hk : k = 6 ∨ k = 7) (σ : rS) : f4_areFloating k σ = some (true, σ) := by
  unfold f4_areFloating
  rcases hk with rfl | rfl
  · rw [if_pos rfl]
  · rw [if_neg (by decide), if_pos rfl]
theorem flt_no {k : Int32} (h6 : ¬ k = 6) (h7 : ¬ k = 7) (σ : rS) : f4_areFloating k σ = some (false, σ) := by
  unfold f4_areFloating
  rw [if_neg h6, if_neg h7]
theorem mask_eq {k : Int32} (hk : k = 6 ∨ k = 7) (a : Int64) {α : Type} (τ : rS) (F : Bool → rS → Option α) : (obind (f11_kMask k τ) fun r12 σ13 => obind (f11_kEndless k σ13) fun r14 σ15 => if (a &&& r12) = r14 then F true σ15 else F false σ15) = F (decide (szw k a = infk k)) τ := by
  have ha := szw_lt k a
  have hi := infk_lt k
  have e1 : (obind (f11_kMask k τ) fun r12 σ13 => obind (f11_kEndless k σ13) fun r14 σ15 => if (a &&& r12) = r14 then F true σ15 else F false σ15) = if lN (szw k a) = lN (infk k) then F true τ else F false τ := by
    have e := size_eq k a τ
    unfold f2_sizeOf at e
    unfold f11_kMask f11_kEndless
    rcases hk with rfl | rfl
    · rw [if_pos rfl] at e
      have e' := (Prod.mk.inj (Option.some.inj e)).1
      rw [if_pos rfl, obind_some, if_pos rfl, obind_some, e']
      rfl
    · rw [if_neg (by decide)] at e
      have e' := (Prod.mk.inj (Option.some.inj e)).1
      rw [if_neg (by decide), obind_some, if_neg (by decide), obind_some, e']
      rfl
  rw [e1]
  by_cases c : szw k a = infk k
  · rw [if_pos (by rw [c]), decide_eq_true c]
  · rw [if_neg (fun q => c ((lEq ha hi).mp q)), decide_eq_false c]
theorem eq_rest {N : Nat} (hN : 500 ≤ N) : EQ_rest N Inv := by
  intro v w x t σ τ ht h
  show Bth t _ _
  unfold f10_rest f11_rest
  rcases againstCase h v w with ⟨e1, e2⟩ | ⟨j, hj, rfl, e1, ⟨hl, e2⟩ | ⟨hl, e3, e2⟩ | ⟨hl, e3, e2, i, hi, rfl⟩⟩
  · rw [e1, e2]; exact bth_ret h _
  · rw [e1, e2]
    simp only [obind_some, onul_some, if_neg hl, found_eq (v := 1) h.1 1 rfl (by omega)]
    exact bth_ret (fnd_Inv (f := 1) h (by omega)) _
  · rw [e1, e2]
    simp only [obind_some, onul_some, if_pos hl, e3, found_eq (v := 2) h.1 2 rfl (by omega)]
    exact bth_ret (fnd_Inv (f := 2) h (by omega)) _
  · obtain ⟨q1, ⟨kd, hkd, q2⟩, q3, q4, q5, q6, q7, q8⟩ := h.2.2.1.2.2.2.2 j hj
    have hz := h.2.2.1.1
    rw [e1, e2, obind_some, obind_some, onul_some, if_pos hl, e3, obind_some, if_pos rfl, if_pos rfl, h.1.2.1.2.2.1, idx_nI _ (by omega) (by omega), q5, in_ix (by omega), obind_some, has_eq (by omega), obind_some]
    by_cases hx : 0 ≤ x.toInt ∧ x.toInt < gN σ 14 j
    · obtain ⟨y, hy, rfl⟩ := of_in (v := x) (n := gN σ 14 j) (by omega) hx
      rw [decide_eq_true hx, if_pos rfl, if_pos rfl, idx_nI _ hi (by omega), idx_nI _ hy (by omega), h.1.2.1.2.1, idx_nI _ (by omega) (by omega), olet_eq, ix24, ix24, h.1.2.1.2.2.2.2.1, idx_nI _ (by omega) (by omega), olet_eq, idx_nI _ (by omega) (by omega), olet_eq, q3, (q8 i hi).1, (q8 y hy).1]
      have ca := (q8 i hi).2
      have cb := (q8 y hy).2
      generalize hA : gL σ 14 j i = a at *
      generalize hB : gL σ 14 j y = b at *
      generalize hkk : gI σ 13 j 0 = k at *
      unfold f4_leaveRest f4_restOf
      rcases kd_cases q2 hkd with h67 | ⟨h6, h6', h7', -⟩
      · have h6 : 6 ≤ k := by
          rcases h67 with rfl | rfl
          · decide
          · decide
        rw [flt_67 h67, obind_some, if_pos rfl, lvRest_eq, obind_some, obind_some, if_pos h6, mask_eq h67 a τ (fun s0 σ15 => B11_rest_127 0 k a b s0 σ15)]
        unfold B11_rest_127
        rw [gap11_eq, obind_some, isg_sz h67]
        by_cases g1 : infk k < szw k a
        · rw [decide_eq_false (show ¬ (szw k b ≤ infk k ∧ szw k b ≠ 0 ∧ szw k a < infk k) by omega), decide_eq_true g1, if_neg (show ¬ (false = true) by decide), if_pos rfl]
          exact bth_fnd h 5 rfl (by omega)
        rw [decide_eq_false g1, if_neg (show ¬ (false = true) by decide), gap11_eq, obind_some]
        by_cases g2 : infk k < szw k b
        · rw [decide_eq_false (show ¬ (szw k b ≤ infk k ∧ szw k b ≠ 0 ∧ szw k a < infk k) by omega), isg_sz h67, decide_eq_true g2, if_neg (show ¬ (false = true) by decide), if_pos rfl]
          exact bth_fnd h 5 rfl (by omega)
        have g2' : isg k b = false := by rw [isg_sz h67, decide_eq_false g2]
        have g1' : isg k a = false := by rw [isg_sz h67, decide_eq_false g1]
        rw [g2', if_neg (show ¬ (false = true) by decide)]
        by_cases g3 : szw k a = infk k
        · rw [decide_eq_false (show ¬ (szw k b ≤ infk k ∧ szw k b ≠ 0 ∧ szw k a < infk k) by omega), decide_eq_true g3, if_neg (show ¬ (false = true) by decide), if_pos rfl]
          exact bth_fnd h 5 rfl (by omega)
        rw [decide_eq_false g3, if_neg (show ¬ (false = true) by decide), real_eq h67 g2', obind_some]
        have hrz := real_zero h67 g2'
        by_cases g4 : szw k b = 0
        · rw [decide_eq_false (show ¬ (szw k b ≤ infk k ∧ szw k b ≠ 0 ∧ szw k a < infk k) by omega), if_neg (show ¬ (false = true) by decide), if_pos (hrz.mpr g4)]
          exact bth_fnd h 5 rfl (by omega)
        rw [decide_eq_true (show szw k b ≤ infk k ∧ szw k b ≠ 0 ∧ szw k a < infk k by omega), if_pos rfl, if_neg (fun q => g4 (hrz.mp q)), idx_nI _ hi (by omega), idx_nI _ hy (by omega)]
        obtain ⟨S, s1, s2, s3⟩ := restOf_eq (N := N) (σ := σ) hN h67 ca (by omega) (show szw k b ≤ infk k by omega) g4
        rw [hkk, flt_67 h67, obind_some, if_pos rfl, hA, hB, s3, obind_some, obind_some, olet_eq]
        rcases h67 with rfl | rfl
        · obtain ⟨S', t1, t2, t3, t4⟩ := frem_w ca (show szw 6 a < infk 6 by omega) (show szw 6 b ≤ infk 6 by omega) g4
          have eS : S' = S := uOf_inj (fbk_or 6) (t2.trans s2.symm)
          have t3' : nn32 (FP.frem (Int32.toUInt32 (Int64.toInt32 a)) (Int32.toUInt32 (Int64.toInt32 b))) = true := (nn32_iff _).mpr t3
          have t4' : Int32.toInt64 (UInt32.toInt32 (FP.frem (Int32.toUInt32 (Int64.toInt32 a)) (Int32.toUInt32 (Int64.toInt32 b)))) = _ := t4
          rw [if_pos rfl, ock_pos (okF_of g1'), ock_pos (okF_of g2'), ock_pos t3', fbits_eq (x := FP.frem (Int32.toUInt32 (Int64.toInt32 a)) (Int32.toUInt32 (Int64.toInt32 b))) t3, obind_some, olet_eq, t4', eS]
          exact bth_ret (seen_Inv h _) _
        · obtain ⟨S', t1, t2, t3, t4⟩ := drem_w (show szw 7 a < infk 7 by omega) (show szw 7 b ≤ infk 7 by omega) g4
          have eS : S' = S := uOf_inj (fbk_or 7) (t2.trans s2.symm)
          rw [if_neg (show ¬ (7 : Int32) = 6 by decide), ock_pos (okD_of g1'), ock_pos (okD_of g2'), ock_pos ((nn64_iff _).mpr t3), dbits_eq t3, obind_some, olet_eq, t4, eS]
          exact bth_ret (seen_Inv h _) _
      · rw [flt_no h6' h7', obind_some, if_neg (by decide), if_neg h6]
        by_cases c : b = 0
        · rw [if_pos c, if_pos c, obind_some, if_neg (by decide)]
          exact bth_fnd h 5 rfl (by omega)
        · rw [if_neg c, if_neg c, obind_some, if_pos rfl, idx_nI _ hi (by omega), idx_nI _ hy (by omega), hkk, flt_no h6' h7', obind_some, if_neg (by decide), hA, hB, if_neg c, ock_pos c, ock_pos c, obind_some, olet_eq, olet_eq]
          exact bth_ret (seen_Inv h _) _
    · rw [decide_eq_false hx, if_neg (by decide), if_neg (by decide)]
      exact bth_fnd h 2 rfl (by omega)
