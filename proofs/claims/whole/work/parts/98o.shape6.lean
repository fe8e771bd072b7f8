/-! ===== shape ===== -/
theorem self_S {k : Int32} (hk : k = 6 ∨ k = 7) {w : Int64} (cw : cutw k w = w) {way : Int32} {neg : Bool} {S' : Nat} (h0 : uOf (fbk k) (szw k w) % pk1 k = 0) (hS : uOf (fbk k) S' = rA way neg (uOf (fbk k) (szw k w)) (pk1 k) * pk1 k) : wsg k S' (decide (w.toInt < 0)) = w := by
  rw [rA_0 h0] at hS
  rw [uOf_inj (fbk_or k) hS]
  exact (self_wsg hk cw).symm
theorem big_of_units {k : Int32} (hk : k = 6 ∨ k = 7) {S : Nat} (h : 4503599627370496 * pk1 k ≤ uOf (fbk k) S) : uOf (fbk k) S % pk1 k = 0 := by
  have hbb := bsk_or k
  have hp : 2 ^ fbk k ≤ 4503599627370496 := by
    rcases hbb with ⟨e, -⟩ | ⟨e, -⟩ <;> rw [e] <;> decide
  have e : uOf (fbk k) ((bsk k + fbk k) * 2 ^ fbk k + 0) = 2 ^ fbk k * pk1 k := by
    rw [uOf_E (by omega) (Nat.zero_le _), Nat.add_zero]
    unfold pk1
    congr 1
    exact pow_c (by omega)
  have h1 : 2 ^ fbk k * pk1 k ≤ 4503599627370496 * pk1 k := Nat.mul_le_mul_right _ hp
  have h2 : ¬ uOf (fbk k) S < uOf (fbk k) ((bsk k + fbk k) * 2 ^ fbk k + 0) := by omega
  rw [uOf_lt (fbk_or k), Nat.add_zero] at h2
  have h3 : bsk k + fbk k ≤ S / 2 ^ fbk k := (Nat.le_div_iff_mul_le (Nat.two_pow_pos _)).mpr (by omega)
  exact big_units (B := bsk k) (by omega) h3
theorem rndR {k : Int32} (hk : k = 6 ∨ k = 7) {w : Int64} (cw : cutw k w = w) (hg : isg k w = false) {way : Int32} (hway : way = 1 ∨ way = 2 ∨ way = 3) {S' : Nat} (hS : uOf (fbk k) S' = rA way (decide (w.toInt < 0)) (uOf (fbk k) (szw k w)) (pk1 k) * pk1 k) (τ : rS) : f11_rounded k w way τ = some (wsg k S' (decide (w.toInt < 0)), τ) := by
  have hle : szw k w ≤ infk k := by
    rw [isg_sz hk, decide_eq_false_iff_not] at hg
    omega
  have hnn := real_nn hk hg
  have hU := FP.Core.one64_pos
  unfold f11_rounded
  have hc1 : FP.dcmp (realOf k w) 4841369599423283200 = some (compare (FP.Core.zval FP.Core.b64 (FP.Core.val64 (realOf k w))) (((4503599627370496 : Nat) : Int) * (FP.Core.one64 : Int))) := by
    have := FP.Core.dcmp_zval hnn nc52
    rw [zc52] at this
    exact this
  have hc2 : FP.dcmp (realOf k w) 14064741636278059008 = some (compare (FP.Core.zval FP.Core.b64 (FP.Core.val64 (realOf k w))) (-(((4503599627370496 : Nat) : Int) * (FP.Core.one64 : Int)))) := by
    have := FP.Core.dcmp_zval hnn nc52n
    rw [zc52n] at this
    exact this
  rw [real_eq hk hg, obind_some, hc1, hc2]
  have hpos : (0 : Int) < ((4503599627370496 : Nat) : Int) * (FP.Core.one64 : Int) := by omega
  have early : uOf (fbk k) (szw k w) % pk1 k = 0 → some (w, τ) = some (wsg k S' (decide (w.toInt < 0)), τ) := fun h0 => by rw [self_S hk cw h0 hS]
  by_cases ci : szw k w = infk k
  · obtain ⟨r1, r2, r3⟩ := realInf hk cw ci
    have h0 : uOf (fbk k) (szw k w) % pk1 k = 0 := by
      obtain ⟨Em, e1, e2⟩ := infk_E hk
      have hbb := bsk_or k
      apply big_units (B := bsk k) (by omega)
      rw [ci, e1, Nat.add_zero, Nat.mul_div_cancel _ (Nat.two_pow_pos _)]
      omega
    have hT : 4503599627370496 * FP.Core.one64 ≤ FP.Core.b64.tails * 2 ^ (FP.Core.b64.exps - 2) := by
      have e1 : FP.Core.b64.tails = 2 ^ 52 := FP.Core.tails_b64
      have e2 : FP.Core.b64.exps - 2 = 2046 := by decide
      have e3 : (4503599627370496 : Nat) = 2 ^ 52 := by decide
      rw [e1, e2, e3]
      unfold FP.Core.one64
      exact Nat.mul_le_mul_left _ (Nat.pow_le_pow_right (by omega) (by omega))
    have hz : FP.Core.zval FP.Core.b64 (FP.Core.val64 (realOf k w)) = FP.Core.signed (decide (w.toInt < 0)) (FP.Core.b64.tails * 2 ^ (FP.Core.b64.exps - 2)) := by
      unfold FP.Core.zval
      rw [r2, r3]
    rw [hz]
    generalize FP.Core.b64.tails * 2 ^ (FP.Core.b64.exps - 2) = T at *
    by_cases c1 : 0 ≤ Op.cmpValue (some (compare (FP.Core.signed (decide (w.toInt < 0)) T) (((4503599627370496 : Nat) : Int) * (FP.Core.one64 : Int)))) .l
    · rw [if_pos c1]
      exact early h0
    · rw [if_neg c1]
      rw [cv_ge] at c1
      have c2 : ¬ 0 < Op.cmpValue (some (compare (FP.Core.signed (decide (w.toInt < 0)) T) (-(((4503599627370496 : Nat) : Int) * (FP.Core.one64 : Int))))) .g := by
        rw [cv_gt]
        rw [sgd] at c1 ⊢
        split at c1
        · rename_i hb
          rw [if_pos hb]
          omega
        · omega
      rw [if_neg c2]
      exact early h0
  · have hfin : szw k w < infk k := by omega
    obtain ⟨r1, r2, r3⟩ := realZ hk cw hfin
    have hz : FP.Core.zval FP.Core.b64 (FP.Core.val64 (realOf k w)) = FP.Core.signed (decide (w.toInt < 0)) (uOf (fbk k) (szw k w) * sck k) := by
      unfold FP.Core.zval
      rw [r2, r3]
    have hPU := pk_sck hk
    have hsc := sck_pos k
    have hbig : 4503599627370496 * FP.Core.one64 ≤ uOf (fbk k) (szw k w) * sck k → uOf (fbk k) (szw k w) % pk1 k = 0 := by
      intro h
      apply big_of_units hk
      rw [← hPU, ← Nat.mul_assoc] at h
      exact Nat.le_of_mul_le_mul_right h hsc
    have hd : uOf (fbk k) (szw k w) * sck k / FP.Core.one64 = uOf (fbk k) (szw k w) / pk1 k := by
      rw [← hPU, Nat.mul_div_mul_right _ _ hsc]
    have hmo : uOf (fbk k) (szw k w) * sck k % FP.Core.one64 = uOf (fbk k) (szw k w) % pk1 k * sck k := by
      rw [← hPU, Nat.mul_mod_mul_right]
    have hmd := Nat.div_add_mod (uOf (fbk k) (szw k w) * sck k) FP.Core.one64
    have hrlt := Nat.mod_lt (uOf (fbk k) (szw k w) * sck k) hU
    rw [hz]
    by_cases c1 : 0 ≤ Op.cmpValue (some (compare (FP.Core.signed (decide (w.toInt < 0)) (uOf (fbk k) (szw k w) * sck k)) (((4503599627370496 : Nat) : Int) * (FP.Core.one64 : Int)))) .l
    · rw [if_pos c1]
      rw [cv_ge, sgd] at c1
      refine early (hbig ?_)
      split at c1 <;> omega
    · rw [if_neg c1]
      by_cases c2 : 0 < Op.cmpValue (some (compare (FP.Core.signed (decide (w.toInt < 0)) (uOf (fbk k) (szw k w) * sck k)) (-(((4503599627370496 : Nat) : Int) * (FP.Core.one64 : Int))))) .g
      · rw [if_pos c2, olet_eq]
        rw [cv_ge, sgd] at c1
        rw [cv_gt, sgd] at c2
        have hmlt : uOf (fbk k) (szw k w) * sck k < 4503599627370496 * FP.Core.one64 := by
          by_cases hb : decide (w.toInt < 0) = true
          · rw [if_pos hb] at c2
            omega
          · rw [if_neg hb] at c1
            omega
        have ha52' : uOf (fbk k) (szw k w) * sck k / FP.Core.one64 < 4503599627370496 := (Nat.div_lt_iff_lt_mul hU).mpr hmlt
        have ha52 : uOf (fbk k) (szw k w) * sck k / FP.Core.one64 < 2 ^ 52 := by
          have e52 : (4503599627370496 : Nat) = 2 ^ 52 := by decide
          rw [e52] at ha52'
          exact ha52'
        have ht := FP.Core.d2l_val hnn
        rw [r2, r3] at ht
        have ht' : (FP.d2l (realOf k w)).toInt = FP.Core.signed (decide (w.toInt < 0)) (uOf (fbk k) (szw k w) * sck k / FP.Core.one64) := by
          have e : (FP.d2l (realOf k w)).toInt = _ := ht
          rw [e, sgd]
          generalize uOf (fbk k) (szw k w) * sck k / FP.Core.one64 = a at ha52
          split <;> omega
        have hint : FP.Core.DInt (FP.d2l (realOf k w)).toInt (FP.Core.l2d (FP.d2l (realOf k w))) := FP.Core.l2d_int (by
          rw [ht', FP.Core.natAbs_signed]
          omega)
        have hc3 : FP.dcmp (FP.l2d (FP.d2l (realOf k w))) (realOf k w) = some (compare ((FP.d2l (realOf k w)).toInt * (FP.Core.one64 : Int)) (FP.Core.signed (decide (w.toInt < 0)) (uOf (fbk k) (szw k w) * sck k))) := by
          have := FP.Core.dcmp_zval (FP.Core.DInt_ne_nan hint) hnn
          rw [FP.Core.DInt_zval hint, hz] at this
          exact this
        rw [hc3, ht']
        -- the digits of the size
        have hsf := sfr_lt (fb := fbk k) (S := szw k w)
        have hbb := bsk_or k
        have hJ : uOf (fbk k) (szw k w) * sck k = sfr (fbk k) (szw k w) * 2 ^ (scl (fbk k) (szw k w) - 1 + (if k = 6 then 925 else 0)) ∧ scl (fbk k) (szw k w) - 1 + (if k = 6 then 925 else 0) ≤ 2045 := by
          constructor
          · rw [uOf_sfr, Nat.mul_assoc, Nat.pow_add]
            congr 2
            unfold sck
            split
            · rfl
            · rfl
          · rcases hk with rfl | rfl
            · rw [if_pos rfl]
              have h1 : szw 6 w < 2139095040 := hfin
              have h2 : szw 6 w / 2 ^ 23 < 255 := by omega
              have h3 : scl (fbk 6) (szw 6 w) = max 1 (szw 6 w / 2 ^ 23) := rfl
              rw [h3]
              omega
            · rw [if_neg (by decide)]
              have h1 : szw 7 w < 9218868437227405312 := hfin
              have h2 : szw 7 w / 2 ^ 52 < 2047 := by omega
              have h3 : scl (fbk 7) (szw 7 w) = max 1 (szw 7 w / 2 ^ 52) := rfl
              rw [h3]
              omega
        have hA : rA way (decide (w.toInt < 0)) (uOf (fbk k) (szw k w)) (pk1 k) = uOf (fbk k) (szw k w) * sck k / FP.Core.one64 + @ite Nat (uOf (fbk k) (szw k w) * sck k % FP.Core.one64 ≠ 0 ∧ (if way = 1 then decide (w.toInt < 0) = true else if way = 2 then decide (w.toInt < 0) = false else (FP.Core.one64 < 2 * (uOf (fbk k) (szw k w) * sck k % FP.Core.one64) ∨ (FP.Core.one64 = 2 * (uOf (fbk k) (szw k w) * sck k % FP.Core.one64) ∧ uOf (fbk k) (szw k w) * sck k / FP.Core.one64 % 2 = 1)))) (Classical.propDecidable _) 1 0 := by
          have x0 : uOf (fbk k) (szw k w) * sck k % FP.Core.one64 ≠ 0 ↔ uOf (fbk k) (szw k w) % pk1 k ≠ 0 := by
            rw [hmo]
            constructor
            · intro q e
              rw [e, Nat.zero_mul] at q
              exact q rfl
            · intro q
              exact Nat.mul_ne_zero q (by omega)
          have ex : 2 * (uOf (fbk k) (szw k w) % pk1 k * sck k) = 2 * (uOf (fbk k) (szw k w) % pk1 k) * sck k := by rw [Nat.mul_assoc]
          have x1 : FP.Core.one64 < 2 * (uOf (fbk k) (szw k w) * sck k % FP.Core.one64) ↔ pk1 k < 2 * (uOf (fbk k) (szw k w) % pk1 k) := by
            rw [hmo, ex, ← hPU]
            exact Nat.mul_lt_mul_right hsc
          have x2 : FP.Core.one64 = 2 * (uOf (fbk k) (szw k w) * sck k % FP.Core.one64) ↔ pk1 k = 2 * (uOf (fbk k) (szw k w) % pk1 k) := by
            rw [hmo, ex, ← hPU]
            exact Nat.mul_right_cancel_iff hsc
          have xx : (uOf (fbk k) (szw k w) * sck k % FP.Core.one64 ≠ 0 ∧ (if way = 1 then decide (w.toInt < 0) = true else if way = 2 then decide (w.toInt < 0) = false else (FP.Core.one64 < 2 * (uOf (fbk k) (szw k w) * sck k % FP.Core.one64) ∨ (FP.Core.one64 = 2 * (uOf (fbk k) (szw k w) * sck k % FP.Core.one64) ∧ uOf (fbk k) (szw k w) * sck k / FP.Core.one64 % 2 = 1)))) ↔ rUp way (decide (w.toInt < 0)) (uOf (fbk k) (szw k w)) (pk1 k) := by
            unfold rUp
            rw [x0, x1, x2, hd]
          by_cases cu : rUp way (decide (w.toInt < 0)) (uOf (fbk k) (szw k w)) (pk1 k)
          · rw [if_pos (xx.mpr cu), rA_up cu, hd]
          · rw [if_neg (fun q => cu (xx.mp q)), rA_dn cu, hd, Nat.add_zero]
        have go : ∀ s0 : Int64, s0.toInt = loI (decide (w.toInt < 0)) (uOf (fbk k) (szw k w) * sck k / FP.Core.one64) (uOf (fbk k) (szw k w) * sck k % FP.Core.one64) → B11_rounded_50 k w way (realOf k w) s0 τ = some (wsg k S' (decide (w.toInt < 0)), τ) := fun s0 hs0 => r50 hk hway r1 hz hmd.symm hrlt ha52 hs0 hA hS hJ.1 hsf (by omega) hJ.2 τ
        clear hS hA hc1 hc2 hc3 early
        generalize hm : uOf (fbk k) (szw k w) * sck k = m at *
        generalize haa : m / FP.Core.one64 = a at *
        generalize hrr : m % FP.Core.one64 = r at *
        have hcast : (m : Int) = (FP.Core.one64 : Int) * (a : Int) + (r : Int) := by rw [← hmd]; simp
        by_cases cl : Op.cmpValue (some (compare (FP.Core.signed (decide (w.toInt < 0)) a * (FP.Core.one64 : Int)) (FP.Core.signed (decide (w.toInt < 0)) m))) .l ≤ 0
        · rw [if_pos cl]
          rw [cv_le] at cl
          refine go _ ?_
          rw [ht']
          unfold loI
          by_cases hb : decide (w.toInt < 0) = true
          · rw [hb] at cl ⊢
            have cl' : -(a : Int) * (FP.Core.one64 : Int) ≤ -(m : Int) := cl
            rw [Int.neg_mul, Int.mul_comm, hcast] at cl'
            rw [if_pos rfl, if_pos (show r = 0 by omega)]
            rfl
          · have hb' : decide (w.toInt < 0) = false := by simpa using hb
            rw [hb', if_neg (by decide)]
            rfl
        · rw [if_neg cl]
          rw [cv_le] at cl
          refine go _ ?_
          have hsub := sub1_toInt (v := FP.d2l (realOf k w)) (by
            rw [ht', sgd]
            split <;> omega)
          rw [hsub, ht']
          unfold loI
          by_cases hb : decide (w.toInt < 0) = true
          · rw [hb] at cl ⊢
            have cl' : ¬ -(a : Int) * (FP.Core.one64 : Int) ≤ -(m : Int) := cl
            rw [Int.neg_mul, Int.mul_comm, hcast] at cl'
            rw [if_pos rfl, if_neg (show ¬ r = 0 by omega)]
            show -(a : Int) - 1 = -((a : Int) + 1)
            omega
          · have hb' : decide (w.toInt < 0) = false := by simpa using hb
            rw [hb'] at cl
            have cl' : ¬ (a : Int) * (FP.Core.one64 : Int) ≤ (m : Int) := cl
            rw [Int.mul_comm, hcast] at cl'
            omega
      · rw [if_neg c2]
        rw [cv_gt, sgd] at c2
        refine early (hbig ?_)
        split at c2 <;> omega
