/-! ===== shape: the reference's rounding ===== -/
theorem r135s (k : Int32) (w v : Int64) (τ : rS) : B11_rounded_79 k w v τ = B11_rounded_135 k w v τ ∧ B11_rounded_124 k w v τ = B11_rounded_135 k w (v + 1) τ ∧ B11_rounded_131 k w v τ = B11_rounded_135 k w v τ := ⟨rfl, rfl, rfl⟩
theorem odd_bit (v : Int64) : (v &&& 1) = 1 ↔ v.toInt % 2 = 1 := by
  have h : (v &&& 1).toInt = v.toInt % 2 ^ 1 := and_mask v 1 1 (by omega) rfl
  have l1 : (1 : Int64).toInt = 1 := rfl
  rw [← Int64.toInt_inj, h, l1]
  constructor
  · intro q; omega
  · intro q; omega
theorem add1_toInt {v : Int64} (h : v.toInt < 2 ^ 53) : (v + 1).toInt = v.toInt + 1 := by
  have l1 : (1 : Int64).toInt = 1 := rfl
  have h2 := Int64.le_toInt v
  rw [Int64.toInt_add, l1]
  exact Int.bmod_eq_of_le (by omega) (by omega)
theorem sub1_toInt {v : Int64} (h : -2 ^ 53 ≤ v.toInt) : (v - 1).toInt = v.toInt - 1 := by
  have l1 : (1 : Int64).toInt = 1 := rfl
  have h2 := Int64.toInt_lt v
  rw [Int64.toInt_sub, l1]
  exact Int.bmod_eq_of_le (by omega) (by omega)
theorem sgd (b : Bool) (c : Nat) : FP.Core.signed b c = if b = true then -(c : Int) else (c : Int) := by cases b <;> rfl
/-- the whole one at or below, from the size's whole and rest -/
def loI (neg : Bool) (a r : Nat) : Int := if neg = true then (if r = 0 then -(a : Int) else -((a : Int) + 1)) else (a : Int)
theorem r50 {k : Int32} (hk : k = 6 ∨ k = 7) {w : Int64} {way : Int32} {x : UInt64} {s0 : Int64} {m a r A S' sf J fb : Nat} (hway : way = 1 ∨ way = 2 ∨ way = 3) (hfx : FP.Core.DFin x) (hX : FP.Core.zval FP.Core.b64 (FP.Core.val64 x) = FP.Core.signed (decide (w.toInt < 0)) m) (hm : m = FP.Core.one64 * a + r) (hr : r < FP.Core.one64) (ha : a < 2 ^ 52) (hs0 : s0.toInt = loI (decide (w.toInt < 0)) a r) (hA : A = a + @ite Nat (r ≠ 0 ∧ (if way = 1 then decide (w.toInt < 0) = true else if way = 2 then decide (w.toInt < 0) = false else (FP.Core.one64 < 2 * r ∨ (FP.Core.one64 = 2 * r ∧ a % 2 = 1)))) (Classical.propDecidable _) 1 0) (hS : uOf (fbk k) S' = A * pk1 k) (hmf : m = sf * 2 ^ J) (hsf : sf < 2 * 2 ^ fb) (hfb : fb ≤ 52) (hJ : J ≤ 2045) (τ : rS) : B11_rounded_50 k w way x s0 τ = some (wsg k S' (decide (w.toInt < 0)), τ) := by
  have hA53 : A ≤ 2 ^ 53 := by
    have h1 : ∀ (p : Prop) (i : Decidable p), @ite Nat p i 1 0 ≤ 1 := by
      intro p i
      by_cases c : p
      · rw [if_pos c]; omega
      · rw [if_neg c]; omega
    have := h1 (r ≠ 0 ∧ (if way = 1 then decide (w.toInt < 0) = true else if way = 2 then decide (w.toInt < 0) = false else (FP.Core.one64 < 2 * r ∨ (FP.Core.one64 = 2 * r ∧ a % 2 = 1)))) (Classical.propDecidable _)
    rw [hA]
    omega
  have hlo : -2 ^ 53 ≤ s0.toInt ∧ s0.toInt < 2 ^ 53 := by
    rw [hs0]
    unfold loI
    split
    · split <;> omega
    · omega
  have hU := FP.Core.one64_pos
  have hint : FP.Core.DInt s0.toInt (FP.Core.l2d s0) := FP.Core.l2d_int (by omega)
  have hzl := FP.Core.DInt_zval hint
  have hc : FP.dcmp (FP.l2d s0) x = some (compare (s0.toInt * (FP.Core.one64 : Int)) (FP.Core.signed (decide (w.toInt < 0)) m)) := by
    have := FP.Core.dcmp_zval (FP.Core.DInt_ne_nan hint) hfx.ne_nan
    rw [hzl, hX] at this
    exact this
  have fin : ∀ v : Int64, v.toInt = FP.Core.signed (decide (w.toInt < 0)) A → B11_rounded_135 k w v τ = some (wsg k S' (decide (w.toInt < 0)), τ) := fun v hv => finR hk hv hA53 hS τ
  obtain ⟨q1, q2, q3⟩ := r135s k w s0 τ
  obtain ⟨p1, p2, p3⟩ := r135s k w (s0 + 1) τ
  have hadd := add1_toInt hlo.2
  generalize hneg : decide (w.toInt < 0) = neg at *
  unfold B11_rounded_50
  have hmul : ∀ z : Int, z * (FP.Core.one64 : Int) = (FP.Core.one64 : Int) * z := fun z => Int.mul_comm _ _
  rcases hway with rfl | rfl | rfl
  · rw [if_neg (by decide), if_neg (by decide)]
    refine fin s0 ?_
    rw [hs0, hA, sgd]
    unfold loI
    cases neg
    · rw [if_neg (by decide), if_neg (by decide), if_neg (fun q => absurd q.2 (by simp))]
      omega
    · rw [if_pos rfl, if_pos rfl]
      by_cases c : r = 0
      · rw [if_pos c, if_neg (fun q => q.1 c)]
        omega
      · rw [if_neg c, if_pos ⟨c, by simp⟩]
        omega
  · rw [if_pos rfl, hc, q1, p1]
    have e2 : (if (2 : Int32) = 1 then neg = true else if (2 : Int32) = 2 then neg = false else (FP.Core.one64 < 2 * r ∨ (FP.Core.one64 = 2 * r ∧ a % 2 = 1))) = (neg = false) := by
      rw [if_neg (by decide), if_pos rfl]
    by_cases ce : Op.cmpValue (some (compare (s0.toInt * (FP.Core.one64 : Int)) (FP.Core.signed neg m))) .l = 0
    · rw [if_pos ce]
      rw [cv_l0, hs0, sgd, hm] at ce
      refine fin s0 ?_
      rw [hs0, hA, sgd]
      unfold loI at ce ⊢
      cases neg
      · rw [if_neg (by decide), if_neg (by decide)] at ce
        have hr0 : r = 0 := by
          rw [Int.mul_comm] at ce
          have : ((FP.Core.one64 * a + r : Nat) : Int) = (FP.Core.one64 : Int) * (a : Int) + (r : Int) := by simp
          omega
        rw [if_neg (by decide), if_neg (by decide), if_neg (fun q => q.1 hr0)]
        omega
      · rw [if_pos rfl, if_pos rfl] at ce ⊢
        have hr0 : r = 0 := by
          apply Classical.byContradiction
          intro hr0
          rw [if_neg hr0, Int.neg_mul, Int.add_mul, Int.one_mul, Int.mul_comm] at ce
          have : ((FP.Core.one64 * a + r : Nat) : Int) = (FP.Core.one64 : Int) * (a : Int) + (r : Int) := by simp
          omega
        rw [if_pos hr0, if_neg (fun q => q.1 hr0)]
        omega
    · rw [if_neg ce]
      rw [cv_l0, hs0, sgd, hm] at ce
      have hcast : ((FP.Core.one64 * a + r : Nat) : Int) = (FP.Core.one64 : Int) * (a : Int) + (r : Int) := by simp
      refine fin (s0 + 1) ?_
      rw [hadd, hs0, hA, sgd]
      unfold loI at ce ⊢
      cases neg
      · rw [if_neg (by decide), if_neg (by decide)] at ce
        have hr0 : r ≠ 0 := by
          intro q
          rw [Int.mul_comm, hcast] at ce
          omega
        rw [if_neg (by decide), if_neg (by decide), if_pos ⟨hr0, by rw [e2]⟩]
        omega
      · rw [if_pos rfl, if_pos rfl] at ce
        have hr0 : r ≠ 0 := by
          intro q
          rw [if_pos q, Int.neg_mul, Int.mul_comm, hcast] at ce
          omega
        rw [if_pos rfl, if_pos rfl, if_neg hr0, if_neg (fun q => by rw [e2] at q; exact absurd q.2 (by decide))]
        omega
  · have e3 : (if (3 : Int32) = 1 then neg = true else if (3 : Int32) = 2 then neg = false else (FP.Core.one64 < 2 * r ∨ (FP.Core.one64 = 2 * r ∧ a % 2 = 1))) = (FP.Core.one64 < 2 * r ∨ (FP.Core.one64 = 2 * r ∧ a % 2 = 1)) := by
      rw [if_neg (by decide), if_neg (by decide)]
    have hly : FP.Core.DFin (FP.Core.l2d s0) := FP.Core.l2d_fin s0
    have hnn : FP.Core.val64 (FP.dsub x (FP.l2d s0)) ≠ .nan := (FP.Core.notNaN_iff _).mp (FP.Core.dsub_out ((FP.Core.notNaN_iff _).mpr hfx.ne_nan) hly)
    have hcO : FP.dcmp (FP.dsub x (FP.l2d s0)) 4602678819172646912 = some (compare (FP.Core.zval FP.Core.b64 (FP.Core.val64 (FP.dsub x (FP.l2d s0)))) (FP.Core.zval FP.Core.b64 (FP.Core.val64 4602678819172646912))) := FP.Core.dcmp_zval hnn nch
    have hodd := odd_bit s0
    rw [if_neg (by decide), if_pos rfl, ock_pos ((nn64_iff _).mpr hnn), olet_eq, hcO, q2, q3]
    have hh := zch
    have fh := FP.Core.val64_fits 4602678819172646912
    have hge := dsub_ge (x := x) (y := FP.Core.l2d s0) hfx hly fh nch
    rw [hX, hzl, hs0] at hge
    have hexact : ∀ D : Nat, (∃ n j, n < 2 ^ 53 ∧ j ≤ 2045 ∧ D = n * 2 ^ j) → (D : Int) = FP.Core.signed neg m - loI neg a r * (FP.Core.one64 : Int) → FP.Core.zval FP.Core.b64 (FP.Core.val64 (FP.dsub x (FP.l2d s0))) = (D : Int) := by
      rintro D ⟨n, j, h1, h2, h3⟩ h4
      obtain ⟨V, v1, v2, v3⟩ := rep64 h1 h2
      rw [← h3] at v3
      have g1 := dsub_ge (x := x) (y := FP.Core.l2d s0) hfx hly v1 v2
      have g2 := dsub_le (x := x) (y := FP.Core.l2d s0) hfx hly v1 v2
      rw [hX, hzl, hs0, v3] at g1 g2
      have l1 := g1 (by omega)
      have l2 := g2 (by omega)
      have l1' : (D : Int) ≤ FP.Core.zval FP.Core.b64 (FP.Core.val64 (FP.dsub x (FP.l2d s0))) := l1
      have l2' : FP.Core.zval FP.Core.b64 (FP.Core.val64 (FP.dsub x (FP.l2d s0))) ≤ (D : Int) := l2
      omega
    have hcast : (m : Int) = (FP.Core.one64 : Int) * (a : Int) + (r : Int) := by rw [hm]; simp
    obtain ⟨o1, o2⟩ := over_rep hsf hfb hJ
    have hU2 : FP.Core.one64 = 2 ^ 1074 := rfl
    have hrm : sf * 2 ^ J % 2 ^ 1074 = r := by
      rw [← hmf, ← hU2, hm, Nat.mul_add_mod, Nat.mod_eq_of_lt hr]
    rw [hrm] at o1 o2
    generalize hO : FP.Core.zval FP.Core.b64 (FP.Core.val64 (FP.dsub x (FP.l2d s0))) = O at *
    generalize hHH : FP.Core.zval FP.Core.b64 (FP.Core.val64 4602678819172646912) = H at *
    have hA' : A = a + @ite Nat (r ≠ 0 ∧ (FP.Core.one64 < 2 * r ∨ (FP.Core.one64 = 2 * r ∧ a % 2 = 1))) (Classical.propDecidable _) 1 0 := by
      rw [hA]
      by_cases cc : r ≠ 0 ∧ (FP.Core.one64 < 2 * r ∨ (FP.Core.one64 = 2 * r ∧ a % 2 = 1))
      · rw [if_pos cc, if_pos (by rw [e3]; exact cc)]
      · rw [if_neg cc, if_neg (by rw [e3]; exact cc)]
    clear hA e3
    -- where the sum goes
    have pick : ∀ up : Prop, (up → s0.toInt + 1 = FP.Core.signed neg A) → (¬ up → s0.toInt = FP.Core.signed neg A) → ((H < O ∨ (O = H ∧ s0.toInt % 2 = 1)) ↔ up) → (if 0 < Op.cmpValue (some (compare O H)) .l then B11_rounded_135 k w (s0 + 1) τ else if Op.cmpValue (some (compare O H)) .l = 0 then (if (s0 &&& 1) = 1 then B11_rounded_135 k w (s0 + 1) τ else B11_rounded_135 k w s0 τ) else B11_rounded_135 k w s0 τ) = some (wsg k S' neg, τ) := by
      intro up u1 u2 u3
      by_cases c1 : H < O
      · rw [if_pos ((cv_gt _ _ _).mpr c1)]
        exact fin _ (by rw [hadd]; exact u1 (u3.mp (Or.inl c1)))
      · rw [if_neg (fun q => c1 ((cv_gt _ _ _).mp q))]
        by_cases c2 : O = H
        · rw [if_pos ((cv_l0 _ _).mpr c2)]
          by_cases c3 : s0.toInt % 2 = 1
          · rw [if_pos (hodd.mpr c3)]
            exact fin _ (by rw [hadd]; exact u1 (u3.mp (Or.inr ⟨c2, c3⟩)))
          · rw [if_neg (fun q => c3 (hodd.mp q))]
            refine fin _ (u2 (fun q => ?_))
            rcases u3.mpr q with q | q
            · exact c1 q
            · exact c3 q.2
        · rw [if_neg (fun q => c2 ((cv_l0 _ _).mp q))]
          refine fin _ (u2 (fun q => ?_))
          rcases u3.mpr q with q | q
          · exact c1 q
          · exact c2 q.1
    cases neg
    · have el : s0.toInt = (a : Int) := hs0
      have hD := hexact r o1 (by
        show (r : Int) = (m : Int) - (a : Int) * (FP.Core.one64 : Int)
        rw [hmul, hcast]
        omega)
      refine pick (r ≠ 0 ∧ (FP.Core.one64 < 2 * r ∨ (FP.Core.one64 = 2 * r ∧ a % 2 = 1))) (fun u => ?_) (fun u => ?_) ?_
      · rw [hA', if_pos u, el]; rfl
      · rw [hA', if_neg u, el]; rfl
      · rw [el]
        constructor
        · rintro (q | ⟨q, q'⟩)
          · exact ⟨by omega, Or.inl (by omega)⟩
          · exact ⟨by omega, Or.inr ⟨by omega, by omega⟩⟩
        · rintro ⟨-, q | ⟨q, q'⟩⟩
          · exact Or.inl (by omega)
          · exact Or.inr ⟨by omega, by omega⟩
    · by_cases cr : r = 0
      · have el : s0.toInt = -(a : Int) := by rw [hs0]; unfold loI; rw [if_pos rfl, if_pos cr]
        have hD := hexact 0 ⟨0, 0, Nat.two_pow_pos _, by omega, by rw [Nat.zero_mul]⟩ (by
          have e9 : loI true a r = -(a : Int) := by unfold loI; rw [if_pos rfl, if_pos cr]
          rw [e9]
          show (0 : Int) = -(m : Int) - -(a : Int) * (FP.Core.one64 : Int)
          rw [Int.neg_mul, hmul, hcast]
          omega)
        refine pick False (fun u => u.elim) (fun _ => ?_) ?_
        · rw [hA', if_neg (fun q => q.1 cr), el]; rfl
        · constructor
          · rintro (q | ⟨q, q'⟩)
            · omega
            · omega
          · intro q; exact q.elim
      · have el : s0.toInt = -((a : Int) + 1) := by rw [hs0]; unfold loI; rw [if_pos rfl, if_neg cr]
        have e9 : loI true a r = -((a : Int) + 1) := by unfold loI; rw [if_pos rfl, if_neg cr]
        have eD : FP.Core.signed true m - loI true a r * (FP.Core.one64 : Int) = (FP.Core.one64 : Int) - (r : Int) := by
          rw [e9]
          show -(m : Int) - -((a : Int) + 1) * (FP.Core.one64 : Int) = _
          rw [Int.neg_mul, Int.add_mul, Int.one_mul, hmul, hcast]
          omega
        have hOcase : (O = ((FP.Core.one64 - r : Nat) : Int)) ∨ (2 * m < FP.Core.one64 ∧ a = 0 ∧ H ≤ O) := by
          by_cases c2 : FP.Core.one64 ≤ 2 * m
          · left
            refine hexact (FP.Core.one64 - r) ?_ (by rw [eD]; omega)
            rw [hU2]
            exact o2 cr (by rw [← hmf, ← hU2]; exact c2)
          · right
            have ha0 : a = 0 := by
              apply Classical.byContradiction
              intro q
              have : FP.Core.one64 * 1 ≤ FP.Core.one64 * a := Nat.mul_le_mul_left _ (by omega)
              omega
            refine ⟨by omega, ha0, hge ?_⟩
            rw [eD]
            have : r ≤ m := by omega
            omega
        refine pick (¬ (FP.Core.one64 < 2 * r ∨ (FP.Core.one64 = 2 * r ∧ a % 2 = 1))) (fun u => ?_) (fun u => ?_) ?_
        · rw [hA', if_neg (fun q => u q.2), el]
          show -((a : Int) + 1) + 1 = -((a + 0 : Nat) : Int)
          omega
        · have u' : FP.Core.one64 < 2 * r ∨ (FP.Core.one64 = 2 * r ∧ a % 2 = 1) := Classical.byContradiction u
          rw [hA', if_pos ⟨cr, u'⟩, el]
          show -((a : Int) + 1) = -((a + 1 : Nat) : Int)
          omega
        · rw [el]
          rcases hOcase with hD | ⟨h2m, ha0, hHO⟩
          · constructor
            · rintro (q | ⟨q, q'⟩)
              · omega
              · omega
            · intro u
              by_cases c3 : FP.Core.one64 = 2 * r
              · exact Or.inr ⟨by omega, by omega⟩
              · exact Or.inl (by omega)
          · have hrm2 : r = m := by
              rw [hm, ha0, Nat.mul_zero, Nat.zero_add]
            constructor
            · intro _
              omega
            · intro _
              by_cases c3 : O = H
              · exact Or.inr ⟨c3, by rw [ha0]; decide⟩
              · exact Or.inl (by omega)
