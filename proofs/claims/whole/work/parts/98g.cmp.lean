/-! ===== compare ===== -/
theorem jcmp_eq (a b : Int64) (σ : rS) : fJ_cmp a b σ = some (if a.toInt < b.toInt then -1 else if a.toInt = b.toInt then 0 else 1, σ) := by
  unfold fJ_cmp
  simp only [Int64.le_iff_toInt_le, ← Int64.toInt_inj]
  by_cases c1 : a.toInt < b.toInt
  · rw [if_neg (by omega), if_pos c1]
  · rw [if_pos (by omega), if_neg c1]
    by_cases c2 : a.toInt = b.toInt
    · rw [if_pos c2, if_pos c2]
    · rw [if_neg c2, if_neg c2]
noncomputable def cmpw (k : Int32) (a b : Int64) : Int32 := if isg k a = true then 32 else if isg k b = true then 32 else if (rkC k (uzw k a)).toInt < (rkC k (uzw k b)).toInt then 35 else if (rkC k (uzw k a)).toInt = (rkC k (uzw k b)).toInt then 26 else 44
theorem compared_eq (k : Int32) (a b : Int64) (σ : rS) : f4_compared k a b σ = some (cmpw k a b, σ) := by
  unfold f4_compared cmpw
  rw [gap4_eq, obind_some]
  by_cases g1 : isg k a = true
  · rw [if_pos g1, if_pos g1]
  rw [if_neg g1, if_neg g1, gap4_eq, obind_some]
  by_cases g2 : isg k b = true
  · rw [if_pos g2, if_pos g2]
  rw [if_neg g2, if_neg g2, uz_eq, obind_some, rank4_eq, obind_some, uz_eq, obind_some, rank4_eq, obind_some, jcmp_eq, obind_some]
  by_cases c1 : (rkC k (uzw k a)).toInt < (rkC k (uzw k b)).toInt
  · rw [if_pos c1, if_pos c1, if_neg (by decide), if_neg (by decide)]
  · rw [if_neg c1, if_neg c1]
    by_cases c2 : (rkC k (uzw k a)).toInt = (rkC k (uzw k b)).toInt
    · rw [if_pos c2, if_pos c2, if_pos (by decide)]
    · rw [if_neg c2, if_neg c2, if_neg (by decide), if_pos (by decide)]
theorem kd_cases {k : Int32} {kd : Nat} (hk : k = nI kd) (hkd : kd < 8) : (k = 6 ∨ k = 7) ∨ (¬ 6 ≤ k ∧ ¬ k = 6 ∧ ¬ k = 7 ∧ kd < 6) := by
  have hc : kd = 6 ∨ kd = 7 ∨ kd < 6 := by omega
  rcases hc with h | h | h
  · left; left; rw [hk, h]; rfl
  · left; right; rw [hk, h]; rfl
  · right
    rw [hk]
    refine ⟨nI_ge (b := 6) h (by omega), fun q => ?_, fun q => ?_, h⟩
    · have := (nI_eq (b := 6) (by omega) (by omega)).mp q; omega
    · have := (nI_eq (b := 7) (by omega) (by omega)).mp q; omega
theorem isg_no {k : Int32} (h6 : ¬ k = 6) (h7 : ¬ k = 7) (w : Int64) : isg k w = false := by
  unfold isg
  rw [decide_eq_false]
  rintro (⟨q, -⟩ | ⟨q, -⟩)
  · exact h6 q
  · exact h7 q
theorem cmp11_eq {k : Int32} {kd : Nat} (hk : k = nI kd) (hkd : kd < 8) {a b : Int64} (ca : cutw k a = a) (cb : cutw k b = b) (τ : rS) : (obind (f11_isGap k a τ) fun r12 σ13 => if r12 = true then (some (32, σ13)) else obind (f11_isGap k b σ13) fun r14 σ15 => if r14 = true then (some (32, σ15)) else obind (f11_isLike k a b σ15) fun r16 σ17 => if r16 = true then (some (26, σ17)) else obind (f11_isBelow k a b σ17) fun r18 σ19 => if r18 = true then (some (35, σ19)) else some (44, σ19)) = some (cmpw k a b, τ) := by
  unfold cmpw
  rw [gap11_eq, obind_some]
  by_cases g1 : isg k a = true
  · rw [if_pos g1, if_pos g1]
  rw [if_neg g1, if_neg g1, gap11_eq, obind_some]
  by_cases g2 : isg k b = true
  · rw [if_pos g2, if_pos g2]
  rw [if_neg g2, if_neg g2]
  have g1' : isg k a = false := by simpa using g1
  have g2' : isg k b = false := by simpa using g2
  unfold f11_isLike f11_isBelow
  rcases kd_cases hk hkd with h67 | ⟨h6, h6', h7', -⟩
  · have h6 : 6 ≤ k := by
      rcases h67 with rfl | rfl
      · decide
      · decide
    have hc := cmp_real h67 ca cb g1' g2'
    simp only [if_pos h6, real_eq h67 g1', real_eq h67 g2', obind_some, hc, cv_l0, cv_g0]
    by_cases c1 : (rkC k (uzw k a)).toInt < (rkC k (uzw k b)).toInt
    · rw [if_neg (show ¬ (rkC k (uzw k a)).toInt = (rkC k (uzw k b)).toInt by omega), if_pos c1, obind_some, if_neg (by decide), if_neg (fun q => q c1), obind_some, if_pos rfl]
    · by_cases c2 : (rkC k (uzw k a)).toInt = (rkC k (uzw k b)).toInt
      · rw [if_pos c2, obind_some, if_pos rfl, if_neg c1, if_pos c2]
      · rw [if_neg c2, obind_some, if_neg (by decide), if_pos c1, obind_some, if_neg (by decide), if_neg c1, if_neg c2]
  · have e : ∀ w, rkC k (uzw k w) = w := by
      intro w
      unfold rkC uzw
      rw [if_neg (by rintro (q | q); exact h6' q; exact h7' q), if_neg h6', if_neg h7']
    rw [e, e]
    simp only [if_neg h6, Int64.le_iff_toInt_le, ← Int64.toInt_inj]
    by_cases c1 : a.toInt < b.toInt
    · rw [if_neg (show ¬ a.toInt = b.toInt by omega), obind_some, if_neg (by decide), if_neg (show ¬ b.toInt ≤ a.toInt by omega), obind_some, if_pos rfl, if_pos c1]
    · by_cases c2 : a.toInt = b.toInt
      · rw [if_pos c2, obind_some, if_pos rfl, if_neg c1, if_pos c2]
      · rw [if_neg c2, obind_some, if_neg (by decide), if_pos (show b.toInt ≤ a.toInt by omega), obind_some, if_neg (by decide), if_neg c1, if_neg c2]
theorem eq_compare (N : Nat) : EQ_compare N Inv := by
  intro v w x t σ τ ht h
  show Bth t _ _
  unfold f10_compare f11_compare
  rcases againstCase h v w with ⟨e1, e2⟩ | ⟨j, hj, rfl, e1, ⟨hl, e2⟩ | ⟨hl, e3, e2⟩ | ⟨hl, e3, e2, i, hi, rfl⟩⟩
  · rw [e1, e2]; exact bth_ret h _
  · rw [e1, e2]
    simp only [obind_some, onul_some, if_neg hl, found_eq (v := 1) h.1 1 rfl (by omega)]
    exact bth_ret (fnd_Inv (f := 1) h (by omega)) _
  · rw [e1, e2]
    simp only [obind_some, onul_some, if_pos hl, e3, found_eq (v := 2) h.1 2 rfl (by omega)]
    exact bth_ret (fnd_Inv (f := 2) h (by omega)) _
  · obtain ⟨q1, ⟨kd, hkd, q2⟩, q3, q4, q5, q6, q7, q8⟩ := h.2.2.1.2.2.2.2 j hj
    have hz := h.2.2.1.1
    rw [e1, e2, obind_some, obind_some, onul_some, if_pos hl, e3, obind_some, if_pos rfl, if_pos rfl, h.1.2.1.2.2.1, idx_nI _ (by omega) (by omega), q5, in_ix (by omega), obind_some, has_eq (by omega), obind_some]
    by_cases hx : 0 ≤ x.toInt ∧ x.toInt < gN σ 14 j
    · obtain ⟨y, hy, rfl⟩ := of_in (v := x) (n := gN σ 14 j) (by omega) hx
      rw [decide_eq_true hx, if_pos rfl, if_pos rfl, idx_nI _ hi (by omega), idx_nI _ hy (by omega), compared_eq, obind_some, h.1.2.1.2.1, idx_nI _ (by omega) (by omega), olet_eq, ix24, ix24, h.1.2.1.2.2.2.2.1, idx_nI _ (by omega) (by omega), olet_eq, idx_nI _ (by omega) (by omega), olet_eq, q3, (q8 i hi).1, (q8 y hy).1, cmp11_eq q2 hkd (q8 i hi).2 (q8 y hy).2]
      exact bth_ret h _
    · rw [decide_eq_false hx, if_neg (by decide), if_neg (by decide)]
      exact bth_fnd h 2 rfl (by omega)
