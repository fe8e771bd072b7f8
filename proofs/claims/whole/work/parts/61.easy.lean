/-! ===== both sides end alike ===== -/
def Bth {α : Type} (t : Nat) (A B : Option (α × rS)) : Prop := ∃ (r : α) (σ1 τ1 : rS), A = some (r, σ1) ∧ B = some (r, τ1) ∧ Inv (t + 1) σ1 τ1
theorem bth_ret {α : Type} {t : Nat} {σ τ : rS} (h : Inv t σ τ) (r : α) : Bth t (some (r, σ)) (some (r, τ)) := ⟨r, σ, τ, rfl, rfl, Inv_mono _ _ _ h⟩
theorem bth_ret2 {α : Type} {t : Nat} {σ τ : rS} {r r' : α} (h : Inv t σ τ) (e : r = r') : Bth t (some (r, σ)) (some (r', τ)) := by subst e; exact bth_ret h r
theorem bth_fnd {t : Nat} {σ τ : rS} (h : Inv t σ τ) {v : Int32} (f : Nat) (hv : v = nI f) (hf : f < 10) : Bth t (obind (f10_found 0 v σ) fun r s => some (r, s)) (obind (f11_meets 0 v τ) fun r s => some (r, s)) := by
  rw [found_eq h.1 f hv hf, meets_eq h.1 f hv hf]
  exact bth_ret (fnd_Inv h hf) _
theorem in_eq (a lo hi : Int64) (τ : rS) : f11_in a lo hi τ = some (decide (lo ≤ a ∧ a ≤ hi), τ) := by
  unfold f11_in
  by_cases h1 : a < lo
  · rw [if_pos h1]
    have : ¬ (lo ≤ a ∧ a ≤ hi) := by
      simp only [Int64.lt_iff_toInt_lt, Int64.le_iff_toInt_le] at *
      omega
    rw [decide_eq_false this]
  · rw [if_neg h1]
    by_cases h2 : hi < a
    · rw [if_pos h2]
      have : ¬ (lo ≤ a ∧ a ≤ hi) := by
        simp only [Int64.lt_iff_toInt_lt, Int64.le_iff_toInt_le] at *
        omega
      rw [decide_eq_false this]
    · rw [if_neg h2]
      have : lo ≤ a ∧ a ≤ hi := by
        simp only [Int64.lt_iff_toInt_lt, Int64.le_iff_toInt_le] at *
        omega
      rw [decide_eq_true this]
theorem w_le (a b : Int32) : a.toInt64 ≤ b.toInt64 ↔ a.toInt ≤ b.toInt := by
  rw [Int64.le_iff_toInt_le, Int32.toInt_toInt64, Int32.toInt_toInt64]
theorem nI_m1 {n : Nat} (h : n < 2 ^ 30) : (nI n - 1).toInt = (n : Int) - 1 := by
  have := pk_sub_toInt (a := n) (b := 1) h (by omega)
  exact this
theorem in_ix {n : Nat} (hn : n < 2 ^ 30) (v : Int32) (τ : rS) : f11_in (Int32.toInt64 v) 0 (Int32.toInt64 (nI n - 1)) τ = some (decide (0 ≤ v.toInt ∧ v.toInt < n), τ) := by
  rw [in_eq]
  have e : ((0 : Int64) ≤ Int32.toInt64 v ∧ Int32.toInt64 v ≤ Int32.toInt64 (nI n - 1)) ↔ (0 ≤ v.toInt ∧ v.toInt < n) := by
    rw [w_le, nI_m1 hn]
    have e0 : (0 : Int64) = (0 : Int32).toInt64 := rfl
    rw [e0, w_le]
    have e1 : (0 : Int32).toInt = 0 := rfl
    rw [e1]
    omega
  rw [decide_eq_decide.mpr e]
theorem in_lit (lo hi v : Int32) (τ : rS) : f11_in (Int32.toInt64 v) lo.toInt64 hi.toInt64 τ = some (decide (lo.toInt ≤ v.toInt ∧ v.toInt ≤ hi.toInt), τ) := by
  rw [in_eq]
  have e : (lo.toInt64 ≤ Int32.toInt64 v ∧ Int32.toInt64 v ≤ hi.toInt64) ↔ (lo.toInt ≤ v.toInt ∧ v.toInt ≤ hi.toInt) := by rw [w_le, w_le]
  rw [decide_eq_decide.mpr e]
theorem of_in {v : Int32} {n : Nat} (hn : n < 2 ^ 31) (h : 0 ≤ v.toInt ∧ v.toInt < n) : ∃ j : Nat, j < n ∧ v = nI j := by
  rcases pk_ix v (n := n) hn with hv | hv | hj
  · rw [Int32.lt_iff_toInt_lt] at hv
    have e1 : (0 : Int32).toInt = 0 := rfl
    omega
  · rw [Int32.le_iff_toInt_le, nI_toInt hn] at hv
    omega
  · exact hj
theorem in_nI {j n : Nat} (hn : n < 2 ^ 31) (hj : j < n) : 0 ≤ (nI j).toInt ∧ (nI j).toInt < n := by
  rw [nI_toInt (by omega)]
  omega
theorem numCase {n M : Nat} (hn : n ≤ M) (hM : M < 2 ^ 30) (v : Int32) {o : Nat → Option Nat} (ho : ∀ j, j < n → o j = some j) (σ τ : rS) : ((if v < 0 then some (none, σ) else if nI n ≤ v then some (none, σ) else idx v M fun j1 => olet (o j1) fun o2 => some (o2, σ)) = some (none, σ) ∧ obind (f11_in (Int32.toInt64 v) 0 (Int32.toInt64 (nI n - 1)) τ) (fun r s => some (r, s)) = some (false, τ)) ∨ ∃ j, j < n ∧ v = nI j ∧ (if v < 0 then some (none, σ) else if nI n ≤ v then some (none, σ) else idx v M fun j1 => olet (o j1) fun o2 => some (o2, σ)) = some (some j, σ) ∧ obind (f11_in (Int32.toInt64 v) 0 (Int32.toInt64 (nI n - 1)) τ) (fun r s => some (r, s)) = some (true, τ) := by
  rw [in_ix (by omega)]
  have e1 : (0 : Int32).toInt = 0 := rfl
  rcases pk_ix v (n := n) (by omega) with hv | hv | ⟨j, hj, hv⟩
  · left
    rw [if_pos hv]
    rw [Int32.lt_iff_toInt_lt, e1] at hv
    rw [decide_eq_false (by omega)]
    exact ⟨rfl, rfl⟩
  · left
    have hv2 := hv
    rw [Int32.le_iff_toInt_le, nI_toInt (by omega)] at hv2
    have h3 : ¬ v < 0 := by rw [Int32.lt_iff_toInt_lt, e1]; omega
    rw [if_neg h3, if_pos hv, decide_eq_false (by omega)]
    exact ⟨rfl, rfl⟩
  · right
    refine ⟨j, hj, hv, ?_⟩
    subst hv
    have h4 := in_nI (n := n) (by omega) hj
    rw [if_neg (nI_pos (by omega)), if_neg (nI_ge hj (by omega)), idx_nI _ (by omega) (by omega), decide_eq_true h4]
    refine ⟨?_, rfl⟩
    show some (o j, σ) = _
    rw [ho j hj]
theorem rowCase {t : Nat} {σ τ : rS} (h : Inv t σ τ) (v : Int32) : (f10_rowNumbered 0 v σ = some (none, σ) ∧ f11_isRow 0 v τ = some (false, τ)) ∨ ∃ j, j < gC σ 13 ∧ v = nI j ∧ f10_rowNumbered 0 v σ = some (some j, σ) ∧ f11_isRow 0 v τ = some (true, τ) := by
  have h3 := h.2.2.1
  unfold f10_rowNumbered f11_isRow
  rw [h3.2.2.1, h3.2.2.2.1, h.1.1.1]
  exact numCase h3.1 (by omega) v (fun j hj => (h3.2.2.2.2 j hj).1) σ τ
theorem strCase {t : Nat} {σ τ : rS} (h : Inv t σ τ) (v : Int32) : (f10_streamNumbered 0 v σ = some (none, σ) ∧ f11_isStream 0 v τ = some (false, τ)) ∨ ∃ j, j < gC σ 15 ∧ v = nI j ∧ f10_streamNumbered 0 v σ = some (some j, σ) ∧ f11_isStream 0 v τ = some (true, τ) := by
  have h3 := h.2.2.2.1
  unfold f10_streamNumbered f11_isStream
  rw [h3.2.2.1, h3.2.2.2.1, h.1.1.2.1]
  exact numCase h3.1 (by omega) v (fun j hj => (h3.2.2.2.2 j hj).1) σ τ
theorem houCase {t : Nat} {σ τ : rS} (h : Inv t σ τ) (v : Int32) : (f10_houseNumbered 0 v σ = some (none, σ) ∧ f11_isHouse 0 v τ = some (false, τ)) ∨ ∃ j, j < gC σ 17 ∧ v = nI j ∧ f10_houseNumbered 0 v σ = some (some j, σ) ∧ f11_isHouse 0 v τ = some (true, τ) := by
  have h3 := h.2.2.2.2.2.1
  unfold f10_houseNumbered f11_isHouse
  rw [h3.2.2.2.1, h3.2.2.2.2.1, h.1.1.2.2.1]
  exact numCase h3.1 (by omega) v (fun j hj => (h3.2.2.2.2.2 j hj).1) σ τ
theorem delCase {t : Nat} {σ τ : rS} (h : Inv t σ τ) (v : Int32) : (f10_deltaNumbered 0 v σ = some (none, σ) ∧ f11_isDelta 0 v τ = some (false, τ)) ∨ ∃ j, j < gC σ 22 ∧ v = nI j ∧ f10_deltaNumbered 0 v σ = some (some j, σ) ∧ f11_isDelta 0 v τ = some (true, τ) := by
  have h3 := h.2.2.2.2.2.2
  unfold f10_deltaNumbered f11_isDelta
  rw [h3.2.2.2.2.1, h3.2.2.2.2.2.1, h.1.1.2.2.2.1]
  exact numCase h3.1 (by omega) v (fun j hj => (h3.2.2.2.2.2.2 j hj).1) σ τ
theorem seen_Inv {t : Nat} {σ τ : rS} (h : Inv t σ τ) (x : Int64) : Inv t (sL σ 0 0 13 x) (sL τ 29 0 2 x) := by
  obtain ⟨h1, ⟨f1, f2, f3⟩, h3, h4, h5, h6, h7⟩ := h
  exact ⟨h1, ⟨f1, f2, rfl⟩, h3, h4, h5, h6, h7⟩
theorem has_eq {σ : rS} {j : Nat} (hn : gN σ 14 j < 2 ^ 30) (v : Int32) : f7_has j v σ = some (decide (0 ≤ v.toInt ∧ v.toInt < gN σ 14 j), σ) := by
  unfold f7_has
  have e1 : (0 : Int32).toInt = 0 := rfl
  simp only [Int32.lt_iff_toInt_lt, Int32.le_iff_toInt_le, nI_toInt (show gN σ 14 j < 2 ^ 31 by omega), e1]
  by_cases h1 : v.toInt < 0
  · rw [if_pos h1, decide_eq_false (by omega)]
  · rw [if_neg h1]
    by_cases h2 : (gN σ 14 j : Int) ≤ v.toInt
    · rw [if_pos h2, decide_eq_false (by omega)]
    · rw [if_neg h2, decide_eq_true (by omega)]
theorem eq_seen (N : Nat) : EQ_seen N Inv := by
  intro t σ τ _ h
  exact bth_ret2 h h.2.1.2.2.symm
theorem eq_finding (N : Nat) : EQ_finding N Inv := by
  intro t σ τ _ h
  exact bth_ret2 h h.2.1.1.symm
theorem eq_findings (N : Nat) : EQ_findings N Inv := by
  intro v t σ τ _ h
  show Bth t _ _
  unfold f10_findings f11_findings
  have e := in_lit 1 9 v τ
  have e1 : (1 : Int32).toInt = 1 := rfl
  have e9 : (9 : Int32).toInt = 9 := rfl
  rw [e1, e9] at e
  have e' : f11_in (Int32.toInt64 v) 1 9 τ = _ := e
  simp only [e', Int32.lt_iff_toInt_lt, Int32.le_iff_toInt_le, e1, e9]
  by_cases h1 : v.toInt < 1
  · rw [if_pos h1, decide_eq_false (by omega)]
    exact bth_ret h _
  · rw [if_neg h1]
    by_cases h2 : v.toInt ≤ 9
    · rw [if_pos h2, decide_eq_true (by omega)]
      obtain ⟨j, hj, rfl⟩ := of_in (v := v) (n := 10) (by omega) (by omega)
      rw [h.1.1.2.2.2.2.1, idx_nI _ hj (by omega)]
      simp only [obind_some, if_pos, h.1.2.1.1]
      rw [idx_nI _ hj (by omega)]
      exact bth_ret2 h (h.2.1.2.1 j hj).symm
    · rw [if_neg h2, decide_eq_false (by omega)]
      exact bth_ret h _
theorem eq_kind (N : Nat) : EQ_kind N Inv := by
  intro v t σ τ _ h
  show Bth t _ _
  unfold f10_kind f11_kind
  rcases rowCase h v with ⟨e1, e2⟩ | ⟨j, hj, rfl, e1, e2⟩
  · rw [e1, e2]; exact bth_ret h _
  · have hr := h.2.2.1.2.2.2.2 j hj
    have hz := h.2.2.1.1
    rw [e1, e2]
    simp (disch := omega) only [obind_some, onul_some, if_true, h.1.2.1.2.1, idx_nI]
    exact bth_ret2 h hr.2.2.1.symm
theorem eq_length (N : Nat) : EQ_length N Inv := by
  intro v t σ τ _ h
  show Bth t _ _
  unfold f10_length f11_length
  rcases rowCase h v with ⟨e1, e2⟩ | ⟨j, hj, rfl, e1, e2⟩
  · rw [e1, e2]; exact bth_ret h _
  · have hr := h.2.2.1.2.2.2.2 j hj
    have hz := h.2.2.1.1
    rw [e1, e2]
    simp (disch := omega) only [obind_some, onul_some, if_true, h.1.2.1.2.2.1, h.1.2.1.2.2.2.1, idx_nI, hr.2.2.2.2.2.2.1]
    by_cases hl : gI σ 13 j 2 = 0
    · rw [if_pos hl, if_pos hl]
      exact bth_ret2 h hr.2.2.2.2.1.symm
    · rw [if_neg hl, if_neg hl]
      exact bth_fnd h 1 rfl (by omega)
theorem againstCase {t : Nat} {σ τ : rS} (h : Inv t σ τ) (v w : Int32) : (f10_rowNumbered 0 v σ = some (none, σ) ∧ f11_against 0 v w τ = some (-101, τ)) ∨ (∃ j, j < gC σ 13 ∧ v = nI j ∧ f10_rowNumbered 0 v σ = some (some j, σ) ∧ ((gI σ 13 j 2 ≠ 0 ∧ f11_against 0 v w τ = some (-11, mts τ 1)) ∨ (gI σ 13 j 2 = 0 ∧ f7_has j w σ = some (false, σ) ∧ f11_against 0 v w τ = some (-12, mts τ 2)) ∨ (gI σ 13 j 2 = 0 ∧ f7_has j w σ = some (true, σ) ∧ f11_against 0 v w τ = some (0, τ) ∧ ∃ i, i < gN σ 14 j ∧ w = nI i))) := by
  unfold f11_against
  rcases rowCase h v with ⟨e1, e2⟩ | ⟨j, hj, rfl, e1, e2⟩
  · left; rw [e2]; exact ⟨e1, rfl⟩
  · right
    refine ⟨j, hj, rfl, e1, ?_⟩
    have hr := h.2.2.1.2.2.2.2 j hj
    have hz := h.2.2.1.1
    have hn := hr.2.2.2.1
    rw [e2]
    simp (disch := omega) only [obind_some, onul_some, if_true, h.1.2.1.2.2.1, h.1.2.1.2.2.2.1, idx_nI, hr.2.2.2.2.2.2.1, hr.2.2.2.2.1, in_ix]
    by_cases hl : gI σ 13 j 2 = 0
    · right
      rw [if_pos hl, has_eq (by omega)]
      by_cases hc : 0 ≤ w.toInt ∧ w.toInt < gN σ 14 j
      · right
        rw [decide_eq_true hc]
        exact ⟨hl, rfl, rfl, of_in (by omega) hc⟩
      · left
        rw [decide_eq_false hc, meets_eq (v := 2) h.1 2 rfl (by omega)]
        exact ⟨hl, rfl, rfl⟩
    · left
      rw [if_neg hl, meets_eq (v := 1) h.1 1 rfl (by omega)]
      exact ⟨hl, rfl⟩
theorem eq_lose (N : Nat) : EQ_lose N Inv := by
  intro v t σ τ _ h
  show Bth t _ _
  unfold f10_lose f11_lose
  rcases rowCase h v with ⟨e1, e2⟩ | ⟨j, hj, rfl, e1, e2⟩
  · rw [e1, e2]; exact bth_ret h _
  · have hr := h.2.2.1.2.2.2.2 j hj
    have hz := h.2.2.1.1
    rw [e1, e2]
    simp (disch := omega) only [obind_some, onul_some, olet_eq, if_true, h.1.2.1.2.2.1, h.1.2.1.2.2.2.1, gN_sI, idx_nI, hr.2.2.2.2.2.2.1]
    by_cases hl : gI σ 13 j 2 = 0
    · rw [if_pos hl, if_pos hl]
      refine bth_ret2 ?_ ?_
      · obtain ⟨h1, h2, ⟨r1, r2, r3, r4, r5⟩, h4, h5, h6, h7⟩ := h
        refine ⟨h1, h2, ⟨r1, r2, r3, r4, fun r hr => ?_⟩, h4, h5, h6, h7⟩
        obtain ⟨q1, q2, q3, q4, q5, q6, q7, q8⟩ := r5 r hr
        refine ⟨q1, by simpa [gI_sI] using q2, by simpa [gI_sI] using q3, q4, q5, ?_, ?_, by simpa [gI_sI, gL_sI, gN_sI] using q8⟩
        · simp only [gI_sI]
          by_cases e : r = j
          · right; simp [e]
          · simp [e, q6]
        · simp only [gI_sI]
          by_cases e : r = j
          · simp [e]; decide
          · simp [e, q7]
      · exact hr.2.2.2.2.1.symm
    · rw [if_neg hl, if_neg hl]
      exact bth_fnd h 1 rfl (by omega)
theorem eq_get (N : Nat) : EQ_get N Inv := by
  intro v w t σ τ _ h
  show Bth t _ _
  unfold f10_get f11_get
  rcases againstCase h v w with ⟨e1, e2⟩ | ⟨j, hj, rfl, e1, ⟨hl, e2⟩ | ⟨hl, e3, e2⟩ | ⟨hl, e3, e2, i, hi, rfl⟩⟩
  · rw [e1, e2]; exact bth_ret h _
  · rw [e1, e2]
    simp only [obind_some, onul_some, if_neg hl, found_eq (v := 1) h.1 1 rfl (by omega)]
    exact bth_ret (fnd_Inv (f := 1) h (by omega)) _
  · rw [e1, e2]
    simp only [obind_some, onul_some, if_pos hl, e3, found_eq (v := 2) h.1 2 rfl (by omega)]
    exact bth_ret (fnd_Inv (f := 2) h (by omega)) _
  · have hr := h.2.2.1.2.2.2.2 j hj
    have hz := h.2.2.1.1
    have hn := hr.2.2.2.1
    rw [e1, e2]
    have ei : (24 : Int32) * nI j + nI i = nI (24 * j + i) := by
      rw [← nI_add, ← pk_mul]; rfl
    simp (disch := omega) only [obind_some, onul_some, olet_eq, if_true, hl, e3, idx_nI, ei, h.1.2.1.2.2.2.2.1]
    rw [(hr.2.2.2.2.2.2.2 i hi).1]
    exact bth_ret (seen_Inv h _) _
