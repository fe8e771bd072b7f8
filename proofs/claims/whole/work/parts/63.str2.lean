/-! ===== a stream's changes ===== -/
noncomputable def app (σ : rS) (s : Nat) (b : Int32) : rS := sI (sI σ 16 s (zS σ s) b) 15 s 1 (gI σ 15 s 1 + 1)
noncomputable def lay (τ : rS) (s z : Nat) (b : Int32) : rS := sI (sI τ 44 0 (400 * s + z) b) 45 0 s (gI τ 45 0 s + 1)
theorem zS_app {σ : rS} {s : Nat} {b : Int32} (h : gI σ 15 s 1 = nI (zS σ s)) (h4 : zS σ s ≤ 400) (r : Nat) : zS (app σ s b) r = if r = s then zS σ s + 1 else zS σ r := by
  unfold zS app
  rw [gI_sI]
  by_cases e : r = s
  · subst e
    rw [if_pos ⟨rfl, rfl, rfl⟩, if_pos rfl, h, nI_1, nI_clamp (by omega), nI_clamp (by omega)]
  · rw [if_neg (fun h => e h.2.1), if_neg e]
    rfl
theorem app_Inv {t s : Nat} {σ τ : rS} {b b' : Int32} (h : Inv t σ τ) (hs1 : s < gC σ 15) (hz : zS σ s < 400) (hb : bt b b') : Inv t (app σ s b) (lay τ s (zS σ s) b') := by
  obtain ⟨h1, h2, h3, ⟨r1, r2, r3, r4, r5⟩, h5, h6, h7⟩ := h
  refine ⟨h1, h2, h3, ⟨r1, r2, r3, r4, fun r hr => ?_⟩, h5, h6, h7⟩
  obtain ⟨-, p1, p2, p3, p4, p5, p6, p7, p8, p9, p10⟩ := r5 s hs1
  obtain ⟨q0, q1, q2, q3, q4, q5, q6, q7, q8, q9, q10⟩ := r5 r hr
  have ez := zS_app (b := b) p2 (by omega) r
  have ep : pS (app σ s b) r = pS σ r := by
    unfold pS app
    rw [gI_sI, if_neg (by omega)]
    rfl
  refine ⟨q0, ?_, ?_, ?_, ?_, ?_, ?_, ?_, ?_, q9, ?_⟩
  · rw [ez]; split <;> omega
  · rw [ez]
    unfold app
    simp only [gI_sI]
    by_cases e : r = s
    · subst e; simp [p2, nI_1]
    · simp [e, q2]
  · rw [ez]
    unfold lay
    simp only [gI_sI]
    by_cases e : r = s
    · subst e; simp [p3, nI_1]
    · simp [e, q3]
  · rw [ez, ep]
    by_cases e : r = s
    · subst e; rw [if_pos rfl]; omega
    · rw [if_neg e]; exact q4
  · rw [ep, ← q5]; simp [app, gI_sI]
  · rw [ep, ← q6]; simp [lay, gI_sI]
  · have : gI (app σ s b) 15 r 3 = gI σ 15 r 3 := by simp [app, gI_sI]
    rw [this]; exact q7
  · have : gI (app σ s b) 15 r 3 = gI σ 15 r 3 := by simp [app, gI_sI]
    rw [this, ← q8]; simp [lay, gI_sI]
  · intro i hi
    rw [ez] at hi
    have e1 : gI (app σ s b) 16 r i = if r = s ∧ i = zS σ s then b else gI σ 16 r i := by simp [app, gI_sI]
    have e2 : gI (lay τ s (zS σ s) b') 44 0 (400 * r + i) = if 400 * r + i = 400 * s + zS σ s then b' else gI τ 44 0 (400 * r + i) := by simp [lay, gI_sI]
    rw [e1, e2]
    by_cases e : r = s
    · subst e
      by_cases e3 : i = zS σ r
      · rw [if_pos ⟨rfl, e3⟩, if_pos (by omega)]; exact hb
      · rw [if_neg (fun h => e3 h.2), if_neg (by omega)]
        rw [if_pos rfl] at hi
        exact q10 i (by omega)
    · rw [if_neg e] at hi
      rw [if_neg (fun h => e h.1), if_neg (by omega)]
      exact q10 i hi
theorem append_eq {σ : rS} {s : Nat} {v : Int32} (h2 : gI σ 15 s 1 = nI (zS σ s)) (h9 : gN σ 16 s = 400) (hz : zS σ s < 400) : f9_append s v σ = some ((), app σ s (Int8.toInt32 (Int32.toInt8 (Int8.toInt32 (Int32.toInt8 v))))) := by
  unfold f9_append
  rw [h9, h2, if_pos (nI_lt hz (by omega)), idx_nI _ hz (by omega)]
  simp [olet_eq, app, gI_sI, h2]
theorem lay_eq {τ : rS} {s z : Nat} {v : Int32} (h3 : gI τ 45 0 s = nI z) (hs : s < 24) (h44 : gN τ 44 0 = 9600) (h45 : gN τ 45 0 = 24) (hz : z < 400) : f11_lay 0 (nI s) v τ = some ((), lay τ s z v) := by
  unfold f11_lay
  simp (disch := omega) only [olet_eq, gN_sI, h44, h45, idx_nI, h3, ix44]
  simp [lay, gI_sI, h3]
theorem lay_both {t s : Nat} {σ τ : rS} (h : Inv t σ τ) (hs1 : s < gC σ 15) (hz : zS σ s < 400) {v w : Int32} (hw : bt (Int8.toInt32 (Int32.toInt8 (Int8.toInt32 (Int32.toInt8 v)))) w) : ∃ σ1 τ1 : rS, f9_append s v σ = some ((), σ1) ∧ f11_lay 0 (nI s) w τ = some ((), τ1) ∧ σ1 = app σ s (Int8.toInt32 (Int32.toInt8 (Int8.toInt32 (Int32.toInt8 v)))) ∧ τ1 = lay τ s (zS σ s) w ∧ Inv t σ1 τ1 := by
  have hc := h.2.2.2.1.1
  obtain ⟨q0, q1, q2, q3, q4, q5, q6, q7, q8, q9, q10⟩ := h.2.2.2.1.2.2.2.2 s hs1
  exact ⟨_, _, append_eq q2 q9 hz, lay_eq q3 (by omega) h.1.2.1.2.2.2.2.2.2.2.2.1 h.1.2.1.2.2.2.2.2.2.2.2.2.1 hz, rfl, rfl, app_Inv h hs1 hz hw⟩
theorem eq_add (N : Nat) : EQ_add N Inv := by
  intro v w t σ τ _ h
  show Bth t _ _
  unfold f10_add f11_add
  rcases strCase h v with ⟨e1, e2⟩ | ⟨j, hj, rfl, e1, e2⟩
  · rw [e1, e2]; exact bth_ret h _
  · have hz := h.2.2.2.1.1
    obtain ⟨-, q1, q2, q3, q4, q5, q6, q7, q8, q9, q10⟩ := h.2.2.2.1.2.2.2.2 j hj
    rw [e1, e2]
    simp (disch := omega) only [obind_some, onul_some, if_true, h.1.2.1.2.2.2.2.2.2.2.2.2.1, h.1.2.1.2.2.2.2.2.2.2.2.2.2.1, h.1.2.1.2.2.2.2.2.2.2.2.2.2.2, idx_nI, q3, q8, q2]
    by_cases hl : gI σ 15 j 3 = 0
    · rw [if_pos hl, if_pos hl]
      by_cases hz4 : zS σ j = 400
      · have c1 : ¬ nI (zS σ j) < 400 := nI_nlt (a := zS σ j) (b := 400) (by omega) (by omega)
        have c2 : nI (zS σ j) = 400 := by rw [hz4]; rfl
        rw [if_neg c1, if_pos c2]
        exact bth_ret h _
      · have c1 : nI (zS σ j) < 400 := nI_lt (a := zS σ j) (b := 400) (by omega) (by omega)
        have c2 : ¬ nI (zS σ j) = 400 := fun c => hz4 ((nI_eq (a := zS σ j) (b := 400) (by omega) (by omega)).mp c)
        rw [if_pos c1, if_neg c2]
        obtain ⟨σ1, τ1, a1, a2, -, -, hI⟩ := lay_both h hj (by omega) (bt_of w)
        rw [a1, a2]
        have hj2 : j < gC σ1 15 := by
          rw [append_eq q2 q9 (by omega)] at a1
          cases a1; exact hj
        obtain ⟨-, p1, p2, p3, -⟩ := hI.2.2.2.1.2.2.2.2 j hj2
        simp (disch := omega) only [obind_some, hI.1.2.1.2.2.2.2.2.2.2.2.2.1, idx_nI, p3, p2]
        exact bth_ret hI _
    · rw [if_neg hl, if_neg hl]
      exact bth_ret h _
theorem eq_end (N : Nat) : EQ_end N Inv := by
  intro v t σ τ _ h
  show Bth t _ _
  unfold f10_end f11_end
  rcases strCase h v with ⟨e1, e2⟩ | ⟨j, hj, rfl, e1, e2⟩
  · rw [e1, e2]; exact bth_ret h _
  · have hz := h.2.2.2.1.1
    obtain ⟨-, q1, q2, q3, q4, q5, q6, q7, q8, q9, q10⟩ := h.2.2.2.1.2.2.2.2 j hj
    rw [e1, e2]
    simp (disch := omega) only [obind_some, onul_some, olet_eq, gN_sI, if_true, h.1.2.1.2.2.2.2.2.2.2.2.2.1, h.1.2.1.2.2.2.2.2.2.2.2.2.2.1, h.1.2.1.2.2.2.2.2.2.2.2.2.2.2, idx_nI, q8]
    by_cases hl : gI σ 15 j 3 = 0
    · rw [if_pos hl, if_pos hl]
      refine bth_ret2 ?_ ?_
      · obtain ⟨h1, h2, h3, ⟨r1, r2, r3, r4, r5⟩, h5, h6, h7⟩ := h
        refine ⟨h1, h2, h3, ⟨r1, r2, r3, r4, fun r hr => ?_⟩, h5, h6, h7⟩
        obtain ⟨q0, q1, q2, q3, q4, q5, q6, q7, q8, q9, q10⟩ := r5 r hr
        have ez : zS (sI σ 15 j 3 1) r = zS σ r := by simp [zS, gI_sI]
        have ep : pS (sI σ 15 j 3 1) r = pS σ r := by simp [pS, gI_sI]
        refine ⟨q0, by rw [ez]; exact q1, by rw [ez, ← q2]; simp [gI_sI], by rw [ez, ← q3]; simp [gI_sI], by rw [ez, ep]; exact q4, by rw [ep, ← q5]; simp [gI_sI], by rw [ep, ← q6]; simp [gI_sI], ?_, ?_, q9, by rw [ez]; exact q10⟩
        · simp only [gI_sI]
          by_cases e : r = j
          · simp [e]
          · simp [e, q7]
        · simp only [gI_sI]
          by_cases e : r = j
          · simp [e]; decide
          · simp [e, q8]
      · simp [gI_sI, q2, q3]
    · rw [if_neg hl, if_neg hl]
      exact bth_ret h _
theorem sHas_eq {σ : rS} {j : Nat} (h2 : gI σ 15 j 1 = nI (zS σ j)) (hn : zS σ j < 2 ^ 30) (v : Int32) : f9_has j v σ = some (decide (0 ≤ v.toInt ∧ v.toInt < zS σ j), σ) := by
  unfold f9_has
  simp only [h2, Int32.lt_iff_toInt_lt, Int32.le_iff_toInt_le, nI_toInt (show zS σ j < 2 ^ 31 by omega), z0]
  by_cases h1 : v.toInt < 0
  · rw [if_pos h1, decide_eq_false (by omega)]
  · rw [if_neg h1]
    by_cases h2 : (zS σ j : Int) ≤ v.toInt
    · rw [if_pos h2, decide_eq_false (by omega)]
    · rw [if_neg h2, decide_eq_true (by omega)]
theorem byteAt_eq {σ : rS} {j i : Nat} (h2 : gI σ 15 j 1 = nI (zS σ j)) (h9 : gN σ 16 j = 400) (h4 : zS σ j ≤ 400) (hi : i < zS σ j) : f9_byteAt j (nI i) σ = some (gI σ 16 j i &&& 255, σ) := by
  unfold f9_byteAt
  rw [sHas_eq h2 (by omega), decide_eq_true (in_nI (by omega) hi)]
  simp (disch := omega) only [obind_some, if_true, h9, idx_nI]
theorem eq_at (N : Nat) : EQ_at N Inv := by
  intro v w t σ τ _ h
  show Bth t _ _
  unfold f10_at f11_at
  rcases strCase h v with ⟨e1, e2⟩ | ⟨j, hj, rfl, e1, e2⟩
  · rw [e1, e2]; exact bth_ret h _
  · have hz := h.2.2.2.1.1
    obtain ⟨-, q1, q2, q3, q4, q5, q6, q7, q8, q9, q10⟩ := h.2.2.2.1.2.2.2.2 j hj
    rw [e1, e2]
    simp (disch := omega) only [obind_some, onul_some, if_true, h.1.2.1.2.2.2.2.2.2.2.2.2.1, idx_nI, q3, in_ix, sHas_eq q2 (show zS σ j < 2 ^ 30 by omega)]
    by_cases hc : 0 ≤ w.toInt ∧ w.toInt < zS σ j
    · rw [decide_eq_true hc]
      obtain ⟨i, hi, rfl⟩ := of_in (by omega) hc
      simp (disch := omega) only [if_true, byteAt_eq q2 q9 q1 hi, obind_some, ix44, h.1.2.1.2.2.2.2.2.2.2.2.1, idx_nI]
      exact bth_ret2 h (bt_255 (q10 i hi))
    · rw [decide_eq_false hc]
      exact bth_fnd h 2 rfl (by omega)
theorem xor_and (a b c : Int32) : (a ^^^ b) &&& c = (a &&& c) ^^^ (b &&& c) := by
  apply Int32.toBitVec_inj.mp
  simp only [Int32.toBitVec_and, Int32.toBitVec_xor]
  apply BitVec.eq_of_getLsbD_eq
  intro k hk
  simp only [BitVec.getLsbD_and, BitVec.getLsbD_xor]
  cases a.toBitVec.getLsbD k <;> cases b.toBitVec.getLsbD k <;> cases c.toBitVec.getLsbD k <;> rfl
theorem eq_harm (N : Nat) : EQ_harm N Inv := by
  intro v w x t σ τ _ h
  show Bth t _ _
  unfold f10_harm f11_harm
  rcases strCase h v with ⟨e1, e2⟩ | ⟨j, hj, rfl, e1, e2⟩
  · rw [e1, e2]; exact bth_ret h _
  · have hz := h.2.2.2.1.1
    obtain ⟨-, q1, q2, q3, q4, q5, q6, q7, q8, q9, q10⟩ := h.2.2.2.1.2.2.2.2 j hj
    rw [e1, e2]
    simp (disch := omega) only [obind_some, onul_some, if_true, h.1.2.1.2.2.2.2.2.2.2.2.2.1, idx_nI, q3, in_ix, sHas_eq q2 (show zS σ j < 2 ^ 30 by omega)]
    by_cases hc : 0 ≤ w.toInt ∧ w.toInt < zS σ j
    · rw [decide_eq_true hc]
      obtain ⟨i, hi, rfl⟩ := of_in (by omega) hc
      simp (disch := omega) only [if_true, q9, obind_some, olet_eq, gN_sI, ix44, h.1.2.1.2.2.2.2.2.2.2.2.1, idx_nI]
      have hbt : bt (Int8.toInt32 (Int32.toInt8 (Int8.toInt32 (Int32.toInt8 ((gI σ 16 j i) ^^^ x))))) ((gI τ 44 0 (400 * j + i)) ^^^ (x &&& 255)) := by
        have e := bt_of ((gI σ 16 j i) ^^^ x)
        have e3 : ((gI σ 16 j i) ^^^ x) &&& 255 = (gI τ 44 0 (400 * j + i)) ^^^ (x &&& 255) := by
          rw [← bt_255 (q10 i hi)]
          exact xor_and _ _ _
        rw [← e3]; exact e
      have hI : Inv t (sI σ 16 j i (Int8.toInt32 (Int32.toInt8 (Int8.toInt32 (Int32.toInt8 ((gI σ 16 j i) ^^^ x)))))) (sI τ 44 0 (400 * j + i) ((gI τ 44 0 (400 * j + i)) ^^^ (x &&& 255))) := by
        obtain ⟨h1, h2, h3, ⟨r1, r2, r3, r4, r5⟩, h5, h6, h7⟩ := h
        refine ⟨h1, h2, h3, ⟨r1, r2, r3, r4, fun r hr => ?_⟩, h5, h6, h7⟩
        obtain ⟨q0, q1, q2, q3, q4, q5, q6, q7, q8, q9, q10⟩ := r5 r hr
        refine ⟨q0, q1, q2, q3, q4, q5, q6, q7, q8, q9, fun k hk => ?_⟩
        have hk : k < zS σ r := hk
        simp only [gI_sI]
        by_cases e : r = j ∧ k = i
        · rw [if_pos ⟨trivial, e.1, e.2⟩, if_pos ⟨trivial, trivial, by rw [e.1, e.2]⟩]; exact hbt
        · rw [if_neg (fun h => e h.2), if_neg (fun h => e (by constructor <;> omega))]
          exact q10 k hk
      have q2' : gI (sI σ 16 j i (Int8.toInt32 (Int32.toInt8 (Int8.toInt32 (Int32.toInt8 ((gI σ 16 j i) ^^^ x)))))) 15 j 1 = nI (zS (sI σ 16 j i (Int8.toInt32 (Int32.toInt8 (Int8.toInt32 (Int32.toInt8 ((gI σ 16 j i) ^^^ x)))))) j) := q2
      rw [byteAt_eq q2' q9 q1 hi]
      simp only [obind_some, gI_sI, and_self, if_true]
      exact bth_ret2 hI (bt_255 hbt)
    · rw [decide_eq_false hc]
      exact bth_fnd h 2 rfl (by omega)
theorem place_Inv {t j i : Nat} {σ τ : rS} (h : Inv t σ τ) (hj : j < gC σ 15) (hi : i ≤ zS σ j) : Inv t (sI σ 15 j 2 (nI i)) (sI τ 46 0 j (nI i)) := by
  obtain ⟨h1, h2, h3, ⟨r1, r2, r3, r4, r5⟩, h5, h6, h7⟩ := h
  refine ⟨h1, h2, h3, ⟨r1, r2, r3, r4, fun r hr => ?_⟩, h5, h6, h7⟩
  obtain ⟨q0, q1, q2, q3, q4, q5, q6, q7, q8, q9, q10⟩ := r5 r hr
  have ez : zS (sI σ 15 j 2 (nI i)) r = zS σ r := by simp [zS, gI_sI]
  have hz := (r5 j hj).2.1
  have ep : pS (sI σ 15 j 2 (nI i)) r = if r = j then i else pS σ r := by
    unfold pS
    simp only [gI_sI]
    by_cases e : r = j
    · simp [e, nI_clamp (show i < 2 ^ 31 by omega)]
    · simp [e]
  refine ⟨q0, by rw [ez]; exact q1, by rw [ez, ← q2]; simp [gI_sI], by rw [ez, ← q3]; simp [gI_sI], ?_, ?_, ?_, ?_, ?_, q9, by rw [ez]; exact q10⟩
  · rw [ez, ep]
    by_cases e : r = j
    · subst e; rw [if_pos rfl]; exact hi
    · rw [if_neg e]; exact q4
  · rw [ep]
    simp only [gI_sI]
    by_cases e : r = j
    · simp [e]
    · simp [e, q5]
  · rw [ep]
    simp only [gI_sI]
    by_cases e : r = j
    · simp [e]
    · simp [e, q6]
  · simp only [gI_sI]; simp [q7]
  · simp only [gI_sI]; simp [q8]
theorem eq_seek (N : Nat) : EQ_seek N Inv := by
  intro v w t σ τ _ h
  show Bth t _ _
  unfold f10_seek f11_seek
  rcases strCase h v with ⟨e1, e2⟩ | ⟨j, hj, rfl, e1, e2⟩
  · rw [e1, e2]; exact bth_ret h _
  · have hz := h.2.2.2.1.1
    obtain ⟨-, q1, q2, q3, q4, q5, q6, q7, q8, q9, q10⟩ := h.2.2.2.1.2.2.2.2 j hj
    have e0 := in_lit 0 (nI (zS σ j)) w τ
    rw [z0, nI_toInt (by omega)] at e0
    have e0' : f11_in (Int32.toInt64 w) 0 (Int32.toInt64 (nI (zS σ j))) τ = some (decide (0 ≤ w.toInt ∧ w.toInt ≤ zS σ j), τ) := e0
    rw [e1, e2]
    simp (disch := omega) only [obind_some, onul_some, olet_eq, if_true, h.1.2.1.2.2.2.2.2.2.2.2.2.1, h.1.2.1.2.2.2.2.2.2.2.2.2.2.1, idx_nI, q3, q2, q6, q5, e0', Int32.lt_iff_toInt_lt, Int32.le_iff_toInt_le, z0, nI_toInt (show zS σ j < 2 ^ 31 by omega)]
    by_cases hc : 0 ≤ w.toInt ∧ w.toInt ≤ zS σ j
    · rw [if_neg (by omega), if_pos hc.2, decide_eq_true hc]
      obtain ⟨i, hi, rfl⟩ := of_in (v := w) (n := zS σ j + 1) (by omega) (by omega)
      exact bth_ret (place_Inv h hj (by omega)) _
    · rw [decide_eq_false hc]
      by_cases hc1 : w.toInt < 0
      · rw [if_pos hc1]
        exact bth_fnd h 2 rfl (by omega)
      · rw [if_neg hc1, if_neg (by omega)]
        exact bth_fnd h 2 rfl (by omega)
