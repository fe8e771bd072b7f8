def kX : List Nat := [0, 1, 2, 3, 4, 6, 7, 8, 9, 10, 11, 12, 5]
noncomputable def sX0 : rS := (fun _ _ _ => 0, fun _ _ _ => 0, fun _ _ _ => none, fun k _ => if k = 1 then 60 else if k = 2 then 24 else if k = 3 then 6 else if k = 4 then 16 else if k = 7 then 30 else if k = 9 then 264 else if k = 10 then 24 else if k = 11 then 24 else if k = 5 then 10 else 0, fun k => if k ∈ kX then 1 else 0)
theorem gC_sX0 (k : Nat) : gC sX0 k = if k ∈ kX then 1 else 0 := rfl
set_option maxRecDepth 20000 in
set_option maxHeartbeats 4000000 in
theorem first_X {D : va_G} {dA : Nat → ClassId} {A : Nat → Prop} {H : Heap} {h0 : Nat} {xs : va_W} (hP : va_P D vwCl xs H) (hD : va_D A xs) (hpo : ∃ q1 : Nat, ∃ q2 : Nat, ∃ q3 : Nat, ∃ q4 : Nat, ∃ q5 : Nat, ∃ q5_q1 : Nat, ∃ q6 : Nat, ∃ q6_q1 : Nat, ∃ q6_q2 : Nat, ∃ q6_q3 : Nat, ∃ q7 : Nat, ∃ q8 : Nat, xs = [(h0, .inr (8, [.ref q1, .ref q2, .ref q3, .ref q4, .ref q5, .ref q6, .ref q7, .ref q8, .int 0, .int 0, .int 0, .int 0, .int 0, .long 0])), (q1, .inl (dA 1, 60, .inr (.inr (.inr (.inr (fun _ => none)))))), (q2, .inl (dA 2, 24, .inr (.inr (.inr (.inr (fun _ => none)))))), (q3, .inl (dA 3, 6, .inr (.inr (.inr (.inr (fun _ => none)))))), (q4, .inl (dA 4, 16, .inr (.inr (.inr (.inr (fun _ => none)))))), (q5, .inr (6, [.ref q5_q1, .int 0, .int 0])), (q5_q1, .inl (dA 7, 30, .inr (.inr (.inr (.inr (fun _ => none)))))), (q6, .inr (3, [.ref q6_q1, .int 0, .ref q6_q2, .ref q6_q3, .null, .int 0, .int 0, .int 0])), (q6_q1, .inl (dA 9, 264, .inl (fun _ => 0))), (q6_q2, .inl (dA 10, 24, .inr (.inl (fun _ => 0)))), (q6_q3, .inl (dA 11, 24, .inr (.inl (fun _ => 0)))), (q7, .inr (4, [.int 0, .int 0, .int 0])), (q8, .inl (dA 5, 10, .inl (fun _ => 0)))]) : ∃ bd, Rh D dA A sX0 bd H ∧ bd 0 0 = h0 := by
  obtain ⟨q1, q2, q3, q4, q5, q5_q1, q6, q6_q1, q6_q2, q6_q3, q7, q8, rfl⟩ := hpo
  have hk : ∀ k i, i < gC sX0 k → k ∈ kX ∧ i = 0 := by
    intro k i h
    rw [gC_sX0] at h
    split at h
    · exact ⟨by assumption, by omega⟩
    · omega
  refine ⟨fun k _ => if k = 0 then h0 else if k = 1 then q1 else if k = 2 then q2 else if k = 3 then q3 else if k = 4 then q4 else if k = 6 then q5 else if k = 7 then q5_q1 else if k = 8 then q6 else if k = 9 then q6_q1 else if k = 10 then q6_q2 else if k = 11 then q6_q3 else if k = 12 then q7 else if k = 5 then q8 else 0, rh_adopt (σ := e0) (ad := fun _ _ => 0) e0_cov (ws := []) hP hD.1 (fun k i h => absurd h (Nat.not_lt_zero i)) (fun k i h1 _ => ?_) (fun j e he => ?_) ?_ (fun k i k2 i2 h1 _ h3 _ he => ?_) (fun k i h => ?_), rfl⟩
  · obtain ⟨h2, rfl⟩ := hk k i h1
    unfold kX at h2
    simp only [List.mem_cons, List.not_mem_nil, or_false] at h2
    rcases h2 with rfl | rfl | rfl | rfl | rfl | rfl | rfl | rfl | rfl | rfl | rfl | rfl | rfl
    · exact ⟨0, rfl⟩
    · exact ⟨1, rfl⟩
    · exact ⟨2, rfl⟩
    · exact ⟨3, rfl⟩
    · exact ⟨4, rfl⟩
    · exact ⟨5, rfl⟩
    · exact ⟨6, rfl⟩
    · exact ⟨7, rfl⟩
    · exact ⟨8, rfl⟩
    · exact ⟨9, rfl⟩
    · exact ⟨10, rfl⟩
    · exact ⟨11, rfl⟩
    · exact ⟨12, rfl⟩
  · match j, he with
    | 0, he => cases he; exact ⟨0, 0, by decide, Nat.not_lt_zero _, rfl⟩
    | 1, he => cases he; exact ⟨1, 0, by decide, Nat.not_lt_zero _, rfl⟩
    | 2, he => cases he; exact ⟨2, 0, by decide, Nat.not_lt_zero _, rfl⟩
    | 3, he => cases he; exact ⟨3, 0, by decide, Nat.not_lt_zero _, rfl⟩
    | 4, he => cases he; exact ⟨4, 0, by decide, Nat.not_lt_zero _, rfl⟩
    | 5, he => cases he; exact ⟨6, 0, by decide, Nat.not_lt_zero _, rfl⟩
    | 6, he => cases he; exact ⟨7, 0, by decide, Nat.not_lt_zero _, rfl⟩
    | 7, he => cases he; exact ⟨8, 0, by decide, Nat.not_lt_zero _, rfl⟩
    | 8, he => cases he; exact ⟨9, 0, by decide, Nat.not_lt_zero _, rfl⟩
    | 9, he => cases he; exact ⟨10, 0, by decide, Nat.not_lt_zero _, rfl⟩
    | 10, he => cases he; exact ⟨11, 0, by decide, Nat.not_lt_zero _, rfl⟩
    | 11, he => cases he; exact ⟨12, 0, by decide, Nat.not_lt_zero _, rfl⟩
    | 12, he => cases he; exact ⟨5, 0, by decide, Nat.not_lt_zero _, rfl⟩
    | j + 13, he => simp at he
  · refine ⟨fun k i x j h hj => (by cases hj), fun k i w x t h hkw hx => ?_⟩
    obtain ⟨h2, rfl⟩ := hk k i h
    unfold kX at h2
    simp only [List.mem_cons, List.not_mem_nil, or_false] at h2
    rcases h2 with rfl | rfl | rfl | rfl | rfl | rfl | rfl | rfl | rfl | rfl | rfl | rfl | rfl
    · cases hkw
      match x, hx with
      | 0, hx => cases hx; decide
      | 1, hx => cases hx; decide
      | 2, hx => cases hx; decide
      | 3, hx => cases hx; decide
      | 4, hx => cases hx; decide
      | 5, hx => cases hx; decide
      | 6, hx => cases hx; decide
      | 7, hx => cases hx; decide
      | 8, hx => cases hx
      | 9, hx => cases hx
      | 10, hx => cases hx
      | 11, hx => cases hx
      | 12, hx => cases hx
      | 13, hx => cases hx
      | x + 14, hx => simp at hx
    · cases hkw
    · cases hkw
    · cases hkw
    · cases hkw
    · cases hkw
      match x, hx with
      | 0, hx => cases hx; decide
      | 1, hx => cases hx
      | 2, hx => cases hx
      | x + 3, hx => simp at hx
    · cases hkw
    · cases hkw
      match x, hx with
      | 0, hx => cases hx; decide
      | 1, hx => cases hx
      | 2, hx => cases hx; decide
      | 3, hx => cases hx; decide
      | 4, hx => cases hx
      | 5, hx => cases hx
      | 6, hx => cases hx
      | 7, hx => cases hx
      | x + 8, hx => simp at hx
    · cases hkw
    · cases hkw
    · cases hkw
    · cases hkw
      match x, hx with
      | 0, hx => cases hx
      | 1, hx => cases hx
      | 2, hx => cases hx
      | x + 3, hx => simp at hx
    · cases hkw
  · obtain ⟨g1, rfl⟩ := hk k i h1
    obtain ⟨g2, rfl⟩ := hk k2 i2 h3
    refine ⟨?_, rfl⟩
    have at_ : ∀ z, z ∈ kX → ∃ (j : Nat) (e : va_E), ([(h0, .inr (8, [.ref q1, .ref q2, .ref q3, .ref q4, .ref q5, .ref q6, .ref q7, .ref q8, .int 0, .int 0, .int 0, .int 0, .int 0, .long 0])), (q1, .inl (dA 1, 60, .inr (.inr (.inr (.inr (fun _ => none)))))), (q2, .inl (dA 2, 24, .inr (.inr (.inr (.inr (fun _ => none)))))), (q3, .inl (dA 3, 6, .inr (.inr (.inr (.inr (fun _ => none)))))), (q4, .inl (dA 4, 16, .inr (.inr (.inr (.inr (fun _ => none)))))), (q5, .inr (6, [.ref q5_q1, .int 0, .int 0])), (q5_q1, .inl (dA 7, 30, .inr (.inr (.inr (.inr (fun _ => none)))))), (q6, .inr (3, [.ref q6_q1, .int 0, .ref q6_q2, .ref q6_q3, .null, .int 0, .int 0, .int 0])), (q6_q1, .inl (dA 9, 264, .inl (fun _ => 0))), (q6_q2, .inl (dA 10, 24, .inr (.inl (fun _ => 0)))), (q6_q3, .inl (dA 11, 24, .inr (.inl (fun _ => 0)))), (q7, .inr (4, [.int 0, .int 0, .int 0])), (q8, .inl (dA 5, 10, .inl (fun _ => 0)))] : va_W)[j]? = some ((fun k _ => if k = 0 then h0 else if k = 1 then q1 else if k = 2 then q2 else if k = 3 then q3 else if k = 4 then q4 else if k = 6 then q5 else if k = 7 then q5_q1 else if k = 8 then q6 else if k = 9 then q6_q1 else if k = 10 then q6_q2 else if k = 11 then q6_q3 else if k = 12 then q7 else if k = 5 then q8 else 0 : Nat → Nat → Nat) z 0, e) ∧ kX[j]? = some z := by
      intro z hz
      unfold kX at hz ⊢
      simp only [List.mem_cons, List.not_mem_nil, or_false] at hz
      rcases hz with rfl | rfl | rfl | rfl | rfl | rfl | rfl | rfl | rfl | rfl | rfl | rfl | rfl
      · exact ⟨0, _, rfl, rfl⟩
      · exact ⟨1, _, rfl, rfl⟩
      · exact ⟨2, _, rfl, rfl⟩
      · exact ⟨3, _, rfl, rfl⟩
      · exact ⟨4, _, rfl, rfl⟩
      · exact ⟨5, _, rfl, rfl⟩
      · exact ⟨6, _, rfl, rfl⟩
      · exact ⟨7, _, rfl, rfl⟩
      · exact ⟨8, _, rfl, rfl⟩
      · exact ⟨9, _, rfl, rfl⟩
      · exact ⟨10, _, rfl, rfl⟩
      · exact ⟨11, _, rfl, rfl⟩
      · exact ⟨12, _, rfl, rfl⟩
    obtain ⟨j1, e1, a1, b1⟩ := at_ k g1
    obtain ⟨j2, e2, a2, b2⟩ := at_ k2 g2
    have := hD.1 j1 j2 _ _ a1 a2 he
    subst this
    exact Option.some.inj (b1.symm.trans b2)
  · obtain ⟨h2, rfl⟩ := hk k i h
    unfold kX at h2
    simp only [List.mem_cons, List.not_mem_nil, or_false] at h2
    rcases h2 with rfl | rfl | rfl | rfl | rfl | rfl | rfl | rfl | rfl | rfl | rfl | rfl | rfl
    · exact hD.2 0 _ rfl
    · exact hD.2 1 _ rfl
    · exact hD.2 2 _ rfl
    · exact hD.2 3 _ rfl
    · exact hD.2 4 _ rfl
    · exact hD.2 5 _ rfl
    · exact hD.2 6 _ rfl
    · exact hD.2 7 _ rfl
    · exact hD.2 8 _ rfl
    · exact hD.2 9 _ rfl
    · exact hD.2 10 _ rfl
    · exact hD.2 11 _ rfl
    · exact hD.2 12 _ rfl
def kM : List Nat := [29, 31, 34, 35, 36, 37, 38, 39, 41, 44, 45, 46, 47, 51, 52, 53, 54, 57, 58, 59, 61, 62, 63, 64, 65, 66]
noncomputable def sM0 : rS := (fun k _ x => if k = 51 then (if x < 30 then -1 else 0) else 0, fun _ _ _ => 0, fun _ _ _ => none, fun k _ => if k = 31 then 10 else if k = 34 then 60 else if k = 35 then 60 else if k = 36 then 60 else if k = 37 then 1440 else if k = 38 then 24 else if k = 39 then 24 else if k = 41 then 600 else if k = 44 then 9600 else if k = 45 then 24 else if k = 46 then 24 else if k = 47 then 24 else if k = 51 then 30 else if k = 52 then 30 else if k = 53 then 30 else if k = 54 then 12000 else if k = 57 then 6 else if k = 58 then 72 else if k = 59 then 72 else if k = 61 then 16 else if k = 62 then 16 else if k = 63 then 16 else if k = 64 then 6400 else if k = 65 then 6400 else if k = 66 then 6400 else 0, fun k => if k ∈ kM then 1 else 0)
theorem gC_sM0 (k : Nat) : gC sM0 k = if k ∈ kM then 1 else 0 := rfl
set_option maxRecDepth 20000 in
set_option maxHeartbeats 4000000 in
theorem first_M {D : va_G} {dA : Nat → ClassId} {A : Nat → Prop} {H : Heap} {h0 : Nat} {xs : va_W} (hP : va_P D vwCl xs H) (hD : va_D A xs) (hpo : ∃ q1 : Nat, ∃ q2 : Nat, ∃ q3 : Nat, ∃ q4 : Nat, ∃ q5 : Nat, ∃ q6 : Nat, ∃ q7 : Nat, ∃ q8 : Nat, ∃ q9 : Nat, ∃ q10 : Nat, ∃ q11 : Nat, ∃ q12 : Nat, ∃ q13 : Nat, ∃ q14 : Nat, ∃ q15 : Nat, ∃ q16 : Nat, ∃ q17 : Nat, ∃ q18 : Nat, ∃ q19 : Nat, ∃ q20 : Nat, ∃ q21 : Nat, ∃ q22 : Nat, ∃ q23 : Nat, ∃ q24 : Nat, ∃ q25 : Nat, xs = [(h0, .inr (9, [.int 0, .ref q1, .long 0, .int 0, .ref q2, .ref q3, .ref q4, .ref q5, .ref q6, .ref q7, .int 0, .ref q8, .int 0, .int 0, .ref q9, .ref q10, .ref q11, .ref q12, .int 0, .int 0, .long 0, .ref q13, .ref q14, .ref q15, .ref q16, .int 0, .int 0, .ref q17, .ref q18, .ref q19, .int 0, .ref q20, .ref q21, .ref q22, .ref q23, .ref q24, .ref q25])), (q1, .inl (dA 31, 10, .inl (fun _ => 0))), (q2, .inl (dA 34, 60, .inl (fun _ => 0))), (q3, .inl (dA 35, 60, .inl (fun _ => 0))), (q4, .inl (dA 36, 60, .inl (fun _ => 0))), (q5, .inl (dA 37, 1440, .inr (.inl (fun _ => 0)))), (q6, .inl (dA 38, 24, .inr (.inl (fun _ => 0)))), (q7, .inl (dA 39, 24, .inr (.inl (fun _ => 0)))), (q8, .inl (dA 41, 600, .inl (fun _ => 0))), (q9, .inl (dA 44, 9600, .inl (fun _ => 0))), (q10, .inl (dA 45, 24, .inl (fun _ => 0))), (q11, .inl (dA 46, 24, .inl (fun _ => 0))), (q12, .inl (dA 47, 24, .inl (fun _ => 0))), (q13, .inl (dA 51, 30, .inl (fun j => if j < 30 then -1 else 0))), (q14, .inl (dA 52, 30, .inl (fun _ => 0))), (q15, .inl (dA 53, 30, .inl (fun _ => 0))), (q16, .inl (dA 54, 12000, .inl (fun _ => 0))), (q17, .inl (dA 57, 6, .inl (fun _ => 0))), (q18, .inl (dA 58, 72, .inr (.inl (fun _ => 0)))), (q19, .inl (dA 59, 72, .inl (fun _ => 0))), (q20, .inl (dA 61, 16, .inl (fun _ => 0))), (q21, .inl (dA 62, 16, .inl (fun _ => 0))), (q22, .inl (dA 63, 16, .inl (fun _ => 0))), (q23, .inl (dA 64, 6400, .inl (fun _ => 0))), (q24, .inl (dA 65, 6400, .inl (fun _ => 0))), (q25, .inl (dA 66, 6400, .inl (fun _ => 0)))]) : ∃ bd, Rh D dA A sM0 bd H ∧ bd 29 0 = h0 := by
  obtain ⟨q1, q2, q3, q4, q5, q6, q7, q8, q9, q10, q11, q12, q13, q14, q15, q16, q17, q18, q19, q20, q21, q22, q23, q24, q25, rfl⟩ := hpo
  have hk : ∀ k i, i < gC sM0 k → k ∈ kM ∧ i = 0 := by
    intro k i h
    rw [gC_sM0] at h
    split at h
    · exact ⟨by assumption, by omega⟩
    · omega
  refine ⟨fun k _ => if k = 29 then h0 else if k = 31 then q1 else if k = 34 then q2 else if k = 35 then q3 else if k = 36 then q4 else if k = 37 then q5 else if k = 38 then q6 else if k = 39 then q7 else if k = 41 then q8 else if k = 44 then q9 else if k = 45 then q10 else if k = 46 then q11 else if k = 47 then q12 else if k = 51 then q13 else if k = 52 then q14 else if k = 53 then q15 else if k = 54 then q16 else if k = 57 then q17 else if k = 58 then q18 else if k = 59 then q19 else if k = 61 then q20 else if k = 62 then q21 else if k = 63 then q22 else if k = 64 then q23 else if k = 65 then q24 else if k = 66 then q25 else 0, rh_adopt (σ := e0) (ad := fun _ _ => 0) e0_cov (ws := []) hP hD.1 (fun k i h => absurd h (Nat.not_lt_zero i)) (fun k i h1 _ => ?_) (fun j e he => ?_) ?_ (fun k i k2 i2 h1 _ h3 _ he => ?_) (fun k i h => ?_), rfl⟩
  · obtain ⟨h2, rfl⟩ := hk k i h1
    unfold kM at h2
    simp only [List.mem_cons, List.not_mem_nil, or_false] at h2
    rcases h2 with rfl | rfl | rfl | rfl | rfl | rfl | rfl | rfl | rfl | rfl | rfl | rfl | rfl | rfl | rfl | rfl | rfl | rfl | rfl | rfl | rfl | rfl | rfl | rfl | rfl | rfl
    · exact ⟨0, rfl⟩
    · exact ⟨1, rfl⟩
    · exact ⟨2, rfl⟩
    · exact ⟨3, rfl⟩
    · exact ⟨4, rfl⟩
    · exact ⟨5, rfl⟩
    · exact ⟨6, rfl⟩
    · exact ⟨7, rfl⟩
    · exact ⟨8, rfl⟩
    · exact ⟨9, rfl⟩
    · exact ⟨10, rfl⟩
    · exact ⟨11, rfl⟩
    · exact ⟨12, rfl⟩
    · exact ⟨13, rfl⟩
    · exact ⟨14, rfl⟩
    · exact ⟨15, rfl⟩
    · exact ⟨16, rfl⟩
    · exact ⟨17, rfl⟩
    · exact ⟨18, rfl⟩
    · exact ⟨19, rfl⟩
    · exact ⟨20, rfl⟩
    · exact ⟨21, rfl⟩
    · exact ⟨22, rfl⟩
    · exact ⟨23, rfl⟩
    · exact ⟨24, rfl⟩
    · exact ⟨25, rfl⟩
  · match j, he with
    | 0, he => cases he; exact ⟨29, 0, by decide, Nat.not_lt_zero _, rfl⟩
    | 1, he => cases he; exact ⟨31, 0, by decide, Nat.not_lt_zero _, rfl⟩
    | 2, he => cases he; exact ⟨34, 0, by decide, Nat.not_lt_zero _, rfl⟩
    | 3, he => cases he; exact ⟨35, 0, by decide, Nat.not_lt_zero _, rfl⟩
    | 4, he => cases he; exact ⟨36, 0, by decide, Nat.not_lt_zero _, rfl⟩
    | 5, he => cases he; exact ⟨37, 0, by decide, Nat.not_lt_zero _, rfl⟩
    | 6, he => cases he; exact ⟨38, 0, by decide, Nat.not_lt_zero _, rfl⟩
    | 7, he => cases he; exact ⟨39, 0, by decide, Nat.not_lt_zero _, rfl⟩
    | 8, he => cases he; exact ⟨41, 0, by decide, Nat.not_lt_zero _, rfl⟩
    | 9, he => cases he; exact ⟨44, 0, by decide, Nat.not_lt_zero _, rfl⟩
    | 10, he => cases he; exact ⟨45, 0, by decide, Nat.not_lt_zero _, rfl⟩
    | 11, he => cases he; exact ⟨46, 0, by decide, Nat.not_lt_zero _, rfl⟩
    | 12, he => cases he; exact ⟨47, 0, by decide, Nat.not_lt_zero _, rfl⟩
    | 13, he => cases he; exact ⟨51, 0, by decide, Nat.not_lt_zero _, rfl⟩
    | 14, he => cases he; exact ⟨52, 0, by decide, Nat.not_lt_zero _, rfl⟩
    | 15, he => cases he; exact ⟨53, 0, by decide, Nat.not_lt_zero _, rfl⟩
    | 16, he => cases he; exact ⟨54, 0, by decide, Nat.not_lt_zero _, rfl⟩
    | 17, he => cases he; exact ⟨57, 0, by decide, Nat.not_lt_zero _, rfl⟩
    | 18, he => cases he; exact ⟨58, 0, by decide, Nat.not_lt_zero _, rfl⟩
    | 19, he => cases he; exact ⟨59, 0, by decide, Nat.not_lt_zero _, rfl⟩
    | 20, he => cases he; exact ⟨61, 0, by decide, Nat.not_lt_zero _, rfl⟩
    | 21, he => cases he; exact ⟨62, 0, by decide, Nat.not_lt_zero _, rfl⟩
    | 22, he => cases he; exact ⟨63, 0, by decide, Nat.not_lt_zero _, rfl⟩
    | 23, he => cases he; exact ⟨64, 0, by decide, Nat.not_lt_zero _, rfl⟩
    | 24, he => cases he; exact ⟨65, 0, by decide, Nat.not_lt_zero _, rfl⟩
    | 25, he => cases he; exact ⟨66, 0, by decide, Nat.not_lt_zero _, rfl⟩
    | j + 26, he => simp at he
  · refine ⟨fun k i x j h hj => (by cases hj), fun k i w x t h hkw hx => ?_⟩
    obtain ⟨h2, rfl⟩ := hk k i h
    unfold kM at h2
    simp only [List.mem_cons, List.not_mem_nil, or_false] at h2
    rcases h2 with rfl | rfl | rfl | rfl | rfl | rfl | rfl | rfl | rfl | rfl | rfl | rfl | rfl | rfl | rfl | rfl | rfl | rfl | rfl | rfl | rfl | rfl | rfl | rfl | rfl | rfl
    · cases hkw
      match x, hx with
      | 0, hx => cases hx
      | 1, hx => cases hx; decide
      | 2, hx => cases hx
      | 3, hx => cases hx
      | 4, hx => cases hx; decide
      | 5, hx => cases hx; decide
      | 6, hx => cases hx; decide
      | 7, hx => cases hx; decide
      | 8, hx => cases hx; decide
      | 9, hx => cases hx; decide
      | 10, hx => cases hx
      | 11, hx => cases hx; decide
      | 12, hx => cases hx
      | 13, hx => cases hx
      | 14, hx => cases hx; decide
      | 15, hx => cases hx; decide
      | 16, hx => cases hx; decide
      | 17, hx => cases hx; decide
      | 18, hx => cases hx
      | 19, hx => cases hx
      | 20, hx => cases hx
      | 21, hx => cases hx; decide
      | 22, hx => cases hx; decide
      | 23, hx => cases hx; decide
      | 24, hx => cases hx; decide
      | 25, hx => cases hx
      | 26, hx => cases hx
      | 27, hx => cases hx; decide
      | 28, hx => cases hx; decide
      | 29, hx => cases hx; decide
      | 30, hx => cases hx
      | 31, hx => cases hx; decide
      | 32, hx => cases hx; decide
      | 33, hx => cases hx; decide
      | 34, hx => cases hx; decide
      | 35, hx => cases hx; decide
      | 36, hx => cases hx; decide
      | x + 37, hx => simp at hx
    · cases hkw
    · cases hkw
    · cases hkw
    · cases hkw
    · cases hkw
    · cases hkw
    · cases hkw
    · cases hkw
    · cases hkw
    · cases hkw
    · cases hkw
    · cases hkw
    · cases hkw
    · cases hkw
    · cases hkw
    · cases hkw
    · cases hkw
    · cases hkw
    · cases hkw
    · cases hkw
    · cases hkw
    · cases hkw
    · cases hkw
    · cases hkw
    · cases hkw
  · obtain ⟨g1, rfl⟩ := hk k i h1
    obtain ⟨g2, rfl⟩ := hk k2 i2 h3
    refine ⟨?_, rfl⟩
    have at_ : ∀ z, z ∈ kM → ∃ (j : Nat) (e : va_E), ([(h0, .inr (9, [.int 0, .ref q1, .long 0, .int 0, .ref q2, .ref q3, .ref q4, .ref q5, .ref q6, .ref q7, .int 0, .ref q8, .int 0, .int 0, .ref q9, .ref q10, .ref q11, .ref q12, .int 0, .int 0, .long 0, .ref q13, .ref q14, .ref q15, .ref q16, .int 0, .int 0, .ref q17, .ref q18, .ref q19, .int 0, .ref q20, .ref q21, .ref q22, .ref q23, .ref q24, .ref q25])), (q1, .inl (dA 31, 10, .inl (fun _ => 0))), (q2, .inl (dA 34, 60, .inl (fun _ => 0))), (q3, .inl (dA 35, 60, .inl (fun _ => 0))), (q4, .inl (dA 36, 60, .inl (fun _ => 0))), (q5, .inl (dA 37, 1440, .inr (.inl (fun _ => 0)))), (q6, .inl (dA 38, 24, .inr (.inl (fun _ => 0)))), (q7, .inl (dA 39, 24, .inr (.inl (fun _ => 0)))), (q8, .inl (dA 41, 600, .inl (fun _ => 0))), (q9, .inl (dA 44, 9600, .inl (fun _ => 0))), (q10, .inl (dA 45, 24, .inl (fun _ => 0))), (q11, .inl (dA 46, 24, .inl (fun _ => 0))), (q12, .inl (dA 47, 24, .inl (fun _ => 0))), (q13, .inl (dA 51, 30, .inl (fun j => if j < 30 then -1 else 0))), (q14, .inl (dA 52, 30, .inl (fun _ => 0))), (q15, .inl (dA 53, 30, .inl (fun _ => 0))), (q16, .inl (dA 54, 12000, .inl (fun _ => 0))), (q17, .inl (dA 57, 6, .inl (fun _ => 0))), (q18, .inl (dA 58, 72, .inr (.inl (fun _ => 0)))), (q19, .inl (dA 59, 72, .inl (fun _ => 0))), (q20, .inl (dA 61, 16, .inl (fun _ => 0))), (q21, .inl (dA 62, 16, .inl (fun _ => 0))), (q22, .inl (dA 63, 16, .inl (fun _ => 0))), (q23, .inl (dA 64, 6400, .inl (fun _ => 0))), (q24, .inl (dA 65, 6400, .inl (fun _ => 0))), (q25, .inl (dA 66, 6400, .inl (fun _ => 0)))] : va_W)[j]? = some ((fun k _ => if k = 29 then h0 else if k = 31 then q1 else if k = 34 then q2 else if k = 35 then q3 else if k = 36 then q4 else if k = 37 then q5 else if k = 38 then q6 else if k = 39 then q7 else if k = 41 then q8 else if k = 44 then q9 else if k = 45 then q10 else if k = 46 then q11 else if k = 47 then q12 else if k = 51 then q13 else if k = 52 then q14 else if k = 53 then q15 else if k = 54 then q16 else if k = 57 then q17 else if k = 58 then q18 else if k = 59 then q19 else if k = 61 then q20 else if k = 62 then q21 else if k = 63 then q22 else if k = 64 then q23 else if k = 65 then q24 else if k = 66 then q25 else 0 : Nat → Nat → Nat) z 0, e) ∧ kM[j]? = some z := by
      intro z hz
      unfold kM at hz ⊢
      simp only [List.mem_cons, List.not_mem_nil, or_false] at hz
      rcases hz with rfl | rfl | rfl | rfl | rfl | rfl | rfl | rfl | rfl | rfl | rfl | rfl | rfl | rfl | rfl | rfl | rfl | rfl | rfl | rfl | rfl | rfl | rfl | rfl | rfl | rfl
      · exact ⟨0, _, rfl, rfl⟩
      · exact ⟨1, _, rfl, rfl⟩
      · exact ⟨2, _, rfl, rfl⟩
      · exact ⟨3, _, rfl, rfl⟩
      · exact ⟨4, _, rfl, rfl⟩
      · exact ⟨5, _, rfl, rfl⟩
      · exact ⟨6, _, rfl, rfl⟩
      · exact ⟨7, _, rfl, rfl⟩
      · exact ⟨8, _, rfl, rfl⟩
      · exact ⟨9, _, rfl, rfl⟩
      · exact ⟨10, _, rfl, rfl⟩
      · exact ⟨11, _, rfl, rfl⟩
      · exact ⟨12, _, rfl, rfl⟩
      · exact ⟨13, _, rfl, rfl⟩
      · exact ⟨14, _, rfl, rfl⟩
      · exact ⟨15, _, rfl, rfl⟩
      · exact ⟨16, _, rfl, rfl⟩
      · exact ⟨17, _, rfl, rfl⟩
      · exact ⟨18, _, rfl, rfl⟩
      · exact ⟨19, _, rfl, rfl⟩
      · exact ⟨20, _, rfl, rfl⟩
      · exact ⟨21, _, rfl, rfl⟩
      · exact ⟨22, _, rfl, rfl⟩
      · exact ⟨23, _, rfl, rfl⟩
      · exact ⟨24, _, rfl, rfl⟩
      · exact ⟨25, _, rfl, rfl⟩
    obtain ⟨j1, e1, a1, b1⟩ := at_ k g1
    obtain ⟨j2, e2, a2, b2⟩ := at_ k2 g2
    have := hD.1 j1 j2 _ _ a1 a2 he
    subst this
    exact Option.some.inj (b1.symm.trans b2)
  · obtain ⟨h2, rfl⟩ := hk k i h
    unfold kM at h2
    simp only [List.mem_cons, List.not_mem_nil, or_false] at h2
    rcases h2 with rfl | rfl | rfl | rfl | rfl | rfl | rfl | rfl | rfl | rfl | rfl | rfl | rfl | rfl | rfl | rfl | rfl | rfl | rfl | rfl | rfl | rfl | rfl | rfl | rfl | rfl
    · exact hD.2 0 _ rfl
    · exact hD.2 1 _ rfl
    · exact hD.2 2 _ rfl
    · exact hD.2 3 _ rfl
    · exact hD.2 4 _ rfl
    · exact hD.2 5 _ rfl
    · exact hD.2 6 _ rfl
    · exact hD.2 7 _ rfl
    · exact hD.2 8 _ rfl
    · exact hD.2 9 _ rfl
    · exact hD.2 10 _ rfl
    · exact hD.2 11 _ rfl
    · exact hD.2 12 _ rfl
    · exact hD.2 13 _ rfl
    · exact hD.2 14 _ rfl
    · exact hD.2 15 _ rfl
    · exact hD.2 16 _ rfl
    · exact hD.2 17 _ rfl
    · exact hD.2 18 _ rfl
    · exact hD.2 19 _ rfl
    · exact hD.2 20 _ rfl
    · exact hD.2 21 _ rfl
    · exact hD.2 22 _ rfl
    · exact hD.2 23 _ rfl
    · exact hD.2 24 _ rfl
    · exact hD.2 25 _ rfl
