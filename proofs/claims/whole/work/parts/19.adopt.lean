noncomputable def mkRow (σ : rS) (kd n : Int32) : rS := olet (gC σ 13) fun i => sC (sC (sN (sRr (sRr (sLr (sI (sI σ 13 i 0 kd) 13 i 2 0) 14 i (fun _ => 0)) 13 i (fun _ => none)) 14 i (fun _ => none)) 14 i n.toNatClampNeg) 13 (i + 1)) 14 (i + 1)
noncomputable def newRow {α : Type} (kd n : Int32) (σ : rS) (F : Nat → rS → Option α) : Option α := ock (0 ≤ n.toInt ∧ n.toInt ≤ 24 ∧ gC σ 14 = gC σ 13) (F (gC σ 13) (mkRow σ kd n))
noncomputable def mkStream (σ : rS) : rS := olet (gC σ 15) fun i => sC (sC (sN (sRr (sRr (sIr (sIr σ 15 i (fun _ => 0)) 16 i (fun _ => 0)) 15 i (fun _ => none)) 16 i (fun _ => none)) 16 i 400) 15 (i + 1)) 16 (i + 1)
noncomputable def newStream {α : Type} (σ : rS) (F : Nat → rS → Option α) : Option α := ock (gC σ 16 = gC σ 15) (F (gC σ 15) (mkStream σ))
noncomputable def mkBody (σ : rS) : rS := olet (gC σ 20) fun i => sC (sC (sN (sRr (sRr (sIr (sIr σ 20 i (fun _ => 0)) 21 i (fun _ => 0)) 20 i (fun _ => none)) 21 i (fun _ => none)) 21 i 400) 20 (i + 1)) 21 (i + 1)
noncomputable def newBody {α : Type} (σ : rS) (F : Nat → rS → Option α) : Option α := ock (gC σ 21 = gC σ 20) (F (gC σ 20) (mkBody σ))
noncomputable def mkHouse (σ : rS) : rS := olet (gC σ 17) fun i => sC (sC (sC (sN (sN (sRr (sRr (sRr (sLr (sIr σ 17 i (fun _ => 0)) 18 i (fun _ => 0)) 17 i (fun _ => none)) 18 i (fun _ => none)) 19 i (fun _ => none)) 18 i 12) 19 i 12) 17 (i + 1)) 18 (i + 1)) 19 (i + 1)
noncomputable def newHouse {α : Type} (σ : rS) (F : Nat → rS → Option α) : Option α := ock (gC σ 18 = gC σ 17 ∧ gC σ 19 = gC σ 17) (F (gC σ 17) (mkHouse σ))
noncomputable def mkDelta (σ : rS) (a b n : Int32) : rS := olet (gC σ 22) fun i => sC (sC (sC (sC (sN (sN (sN (sRr (sRr (sRr (sRr (sIr (sIr (sIr (sI (sI (sIr σ 22 i (fun _ => 0)) 22 i 0 a) 22 i 1 b) 23 i (fun _ => 0)) 24 i (fun _ => 0)) 25 i (fun _ => 0)) 22 i (fun _ => none)) 23 i (fun _ => none)) 24 i (fun _ => none)) 25 i (fun _ => none)) 23 i n.toNatClampNeg) 24 i n.toNatClampNeg) 25 i n.toNatClampNeg) 22 (i + 1)) 23 (i + 1)) 24 (i + 1)) 25 (i + 1)
set_option maxHeartbeats 4000000 in
theorem ad_Row {σ : rS} {kd n : Int32} (c14 : gC σ 14 = gC σ 13) (D : va_G) (dA : Nat → ClassId) (A : Nat → Prop) (ad ad' : Nat → Nat → Nat) (ws xs : va_W) (H : Heap) (q : Nat) (hC : Cov dA σ ad' ws) (hP : va_P D vwCl (ws ++ xs) H) (hD : va_D A (ws ++ xs)) (hpo : ∃ q1 : Nat, xs = [(q, .inr (5, [.int kd, .ref q1, .int 0])), (q1, .inl (dA 14, n.toNatClampNeg, .inr (.inl (fun _ => 0))))]) : ∃ bd, Rh D dA A (mkRow σ kd n) bd H ∧ Ex σ ad' (mkRow σ kd n) bd ∧ bd 13 (gC σ 13) = q := by
  obtain ⟨q1, rfl⟩ := hpo
  have hcnt : ∀ t, gC (mkRow σ kd n) t = if t = 14 then gC σ 13 + 1 else if t = 13 then gC σ 13 + 1 else gC σ t := fun t => rfl
  have hne : ∀ k i, i < gC σ k → ¬ (k = 13 ∧ i = gC σ 13) ∧ ¬ (k = 14 ∧ i = gC σ 13) := by
    intro k i h
    refine ⟨?_, ?_⟩ <;> (rintro ⟨rfl, rfl⟩; omega)
  have hbd : ∀ k i, i < gC σ k → (fun k i => if k = 13 ∧ i = gC σ 13 then q else if k = 14 ∧ i = gC σ 13 then q1 else ad' k i) k i = ad' k i := by
    intro k i h
    obtain ⟨n0, n1⟩ := hne k i h
    simp only [if_neg n0, if_neg n1]
  have hnw : ∀ k i, i < gC (mkRow σ kd n) k → ¬ i < gC σ k → (k = 13 ∧ i = gC σ 13) ∨ (k = 14 ∧ i = gC σ 13) := by
    intro k i h1 h2
    rw [hcnt] at h1
    by_cases z14 : k = 14
    · subst z14
      simp at h1
      omega
    by_cases z13 : k = 13
    · subst z13
      simp at h1
      omega
    simp only [if_neg z14, if_neg z13] at h1
    exact absurd h1 h2
  have hE : Ex σ ad' (mkRow σ kd n) (fun k i => if k = 13 ∧ i = gC σ 13 then q else if k = 14 ∧ i = gC σ 13 then q1 else ad' k i) := by
    intro k i h
    refine ⟨?_, hbd k i h⟩
    rw [hcnt]
    by_cases z14 : k = 14
    · subst z14
      simp
      omega
    by_cases z13 : k = 13
    · subst z13
      simp
      omega
    simp only [if_neg z14, if_neg z13]
    exact h
  have hold : ∀ k i, i < gC σ k → ent dA (mkRow σ kd n) (fun k i => if k = 13 ∧ i = gC σ 13 then q else if k = 14 ∧ i = gC σ 13 then q1 else ad' k i) k i = ent dA σ ad' k i := by
    intro k i h
    obtain ⟨n0, n1⟩ := hne k i h
    have m : ∀ (t : Nat) (x y : Nat), ¬ (k = t ∧ i = gC σ 13) → ¬ (k = t ∧ i = gC σ 13 ∧ x = y) := fun t x y h z => h ⟨z.1, z.2.1⟩
    exact ent_old hC.2.1 h (fun x => by simp [mkRow, olet, gI_sI, gI_sIr, gI_sL, gI_sLr, gI_sR, gI_sRr, gI_sN, gI_sC, gL_sI, gL_sIr, gL_sL, gL_sLr, gL_sR, gL_sRr, gL_sN, gL_sC, gR_sI, gR_sIr, gR_sL, gR_sLr, gR_sR, gR_sRr, gR_sN, gR_sC, gN_sI, gN_sIr, gN_sL, gN_sLr, gN_sR, gN_sRr, gN_sN, gN_sC, gC_sI, gC_sIr, gC_sL, gC_sLr, gC_sR, gC_sRr, gC_sN, gC_sC, n0, n1, m 13 _ _ n0, m 14 _ _ n1]) (fun x => by simp [mkRow, olet, gI_sI, gI_sIr, gI_sL, gI_sLr, gI_sR, gI_sRr, gI_sN, gI_sC, gL_sI, gL_sIr, gL_sL, gL_sLr, gL_sR, gL_sRr, gL_sN, gL_sC, gR_sI, gR_sIr, gR_sL, gR_sLr, gR_sR, gR_sRr, gR_sN, gR_sC, gN_sI, gN_sIr, gN_sL, gN_sLr, gN_sR, gN_sRr, gN_sN, gN_sC, gC_sI, gC_sIr, gC_sL, gC_sLr, gC_sR, gC_sRr, gC_sN, gC_sC, n0, n1, m 13 _ _ n0, m 14 _ _ n1]) (fun x => by simp [mkRow, olet, gI_sI, gI_sIr, gI_sL, gI_sLr, gI_sR, gI_sRr, gI_sN, gI_sC, gL_sI, gL_sIr, gL_sL, gL_sLr, gL_sR, gL_sRr, gL_sN, gL_sC, gR_sI, gR_sIr, gR_sL, gR_sLr, gR_sR, gR_sRr, gR_sN, gR_sC, gN_sI, gN_sIr, gN_sL, gN_sLr, gN_sR, gN_sRr, gN_sN, gN_sC, gC_sI, gC_sIr, gC_sL, gC_sLr, gC_sR, gC_sRr, gC_sN, gC_sC, n0, n1, m 13 _ _ n0, m 14 _ _ n1]) (by simp [mkRow, olet, gI_sI, gI_sIr, gI_sL, gI_sLr, gI_sR, gI_sRr, gI_sN, gI_sC, gL_sI, gL_sIr, gL_sL, gL_sLr, gL_sR, gL_sRr, gL_sN, gL_sC, gR_sI, gR_sIr, gR_sL, gR_sLr, gR_sR, gR_sRr, gR_sN, gR_sC, gN_sI, gN_sIr, gN_sL, gN_sLr, gN_sR, gN_sRr, gN_sN, gN_sC, gC_sI, gC_sIr, gC_sL, gC_sLr, gC_sR, gC_sRr, gC_sN, gC_sC, n0, n1, m 13 _ _ n0, m 14 _ _ n1]) hbd
  have e13 : ((fun k i => if k = 13 ∧ i = gC σ 13 then q else if k = 14 ∧ i = gC σ 13 then q1 else ad' k i) 13 (gC σ 13), ent dA (mkRow σ kd n) (fun k i => if k = 13 ∧ i = gC σ 13 then q else if k = 14 ∧ i = gC σ 13 then q1 else ad' k i) 13 (gC σ 13)) = (q, .inr (5, [.int kd, .ref q1, .int 0])) := by
    simp [mkRow, olet, gI_sI, gI_sIr, gI_sL, gI_sLr, gI_sR, gI_sRr, gI_sN, gI_sC, gL_sI, gL_sIr, gL_sL, gL_sLr, gL_sR, gL_sRr, gL_sN, gL_sC, gR_sI, gR_sIr, gR_sL, gR_sLr, gR_sR, gR_sRr, gR_sN, gR_sC, gN_sI, gN_sIr, gN_sL, gN_sLr, gN_sR, gN_sRr, gN_sN, gN_sC, gC_sI, gC_sIr, gC_sL, gC_sLr, gC_sR, gC_sRr, gC_sN, gC_sC, ent, lyO, lyA, enA, fvs, fv, va_rf]
  have e14 : ((fun k i => if k = 13 ∧ i = gC σ 13 then q else if k = 14 ∧ i = gC σ 13 then q1 else ad' k i) 14 (gC σ 13), ent dA (mkRow σ kd n) (fun k i => if k = 13 ∧ i = gC σ 13 then q else if k = 14 ∧ i = gC σ 13 then q1 else ad' k i) 14 (gC σ 13)) = (q1, .inl (dA 14, n.toNatClampNeg, .inr (.inl (fun _ => 0)))) := by
    simp [mkRow, olet, gI_sI, gI_sIr, gI_sL, gI_sLr, gI_sR, gI_sRr, gI_sN, gI_sC, gL_sI, gL_sIr, gL_sL, gL_sLr, gL_sR, gL_sRr, gL_sN, gL_sC, gR_sI, gR_sIr, gR_sL, gR_sLr, gR_sR, gR_sRr, gR_sN, gR_sC, gN_sI, gN_sIr, gN_sL, gN_sLr, gN_sR, gN_sRr, gN_sN, gN_sC, gC_sI, gC_sIr, gC_sL, gC_sLr, gC_sR, gC_sRr, gC_sN, gC_sC, ent, lyO, lyA, enA, fvs, fv, va_rf]
  refine ⟨fun k i => if k = 13 ∧ i = gC σ 13 then q else if k = 14 ∧ i = gC σ 13 then q1 else ad' k i, rh_adopt hC hP hD.1 (fun k i h => ⟨(hE k i h).1, (hE k i h).2, hold k i h⟩) (fun k i h1 h2 => ?_) (fun j e he => ?_) ?_ (fun k i k' i' h1 h2 h3 h4 he => ?_) (fun k i h => ?_), hE, by simp⟩
  · rcases hnw k i h1 h2 with ⟨rfl, rfl⟩ | ⟨rfl, rfl⟩
    · exact ⟨0, by rw [e13]; rfl⟩
    · exact ⟨1, by rw [e14]; rfl⟩
  · match j, he with
    | 0, he => cases he; exact ⟨13, gC σ 13, by rw [hcnt]; simp, by exact Nat.lt_irrefl _, e13.symm⟩
    | 1, he => cases he; exact ⟨14, gC σ 13, by rw [hcnt]; simp, by omega, e14.symm⟩
    | j + 2, he => simp at he
  · refine ⟨fun k i x j h hj => ?_, fun k i w x t h hk hx => ?_⟩
    · by_cases g : i < gC σ k
      · have hj2 : gR σ k i x = some j := by
          obtain ⟨n0, n1⟩ := hne k i g
          have m : ∀ (t : Nat) (x y : Nat), ¬ (k = t ∧ i = gC σ 13) → ¬ (k = t ∧ i = gC σ 13 ∧ x = y) := fun t x y h z => h ⟨z.1, z.2.1⟩
          simpa [mkRow, olet, gI_sI, gI_sIr, gI_sL, gI_sLr, gI_sR, gI_sRr, gI_sN, gI_sC, gL_sI, gL_sIr, gL_sL, gL_sLr, gL_sR, gL_sRr, gL_sN, gL_sC, gR_sI, gR_sIr, gR_sL, gR_sLr, gR_sR, gR_sRr, gR_sN, gR_sC, gN_sI, gN_sIr, gN_sL, gN_sLr, gN_sR, gN_sRr, gN_sN, gN_sC, gC_sI, gC_sIr, gC_sL, gC_sLr, gC_sR, gC_sRr, gC_sN, gC_sC, n0, n1, m 13 _ _ n0, m 14 _ _ n1] using hj
        exact (hE _ _ (hC.2.1.1 k i x j g hj2)).1
      · rcases hnw k i h g with ⟨rfl, rfl⟩ | ⟨rfl, rfl⟩ <;> (exfalso; revert hj; simp [mkRow, olet, gI_sI, gI_sIr, gI_sL, gI_sLr, gI_sR, gI_sRr, gI_sN, gI_sC, gL_sI, gL_sIr, gL_sL, gL_sLr, gL_sR, gL_sRr, gL_sN, gL_sC, gR_sI, gR_sIr, gR_sL, gR_sLr, gR_sR, gR_sRr, gR_sN, gR_sC, gN_sI, gN_sIr, gN_sL, gN_sLr, gN_sR, gN_sRr, gN_sN, gN_sC, gC_sI, gC_sIr, gC_sL, gC_sLr, gC_sR, gC_sRr, gC_sN, gC_sC])
    · by_cases g : i < gC σ k
      · exact (hE _ _ (hC.2.1.2 k i w x t g hk hx)).1
      · rcases hnw k i h g with ⟨rfl, rfl⟩ | ⟨rfl, rfl⟩
        · cases hk
          match x, hx with
          | 0, hx => cases hx
          | 1, hx => cases hx; rw [hcnt]; simp
          | 2, hx => cases hx
          | x + 3, hx => simp at hx
        · cases hk
  · have hx0 := hD.1
    have hw : ∀ (a' b' : Nat) (x y : Nat × va_E), ([(q, .inr (5, [.int kd, .ref q1, .int 0])), (q1, .inl (dA 14, n.toNatClampNeg, .inr (.inl (fun _ => 0))))] : va_W)[a']? = some x → ([(q, .inr (5, [.int kd, .ref q1, .int 0])), (q1, .inl (dA 14, n.toNatClampNeg, .inr (.inl (fun _ => 0))))] : va_W)[b']? = some y → x.1 = y.1 → a' = b' := fun a' b' x y h1 h2 h3 => by have := hD.1 (ws.length + a') (ws.length + b') x y (ws_get h1) (ws_get h2) h3; omega
    rcases hnw k i h1 h2 with ⟨rfl, rfl⟩ | ⟨rfl, rfl⟩ <;> rcases hnw k' i' h3 h4 with ⟨rfl, rfl⟩ | ⟨rfl, rfl⟩
    · exact ⟨rfl, rfl⟩
    · exact absurd (hw 0 1 _ _ rfl rfl (by simpa using he)) (by decide)
    · exact absurd (hw 1 0 _ _ rfl rfl (by simpa using he)) (by decide)
    · exact ⟨rfl, rfl⟩
  · by_cases g : i < gC σ k
    · show A ((fun k i => if k = 13 ∧ i = gC σ 13 then q else if k = 14 ∧ i = gC σ 13 then q1 else ad' k i) k i)
      rw [hbd k i g]
      obtain ⟨z, hz⟩ := hC.2.2.1 k i g
      exact hD.2 z _ (by rw [List.getElem?_append_left (List.getElem?_eq_some_iff.mp hz).1]; exact hz)
    · rcases hnw k i h g with ⟨rfl, rfl⟩ | ⟨rfl, rfl⟩
      · have hz := hD.2 (ws.length + 0) _ (ws_get (xs := [(q, .inr (5, [.int kd, .ref q1, .int 0])), (q1, .inl (dA 14, n.toNatClampNeg, .inr (.inl (fun _ => 0))))]) (j := 0) rfl)
        simpa using hz
      · have hz := hD.2 (ws.length + 1) _ (ws_get (xs := [(q, .inr (5, [.int kd, .ref q1, .int 0])), (q1, .inl (dA 14, n.toNatClampNeg, .inr (.inl (fun _ => 0))))]) (j := 1) rfl)
        simpa using hz
set_option maxHeartbeats 4000000 in
theorem ad_Stream {σ : rS} (c16 : gC σ 16 = gC σ 15) (D : va_G) (dA : Nat → ClassId) (A : Nat → Prop) (ad ad' : Nat → Nat → Nat) (ws xs : va_W) (H : Heap) (q : Nat) (hC : Cov dA σ ad' ws) (hP : va_P D vwCl (ws ++ xs) H) (hD : va_D A (ws ++ xs)) (hpo : ∃ q1 : Nat, xs = [(q, .inr (7, [.ref q1, .int 0, .int 0, .int 0])), (q1, .inl (dA 16, 400, .inl (fun _ => 0)))]) : ∃ bd, Rh D dA A (mkStream σ) bd H ∧ Ex σ ad' (mkStream σ) bd ∧ bd 15 (gC σ 15) = q := by
  obtain ⟨q1, rfl⟩ := hpo
  have hcnt : ∀ t, gC (mkStream σ) t = if t = 16 then gC σ 15 + 1 else if t = 15 then gC σ 15 + 1 else gC σ t := fun t => rfl
  have hne : ∀ k i, i < gC σ k → ¬ (k = 15 ∧ i = gC σ 15) ∧ ¬ (k = 16 ∧ i = gC σ 15) := by
    intro k i h
    refine ⟨?_, ?_⟩ <;> (rintro ⟨rfl, rfl⟩; omega)
  have hbd : ∀ k i, i < gC σ k → (fun k i => if k = 15 ∧ i = gC σ 15 then q else if k = 16 ∧ i = gC σ 15 then q1 else ad' k i) k i = ad' k i := by
    intro k i h
    obtain ⟨n0, n1⟩ := hne k i h
    simp only [if_neg n0, if_neg n1]
  have hnw : ∀ k i, i < gC (mkStream σ) k → ¬ i < gC σ k → (k = 15 ∧ i = gC σ 15) ∨ (k = 16 ∧ i = gC σ 15) := by
    intro k i h1 h2
    rw [hcnt] at h1
    by_cases z16 : k = 16
    · subst z16
      simp at h1
      omega
    by_cases z15 : k = 15
    · subst z15
      simp at h1
      omega
    simp only [if_neg z16, if_neg z15] at h1
    exact absurd h1 h2
  have hE : Ex σ ad' (mkStream σ) (fun k i => if k = 15 ∧ i = gC σ 15 then q else if k = 16 ∧ i = gC σ 15 then q1 else ad' k i) := by
    intro k i h
    refine ⟨?_, hbd k i h⟩
    rw [hcnt]
    by_cases z16 : k = 16
    · subst z16
      simp
      omega
    by_cases z15 : k = 15
    · subst z15
      simp
      omega
    simp only [if_neg z16, if_neg z15]
    exact h
  have hold : ∀ k i, i < gC σ k → ent dA (mkStream σ) (fun k i => if k = 15 ∧ i = gC σ 15 then q else if k = 16 ∧ i = gC σ 15 then q1 else ad' k i) k i = ent dA σ ad' k i := by
    intro k i h
    obtain ⟨n0, n1⟩ := hne k i h
    have m : ∀ (t : Nat) (x y : Nat), ¬ (k = t ∧ i = gC σ 15) → ¬ (k = t ∧ i = gC σ 15 ∧ x = y) := fun t x y h z => h ⟨z.1, z.2.1⟩
    exact ent_old hC.2.1 h (fun x => by simp [mkStream, olet, gI_sI, gI_sIr, gI_sL, gI_sLr, gI_sR, gI_sRr, gI_sN, gI_sC, gL_sI, gL_sIr, gL_sL, gL_sLr, gL_sR, gL_sRr, gL_sN, gL_sC, gR_sI, gR_sIr, gR_sL, gR_sLr, gR_sR, gR_sRr, gR_sN, gR_sC, gN_sI, gN_sIr, gN_sL, gN_sLr, gN_sR, gN_sRr, gN_sN, gN_sC, gC_sI, gC_sIr, gC_sL, gC_sLr, gC_sR, gC_sRr, gC_sN, gC_sC, n0, n1, m 15 _ _ n0, m 16 _ _ n1]) (fun x => by simp [mkStream, olet, gI_sI, gI_sIr, gI_sL, gI_sLr, gI_sR, gI_sRr, gI_sN, gI_sC, gL_sI, gL_sIr, gL_sL, gL_sLr, gL_sR, gL_sRr, gL_sN, gL_sC, gR_sI, gR_sIr, gR_sL, gR_sLr, gR_sR, gR_sRr, gR_sN, gR_sC, gN_sI, gN_sIr, gN_sL, gN_sLr, gN_sR, gN_sRr, gN_sN, gN_sC, gC_sI, gC_sIr, gC_sL, gC_sLr, gC_sR, gC_sRr, gC_sN, gC_sC, n0, n1, m 15 _ _ n0, m 16 _ _ n1]) (fun x => by simp [mkStream, olet, gI_sI, gI_sIr, gI_sL, gI_sLr, gI_sR, gI_sRr, gI_sN, gI_sC, gL_sI, gL_sIr, gL_sL, gL_sLr, gL_sR, gL_sRr, gL_sN, gL_sC, gR_sI, gR_sIr, gR_sL, gR_sLr, gR_sR, gR_sRr, gR_sN, gR_sC, gN_sI, gN_sIr, gN_sL, gN_sLr, gN_sR, gN_sRr, gN_sN, gN_sC, gC_sI, gC_sIr, gC_sL, gC_sLr, gC_sR, gC_sRr, gC_sN, gC_sC, n0, n1, m 15 _ _ n0, m 16 _ _ n1]) (by simp [mkStream, olet, gI_sI, gI_sIr, gI_sL, gI_sLr, gI_sR, gI_sRr, gI_sN, gI_sC, gL_sI, gL_sIr, gL_sL, gL_sLr, gL_sR, gL_sRr, gL_sN, gL_sC, gR_sI, gR_sIr, gR_sL, gR_sLr, gR_sR, gR_sRr, gR_sN, gR_sC, gN_sI, gN_sIr, gN_sL, gN_sLr, gN_sR, gN_sRr, gN_sN, gN_sC, gC_sI, gC_sIr, gC_sL, gC_sLr, gC_sR, gC_sRr, gC_sN, gC_sC, n0, n1, m 15 _ _ n0, m 16 _ _ n1]) hbd
  have e15 : ((fun k i => if k = 15 ∧ i = gC σ 15 then q else if k = 16 ∧ i = gC σ 15 then q1 else ad' k i) 15 (gC σ 15), ent dA (mkStream σ) (fun k i => if k = 15 ∧ i = gC σ 15 then q else if k = 16 ∧ i = gC σ 15 then q1 else ad' k i) 15 (gC σ 15)) = (q, .inr (7, [.ref q1, .int 0, .int 0, .int 0])) := by
    simp [mkStream, olet, gI_sI, gI_sIr, gI_sL, gI_sLr, gI_sR, gI_sRr, gI_sN, gI_sC, gL_sI, gL_sIr, gL_sL, gL_sLr, gL_sR, gL_sRr, gL_sN, gL_sC, gR_sI, gR_sIr, gR_sL, gR_sLr, gR_sR, gR_sRr, gR_sN, gR_sC, gN_sI, gN_sIr, gN_sL, gN_sLr, gN_sR, gN_sRr, gN_sN, gN_sC, gC_sI, gC_sIr, gC_sL, gC_sLr, gC_sR, gC_sRr, gC_sN, gC_sC, ent, lyO, lyA, enA, fvs, fv, va_rf]
  have e16 : ((fun k i => if k = 15 ∧ i = gC σ 15 then q else if k = 16 ∧ i = gC σ 15 then q1 else ad' k i) 16 (gC σ 15), ent dA (mkStream σ) (fun k i => if k = 15 ∧ i = gC σ 15 then q else if k = 16 ∧ i = gC σ 15 then q1 else ad' k i) 16 (gC σ 15)) = (q1, .inl (dA 16, 400, .inl (fun _ => 0))) := by
    simp [mkStream, olet, gI_sI, gI_sIr, gI_sL, gI_sLr, gI_sR, gI_sRr, gI_sN, gI_sC, gL_sI, gL_sIr, gL_sL, gL_sLr, gL_sR, gL_sRr, gL_sN, gL_sC, gR_sI, gR_sIr, gR_sL, gR_sLr, gR_sR, gR_sRr, gR_sN, gR_sC, gN_sI, gN_sIr, gN_sL, gN_sLr, gN_sR, gN_sRr, gN_sN, gN_sC, gC_sI, gC_sIr, gC_sL, gC_sLr, gC_sR, gC_sRr, gC_sN, gC_sC, ent, lyO, lyA, enA, fvs, fv, va_rf]
  refine ⟨fun k i => if k = 15 ∧ i = gC σ 15 then q else if k = 16 ∧ i = gC σ 15 then q1 else ad' k i, rh_adopt hC hP hD.1 (fun k i h => ⟨(hE k i h).1, (hE k i h).2, hold k i h⟩) (fun k i h1 h2 => ?_) (fun j e he => ?_) ?_ (fun k i k' i' h1 h2 h3 h4 he => ?_) (fun k i h => ?_), hE, by simp⟩
  · rcases hnw k i h1 h2 with ⟨rfl, rfl⟩ | ⟨rfl, rfl⟩
    · exact ⟨0, by rw [e15]; rfl⟩
    · exact ⟨1, by rw [e16]; rfl⟩
  · match j, he with
    | 0, he => cases he; exact ⟨15, gC σ 15, by rw [hcnt]; simp, by exact Nat.lt_irrefl _, e15.symm⟩
    | 1, he => cases he; exact ⟨16, gC σ 15, by rw [hcnt]; simp, by omega, e16.symm⟩
    | j + 2, he => simp at he
  · refine ⟨fun k i x j h hj => ?_, fun k i w x t h hk hx => ?_⟩
    · by_cases g : i < gC σ k
      · have hj2 : gR σ k i x = some j := by
          obtain ⟨n0, n1⟩ := hne k i g
          have m : ∀ (t : Nat) (x y : Nat), ¬ (k = t ∧ i = gC σ 15) → ¬ (k = t ∧ i = gC σ 15 ∧ x = y) := fun t x y h z => h ⟨z.1, z.2.1⟩
          simpa [mkStream, olet, gI_sI, gI_sIr, gI_sL, gI_sLr, gI_sR, gI_sRr, gI_sN, gI_sC, gL_sI, gL_sIr, gL_sL, gL_sLr, gL_sR, gL_sRr, gL_sN, gL_sC, gR_sI, gR_sIr, gR_sL, gR_sLr, gR_sR, gR_sRr, gR_sN, gR_sC, gN_sI, gN_sIr, gN_sL, gN_sLr, gN_sR, gN_sRr, gN_sN, gN_sC, gC_sI, gC_sIr, gC_sL, gC_sLr, gC_sR, gC_sRr, gC_sN, gC_sC, n0, n1, m 15 _ _ n0, m 16 _ _ n1] using hj
        exact (hE _ _ (hC.2.1.1 k i x j g hj2)).1
      · rcases hnw k i h g with ⟨rfl, rfl⟩ | ⟨rfl, rfl⟩ <;> (exfalso; revert hj; simp [mkStream, olet, gI_sI, gI_sIr, gI_sL, gI_sLr, gI_sR, gI_sRr, gI_sN, gI_sC, gL_sI, gL_sIr, gL_sL, gL_sLr, gL_sR, gL_sRr, gL_sN, gL_sC, gR_sI, gR_sIr, gR_sL, gR_sLr, gR_sR, gR_sRr, gR_sN, gR_sC, gN_sI, gN_sIr, gN_sL, gN_sLr, gN_sR, gN_sRr, gN_sN, gN_sC, gC_sI, gC_sIr, gC_sL, gC_sLr, gC_sR, gC_sRr, gC_sN, gC_sC])
    · by_cases g : i < gC σ k
      · exact (hE _ _ (hC.2.1.2 k i w x t g hk hx)).1
      · rcases hnw k i h g with ⟨rfl, rfl⟩ | ⟨rfl, rfl⟩
        · cases hk
          match x, hx with
          | 0, hx => cases hx; rw [hcnt]; simp
          | 1, hx => cases hx
          | 2, hx => cases hx
          | 3, hx => cases hx
          | x + 4, hx => simp at hx
        · cases hk
  · have hx0 := hD.1
    have hw : ∀ (a' b' : Nat) (x y : Nat × va_E), ([(q, .inr (7, [.ref q1, .int 0, .int 0, .int 0])), (q1, .inl (dA 16, 400, .inl (fun _ => 0)))] : va_W)[a']? = some x → ([(q, .inr (7, [.ref q1, .int 0, .int 0, .int 0])), (q1, .inl (dA 16, 400, .inl (fun _ => 0)))] : va_W)[b']? = some y → x.1 = y.1 → a' = b' := fun a' b' x y h1 h2 h3 => by have := hD.1 (ws.length + a') (ws.length + b') x y (ws_get h1) (ws_get h2) h3; omega
    rcases hnw k i h1 h2 with ⟨rfl, rfl⟩ | ⟨rfl, rfl⟩ <;> rcases hnw k' i' h3 h4 with ⟨rfl, rfl⟩ | ⟨rfl, rfl⟩
    · exact ⟨rfl, rfl⟩
    · exact absurd (hw 0 1 _ _ rfl rfl (by simpa using he)) (by decide)
    · exact absurd (hw 1 0 _ _ rfl rfl (by simpa using he)) (by decide)
    · exact ⟨rfl, rfl⟩
  · by_cases g : i < gC σ k
    · show A ((fun k i => if k = 15 ∧ i = gC σ 15 then q else if k = 16 ∧ i = gC σ 15 then q1 else ad' k i) k i)
      rw [hbd k i g]
      obtain ⟨z, hz⟩ := hC.2.2.1 k i g
      exact hD.2 z _ (by rw [List.getElem?_append_left (List.getElem?_eq_some_iff.mp hz).1]; exact hz)
    · rcases hnw k i h g with ⟨rfl, rfl⟩ | ⟨rfl, rfl⟩
      · have hz := hD.2 (ws.length + 0) _ (ws_get (xs := [(q, .inr (7, [.ref q1, .int 0, .int 0, .int 0])), (q1, .inl (dA 16, 400, .inl (fun _ => 0)))]) (j := 0) rfl)
        simpa using hz
      · have hz := hD.2 (ws.length + 1) _ (ws_get (xs := [(q, .inr (7, [.ref q1, .int 0, .int 0, .int 0])), (q1, .inl (dA 16, 400, .inl (fun _ => 0)))]) (j := 1) rfl)
        simpa using hz
set_option maxHeartbeats 4000000 in
theorem ad_Body {σ : rS} (c21 : gC σ 21 = gC σ 20) (D : va_G) (dA : Nat → ClassId) (A : Nat → Prop) (ad ad' : Nat → Nat → Nat) (ws xs : va_W) (H : Heap) (q : Nat) (hC : Cov dA σ ad' ws) (hP : va_P D vwCl (ws ++ xs) H) (hD : va_D A (ws ++ xs)) (hpo : ∃ q1 : Nat, xs = [(q, .inr (0, [.ref q1, .int 0, .int 0, .int 0])), (q1, .inl (dA 21, 400, .inl (fun _ => 0)))]) : ∃ bd, Rh D dA A (mkBody σ) bd H ∧ Ex σ ad' (mkBody σ) bd ∧ bd 20 (gC σ 20) = q := by
  obtain ⟨q1, rfl⟩ := hpo
  have hcnt : ∀ t, gC (mkBody σ) t = if t = 21 then gC σ 20 + 1 else if t = 20 then gC σ 20 + 1 else gC σ t := fun t => rfl
  have hne : ∀ k i, i < gC σ k → ¬ (k = 20 ∧ i = gC σ 20) ∧ ¬ (k = 21 ∧ i = gC σ 20) := by
    intro k i h
    refine ⟨?_, ?_⟩ <;> (rintro ⟨rfl, rfl⟩; omega)
  have hbd : ∀ k i, i < gC σ k → (fun k i => if k = 20 ∧ i = gC σ 20 then q else if k = 21 ∧ i = gC σ 20 then q1 else ad' k i) k i = ad' k i := by
    intro k i h
    obtain ⟨n0, n1⟩ := hne k i h
    simp only [if_neg n0, if_neg n1]
  have hnw : ∀ k i, i < gC (mkBody σ) k → ¬ i < gC σ k → (k = 20 ∧ i = gC σ 20) ∨ (k = 21 ∧ i = gC σ 20) := by
    intro k i h1 h2
    rw [hcnt] at h1
    by_cases z21 : k = 21
    · subst z21
      simp at h1
      omega
    by_cases z20 : k = 20
    · subst z20
      simp at h1
      omega
    simp only [if_neg z21, if_neg z20] at h1
    exact absurd h1 h2
  have hE : Ex σ ad' (mkBody σ) (fun k i => if k = 20 ∧ i = gC σ 20 then q else if k = 21 ∧ i = gC σ 20 then q1 else ad' k i) := by
    intro k i h
    refine ⟨?_, hbd k i h⟩
    rw [hcnt]
    by_cases z21 : k = 21
    · subst z21
      simp
      omega
    by_cases z20 : k = 20
    · subst z20
      simp
      omega
    simp only [if_neg z21, if_neg z20]
    exact h
  have hold : ∀ k i, i < gC σ k → ent dA (mkBody σ) (fun k i => if k = 20 ∧ i = gC σ 20 then q else if k = 21 ∧ i = gC σ 20 then q1 else ad' k i) k i = ent dA σ ad' k i := by
    intro k i h
    obtain ⟨n0, n1⟩ := hne k i h
    have m : ∀ (t : Nat) (x y : Nat), ¬ (k = t ∧ i = gC σ 20) → ¬ (k = t ∧ i = gC σ 20 ∧ x = y) := fun t x y h z => h ⟨z.1, z.2.1⟩
    exact ent_old hC.2.1 h (fun x => by simp [mkBody, olet, gI_sI, gI_sIr, gI_sL, gI_sLr, gI_sR, gI_sRr, gI_sN, gI_sC, gL_sI, gL_sIr, gL_sL, gL_sLr, gL_sR, gL_sRr, gL_sN, gL_sC, gR_sI, gR_sIr, gR_sL, gR_sLr, gR_sR, gR_sRr, gR_sN, gR_sC, gN_sI, gN_sIr, gN_sL, gN_sLr, gN_sR, gN_sRr, gN_sN, gN_sC, gC_sI, gC_sIr, gC_sL, gC_sLr, gC_sR, gC_sRr, gC_sN, gC_sC, n0, n1, m 20 _ _ n0, m 21 _ _ n1]) (fun x => by simp [mkBody, olet, gI_sI, gI_sIr, gI_sL, gI_sLr, gI_sR, gI_sRr, gI_sN, gI_sC, gL_sI, gL_sIr, gL_sL, gL_sLr, gL_sR, gL_sRr, gL_sN, gL_sC, gR_sI, gR_sIr, gR_sL, gR_sLr, gR_sR, gR_sRr, gR_sN, gR_sC, gN_sI, gN_sIr, gN_sL, gN_sLr, gN_sR, gN_sRr, gN_sN, gN_sC, gC_sI, gC_sIr, gC_sL, gC_sLr, gC_sR, gC_sRr, gC_sN, gC_sC, n0, n1, m 20 _ _ n0, m 21 _ _ n1]) (fun x => by simp [mkBody, olet, gI_sI, gI_sIr, gI_sL, gI_sLr, gI_sR, gI_sRr, gI_sN, gI_sC, gL_sI, gL_sIr, gL_sL, gL_sLr, gL_sR, gL_sRr, gL_sN, gL_sC, gR_sI, gR_sIr, gR_sL, gR_sLr, gR_sR, gR_sRr, gR_sN, gR_sC, gN_sI, gN_sIr, gN_sL, gN_sLr, gN_sR, gN_sRr, gN_sN, gN_sC, gC_sI, gC_sIr, gC_sL, gC_sLr, gC_sR, gC_sRr, gC_sN, gC_sC, n0, n1, m 20 _ _ n0, m 21 _ _ n1]) (by simp [mkBody, olet, gI_sI, gI_sIr, gI_sL, gI_sLr, gI_sR, gI_sRr, gI_sN, gI_sC, gL_sI, gL_sIr, gL_sL, gL_sLr, gL_sR, gL_sRr, gL_sN, gL_sC, gR_sI, gR_sIr, gR_sL, gR_sLr, gR_sR, gR_sRr, gR_sN, gR_sC, gN_sI, gN_sIr, gN_sL, gN_sLr, gN_sR, gN_sRr, gN_sN, gN_sC, gC_sI, gC_sIr, gC_sL, gC_sLr, gC_sR, gC_sRr, gC_sN, gC_sC, n0, n1, m 20 _ _ n0, m 21 _ _ n1]) hbd
  have e20 : ((fun k i => if k = 20 ∧ i = gC σ 20 then q else if k = 21 ∧ i = gC σ 20 then q1 else ad' k i) 20 (gC σ 20), ent dA (mkBody σ) (fun k i => if k = 20 ∧ i = gC σ 20 then q else if k = 21 ∧ i = gC σ 20 then q1 else ad' k i) 20 (gC σ 20)) = (q, .inr (0, [.ref q1, .int 0, .int 0, .int 0])) := by
    simp [mkBody, olet, gI_sI, gI_sIr, gI_sL, gI_sLr, gI_sR, gI_sRr, gI_sN, gI_sC, gL_sI, gL_sIr, gL_sL, gL_sLr, gL_sR, gL_sRr, gL_sN, gL_sC, gR_sI, gR_sIr, gR_sL, gR_sLr, gR_sR, gR_sRr, gR_sN, gR_sC, gN_sI, gN_sIr, gN_sL, gN_sLr, gN_sR, gN_sRr, gN_sN, gN_sC, gC_sI, gC_sIr, gC_sL, gC_sLr, gC_sR, gC_sRr, gC_sN, gC_sC, ent, lyO, lyA, enA, fvs, fv, va_rf]
  have e21 : ((fun k i => if k = 20 ∧ i = gC σ 20 then q else if k = 21 ∧ i = gC σ 20 then q1 else ad' k i) 21 (gC σ 20), ent dA (mkBody σ) (fun k i => if k = 20 ∧ i = gC σ 20 then q else if k = 21 ∧ i = gC σ 20 then q1 else ad' k i) 21 (gC σ 20)) = (q1, .inl (dA 21, 400, .inl (fun _ => 0))) := by
    simp [mkBody, olet, gI_sI, gI_sIr, gI_sL, gI_sLr, gI_sR, gI_sRr, gI_sN, gI_sC, gL_sI, gL_sIr, gL_sL, gL_sLr, gL_sR, gL_sRr, gL_sN, gL_sC, gR_sI, gR_sIr, gR_sL, gR_sLr, gR_sR, gR_sRr, gR_sN, gR_sC, gN_sI, gN_sIr, gN_sL, gN_sLr, gN_sR, gN_sRr, gN_sN, gN_sC, gC_sI, gC_sIr, gC_sL, gC_sLr, gC_sR, gC_sRr, gC_sN, gC_sC, ent, lyO, lyA, enA, fvs, fv, va_rf]
  refine ⟨fun k i => if k = 20 ∧ i = gC σ 20 then q else if k = 21 ∧ i = gC σ 20 then q1 else ad' k i, rh_adopt hC hP hD.1 (fun k i h => ⟨(hE k i h).1, (hE k i h).2, hold k i h⟩) (fun k i h1 h2 => ?_) (fun j e he => ?_) ?_ (fun k i k' i' h1 h2 h3 h4 he => ?_) (fun k i h => ?_), hE, by simp⟩
  · rcases hnw k i h1 h2 with ⟨rfl, rfl⟩ | ⟨rfl, rfl⟩
    · exact ⟨0, by rw [e20]; rfl⟩
    · exact ⟨1, by rw [e21]; rfl⟩
  · match j, he with
    | 0, he => cases he; exact ⟨20, gC σ 20, by rw [hcnt]; simp, by exact Nat.lt_irrefl _, e20.symm⟩
    | 1, he => cases he; exact ⟨21, gC σ 20, by rw [hcnt]; simp, by omega, e21.symm⟩
    | j + 2, he => simp at he
  · refine ⟨fun k i x j h hj => ?_, fun k i w x t h hk hx => ?_⟩
    · by_cases g : i < gC σ k
      · have hj2 : gR σ k i x = some j := by
          obtain ⟨n0, n1⟩ := hne k i g
          have m : ∀ (t : Nat) (x y : Nat), ¬ (k = t ∧ i = gC σ 20) → ¬ (k = t ∧ i = gC σ 20 ∧ x = y) := fun t x y h z => h ⟨z.1, z.2.1⟩
          simpa [mkBody, olet, gI_sI, gI_sIr, gI_sL, gI_sLr, gI_sR, gI_sRr, gI_sN, gI_sC, gL_sI, gL_sIr, gL_sL, gL_sLr, gL_sR, gL_sRr, gL_sN, gL_sC, gR_sI, gR_sIr, gR_sL, gR_sLr, gR_sR, gR_sRr, gR_sN, gR_sC, gN_sI, gN_sIr, gN_sL, gN_sLr, gN_sR, gN_sRr, gN_sN, gN_sC, gC_sI, gC_sIr, gC_sL, gC_sLr, gC_sR, gC_sRr, gC_sN, gC_sC, n0, n1, m 20 _ _ n0, m 21 _ _ n1] using hj
        exact (hE _ _ (hC.2.1.1 k i x j g hj2)).1
      · rcases hnw k i h g with ⟨rfl, rfl⟩ | ⟨rfl, rfl⟩ <;> (exfalso; revert hj; simp [mkBody, olet, gI_sI, gI_sIr, gI_sL, gI_sLr, gI_sR, gI_sRr, gI_sN, gI_sC, gL_sI, gL_sIr, gL_sL, gL_sLr, gL_sR, gL_sRr, gL_sN, gL_sC, gR_sI, gR_sIr, gR_sL, gR_sLr, gR_sR, gR_sRr, gR_sN, gR_sC, gN_sI, gN_sIr, gN_sL, gN_sLr, gN_sR, gN_sRr, gN_sN, gN_sC, gC_sI, gC_sIr, gC_sL, gC_sLr, gC_sR, gC_sRr, gC_sN, gC_sC])
    · by_cases g : i < gC σ k
      · exact (hE _ _ (hC.2.1.2 k i w x t g hk hx)).1
      · rcases hnw k i h g with ⟨rfl, rfl⟩ | ⟨rfl, rfl⟩
        · cases hk
          match x, hx with
          | 0, hx => cases hx; rw [hcnt]; simp
          | 1, hx => cases hx
          | 2, hx => cases hx
          | 3, hx => cases hx
          | x + 4, hx => simp at hx
        · cases hk
  · have hx0 := hD.1
    have hw : ∀ (a' b' : Nat) (x y : Nat × va_E), ([(q, .inr (0, [.ref q1, .int 0, .int 0, .int 0])), (q1, .inl (dA 21, 400, .inl (fun _ => 0)))] : va_W)[a']? = some x → ([(q, .inr (0, [.ref q1, .int 0, .int 0, .int 0])), (q1, .inl (dA 21, 400, .inl (fun _ => 0)))] : va_W)[b']? = some y → x.1 = y.1 → a' = b' := fun a' b' x y h1 h2 h3 => by have := hD.1 (ws.length + a') (ws.length + b') x y (ws_get h1) (ws_get h2) h3; omega
    rcases hnw k i h1 h2 with ⟨rfl, rfl⟩ | ⟨rfl, rfl⟩ <;> rcases hnw k' i' h3 h4 with ⟨rfl, rfl⟩ | ⟨rfl, rfl⟩
    · exact ⟨rfl, rfl⟩
    · exact absurd (hw 0 1 _ _ rfl rfl (by simpa using he)) (by decide)
    · exact absurd (hw 1 0 _ _ rfl rfl (by simpa using he)) (by decide)
    · exact ⟨rfl, rfl⟩
  · by_cases g : i < gC σ k
    · show A ((fun k i => if k = 20 ∧ i = gC σ 20 then q else if k = 21 ∧ i = gC σ 20 then q1 else ad' k i) k i)
      rw [hbd k i g]
      obtain ⟨z, hz⟩ := hC.2.2.1 k i g
      exact hD.2 z _ (by rw [List.getElem?_append_left (List.getElem?_eq_some_iff.mp hz).1]; exact hz)
    · rcases hnw k i h g with ⟨rfl, rfl⟩ | ⟨rfl, rfl⟩
      · have hz := hD.2 (ws.length + 0) _ (ws_get (xs := [(q, .inr (0, [.ref q1, .int 0, .int 0, .int 0])), (q1, .inl (dA 21, 400, .inl (fun _ => 0)))]) (j := 0) rfl)
        simpa using hz
      · have hz := hD.2 (ws.length + 1) _ (ws_get (xs := [(q, .inr (0, [.ref q1, .int 0, .int 0, .int 0])), (q1, .inl (dA 21, 400, .inl (fun _ => 0)))]) (j := 1) rfl)
        simpa using hz
set_option maxHeartbeats 4000000 in
theorem ad_House {σ : rS} (c18 : gC σ 18 = gC σ 17) (c19 : gC σ 19 = gC σ 17) (D : va_G) (dA : Nat → ClassId) (A : Nat → Prop) (ad ad' : Nat → Nat → Nat) (ws xs : va_W) (H : Heap) (q : Nat) (hC : Cov dA σ ad' ws) (hP : va_P D vwCl (ws ++ xs) H) (hD : va_D A (ws ++ xs)) (hpo : ∃ q1 : Nat, ∃ q2 : Nat, xs = [(q, .inr (2, [.ref q1, .ref q2, .int 0])), (q1, .inl (dA 18, 12, .inr (.inl (fun _ => 0)))), (q2, .inl (dA 19, 12, .inr (.inr (.inr (.inr (fun _ => none))))))]) : ∃ bd, Rh D dA A (mkHouse σ) bd H ∧ Ex σ ad' (mkHouse σ) bd ∧ bd 17 (gC σ 17) = q := by
  obtain ⟨q1, q2, rfl⟩ := hpo
  have hcnt : ∀ t, gC (mkHouse σ) t = if t = 19 then gC σ 17 + 1 else if t = 18 then gC σ 17 + 1 else if t = 17 then gC σ 17 + 1 else gC σ t := fun t => rfl
  have hne : ∀ k i, i < gC σ k → ¬ (k = 17 ∧ i = gC σ 17) ∧ ¬ (k = 18 ∧ i = gC σ 17) ∧ ¬ (k = 19 ∧ i = gC σ 17) := by
    intro k i h
    refine ⟨?_, ?_, ?_⟩ <;> (rintro ⟨rfl, rfl⟩; omega)
  have hbd : ∀ k i, i < gC σ k → (fun k i => if k = 17 ∧ i = gC σ 17 then q else if k = 18 ∧ i = gC σ 17 then q1 else if k = 19 ∧ i = gC σ 17 then q2 else ad' k i) k i = ad' k i := by
    intro k i h
    obtain ⟨n0, n1, n2⟩ := hne k i h
    simp only [if_neg n0, if_neg n1, if_neg n2]
  have hnw : ∀ k i, i < gC (mkHouse σ) k → ¬ i < gC σ k → (k = 17 ∧ i = gC σ 17) ∨ (k = 18 ∧ i = gC σ 17) ∨ (k = 19 ∧ i = gC σ 17) := by
    intro k i h1 h2
    rw [hcnt] at h1
    by_cases z19 : k = 19
    · subst z19
      simp at h1
      omega
    by_cases z18 : k = 18
    · subst z18
      simp at h1
      omega
    by_cases z17 : k = 17
    · subst z17
      simp at h1
      omega
    simp only [if_neg z19, if_neg z18, if_neg z17] at h1
    exact absurd h1 h2
  have hE : Ex σ ad' (mkHouse σ) (fun k i => if k = 17 ∧ i = gC σ 17 then q else if k = 18 ∧ i = gC σ 17 then q1 else if k = 19 ∧ i = gC σ 17 then q2 else ad' k i) := by
    intro k i h
    refine ⟨?_, hbd k i h⟩
    rw [hcnt]
    by_cases z19 : k = 19
    · subst z19
      simp
      omega
    by_cases z18 : k = 18
    · subst z18
      simp
      omega
    by_cases z17 : k = 17
    · subst z17
      simp
      omega
    simp only [if_neg z19, if_neg z18, if_neg z17]
    exact h
  have hold : ∀ k i, i < gC σ k → ent dA (mkHouse σ) (fun k i => if k = 17 ∧ i = gC σ 17 then q else if k = 18 ∧ i = gC σ 17 then q1 else if k = 19 ∧ i = gC σ 17 then q2 else ad' k i) k i = ent dA σ ad' k i := by
    intro k i h
    obtain ⟨n0, n1, n2⟩ := hne k i h
    have m : ∀ (t : Nat) (x y : Nat), ¬ (k = t ∧ i = gC σ 17) → ¬ (k = t ∧ i = gC σ 17 ∧ x = y) := fun t x y h z => h ⟨z.1, z.2.1⟩
    exact ent_old hC.2.1 h (fun x => by simp [mkHouse, olet, gI_sI, gI_sIr, gI_sL, gI_sLr, gI_sR, gI_sRr, gI_sN, gI_sC, gL_sI, gL_sIr, gL_sL, gL_sLr, gL_sR, gL_sRr, gL_sN, gL_sC, gR_sI, gR_sIr, gR_sL, gR_sLr, gR_sR, gR_sRr, gR_sN, gR_sC, gN_sI, gN_sIr, gN_sL, gN_sLr, gN_sR, gN_sRr, gN_sN, gN_sC, gC_sI, gC_sIr, gC_sL, gC_sLr, gC_sR, gC_sRr, gC_sN, gC_sC, n0, n1, n2, m 17 _ _ n0, m 18 _ _ n1, m 19 _ _ n2]) (fun x => by simp [mkHouse, olet, gI_sI, gI_sIr, gI_sL, gI_sLr, gI_sR, gI_sRr, gI_sN, gI_sC, gL_sI, gL_sIr, gL_sL, gL_sLr, gL_sR, gL_sRr, gL_sN, gL_sC, gR_sI, gR_sIr, gR_sL, gR_sLr, gR_sR, gR_sRr, gR_sN, gR_sC, gN_sI, gN_sIr, gN_sL, gN_sLr, gN_sR, gN_sRr, gN_sN, gN_sC, gC_sI, gC_sIr, gC_sL, gC_sLr, gC_sR, gC_sRr, gC_sN, gC_sC, n0, n1, n2, m 17 _ _ n0, m 18 _ _ n1, m 19 _ _ n2]) (fun x => by simp [mkHouse, olet, gI_sI, gI_sIr, gI_sL, gI_sLr, gI_sR, gI_sRr, gI_sN, gI_sC, gL_sI, gL_sIr, gL_sL, gL_sLr, gL_sR, gL_sRr, gL_sN, gL_sC, gR_sI, gR_sIr, gR_sL, gR_sLr, gR_sR, gR_sRr, gR_sN, gR_sC, gN_sI, gN_sIr, gN_sL, gN_sLr, gN_sR, gN_sRr, gN_sN, gN_sC, gC_sI, gC_sIr, gC_sL, gC_sLr, gC_sR, gC_sRr, gC_sN, gC_sC, n0, n1, n2, m 17 _ _ n0, m 18 _ _ n1, m 19 _ _ n2]) (by simp [mkHouse, olet, gI_sI, gI_sIr, gI_sL, gI_sLr, gI_sR, gI_sRr, gI_sN, gI_sC, gL_sI, gL_sIr, gL_sL, gL_sLr, gL_sR, gL_sRr, gL_sN, gL_sC, gR_sI, gR_sIr, gR_sL, gR_sLr, gR_sR, gR_sRr, gR_sN, gR_sC, gN_sI, gN_sIr, gN_sL, gN_sLr, gN_sR, gN_sRr, gN_sN, gN_sC, gC_sI, gC_sIr, gC_sL, gC_sLr, gC_sR, gC_sRr, gC_sN, gC_sC, n0, n1, n2, m 17 _ _ n0, m 18 _ _ n1, m 19 _ _ n2]) hbd
  have e17 : ((fun k i => if k = 17 ∧ i = gC σ 17 then q else if k = 18 ∧ i = gC σ 17 then q1 else if k = 19 ∧ i = gC σ 17 then q2 else ad' k i) 17 (gC σ 17), ent dA (mkHouse σ) (fun k i => if k = 17 ∧ i = gC σ 17 then q else if k = 18 ∧ i = gC σ 17 then q1 else if k = 19 ∧ i = gC σ 17 then q2 else ad' k i) 17 (gC σ 17)) = (q, .inr (2, [.ref q1, .ref q2, .int 0])) := by
    simp [mkHouse, olet, gI_sI, gI_sIr, gI_sL, gI_sLr, gI_sR, gI_sRr, gI_sN, gI_sC, gL_sI, gL_sIr, gL_sL, gL_sLr, gL_sR, gL_sRr, gL_sN, gL_sC, gR_sI, gR_sIr, gR_sL, gR_sLr, gR_sR, gR_sRr, gR_sN, gR_sC, gN_sI, gN_sIr, gN_sL, gN_sLr, gN_sR, gN_sRr, gN_sN, gN_sC, gC_sI, gC_sIr, gC_sL, gC_sLr, gC_sR, gC_sRr, gC_sN, gC_sC, ent, lyO, lyA, enA, fvs, fv, va_rf]
  have e18 : ((fun k i => if k = 17 ∧ i = gC σ 17 then q else if k = 18 ∧ i = gC σ 17 then q1 else if k = 19 ∧ i = gC σ 17 then q2 else ad' k i) 18 (gC σ 17), ent dA (mkHouse σ) (fun k i => if k = 17 ∧ i = gC σ 17 then q else if k = 18 ∧ i = gC σ 17 then q1 else if k = 19 ∧ i = gC σ 17 then q2 else ad' k i) 18 (gC σ 17)) = (q1, .inl (dA 18, 12, .inr (.inl (fun _ => 0)))) := by
    simp [mkHouse, olet, gI_sI, gI_sIr, gI_sL, gI_sLr, gI_sR, gI_sRr, gI_sN, gI_sC, gL_sI, gL_sIr, gL_sL, gL_sLr, gL_sR, gL_sRr, gL_sN, gL_sC, gR_sI, gR_sIr, gR_sL, gR_sLr, gR_sR, gR_sRr, gR_sN, gR_sC, gN_sI, gN_sIr, gN_sL, gN_sLr, gN_sR, gN_sRr, gN_sN, gN_sC, gC_sI, gC_sIr, gC_sL, gC_sLr, gC_sR, gC_sRr, gC_sN, gC_sC, ent, lyO, lyA, enA, fvs, fv, va_rf]
  have e19 : ((fun k i => if k = 17 ∧ i = gC σ 17 then q else if k = 18 ∧ i = gC σ 17 then q1 else if k = 19 ∧ i = gC σ 17 then q2 else ad' k i) 19 (gC σ 17), ent dA (mkHouse σ) (fun k i => if k = 17 ∧ i = gC σ 17 then q else if k = 18 ∧ i = gC σ 17 then q1 else if k = 19 ∧ i = gC σ 17 then q2 else ad' k i) 19 (gC σ 17)) = (q2, .inl (dA 19, 12, .inr (.inr (.inr (.inr (fun _ => none)))))) := by
    simp [mkHouse, olet, gI_sI, gI_sIr, gI_sL, gI_sLr, gI_sR, gI_sRr, gI_sN, gI_sC, gL_sI, gL_sIr, gL_sL, gL_sLr, gL_sR, gL_sRr, gL_sN, gL_sC, gR_sI, gR_sIr, gR_sL, gR_sLr, gR_sR, gR_sRr, gR_sN, gR_sC, gN_sI, gN_sIr, gN_sL, gN_sLr, gN_sR, gN_sRr, gN_sN, gN_sC, gC_sI, gC_sIr, gC_sL, gC_sLr, gC_sR, gC_sRr, gC_sN, gC_sC, ent, lyO, lyA, enA, fvs, fv, va_rf]
  refine ⟨fun k i => if k = 17 ∧ i = gC σ 17 then q else if k = 18 ∧ i = gC σ 17 then q1 else if k = 19 ∧ i = gC σ 17 then q2 else ad' k i, rh_adopt hC hP hD.1 (fun k i h => ⟨(hE k i h).1, (hE k i h).2, hold k i h⟩) (fun k i h1 h2 => ?_) (fun j e he => ?_) ?_ (fun k i k' i' h1 h2 h3 h4 he => ?_) (fun k i h => ?_), hE, by simp⟩
  · rcases hnw k i h1 h2 with ⟨rfl, rfl⟩ | ⟨rfl, rfl⟩ | ⟨rfl, rfl⟩
    · exact ⟨0, by rw [e17]; rfl⟩
    · exact ⟨1, by rw [e18]; rfl⟩
    · exact ⟨2, by rw [e19]; rfl⟩
  · match j, he with
    | 0, he => cases he; exact ⟨17, gC σ 17, by rw [hcnt]; simp, by exact Nat.lt_irrefl _, e17.symm⟩
    | 1, he => cases he; exact ⟨18, gC σ 17, by rw [hcnt]; simp, by omega, e18.symm⟩
    | 2, he => cases he; exact ⟨19, gC σ 17, by rw [hcnt]; simp, by omega, e19.symm⟩
    | j + 3, he => simp at he
  · refine ⟨fun k i x j h hj => ?_, fun k i w x t h hk hx => ?_⟩
    · by_cases g : i < gC σ k
      · have hj2 : gR σ k i x = some j := by
          obtain ⟨n0, n1, n2⟩ := hne k i g
          have m : ∀ (t : Nat) (x y : Nat), ¬ (k = t ∧ i = gC σ 17) → ¬ (k = t ∧ i = gC σ 17 ∧ x = y) := fun t x y h z => h ⟨z.1, z.2.1⟩
          simpa [mkHouse, olet, gI_sI, gI_sIr, gI_sL, gI_sLr, gI_sR, gI_sRr, gI_sN, gI_sC, gL_sI, gL_sIr, gL_sL, gL_sLr, gL_sR, gL_sRr, gL_sN, gL_sC, gR_sI, gR_sIr, gR_sL, gR_sLr, gR_sR, gR_sRr, gR_sN, gR_sC, gN_sI, gN_sIr, gN_sL, gN_sLr, gN_sR, gN_sRr, gN_sN, gN_sC, gC_sI, gC_sIr, gC_sL, gC_sLr, gC_sR, gC_sRr, gC_sN, gC_sC, n0, n1, n2, m 17 _ _ n0, m 18 _ _ n1, m 19 _ _ n2] using hj
        exact (hE _ _ (hC.2.1.1 k i x j g hj2)).1
      · rcases hnw k i h g with ⟨rfl, rfl⟩ | ⟨rfl, rfl⟩ | ⟨rfl, rfl⟩ <;> (exfalso; revert hj; simp [mkHouse, olet, gI_sI, gI_sIr, gI_sL, gI_sLr, gI_sR, gI_sRr, gI_sN, gI_sC, gL_sI, gL_sIr, gL_sL, gL_sLr, gL_sR, gL_sRr, gL_sN, gL_sC, gR_sI, gR_sIr, gR_sL, gR_sLr, gR_sR, gR_sRr, gR_sN, gR_sC, gN_sI, gN_sIr, gN_sL, gN_sLr, gN_sR, gN_sRr, gN_sN, gN_sC, gC_sI, gC_sIr, gC_sL, gC_sLr, gC_sR, gC_sRr, gC_sN, gC_sC])
    · by_cases g : i < gC σ k
      · exact (hE _ _ (hC.2.1.2 k i w x t g hk hx)).1
      · rcases hnw k i h g with ⟨rfl, rfl⟩ | ⟨rfl, rfl⟩ | ⟨rfl, rfl⟩
        · cases hk
          match x, hx with
          | 0, hx => cases hx; rw [hcnt]; simp
          | 1, hx => cases hx; rw [hcnt]; simp
          | 2, hx => cases hx
          | x + 3, hx => simp at hx
        · cases hk
        · cases hk
  · have hx0 := hD.1
    have hw : ∀ (a' b' : Nat) (x y : Nat × va_E), ([(q, .inr (2, [.ref q1, .ref q2, .int 0])), (q1, .inl (dA 18, 12, .inr (.inl (fun _ => 0)))), (q2, .inl (dA 19, 12, .inr (.inr (.inr (.inr (fun _ => none))))))] : va_W)[a']? = some x → ([(q, .inr (2, [.ref q1, .ref q2, .int 0])), (q1, .inl (dA 18, 12, .inr (.inl (fun _ => 0)))), (q2, .inl (dA 19, 12, .inr (.inr (.inr (.inr (fun _ => none))))))] : va_W)[b']? = some y → x.1 = y.1 → a' = b' := fun a' b' x y h1 h2 h3 => by have := hD.1 (ws.length + a') (ws.length + b') x y (ws_get h1) (ws_get h2) h3; omega
    rcases hnw k i h1 h2 with ⟨rfl, rfl⟩ | ⟨rfl, rfl⟩ | ⟨rfl, rfl⟩ <;> rcases hnw k' i' h3 h4 with ⟨rfl, rfl⟩ | ⟨rfl, rfl⟩ | ⟨rfl, rfl⟩
    · exact ⟨rfl, rfl⟩
    · exact absurd (hw 0 1 _ _ rfl rfl (by simpa using he)) (by decide)
    · exact absurd (hw 0 2 _ _ rfl rfl (by simpa using he)) (by decide)
    · exact absurd (hw 1 0 _ _ rfl rfl (by simpa using he)) (by decide)
    · exact ⟨rfl, rfl⟩
    · exact absurd (hw 1 2 _ _ rfl rfl (by simpa using he)) (by decide)
    · exact absurd (hw 2 0 _ _ rfl rfl (by simpa using he)) (by decide)
    · exact absurd (hw 2 1 _ _ rfl rfl (by simpa using he)) (by decide)
    · exact ⟨rfl, rfl⟩
  · by_cases g : i < gC σ k
    · show A ((fun k i => if k = 17 ∧ i = gC σ 17 then q else if k = 18 ∧ i = gC σ 17 then q1 else if k = 19 ∧ i = gC σ 17 then q2 else ad' k i) k i)
      rw [hbd k i g]
      obtain ⟨z, hz⟩ := hC.2.2.1 k i g
      exact hD.2 z _ (by rw [List.getElem?_append_left (List.getElem?_eq_some_iff.mp hz).1]; exact hz)
    · rcases hnw k i h g with ⟨rfl, rfl⟩ | ⟨rfl, rfl⟩ | ⟨rfl, rfl⟩
      · have hz := hD.2 (ws.length + 0) _ (ws_get (xs := [(q, .inr (2, [.ref q1, .ref q2, .int 0])), (q1, .inl (dA 18, 12, .inr (.inl (fun _ => 0)))), (q2, .inl (dA 19, 12, .inr (.inr (.inr (.inr (fun _ => none))))))]) (j := 0) rfl)
        simpa using hz
      · have hz := hD.2 (ws.length + 1) _ (ws_get (xs := [(q, .inr (2, [.ref q1, .ref q2, .int 0])), (q1, .inl (dA 18, 12, .inr (.inl (fun _ => 0)))), (q2, .inl (dA 19, 12, .inr (.inr (.inr (.inr (fun _ => none))))))]) (j := 1) rfl)
        simpa using hz
      · have hz := hD.2 (ws.length + 2) _ (ws_get (xs := [(q, .inr (2, [.ref q1, .ref q2, .int 0])), (q1, .inl (dA 18, 12, .inr (.inl (fun _ => 0)))), (q2, .inl (dA 19, 12, .inr (.inr (.inr (.inr (fun _ => none))))))]) (j := 2) rfl)
        simpa using hz
set_option maxHeartbeats 4000000 in
theorem ad_Delta {σ : rS} {a b n : Int32} (c23 : gC σ 23 = gC σ 22) (c24 : gC σ 24 = gC σ 22) (c25 : gC σ 25 = gC σ 22) (D : va_G) (dA : Nat → ClassId) (A : Nat → Prop) (ad ad' : Nat → Nat → Nat) (ws xs : va_W) (H : Heap) (q : Nat) (hC : Cov dA σ ad' ws) (hP : va_P D vwCl (ws ++ xs) H) (hD : va_D A (ws ++ xs)) (hpo : ∃ q1 : Nat, ∃ q2 : Nat, ∃ q3 : Nat, xs = [(q, .inr (1, [.int a, .int b, .ref q1, .ref q2, .ref q3, .int 0, .int 0, .int 0])), (q1, .inl (dA 23, n.toNatClampNeg, .inl (fun _ => 0))), (q2, .inl (dA 24, n.toNatClampNeg, .inl (fun _ => 0))), (q3, .inl (dA 25, n.toNatClampNeg, .inl (fun _ => 0)))]) : ∃ bd, Rh D dA A (mkDelta σ a b n) bd H ∧ Ex σ ad' (mkDelta σ a b n) bd ∧ bd 22 (gC σ 22) = q := by
  obtain ⟨q1, q2, q3, rfl⟩ := hpo
  have hcnt : ∀ t, gC (mkDelta σ a b n) t = if t = 25 then gC σ 22 + 1 else if t = 24 then gC σ 22 + 1 else if t = 23 then gC σ 22 + 1 else if t = 22 then gC σ 22 + 1 else gC σ t := fun t => rfl
  have hne : ∀ k i, i < gC σ k → ¬ (k = 22 ∧ i = gC σ 22) ∧ ¬ (k = 23 ∧ i = gC σ 22) ∧ ¬ (k = 24 ∧ i = gC σ 22) ∧ ¬ (k = 25 ∧ i = gC σ 22) := by
    intro k i h
    refine ⟨?_, ?_, ?_, ?_⟩ <;> (rintro ⟨rfl, rfl⟩; omega)
  have hbd : ∀ k i, i < gC σ k → (fun k i => if k = 22 ∧ i = gC σ 22 then q else if k = 23 ∧ i = gC σ 22 then q1 else if k = 24 ∧ i = gC σ 22 then q2 else if k = 25 ∧ i = gC σ 22 then q3 else ad' k i) k i = ad' k i := by
    intro k i h
    obtain ⟨n0, n1, n2, n3⟩ := hne k i h
    simp only [if_neg n0, if_neg n1, if_neg n2, if_neg n3]
  have hnw : ∀ k i, i < gC (mkDelta σ a b n) k → ¬ i < gC σ k → (k = 22 ∧ i = gC σ 22) ∨ (k = 23 ∧ i = gC σ 22) ∨ (k = 24 ∧ i = gC σ 22) ∨ (k = 25 ∧ i = gC σ 22) := by
    intro k i h1 h2
    rw [hcnt] at h1
    by_cases z25 : k = 25
    · subst z25
      simp at h1
      omega
    by_cases z24 : k = 24
    · subst z24
      simp at h1
      omega
    by_cases z23 : k = 23
    · subst z23
      simp at h1
      omega
    by_cases z22 : k = 22
    · subst z22
      simp at h1
      omega
    simp only [if_neg z25, if_neg z24, if_neg z23, if_neg z22] at h1
    exact absurd h1 h2
  have hE : Ex σ ad' (mkDelta σ a b n) (fun k i => if k = 22 ∧ i = gC σ 22 then q else if k = 23 ∧ i = gC σ 22 then q1 else if k = 24 ∧ i = gC σ 22 then q2 else if k = 25 ∧ i = gC σ 22 then q3 else ad' k i) := by
    intro k i h
    refine ⟨?_, hbd k i h⟩
    rw [hcnt]
    by_cases z25 : k = 25
    · subst z25
      simp
      omega
    by_cases z24 : k = 24
    · subst z24
      simp
      omega
    by_cases z23 : k = 23
    · subst z23
      simp
      omega
    by_cases z22 : k = 22
    · subst z22
      simp
      omega
    simp only [if_neg z25, if_neg z24, if_neg z23, if_neg z22]
    exact h
  have hold : ∀ k i, i < gC σ k → ent dA (mkDelta σ a b n) (fun k i => if k = 22 ∧ i = gC σ 22 then q else if k = 23 ∧ i = gC σ 22 then q1 else if k = 24 ∧ i = gC σ 22 then q2 else if k = 25 ∧ i = gC σ 22 then q3 else ad' k i) k i = ent dA σ ad' k i := by
    intro k i h
    obtain ⟨n0, n1, n2, n3⟩ := hne k i h
    have m : ∀ (t : Nat) (x y : Nat), ¬ (k = t ∧ i = gC σ 22) → ¬ (k = t ∧ i = gC σ 22 ∧ x = y) := fun t x y h z => h ⟨z.1, z.2.1⟩
    exact ent_old hC.2.1 h (fun x => by simp [mkDelta, olet, gI_sI, gI_sIr, gI_sL, gI_sLr, gI_sR, gI_sRr, gI_sN, gI_sC, gL_sI, gL_sIr, gL_sL, gL_sLr, gL_sR, gL_sRr, gL_sN, gL_sC, gR_sI, gR_sIr, gR_sL, gR_sLr, gR_sR, gR_sRr, gR_sN, gR_sC, gN_sI, gN_sIr, gN_sL, gN_sLr, gN_sR, gN_sRr, gN_sN, gN_sC, gC_sI, gC_sIr, gC_sL, gC_sLr, gC_sR, gC_sRr, gC_sN, gC_sC, n0, n1, n2, n3, m 22 _ _ n0, m 23 _ _ n1, m 24 _ _ n2, m 25 _ _ n3]) (fun x => by simp [mkDelta, olet, gI_sI, gI_sIr, gI_sL, gI_sLr, gI_sR, gI_sRr, gI_sN, gI_sC, gL_sI, gL_sIr, gL_sL, gL_sLr, gL_sR, gL_sRr, gL_sN, gL_sC, gR_sI, gR_sIr, gR_sL, gR_sLr, gR_sR, gR_sRr, gR_sN, gR_sC, gN_sI, gN_sIr, gN_sL, gN_sLr, gN_sR, gN_sRr, gN_sN, gN_sC, gC_sI, gC_sIr, gC_sL, gC_sLr, gC_sR, gC_sRr, gC_sN, gC_sC, n0, n1, n2, n3, m 22 _ _ n0, m 23 _ _ n1, m 24 _ _ n2, m 25 _ _ n3]) (fun x => by simp [mkDelta, olet, gI_sI, gI_sIr, gI_sL, gI_sLr, gI_sR, gI_sRr, gI_sN, gI_sC, gL_sI, gL_sIr, gL_sL, gL_sLr, gL_sR, gL_sRr, gL_sN, gL_sC, gR_sI, gR_sIr, gR_sL, gR_sLr, gR_sR, gR_sRr, gR_sN, gR_sC, gN_sI, gN_sIr, gN_sL, gN_sLr, gN_sR, gN_sRr, gN_sN, gN_sC, gC_sI, gC_sIr, gC_sL, gC_sLr, gC_sR, gC_sRr, gC_sN, gC_sC, n0, n1, n2, n3, m 22 _ _ n0, m 23 _ _ n1, m 24 _ _ n2, m 25 _ _ n3]) (by simp [mkDelta, olet, gI_sI, gI_sIr, gI_sL, gI_sLr, gI_sR, gI_sRr, gI_sN, gI_sC, gL_sI, gL_sIr, gL_sL, gL_sLr, gL_sR, gL_sRr, gL_sN, gL_sC, gR_sI, gR_sIr, gR_sL, gR_sLr, gR_sR, gR_sRr, gR_sN, gR_sC, gN_sI, gN_sIr, gN_sL, gN_sLr, gN_sR, gN_sRr, gN_sN, gN_sC, gC_sI, gC_sIr, gC_sL, gC_sLr, gC_sR, gC_sRr, gC_sN, gC_sC, n0, n1, n2, n3, m 22 _ _ n0, m 23 _ _ n1, m 24 _ _ n2, m 25 _ _ n3]) hbd
  have e22 : ((fun k i => if k = 22 ∧ i = gC σ 22 then q else if k = 23 ∧ i = gC σ 22 then q1 else if k = 24 ∧ i = gC σ 22 then q2 else if k = 25 ∧ i = gC σ 22 then q3 else ad' k i) 22 (gC σ 22), ent dA (mkDelta σ a b n) (fun k i => if k = 22 ∧ i = gC σ 22 then q else if k = 23 ∧ i = gC σ 22 then q1 else if k = 24 ∧ i = gC σ 22 then q2 else if k = 25 ∧ i = gC σ 22 then q3 else ad' k i) 22 (gC σ 22)) = (q, .inr (1, [.int a, .int b, .ref q1, .ref q2, .ref q3, .int 0, .int 0, .int 0])) := by
    simp [mkDelta, olet, gI_sI, gI_sIr, gI_sL, gI_sLr, gI_sR, gI_sRr, gI_sN, gI_sC, gL_sI, gL_sIr, gL_sL, gL_sLr, gL_sR, gL_sRr, gL_sN, gL_sC, gR_sI, gR_sIr, gR_sL, gR_sLr, gR_sR, gR_sRr, gR_sN, gR_sC, gN_sI, gN_sIr, gN_sL, gN_sLr, gN_sR, gN_sRr, gN_sN, gN_sC, gC_sI, gC_sIr, gC_sL, gC_sLr, gC_sR, gC_sRr, gC_sN, gC_sC, ent, lyO, lyA, enA, fvs, fv, va_rf]
  have e23 : ((fun k i => if k = 22 ∧ i = gC σ 22 then q else if k = 23 ∧ i = gC σ 22 then q1 else if k = 24 ∧ i = gC σ 22 then q2 else if k = 25 ∧ i = gC σ 22 then q3 else ad' k i) 23 (gC σ 22), ent dA (mkDelta σ a b n) (fun k i => if k = 22 ∧ i = gC σ 22 then q else if k = 23 ∧ i = gC σ 22 then q1 else if k = 24 ∧ i = gC σ 22 then q2 else if k = 25 ∧ i = gC σ 22 then q3 else ad' k i) 23 (gC σ 22)) = (q1, .inl (dA 23, n.toNatClampNeg, .inl (fun _ => 0))) := by
    simp [mkDelta, olet, gI_sI, gI_sIr, gI_sL, gI_sLr, gI_sR, gI_sRr, gI_sN, gI_sC, gL_sI, gL_sIr, gL_sL, gL_sLr, gL_sR, gL_sRr, gL_sN, gL_sC, gR_sI, gR_sIr, gR_sL, gR_sLr, gR_sR, gR_sRr, gR_sN, gR_sC, gN_sI, gN_sIr, gN_sL, gN_sLr, gN_sR, gN_sRr, gN_sN, gN_sC, gC_sI, gC_sIr, gC_sL, gC_sLr, gC_sR, gC_sRr, gC_sN, gC_sC, ent, lyO, lyA, enA, fvs, fv, va_rf]
  have e24 : ((fun k i => if k = 22 ∧ i = gC σ 22 then q else if k = 23 ∧ i = gC σ 22 then q1 else if k = 24 ∧ i = gC σ 22 then q2 else if k = 25 ∧ i = gC σ 22 then q3 else ad' k i) 24 (gC σ 22), ent dA (mkDelta σ a b n) (fun k i => if k = 22 ∧ i = gC σ 22 then q else if k = 23 ∧ i = gC σ 22 then q1 else if k = 24 ∧ i = gC σ 22 then q2 else if k = 25 ∧ i = gC σ 22 then q3 else ad' k i) 24 (gC σ 22)) = (q2, .inl (dA 24, n.toNatClampNeg, .inl (fun _ => 0))) := by
    simp [mkDelta, olet, gI_sI, gI_sIr, gI_sL, gI_sLr, gI_sR, gI_sRr, gI_sN, gI_sC, gL_sI, gL_sIr, gL_sL, gL_sLr, gL_sR, gL_sRr, gL_sN, gL_sC, gR_sI, gR_sIr, gR_sL, gR_sLr, gR_sR, gR_sRr, gR_sN, gR_sC, gN_sI, gN_sIr, gN_sL, gN_sLr, gN_sR, gN_sRr, gN_sN, gN_sC, gC_sI, gC_sIr, gC_sL, gC_sLr, gC_sR, gC_sRr, gC_sN, gC_sC, ent, lyO, lyA, enA, fvs, fv, va_rf]
  have e25 : ((fun k i => if k = 22 ∧ i = gC σ 22 then q else if k = 23 ∧ i = gC σ 22 then q1 else if k = 24 ∧ i = gC σ 22 then q2 else if k = 25 ∧ i = gC σ 22 then q3 else ad' k i) 25 (gC σ 22), ent dA (mkDelta σ a b n) (fun k i => if k = 22 ∧ i = gC σ 22 then q else if k = 23 ∧ i = gC σ 22 then q1 else if k = 24 ∧ i = gC σ 22 then q2 else if k = 25 ∧ i = gC σ 22 then q3 else ad' k i) 25 (gC σ 22)) = (q3, .inl (dA 25, n.toNatClampNeg, .inl (fun _ => 0))) := by
    simp [mkDelta, olet, gI_sI, gI_sIr, gI_sL, gI_sLr, gI_sR, gI_sRr, gI_sN, gI_sC, gL_sI, gL_sIr, gL_sL, gL_sLr, gL_sR, gL_sRr, gL_sN, gL_sC, gR_sI, gR_sIr, gR_sL, gR_sLr, gR_sR, gR_sRr, gR_sN, gR_sC, gN_sI, gN_sIr, gN_sL, gN_sLr, gN_sR, gN_sRr, gN_sN, gN_sC, gC_sI, gC_sIr, gC_sL, gC_sLr, gC_sR, gC_sRr, gC_sN, gC_sC, ent, lyO, lyA, enA, fvs, fv, va_rf]
  refine ⟨fun k i => if k = 22 ∧ i = gC σ 22 then q else if k = 23 ∧ i = gC σ 22 then q1 else if k = 24 ∧ i = gC σ 22 then q2 else if k = 25 ∧ i = gC σ 22 then q3 else ad' k i, rh_adopt hC hP hD.1 (fun k i h => ⟨(hE k i h).1, (hE k i h).2, hold k i h⟩) (fun k i h1 h2 => ?_) (fun j e he => ?_) ?_ (fun k i k' i' h1 h2 h3 h4 he => ?_) (fun k i h => ?_), hE, by simp⟩
  · rcases hnw k i h1 h2 with ⟨rfl, rfl⟩ | ⟨rfl, rfl⟩ | ⟨rfl, rfl⟩ | ⟨rfl, rfl⟩
    · exact ⟨0, by rw [e22]; rfl⟩
    · exact ⟨1, by rw [e23]; rfl⟩
    · exact ⟨2, by rw [e24]; rfl⟩
    · exact ⟨3, by rw [e25]; rfl⟩
  · match j, he with
    | 0, he => cases he; exact ⟨22, gC σ 22, by rw [hcnt]; simp, by exact Nat.lt_irrefl _, e22.symm⟩
    | 1, he => cases he; exact ⟨23, gC σ 22, by rw [hcnt]; simp, by omega, e23.symm⟩
    | 2, he => cases he; exact ⟨24, gC σ 22, by rw [hcnt]; simp, by omega, e24.symm⟩
    | 3, he => cases he; exact ⟨25, gC σ 22, by rw [hcnt]; simp, by omega, e25.symm⟩
    | j + 4, he => simp at he
  · refine ⟨fun k i x j h hj => ?_, fun k i w x t h hk hx => ?_⟩
    · by_cases g : i < gC σ k
      · have hj2 : gR σ k i x = some j := by
          obtain ⟨n0, n1, n2, n3⟩ := hne k i g
          have m : ∀ (t : Nat) (x y : Nat), ¬ (k = t ∧ i = gC σ 22) → ¬ (k = t ∧ i = gC σ 22 ∧ x = y) := fun t x y h z => h ⟨z.1, z.2.1⟩
          simpa [mkDelta, olet, gI_sI, gI_sIr, gI_sL, gI_sLr, gI_sR, gI_sRr, gI_sN, gI_sC, gL_sI, gL_sIr, gL_sL, gL_sLr, gL_sR, gL_sRr, gL_sN, gL_sC, gR_sI, gR_sIr, gR_sL, gR_sLr, gR_sR, gR_sRr, gR_sN, gR_sC, gN_sI, gN_sIr, gN_sL, gN_sLr, gN_sR, gN_sRr, gN_sN, gN_sC, gC_sI, gC_sIr, gC_sL, gC_sLr, gC_sR, gC_sRr, gC_sN, gC_sC, n0, n1, n2, n3, m 22 _ _ n0, m 23 _ _ n1, m 24 _ _ n2, m 25 _ _ n3] using hj
        exact (hE _ _ (hC.2.1.1 k i x j g hj2)).1
      · rcases hnw k i h g with ⟨rfl, rfl⟩ | ⟨rfl, rfl⟩ | ⟨rfl, rfl⟩ | ⟨rfl, rfl⟩ <;> (exfalso; revert hj; simp [mkDelta, olet, gI_sI, gI_sIr, gI_sL, gI_sLr, gI_sR, gI_sRr, gI_sN, gI_sC, gL_sI, gL_sIr, gL_sL, gL_sLr, gL_sR, gL_sRr, gL_sN, gL_sC, gR_sI, gR_sIr, gR_sL, gR_sLr, gR_sR, gR_sRr, gR_sN, gR_sC, gN_sI, gN_sIr, gN_sL, gN_sLr, gN_sR, gN_sRr, gN_sN, gN_sC, gC_sI, gC_sIr, gC_sL, gC_sLr, gC_sR, gC_sRr, gC_sN, gC_sC])
    · by_cases g : i < gC σ k
      · exact (hE _ _ (hC.2.1.2 k i w x t g hk hx)).1
      · rcases hnw k i h g with ⟨rfl, rfl⟩ | ⟨rfl, rfl⟩ | ⟨rfl, rfl⟩ | ⟨rfl, rfl⟩
        · cases hk
          match x, hx with
          | 0, hx => cases hx
          | 1, hx => cases hx
          | 2, hx => cases hx; rw [hcnt]; simp
          | 3, hx => cases hx; rw [hcnt]; simp
          | 4, hx => cases hx; rw [hcnt]; simp
          | 5, hx => cases hx
          | 6, hx => cases hx
          | 7, hx => cases hx
          | x + 8, hx => simp at hx
        · cases hk
        · cases hk
        · cases hk
  · have hx0 := hD.1
    have hw : ∀ (a' b' : Nat) (x y : Nat × va_E), ([(q, .inr (1, [.int a, .int b, .ref q1, .ref q2, .ref q3, .int 0, .int 0, .int 0])), (q1, .inl (dA 23, n.toNatClampNeg, .inl (fun _ => 0))), (q2, .inl (dA 24, n.toNatClampNeg, .inl (fun _ => 0))), (q3, .inl (dA 25, n.toNatClampNeg, .inl (fun _ => 0)))] : va_W)[a']? = some x → ([(q, .inr (1, [.int a, .int b, .ref q1, .ref q2, .ref q3, .int 0, .int 0, .int 0])), (q1, .inl (dA 23, n.toNatClampNeg, .inl (fun _ => 0))), (q2, .inl (dA 24, n.toNatClampNeg, .inl (fun _ => 0))), (q3, .inl (dA 25, n.toNatClampNeg, .inl (fun _ => 0)))] : va_W)[b']? = some y → x.1 = y.1 → a' = b' := fun a' b' x y h1 h2 h3 => by have := hD.1 (ws.length + a') (ws.length + b') x y (ws_get h1) (ws_get h2) h3; omega
    rcases hnw k i h1 h2 with ⟨rfl, rfl⟩ | ⟨rfl, rfl⟩ | ⟨rfl, rfl⟩ | ⟨rfl, rfl⟩ <;> rcases hnw k' i' h3 h4 with ⟨rfl, rfl⟩ | ⟨rfl, rfl⟩ | ⟨rfl, rfl⟩ | ⟨rfl, rfl⟩
    · exact ⟨rfl, rfl⟩
    · exact absurd (hw 0 1 _ _ rfl rfl (by simpa using he)) (by decide)
    · exact absurd (hw 0 2 _ _ rfl rfl (by simpa using he)) (by decide)
    · exact absurd (hw 0 3 _ _ rfl rfl (by simpa using he)) (by decide)
    · exact absurd (hw 1 0 _ _ rfl rfl (by simpa using he)) (by decide)
    · exact ⟨rfl, rfl⟩
    · exact absurd (hw 1 2 _ _ rfl rfl (by simpa using he)) (by decide)
    · exact absurd (hw 1 3 _ _ rfl rfl (by simpa using he)) (by decide)
    · exact absurd (hw 2 0 _ _ rfl rfl (by simpa using he)) (by decide)
    · exact absurd (hw 2 1 _ _ rfl rfl (by simpa using he)) (by decide)
    · exact ⟨rfl, rfl⟩
    · exact absurd (hw 2 3 _ _ rfl rfl (by simpa using he)) (by decide)
    · exact absurd (hw 3 0 _ _ rfl rfl (by simpa using he)) (by decide)
    · exact absurd (hw 3 1 _ _ rfl rfl (by simpa using he)) (by decide)
    · exact absurd (hw 3 2 _ _ rfl rfl (by simpa using he)) (by decide)
    · exact ⟨rfl, rfl⟩
  · by_cases g : i < gC σ k
    · show A ((fun k i => if k = 22 ∧ i = gC σ 22 then q else if k = 23 ∧ i = gC σ 22 then q1 else if k = 24 ∧ i = gC σ 22 then q2 else if k = 25 ∧ i = gC σ 22 then q3 else ad' k i) k i)
      rw [hbd k i g]
      obtain ⟨z, hz⟩ := hC.2.2.1 k i g
      exact hD.2 z _ (by rw [List.getElem?_append_left (List.getElem?_eq_some_iff.mp hz).1]; exact hz)
    · rcases hnw k i h g with ⟨rfl, rfl⟩ | ⟨rfl, rfl⟩ | ⟨rfl, rfl⟩ | ⟨rfl, rfl⟩
      · have hz := hD.2 (ws.length + 0) _ (ws_get (xs := [(q, .inr (1, [.int a, .int b, .ref q1, .ref q2, .ref q3, .int 0, .int 0, .int 0])), (q1, .inl (dA 23, n.toNatClampNeg, .inl (fun _ => 0))), (q2, .inl (dA 24, n.toNatClampNeg, .inl (fun _ => 0))), (q3, .inl (dA 25, n.toNatClampNeg, .inl (fun _ => 0)))]) (j := 0) rfl)
        simpa using hz
      · have hz := hD.2 (ws.length + 1) _ (ws_get (xs := [(q, .inr (1, [.int a, .int b, .ref q1, .ref q2, .ref q3, .int 0, .int 0, .int 0])), (q1, .inl (dA 23, n.toNatClampNeg, .inl (fun _ => 0))), (q2, .inl (dA 24, n.toNatClampNeg, .inl (fun _ => 0))), (q3, .inl (dA 25, n.toNatClampNeg, .inl (fun _ => 0)))]) (j := 1) rfl)
        simpa using hz
      · have hz := hD.2 (ws.length + 2) _ (ws_get (xs := [(q, .inr (1, [.int a, .int b, .ref q1, .ref q2, .ref q3, .int 0, .int 0, .int 0])), (q1, .inl (dA 23, n.toNatClampNeg, .inl (fun _ => 0))), (q2, .inl (dA 24, n.toNatClampNeg, .inl (fun _ => 0))), (q3, .inl (dA 25, n.toNatClampNeg, .inl (fun _ => 0)))]) (j := 2) rfl)
        simpa using hz
      · have hz := hD.2 (ws.length + 3) _ (ws_get (xs := [(q, .inr (1, [.int a, .int b, .ref q1, .ref q2, .ref q3, .int 0, .int 0, .int 0])), (q1, .inl (dA 23, n.toNatClampNeg, .inl (fun _ => 0))), (q2, .inl (dA 24, n.toNatClampNeg, .inl (fun _ => 0))), (q3, .inl (dA 25, n.toNatClampNeg, .inl (fun _ => 0)))]) (j := 3) rfl)
        simpa using hz
