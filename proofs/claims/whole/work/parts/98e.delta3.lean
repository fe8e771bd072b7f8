/-! ===== delta ===== -/
theorem delta_Inv {t a b d za zb ns k2 ad2 cp2 : Nat} {σ τ : rS} {P2 L2 A2 P2' L2' A2' : Nat → Int32} (h : Inv t σ τ) (hd : d = gC σ 22) (hd16 : d < 16) (hza : za ≤ 400) (hzb : zb ≤ 400) (hDI : DI d za k2 ad2 cp2 P2 L2 A2 τ P2' L2' A2') (hk : k2 ≤ zb) (hs : ad2 + cp2 = zb) :
    Inv t (sI (dlC (sR (mkDelta σ (nI za) (nI ns) (nI zb)) 4 0 d (some d)) d P2 L2 A2 (nI k2) (nI ad2) (nI cp2)) 0 0 11 (nI d + 1)) (sI (sI (sI (sI (dlR τ P2' L2' A2') 63 0 d (nI k2)) 61 0 d (nI za)) 62 0 d (nI ns)) 29 0 30 (nI d + 1)) := by
  obtain ⟨h1, h2, h3, h4, h5, h6, ⟨d1, d2, d3, d4, d5, d6, d7⟩⟩ := h
  refine ⟨h1, h2, h3, h4, h5, h6, ?_⟩
  obtain ⟨D1, D2, D3, D4, D5⟩ := hDI
  have c22 : gC (sI (dlC (sR (mkDelta σ (nI za) (nI ns) (nI zb)) 4 0 d (some d)) d P2 L2 A2 (nI k2) (nI ad2) (nI cp2)) 0 0 11 (nI d + 1)) 22 = d + 1 := by rw [hd]; rfl
  have c23 : gC (sI (dlC (sR (mkDelta σ (nI za) (nI ns) (nI zb)) 4 0 d (some d)) d P2 L2 A2 (nI k2) (nI ad2) (nI cp2)) 0 0 11 (nI d + 1)) 23 = d + 1 := by rw [hd]; rfl
  have c24 : gC (sI (dlC (sR (mkDelta σ (nI za) (nI ns) (nI zb)) 4 0 d (some d)) d P2 L2 A2 (nI k2) (nI ad2) (nI cp2)) 0 0 11 (nI d + 1)) 24 = d + 1 := by rw [hd]; rfl
  have c25 : gC (sI (dlC (sR (mkDelta σ (nI za) (nI ns) (nI zb)) 4 0 d (some d)) d P2 L2 A2 (nI k2) (nI ad2) (nI cp2)) 0 0 11 (nI d + 1)) 25 = d + 1 := by rw [hd]; rfl
  refine ⟨by rw [c22]; omega, by rw [c22, c23], by rw [c22, c24], by rw [c22, c25], ?_, ?_, fun e he => ?_⟩
  · rw [c22]; exact nI_1 d
  · rw [c22]; exact nI_1 d
  rw [c22] at he
  have mi : ∀ q i x, (q ≠ 22 ∧ q ≠ 23 ∧ q ≠ 24 ∧ q ≠ 25 ∨ i ≠ d) → gI (mkDelta σ (nI za) (nI ns) (nI zb)) q i x = gI σ q i x := by
    intro q i x hq
    simp only [mkDelta, olet_eq, gI_sC, gI_sN, gI_sRr, gI_sIr, gI_sI, ← hd]
    have x22 : ¬ (q = 22 ∧ i = d) := by omega
    have x23 : ¬ (q = 23 ∧ i = d) := by omega
    have x24 : ¬ (q = 24 ∧ i = d) := by omega
    have x25 : ¬ (q = 25 ∧ i = d) := by omega
    rw [if_neg x25, if_neg x24, if_neg x23, if_neg (fun w => x22 ⟨w.1, w.2.1⟩), if_neg (fun w => x22 ⟨w.1, w.2.1⟩), if_neg x22]
  have mn : ∀ q i, gN (mkDelta σ (nI za) (nI ns) (nI zb)) q i = if i = d ∧ (q = 23 ∨ q = 24 ∨ q = 25) then zb else gN σ q i := by
    intro q i
    simp only [mkDelta, olet_eq, gN_sC, gN_sN, gN_sRr, gN_sIr, gN_sI, ← hd, nI_clamp (show zb < 2 ^ 31 by omega)]
    grind
  have i0 : gI (mkDelta σ (nI za) (nI ns) (nI zb)) 22 d 0 = nI za := by
    simp [mkDelta, olet_eq, gI_sC, gI_sN, gI_sRr, gI_sIr, gI_sI, ← hd]
  have i1 : gI (mkDelta σ (nI za) (nI ns) (nI zb)) 22 d 1 = nI ns := by
    simp [mkDelta, olet_eq, gI_sC, gI_sN, gI_sRr, gI_sIr, gI_sI, ← hd]
  by_cases ee : e = d
  · subst ee
    have a0 : gI (sI (dlC (sR (mkDelta σ (nI za) (nI ns) (nI zb)) 4 0 e (some e)) e P2 L2 A2 (nI k2) (nI ad2) (nI cp2)) 0 0 11 (nI e + 1)) 22 e 0 = nI za := by
      simp only [gI_sI, dlC, gI_sIr, gI_sR, i0]; simp
    have a1 : gI (sI (dlC (sR (mkDelta σ (nI za) (nI ns) (nI zb)) 4 0 e (some e)) e P2 L2 A2 (nI k2) (nI ad2) (nI cp2)) 0 0 11 (nI e + 1)) 22 e 1 = nI ns := by
      simp only [gI_sI, dlC, gI_sIr, gI_sR, i1]; simp
    have a5 : gI (sI (dlC (sR (mkDelta σ (nI za) (nI ns) (nI zb)) 4 0 e (some e)) e P2 L2 A2 (nI k2) (nI ad2) (nI cp2)) 0 0 11 (nI e + 1)) 22 e 5 = nI k2 := rd5 _ _ _
    have a6 : gI (sI (dlC (sR (mkDelta σ (nI za) (nI ns) (nI zb)) 4 0 e (some e)) e P2 L2 A2 (nI k2) (nI ad2) (nI cp2)) 0 0 11 (nI e + 1)) 22 e 6 = nI ad2 := rd6 _ _ _
    have a7 : gI (sI (dlC (sR (mkDelta σ (nI za) (nI ns) (nI zb)) 4 0 e (some e)) e P2 L2 A2 (nI k2) (nI ad2) (nI cp2)) 0 0 11 (nI e + 1)) 22 e 7 = nI cp2 := rd7 _ _ _
    have aP : ∀ k, gI (sI (dlC (sR (mkDelta σ (nI za) (nI ns) (nI zb)) 4 0 e (some e)) e P2 L2 A2 (nI k2) (nI ad2) (nI cp2)) 0 0 11 (nI e + 1)) 23 e k = P2 k := fun k => rdP (L := L2) (A := A2) (nI k2) (nI ad2) (nI cp2) k
    have aL : ∀ k, gI (sI (dlC (sR (mkDelta σ (nI za) (nI ns) (nI zb)) 4 0 e (some e)) e P2 L2 A2 (nI k2) (nI ad2) (nI cp2)) 0 0 11 (nI e + 1)) 24 e k = L2 k := fun k => rdL (P := P2) (A := A2) (nI k2) (nI ad2) (nI cp2) k
    have aA : ∀ k, gI (sI (dlC (sR (mkDelta σ (nI za) (nI ns) (nI zb)) 4 0 e (some e)) e P2 L2 A2 (nI k2) (nI ad2) (nI cp2)) 0 0 11 (nI e + 1)) 25 e k = A2 k := fun k => rdA (P := P2) (L := L2) (nI k2) (nI ad2) (nI cp2) k
    have n23 : gN (sI (dlC (sR (mkDelta σ (nI za) (nI ns) (nI zb)) 4 0 e (some e)) e P2 L2 A2 (nI k2) (nI ad2) (nI cp2)) 0 0 11 (nI e + 1)) 23 e = zb := (mn 23 e).trans (if_pos ⟨rfl, Or.inl rfl⟩)
    have n24 : gN (sI (dlC (sR (mkDelta σ (nI za) (nI ns) (nI zb)) 4 0 e (some e)) e P2 L2 A2 (nI k2) (nI ad2) (nI cp2)) 0 0 11 (nI e + 1)) 24 e = zb := (mn 24 e).trans (if_pos ⟨rfl, Or.inr (Or.inl rfl)⟩)
    have n25 : gN (sI (dlC (sR (mkDelta σ (nI za) (nI ns) (nI zb)) 4 0 e (some e)) e P2 L2 A2 (nI k2) (nI ad2) (nI cp2)) 0 0 11 (nI e + 1)) 25 e = zb := (mn 25 e).trans (if_pos ⟨rfl, Or.inr (Or.inr rfl)⟩)
    have r4 : gR (sI (dlC (sR (mkDelta σ (nI za) (nI ns) (nI zb)) 4 0 e (some e)) e P2 L2 A2 (nI k2) (nI ad2) (nI cp2)) 0 0 11 (nI e + 1)) 4 0 e = some e := by
      simp [dlC, gR_sI, gR_sIr, gR_sR]
    have b63 : gI (sI (sI (sI (sI (dlR τ P2' L2' A2') 63 0 e (nI k2)) 61 0 e (nI za)) 62 0 e (nI ns)) 29 0 30 (nI e + 1)) 63 0 e = nI k2 := by simp [gI_sI]
    have b61 : gI (sI (sI (sI (sI (dlR τ P2' L2' A2') 63 0 e (nI k2)) 61 0 e (nI za)) 62 0 e (nI ns)) 29 0 30 (nI e + 1)) 61 0 e = nI za := by simp [gI_sI]
    have b62 : gI (sI (sI (sI (sI (dlR τ P2' L2' A2') 63 0 e (nI k2)) 61 0 e (nI za)) 62 0 e (nI ns)) 29 0 30 (nI e + 1)) 62 0 e = nI ns := by simp [gI_sI]
    have b64 : ∀ x, gI (sI (sI (sI (sI (dlR τ P2' L2' A2') 63 0 e (nI k2)) 61 0 e (nI za)) 62 0 e (nI ns)) 29 0 30 (nI e + 1)) 64 0 x = P2' x := fun _ => rfl
    have b65 : ∀ x, gI (sI (sI (sI (sI (dlR τ P2' L2' A2') 63 0 e (nI k2)) 61 0 e (nI za)) 62 0 e (nI ns)) 29 0 30 (nI e + 1)) 65 0 x = L2' x := fun _ => rfl
    have b66 : ∀ x, gI (sI (sI (sI (sI (dlR τ P2' L2' A2') 63 0 e (nI k2)) 61 0 e (nI za)) 62 0 e (nI ns)) 29 0 30 (nI e + 1)) 66 0 x = A2' x := fun _ => rfl
    unfold delOk nA sumA
    simp only [a0, a1, a5, a6, a7, aP, aL, aA, n23, n24, n25, r4, b63, b61, b62, b64, b65, b66, nI_clamp (show k2 < 2 ^ 31 by omega)]
    have s1 : sumG (fun k => P2 k) (fun k => L2 k) true k2 = cp2 := D2.symm
    have s2 : sumG (fun k => P2 k) (fun k => L2 k) false k2 = ad2 := D3.symm
    simp only [s1, s2]
    refine ⟨by trivial, by omega, by trivial, by trivial, by trivial, by trivial, by trivial, by trivial, by omega, hk, hk, by omega, hzb, fun k hk' => ?_, D4⟩
    obtain ⟨g1, g2, g3, g4⟩ := D1 k hk'
    refine ⟨g1, g2, g3, ?_⟩
    rcases g4 with g4 | ⟨q, g4, g5⟩
    · exact Or.inl g4
    · refine Or.inr ⟨q, g4, ?_⟩
      rw [nI_toInt (by omega)]
      omega
  · have cI : ∀ q x, q = 22 ∨ q = 23 ∨ q = 24 ∨ q = 25 → gI (sI (dlC (sR (mkDelta σ (nI za) (nI ns) (nI zb)) 4 0 d (some d)) d P2 L2 A2 (nI k2) (nI ad2) (nI cp2)) 0 0 11 (nI d + 1)) q e x = gI σ q e x := by
      intro q x hq
      simp only [gI_sI, dlC, gI_sIr, gI_sR, ee, false_and, and_false, if_false]
      rw [if_neg (by omega)]
      exact mi q e x (Or.inr ee)
    have cN : ∀ q, gN (sI (dlC (sR (mkDelta σ (nI za) (nI ns) (nI zb)) 4 0 d (some d)) d P2 L2 A2 (nI k2) (nI ad2) (nI cp2)) 0 0 11 (nI d + 1)) q e = gN σ q e := by
      intro q
      exact (mn q e).trans (if_neg (fun w => ee w.1))
    have cR : gR (sI (dlC (sR (mkDelta σ (nI za) (nI ns) (nI zb)) 4 0 d (some d)) d P2 L2 A2 (nI k2) (nI ad2) (nI cp2)) 0 0 11 (nI d + 1)) 4 0 e = gR σ 4 0 e := by
      simp only [gR_sI, dlC, gR_sIr, gR_sR, ee, and_false, if_false]
      simp only [mkDelta, olet_eq, gR_sC, gR_sN, gR_sRr, gR_sIr, gR_sI]
      simp
    have b6 : ∀ q, q = 61 ∨ q = 62 ∨ q = 63 → gI (sI (sI (sI (sI (dlR τ P2' L2' A2') 63 0 d (nI k2)) 61 0 d (nI za)) 62 0 d (nI ns)) 29 0 30 (nI d + 1)) q 0 e = gI τ q 0 e := by
      intro q hq
      simp only [gI_sI, dlR, gI_sIr, ee, and_false, if_false]
      rw [if_neg (by omega), if_neg (by omega), if_neg (by omega), if_neg (by omega)]
    have b64 : ∀ x, gI (sI (sI (sI (sI (dlR τ P2' L2' A2') 63 0 d (nI k2)) 61 0 d (nI za)) 62 0 d (nI ns)) 29 0 30 (nI d + 1)) 64 0 x = P2' x := fun _ => rfl
    have b65 : ∀ x, gI (sI (sI (sI (sI (dlR τ P2' L2' A2') 63 0 d (nI k2)) 61 0 d (nI za)) 62 0 d (nI ns)) 29 0 30 (nI d + 1)) 65 0 x = L2' x := fun _ => rfl
    have b66 : ∀ x, gI (sI (sI (sI (sI (dlR τ P2' L2' A2') 63 0 d (nI k2)) 61 0 d (nI za)) 62 0 d (nI ns)) 29 0 30 (nI d + 1)) 66 0 x = A2' x := fun _ => rfl
    have old := d7 e (by omega)
    unfold delOk nA sumA at old ⊢
    simp only [cI 22 _ (Or.inl rfl), cI 23 _ (Or.inr (Or.inl rfl)), cI 24 _ (Or.inr (Or.inr (Or.inl rfl))), cI 25 _ (Or.inr (Or.inr (Or.inr rfl))), cN, cR, b6 61 (Or.inl rfl), b6 62 (Or.inr (Or.inl rfl)), b6 63 (Or.inr (Or.inr rfl)), b64, b65, b66]
    obtain ⟨o1, o2, o3, o4, o5, o6, o7, o8, o9, o10, o11, o12, o13, o14, o15⟩ := old
    refine ⟨o1, o2, o3, o4, o5, o6, o7, o8, o9, o10, o11, o12, o13, fun k hk' => ?_, fun k hk' => ?_⟩
    · have q := D5 (400 * e + k) (Or.inl (by omega))
      rw [q.1, q.2.1]
      exact o14 k hk'
    · have q := D5 (400 * e + k) (Or.inl (by omega))
      rw [q.2.2]
      exact o15 k hk'
theorem eq_delta {N : Nat} (hN : 500 ≤ N) : EQ_delta N Inv := by
  intro v w t σ τ ht h
  show Bth t _ _
  unfold f10_delta f11_delta
  rcases strCase h v with ⟨e1, e2⟩ | ⟨a, ha1, rfl, e1, e2⟩
  · rw [e1, e2]
    rcases strCase h w with ⟨e3, e4⟩ | ⟨b, hb1, rfl, e3, e4⟩
    · simp only [↓obind_some, e3]; exact bth_ret h _
    · simp only [↓obind_some, e3]; exact bth_ret h _
  rcases strCase h w with ⟨e3, e4⟩ | ⟨b, hb1, rfl, e3, e4⟩
  · rw [e1, e2]
    simp only [↓obind_some, ↓reduceIte, e3, e4]; exact bth_ret h _
  rw [e1, e2, obind_some, obind_some, if_pos rfl, e3, e4, obind_some, obind_some, onul_some, onul_some, if_pos rfl]
  have ha24 : a < 24 := Nat.lt_of_lt_of_le ha1 h.2.2.2.1.1
  have hb24 : b < 24 := Nat.lt_of_lt_of_le hb1 h.2.2.2.1.1
  have Za := strZ h ha1
  have Zb := strZ h hb1
  have sa := h.2.2.2.1.2.2.2.2 a ha1
  have sb' := h.2.2.2.1.2.2.2.2 b hb1
  have hdel := h.2.2.2.2.2.2
  have hIg := h.1.2.1
  have hIh := h.1.2.2
  have hd16 := hdel.1
  have hdA := hdel.2.2.2.2.1
  have hdB := hdel.2.2.2.2.2.1
  rw [hdA, hdB]
  by_cases cd : gC σ 22 = 16
  · rw [cd, if_neg (show ¬ nI 16 < 16 by decide), if_pos (show nI 16 = 16 from rfl)]
    exact bth_ret h _
  rw [if_pos (show nI (gC σ 22) < (16 : Int32) from nI_lt (b := 16) (by omega) (by omega)), if_neg (show ¬ nI (gC σ 22) = (16 : Int32) from fun q => cd ((nI_eq (b := 16) (by omega) (by omega)).mp q)), olet_eq]
  have hAB : AB σ τ a b (zS σ a) (zS σ b) := ⟨ha24, hb24, Za.1, Zb.1, Za.2.1, Zb.2.1, Za.2.2.2, Zb.2.2.2, Za.2.2.1, Zb.2.2.1, hIg.2.2.2.2.2.2.2.2.1, hIg.2.2.2.2.2.2.2.2.2.1, fun i j hi hj => bt_inj (sa.2.2.2.2.2.2.2.2.2.2 i hi) (sb'.2.2.2.2.2.2.2.2.2.2 j hj), fun j hj => sb'.2.2.2.2.2.2.2.2.2.2 j hj⟩
  obtain ⟨ns, hns, k1, k2⟩ := sum_both2 (N := N) (s := a) (a := 0) (e := zS σ a) hN h ha1 (Nat.le_refl _) (by omega)
  have k1' : f9_sum N a 0 (nI (zS σ a)) σ = some (nI ns, σ) := k1
  unfold newDelta
  rw [Za.2.1, k1', obind_some, Zb.2.1]
  have ok : (0 : Int) ≤ (nI (zS σ b)).toInt ∧ (nI (zS σ b)).toInt ≤ 400 ∧ gC σ 23 = gC σ 22 ∧ gC σ 24 = gC σ 22 ∧ gC σ 25 = gC σ 22 := by
    rw [nI_toInt (by omega)]
    exact ⟨by omega, by omega, hdel.2.1, hdel.2.2.1, hdel.2.2.2.1⟩
  rw [ock_pos ok]
  generalize hdd : gC σ 22 = d at *
  have n4 : gN (mkDelta σ (nI (zS σ a)) (nI ns) (nI (zS σ b))) 4 0 = 16 := h.1.1.2.2.2.1
  have n4' : gN (sR (mkDelta σ (nI (zS σ a)) (nI ns) (nI (zS σ b))) 4 0 d (some d)) 4 0 = 16 := h.1.1.2.2.2.1
  have i11 : gI (sR (mkDelta σ (nI (zS σ a)) (nI ns) (nI (zS σ b))) 4 0 d (some d)) 0 0 11 = nI d := hdA
  have r4 : gR (sR (mkDelta σ (nI (zS σ a)) (nI ns) (nI (zS σ b))) 4 0 d (some d)) 4 0 d = some d := by
    rw [gR_sR, if_pos ⟨rfl, rfl, rfl⟩]
  simp only [n4, idx_nI _ (show d < 16 by omega) (show d < 2 ^ 31 by omega), olet_eq, i11, n4', r4, onul_some]
  have hz := Zb.1
  have mn : ∀ q, q = 23 ∨ q = 24 ∨ q = 25 → gN (sR (mkDelta σ (nI (zS σ a)) (nI ns) (nI (zS σ b))) 4 0 d (some d)) q d = zS σ b := by
    intro q hq
    rw [gN_sR]
    simp only [mkDelta, olet_eq, gN_sC, gN_sN, hdd, nI_clamp (show zS σ b < 2 ^ 31 by omega)]
    grind
  have mz : ∀ x, x = 5 ∨ x = 6 ∨ x = 7 → gI (sR (mkDelta σ (nI (zS σ a)) (nI ns) (nI (zS σ b))) 4 0 d (some d)) 22 d x = nI 0 := by
    intro x hx
    have e0 : nI 0 = 0 := rfl
    rw [gI_sR, e0]
    simp only [mkDelta, olet_eq, gI_sC, gI_sN, gI_sRr, gI_sIr, gI_sI, hdd]
    grind
  have hAB2 : AB (sR (mkDelta σ (nI (zS σ a)) (nI ns) (nI (zS σ b))) 4 0 d (some d)) τ a b (zS σ a) (zS σ b) := hAB
  generalize hρ : sR (mkDelta σ (nI (zS σ a)) (nI ns) (nI (zS σ b))) 4 0 d (some d) = ρ at *
  have eρ := dlC_id ρ d
  rw [mz 5 (Or.inl rfl), mz 6 (Or.inr (Or.inl rfl)), mz 7 (Or.inr (Or.inr rfl))] at eρ
  obtain ⟨P2, L2, A2, P2', L2', A2', j2, ad2, cp2, D, hj2, hsum, F1, F2⟩ := dl_loop (N := N) (d := d) hN hAB2 (by omega) (mn 23 (Or.inl rfl)) (mn 24 (Or.inr (Or.inl rfl))) (mn 25 (Or.inr (Or.inr rfl))) hIh.2.2.2.2.2.2.2.2.2.2.1 hIh.2.2.2.2.2.2.2.2.2.2.2.1 hIh.2.2.2.2.2.2.2.2.2.2.2.2 (zS σ b) N N 0 0 0 0 0 (gI ρ 23 d) (gI ρ 24 d) (gI ρ 25 d) (gI τ 64 0) (gI τ 65 0) (gI τ 66 0) (by omega) (by omega) (by omega) (by omega) (by omega) (by omega) (by omega) ⟨fun j hj => absurd hj (Nat.not_lt_zero j), rfl, rfl, fun j hj => absurd hj (Nat.not_lt_zero j), fun x _ => ⟨rfl, rfl, rfl⟩⟩
  rw [eρ] at F1
  rw [dlR_id] at F2
  have F1' : f1_fill N d a b ρ = _ := F1
  have F2' : L11_delta_45 N N 0 (nI a) (nI b) (nI d) 0 0 0 τ = _ := F2
  rw [F1', F2', obind_some]
  unfold B11_delta_45
  have g45 : gN (dlR τ P2' L2' A2') 45 0 = 24 := hIg.2.2.2.2.2.2.2.2.2.1
  have g63 : gN (dlR τ P2' L2' A2') 63 0 = 16 := hIh.2.2.2.2.2.2.2.2.2.1
  have c45 : ∀ s, gI (dlR τ P2' L2' A2') 45 0 s = gI τ 45 0 s := fun _ => rfl
  have g45a : ∀ x y, gN (sI (dlR τ P2' L2' A2') 63 0 x y) 45 0 = 24 := fun _ _ => hIg.2.2.2.2.2.2.2.2.2.1
  have c45a : ∀ x y s, gI (sI (dlR τ P2' L2' A2') 63 0 x y) 45 0 s = gI τ 45 0 s := fun _ _ _ => rfl
  have g61a : ∀ x y, gN (sI (dlR τ P2' L2' A2') 63 0 x y) 61 0 = 16 := fun _ _ => hIh.2.2.2.2.2.2.2.1
  have g45b : ∀ x y x' y', gN (sI (sI (dlR τ P2' L2' A2') 63 0 x y) 61 0 x' y') 45 0 = 24 := fun _ _ _ _ => hIg.2.2.2.2.2.2.2.2.2.1
  have c45b : ∀ x y x' y' s, gI (sI (sI (dlR τ P2' L2' A2') 63 0 x y) 61 0 x' y') 45 0 s = gI τ 45 0 s := fun _ _ _ _ _ => rfl
  have g62b : ∀ x y x' y', gN (sI (sI (dlR τ P2' L2' A2') 63 0 x y) 61 0 x' y') 62 0 = 16 := fun _ _ _ _ => hIh.2.2.2.2.2.2.2.2.1
  have s1 := sumOf_eq (N := N) (s := a) (a := 0) (e := zS σ a) (τ := τ) hN hIg.2.2.2.2.2.2.2.2.1 ha24 Za.1 (by omega)
  have s2 := sumOf_eq (N := N) (s := a) (a := 0) (e := zS σ a) (τ := sI (sI (dlR τ P2' L2' A2') 63 0 d (nI j2)) 61 0 d (nI (zS σ a))) hN hIg.2.2.2.2.2.2.2.2.1 ha24 Za.1 (by omega)
  have ehs : hs (fun j => gI τ 44 0 (400 * a + j)) 0 (zS σ a - 0) 0 = nI ns := by
    rw [k2] at s1
    have s1' := (Prod.mk.inj (Option.some.inj s1)).1
    exact s1'.symm
  have s2' : f11_sumOf N 0 (nI a) 0 (nI (zS σ a)) (sI (sI (dlR τ P2' L2' A2') 63 0 d (nI j2)) 61 0 d (nI (zS σ a))) = some (hs (fun j => gI τ 44 0 (400 * a + j)) 0 (zS σ a - 0) 0, sI (sI (dlR τ P2' L2' A2') 63 0 d (nI j2)) 61 0 d (nI (zS σ a))) := s2
  have i30 : ∀ x, gI (sI (sI (sI (dlR τ P2' L2' A2') 63 0 d (nI j2)) 61 0 d (nI (zS σ a))) 62 0 d x) 29 0 30 = nI d := fun _ => hdB
  rw [g45, idx_nI _ hb24 (by omega), c45, Zb.2.2.1, if_pos (nI_le (Nat.le_refl _) (by omega)), g63, idx_nI _ (by omega) (by omega), olet_eq, g45a, idx_nI _ ha24 (by omega), c45a, Za.2.2.1, g61a, idx_nI _ (by omega) (by omega), olet_eq, g45b, idx_nI _ ha24 (by omega), c45b, Za.2.2.1, s2', ehs, obind_some, g62b, idx_nI _ (by omega) (by omega), olet_eq, i30, olet_eq]
  have i11b : gI (dlC ρ d P2 L2 A2 (nI j2) (nI ad2) (nI cp2)) 0 0 11 = nI d := i11
  have i11c : ∀ x, gI (sI (dlC ρ d P2 L2 A2 (nI j2) (nI ad2) (nI cp2)) 0 0 11 x) 0 0 11 = x := fun _ => rfl
  rw [i11b, i11c]
  have hI := delta_Inv (t := t) (a := a) (b := b) (ns := ns) (P2 := P2) (L2 := L2) (A2 := A2) (P2' := P2') (L2' := L2') (A2' := A2') h hdd.symm (by omega) Za.1 Zb.1 D hj2 hsum
  rw [hρ] at hI
  refine bth_ret2 hI ?_
  rw [nI_1, nI_pred]
