/-! ===== deltas: the acts ===== -/
noncomputable def dlC (σ : rS) (d : Nat) (P L A : Nat → Int32) (n ad cp : Int32) : rS := sI (sI (sI (sIr (sIr (sIr σ 23 d P) 24 d L) 25 d A) 22 d 5 n) 22 d 6 ad) 22 d 7 cp
noncomputable def dlR (τ : rS) (P L A : Nat → Int32) : rS := sIr (sIr (sIr τ 64 0 P) 65 0 L) 66 0 A
section DU
variable (σ τ : rS) (d : Nat) (P L A : Nat → Int32) (n ad cp v : Int32) (j : Nat)
theorem dlC_P : sI (dlC σ d P L A n ad cp) 23 d j v = dlC σ d (up P j v) L A n ad cp := by
  refine ext5 ?_ rfl
  funext k i x
  simp only [dlC, sI, sIr, up]
  grind
theorem dlC_L : sI (dlC σ d P L A n ad cp) 24 d j v = dlC σ d P (up L j v) A n ad cp := by
  refine ext5 ?_ rfl
  funext k i x
  simp only [dlC, sI, sIr, up]
  grind
theorem dlC_A : sI (dlC σ d P L A n ad cp) 25 d j v = dlC σ d P L (up A j v) n ad cp := by
  refine ext5 ?_ rfl
  funext k i x
  simp only [dlC, sI, sIr, up]
  grind
theorem dlC_n : sI (dlC σ d P L A n ad cp) 22 d 5 v = dlC σ d P L A v ad cp := by
  refine ext5 ?_ rfl
  funext k i x
  simp only [dlC, sI, sIr]
  grind
theorem dlC_ad : sI (dlC σ d P L A n ad cp) 22 d 6 v = dlC σ d P L A n v cp := by
  refine ext5 ?_ rfl
  funext k i x
  simp only [dlC, sI, sIr]
  grind
theorem dlC_cp : sI (dlC σ d P L A n ad cp) 22 d 7 v = dlC σ d P L A n ad v := by
  refine ext5 ?_ rfl
  funext k i x
  simp only [dlC, sI, sIr]
  grind
theorem dlC_id : dlC σ d (gI σ 23 d) (gI σ 24 d) (gI σ 25 d) (gI σ 22 d 5) (gI σ 22 d 6) (gI σ 22 d 7) = σ := by
  refine ext5 ?_ rfl
  funext k i x
  simp only [dlC, sI, sIr, gI]
  grind
theorem dlR_P : sI (dlR τ P L A) 64 0 j v = dlR τ (up P j v) L A := by
  refine ext5 ?_ rfl
  funext k i x
  simp only [dlR, sI, sIr, up]
  grind
theorem dlR_L : sI (dlR τ P L A) 65 0 j v = dlR τ P (up L j v) A := by
  refine ext5 ?_ rfl
  funext k i x
  simp only [dlR, sI, sIr, up]
  grind
theorem dlR_A : sI (dlR τ P L A) 66 0 j v = dlR τ P L (up A j v) := by
  refine ext5 ?_ rfl
  funext k i x
  simp only [dlR, sI, sIr, up]
  grind
theorem dlR_id : dlR τ (gI τ 64 0) (gI τ 65 0) (gI τ 66 0) = τ := by
  refine ext5 ?_ rfl
  funext k i x
  simp only [dlR, sIr, gI]
  grind
end DU
section DV
variable {σ τ : rS} {d : Nat} {P L A P' L' A' : Nat → Int32}
theorem rd5 (n ad cp : Int32) : gI (dlC σ d P L A n ad cp) 22 d 5 = n := by simp [dlC, gI_sI]
theorem rd6 (n ad cp : Int32) : gI (dlC σ d P L A n ad cp) 22 d 6 = ad := by simp [dlC, gI_sI]
theorem rd7 (n ad cp : Int32) : gI (dlC σ d P L A n ad cp) 22 d 7 = cp := by simp [dlC, gI_sI]
theorem rdP (n ad cp : Int32) (j : Nat) : gI (dlC σ d P L A n ad cp) 23 d j = P j := by simp [dlC, gI_sI, gI_sIr]
theorem rdL (n ad cp : Int32) (j : Nat) : gI (dlC σ d P L A n ad cp) 24 d j = L j := by simp [dlC, gI_sI, gI_sIr]
theorem rdA (n ad cp : Int32) (j : Nat) : gI (dlC σ d P L A n ad cp) 25 d j = A j := by simp [dlC, gI_sI, gI_sIr]
theorem newAct_eq {zb k : Nat} {v1 v2 ad cp : Int32} (h23 : gN σ 23 d = zb) (h24 : gN σ 24 d = zb) (hk : k < zb) (hz : zb ≤ 400) : f1_newAct d v1 v2 (dlC σ d P L A (nI k) ad cp) = some ((), dlC σ d (up P k v1) (up L k v2) A (nI (k + 1)) ad cp) := by
  unfold f1_newAct
  have e1 : ∀ P L, gN (dlC σ d P L A (nI k) ad cp) 23 d = zb := fun _ _ => h23
  have e2 : ∀ P L, gN (dlC σ d P L A (nI k) ad cp) 24 d = zb := fun _ _ => h24
  rw [rd5, e1, if_pos (nI_lt hk (by omega)), idx_nI _ hk (by omega), olet_eq, dlC_P, rd5, e2, idx_nI _ hk (by omega), olet_eq, dlC_L, rd5, olet_eq, dlC_n, nI_1]
theorem add41_eq {zb k ad : Nat} {v cp : Int32} (h24 : gN σ 24 d = zb) (h25 : gN σ 25 d = zb) (hk : k < zb) (ha : ad < zb) (hz : zb ≤ 400) : B1_addByte_41 d v (dlC σ d P L A (nI (k + 1)) (nI ad) cp) = some ((), dlC σ d P (up L k (L k + 1)) (up A ad (by8 v)) (nI (k + 1)) (nI (ad + 1)) cp) := by
  unfold B1_addByte_41
  have e1 : ∀ A ad, gN (dlC σ d P L A (nI (k + 1)) ad cp) 25 d = zb := fun _ _ => h25
  have e2 : ∀ A ad, gN (dlC σ d P L A (nI (k + 1)) ad cp) 24 d = zb := fun _ _ => h24
  rw [rd6, e1, idx_nI _ ha (by omega), olet_eq, dlC_A, olet_eq, rd6, dlC_ad, nI_1, rd5, nI_pred, e2, idx_nI _ hk (by omega), idx_nI _ hk (by omega), olet_eq, rdL, dlC_L]
  rfl
theorem add_new {zb k ad : Nat} {v cp : Int32} (h23 : gN σ 23 d = zb) (h24 : gN σ 24 d = zb) (h25 : gN σ 25 d = zb) (hk : k < zb) (ha : ad < zb) (hz : zb ≤ 400) (hl : k = 0 ∨ ∃ k', k = k' + 1 ∧ ¬ P k' = -1) : f1_addByte d v (dlC σ d P L A (nI k) (nI ad) cp) = some ((), dlC σ d (up P k (-1)) (up (up L k 0) k (0 + 1)) (up A ad (by8 v)) (nI (k + 1)) (nI (ad + 1)) cp) := by
  have key : B1_addByte_35 d v (dlC σ d P L A (nI k) (nI ad) cp) = some ((), dlC σ d (up P k (-1)) (up (up L k 0) k (0 + 1)) (up A ad (by8 v)) (nI (k + 1)) (nI (ad + 1)) cp) := by
    unfold B1_addByte_35
    rw [newAct_eq h23 h24 hk hz, obind_some, add41_eq h24 h25 hk ha hz, up_same]
  unfold f1_addByte
  have e1 : gN (dlC σ d P L A (nI k) (nI ad) cp) 25 d = zb := h25
  have e2 : gN (dlC σ d P L A (nI k) (nI ad) cp) 23 d = zb := h23
  rw [rd6, e1, if_pos (nI_lt ha (by omega)), rd5]
  rcases hl with rfl | ⟨k', rfl, hP⟩
  · rw [if_pos (show nI 0 = 0 from rfl), key]
  · rw [if_neg (nI_ne0 (by omega) (by omega)), nI_pred, e2, idx_nI _ (by omega) (by omega), rdP, if_neg hP, key]
theorem add_ext {zb k ad : Nat} {v cp : Int32} (h23 : gN σ 23 d = zb) (h24 : gN σ 24 d = zb) (h25 : gN σ 25 d = zb) (hk : k < zb) (ha : ad < zb) (hz : zb ≤ 400) (hP : P k = -1) : f1_addByte d v (dlC σ d P L A (nI (k + 1)) (nI ad) cp) = some ((), dlC σ d P (up L k (L k + 1)) (up A ad (by8 v)) (nI (k + 1)) (nI (ad + 1)) cp) := by
  unfold f1_addByte
  have e1 : gN (dlC σ d P L A (nI (k + 1)) (nI ad) cp) 25 d = zb := h25
  have e2 : gN (dlC σ d P L A (nI (k + 1)) (nI ad) cp) 23 d = zb := h23
  rw [rd6, e1, if_pos (nI_lt ha (by omega)), rd5, if_neg (nI_ne0 (by omega) (by omega)), nI_pred, e2, idx_nI _ hk (by omega), rdP, if_pos hP, add41_eq h24 h25 hk ha hz]
end DV
theorem sumG_cg {P Z P2 Z2 : Nat → Int32} {c : Bool} : ∀ n, (∀ j, j < n → P j = P2 j ∧ Z j = Z2 j) → sumG P Z c n = sumG P2 Z2 c n
  | 0, _ => rfl
  | n + 1, h => by
    show sumG P Z c n + (if decide (P n = -1) = c then 0 else (Z n).toNatClampNeg) = sumG P2 Z2 c n + (if decide (P2 n = -1) = c then 0 else (Z2 n).toNatClampNeg)
    rw [sumG_cg n (fun j hj => h j (by omega)), (h n (by omega)).1, (h n (by omega)).2]
/-- what holds between the acts of both sides while they are made -/
def DI (d za k ad cp : Nat) (P L A : Nat → Int32) (τ : rS) (P' L' A' : Nat → Int32) : Prop :=
  (∀ j, j < k → P' (400 * d + j) = P j ∧ L' (400 * d + j) = L j ∧ (∃ z : Nat, L j = nI z ∧ 0 < z ∧ z ≤ 400) ∧ (P j = -1 ∨ ∃ q : Nat, P j = nI q ∧ q + (L j).toNatClampNeg ≤ za)) ∧ cp = sumG P L true k ∧ ad = sumG P L false k ∧ (∀ j, j < ad → bt (A j) (A' (400 * d + j))) ∧ ∀ x, (x < 400 * d ∨ 400 * d + 400 ≤ x) → P' x = gI τ 64 0 x ∧ L' x = gI τ 65 0 x ∧ A' x = gI τ 66 0 x
section DW
variable {d za k ad cp : Nat} {P L A P' L' A' : Nat → Int32} {τ : rS}
theorem DI_copy {q m : Nat} (h : DI d za k ad cp P L A τ P' L' A') (hk : k < 400) (hm : 0 < m) (hm4 : m ≤ 400) (hq : q + m ≤ za) (hq4 : q < 1000) : DI d za (k + 1) ad (cp + m) (up P k (nI q)) (up L k (nI m)) A τ (up P' (400 * d + k) (nI q)) (up L' (400 * d + k) (nI m)) A' := by
  obtain ⟨h1, h2, h3, h4, h5⟩ := h
  have hc : ∀ j, j < k → up P k (nI q) j = P j ∧ up L k (nI m) j = L j := fun j hj => ⟨up_ne _ _ (by omega), up_ne _ _ (by omega)⟩
  have hne : ¬ nI q = -1 := nI_nm1 (by omega)
  refine ⟨fun j hj => ?_, ?_, ?_, h4, fun x hx => ?_⟩
  · by_cases e : j = k
    · subst e
      rw [up_same, up_same, up_same, up_same]
      exact ⟨rfl, rfl, ⟨m, rfl, hm, hm4⟩, Or.inr ⟨q, rfl, by rw [nI_clamp (by omega)]; exact hq⟩⟩
    · rw [up_ne _ _ (show 400 * d + j ≠ 400 * d + k by omega), up_ne _ _ (show 400 * d + j ≠ 400 * d + k by omega), up_ne _ _ e, up_ne _ _ e]
      exact h1 j (by omega)
  · show cp + m = sumG _ _ true k + (if decide (up P k (nI q) k = -1) = true then 0 else (up L k (nI m) k).toNatClampNeg)
    rw [sumG_cg k hc, ← h2, up_same, up_same, decide_eq_false hne, if_neg (by decide), nI_clamp (by omega)]
  · show ad = sumG _ _ false k + (if decide (up P k (nI q) k = -1) = false then 0 else (up L k (nI m) k).toNatClampNeg)
    rw [sumG_cg k hc, ← h3, up_same, decide_eq_false hne, if_pos rfl, Nat.add_zero]
  · rw [up_ne _ _ (by omega), up_ne _ _ (by omega)]
    exact h5 x hx
theorem bt_up {b b' : Int32} (h4 : ∀ j, j < ad → bt (A j) (A' (400 * d + j))) (hb : bt b b') : ∀ j, j < ad + 1 → bt (up A ad b j) (up A' (400 * d + ad) b' (400 * d + j)) := by
  intro j hj
  by_cases e : j = ad
  · subst e
    rw [up_same, up_same]
    exact hb
  · rw [up_ne _ _ e, up_ne _ _ (show 400 * d + j ≠ 400 * d + ad by omega)]
    exact h4 j (by omega)
theorem DI_new {b b' : Int32} (h : DI d za k ad cp P L A τ P' L' A') (hk : k < 400) (ha : ad < 400) (hb : bt b b') : DI d za (k + 1) (ad + 1) cp (up P k (-1)) (up (up L k 0) k (0 + 1)) (up A ad b) τ (up P' (400 * d + k) (-1)) (up (up L' (400 * d + k) 0) (400 * d + k) (0 + 1)) (up A' (400 * d + ad) b') := by
  obtain ⟨h1, h2, h3, h4, h5⟩ := h
  have hc : ∀ j, j < k → up P k (-1) j = P j ∧ up (up L k 0) k (0 + 1) j = L j := fun j hj => ⟨up_ne _ _ (by omega), by rw [up_ne _ _ (by omega), up_ne _ _ (by omega)]⟩
  refine ⟨fun j hj => ?_, ?_, ?_, bt_up h4 hb, fun x hx => ?_⟩
  · by_cases e : j = k
    · subst e
      rw [up_same, up_same, up_same, up_same]
      exact ⟨rfl, rfl, ⟨1, rfl, by omega, by omega⟩, Or.inl rfl⟩
    · rw [up_ne _ _ (show 400 * d + j ≠ 400 * d + k by omega), up_ne _ _ (show 400 * d + j ≠ 400 * d + k by omega), up_ne _ _ (show 400 * d + j ≠ 400 * d + k by omega), up_ne _ _ e, up_ne _ _ e, up_ne _ _ e]
      exact h1 j (by omega)
  · show cp = sumG _ _ true k + (if decide (up P k (-1) k = -1) = true then 0 else (up (up L k 0) k (0 + 1) k).toNatClampNeg)
    rw [sumG_cg k hc, ← h2, up_same, if_pos (by decide), Nat.add_zero]
  · show ad + 1 = sumG _ _ false k + (if decide (up P k (-1) k = -1) = false then 0 else (up (up L k 0) k (0 + 1) k).toNatClampNeg)
    rw [sumG_cg k hc, ← h3, up_same, up_same, if_neg (by decide)]
    rfl
  · rw [up_ne _ _ (by omega), up_ne _ _ (by omega), up_ne _ _ (by omega), up_ne _ _ (by omega)]
    exact h5 x hx
theorem DI_ext {b b' : Int32} (h : DI d za (k + 1) ad cp P L A τ P' L' A') (hk : k < 400) (ha : ad < 400) (hP : P k = -1) (hb : bt b b') : DI d za (k + 1) (ad + 1) cp P (up L k (L k + 1)) (up A ad b) τ P' (up L' (400 * d + k) (L' (400 * d + k) + 1)) (up A' (400 * d + ad) b') := by
  obtain ⟨h1, h2, h3, h4, h5⟩ := h
  obtain ⟨a1, a2, ⟨z, a3, a4, a5⟩, a6⟩ := h1 k (by omega)
  have hc : ∀ j, j < k → P j = P j ∧ up L k (L k + 1) j = L j := fun j hj => ⟨rfl, up_ne _ _ (by omega)⟩
  have e2 : cp = sumG P L true k + (if decide (P k = -1) = true then 0 else (L k).toNatClampNeg) := h2
  have e3 : ad = sumG P L false k + (if decide (P k = -1) = false then 0 else (L k).toNatClampNeg) := h3
  rw [decide_eq_true hP, if_pos rfl] at e2
  rw [decide_eq_true hP, if_neg (by decide), a3, nI_clamp (by omega)] at e3
  refine ⟨fun j hj => ?_, ?_, ?_, bt_up h4 hb, fun x hx => ?_⟩
  · by_cases e : j = k
    · subst e
      rw [up_same, up_same, a2, a1]
      refine ⟨rfl, rfl, ⟨z + 1, by rw [a3, nI_1], by omega, by omega⟩, Or.inl hP⟩
    · rw [up_ne _ _ (show 400 * d + j ≠ 400 * d + k by omega), up_ne _ _ e]
      exact h1 j hj
  · show cp = sumG _ _ true k + (if decide (P k = -1) = true then 0 else (up L k (L k + 1) k).toNatClampNeg)
    rw [sumG_cg k hc, decide_eq_true hP, if_pos rfl]
    exact e2
  · show ad + 1 = sumG _ _ false k + (if decide (P k = -1) = false then 0 else (up L k (L k + 1) k).toNatClampNeg)
    rw [sumG_cg k hc, decide_eq_true hP, if_neg (by decide), up_same, a3, nI_1, nI_clamp (by omega)]
    omega
  · rw [up_ne _ _ (by omega), up_ne _ _ (by omega)]
    exact h5 x hx
end DW
