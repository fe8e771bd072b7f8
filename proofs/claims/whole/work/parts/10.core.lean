/-! ===== the role heap: cells by kind and number; positions are field numbers or indices ===== -/
abbrev rS : Type := (Nat → Nat → Nat → Int32) × (Nat → Nat → Nat → Int64) × (Nat → Nat → Nat → Option Nat) × (Nat → Nat → Nat) × (Nat → Nat)
def gI (σ : rS) (k i x : Nat) : Int32 := σ.1 k i x
def gL (σ : rS) (k i x : Nat) : Int64 := σ.2.1 k i x
def gR (σ : rS) (k i x : Nat) : Option Nat := σ.2.2.1 k i x
def gN (σ : rS) (k i : Nat) : Nat := σ.2.2.2.1 k i
def gC (σ : rS) (k : Nat) : Nat := σ.2.2.2.2 k
def sI (σ : rS) (k i x : Nat) (v : Int32) : rS := (fun k' i' x' => if k' = k ∧ i' = i ∧ x' = x then v else σ.1 k' i' x', σ.2)
def sL (σ : rS) (k i x : Nat) (v : Int64) : rS := (σ.1, fun k' i' x' => if k' = k ∧ i' = i ∧ x' = x then v else σ.2.1 k' i' x', σ.2.2)
def sR (σ : rS) (k i x : Nat) (v : Option Nat) : rS := (σ.1, σ.2.1, fun k' i' x' => if k' = k ∧ i' = i ∧ x' = x then v else σ.2.2.1 k' i' x', σ.2.2.2)
/-- a whole row of positions -/
def sIr (σ : rS) (k i : Nat) (f : Nat → Int32) : rS := (fun k' i' x' => if k' = k ∧ i' = i then f x' else σ.1 k' i' x', σ.2)
def sLr (σ : rS) (k i : Nat) (f : Nat → Int64) : rS := (σ.1, fun k' i' x' => if k' = k ∧ i' = i then f x' else σ.2.1 k' i' x', σ.2.2)
def sRr (σ : rS) (k i : Nat) (f : Nat → Option Nat) : rS := (σ.1, σ.2.1, fun k' i' x' => if k' = k ∧ i' = i then f x' else σ.2.2.1 k' i' x', σ.2.2.2)
def sN (σ : rS) (k i n : Nat) : rS := (σ.1, σ.2.1, σ.2.2.1, fun k' i' => if k' = k ∧ i' = i then n else σ.2.2.2.1 k' i', σ.2.2.2.2)
def sC (σ : rS) (k n : Nat) : rS := (σ.1, σ.2.1, σ.2.2.1, σ.2.2.2.1, fun k' => if k' = k then n else σ.2.2.2.2 k')
theorem gI_sI (σ : rS) (k i x : Nat) (v) (k2 i2 x2 : Nat) : gI (sI σ k i x v) k2 i2 x2 = if k2 = k ∧ i2 = i ∧ x2 = x then v else gI σ k2 i2 x2 := rfl
theorem gI_sIr (σ : rS) (k i : Nat) (f) (k2 i2 x2 : Nat) : gI (sIr σ k i f) k2 i2 x2 = if k2 = k ∧ i2 = i then f x2 else gI σ k2 i2 x2 := rfl
theorem gI_sL (σ : rS) (k i x : Nat) (v) (k2 i2 x2 : Nat) : gI (sL σ k i x v) k2 i2 x2 = gI σ k2 i2 x2 := rfl
theorem gI_sLr (σ : rS) (k i : Nat) (f) (k2 i2 x2 : Nat) : gI (sLr σ k i f) k2 i2 x2 = gI σ k2 i2 x2 := rfl
theorem gI_sR (σ : rS) (k i x : Nat) (v) (k2 i2 x2 : Nat) : gI (sR σ k i x v) k2 i2 x2 = gI σ k2 i2 x2 := rfl
theorem gI_sRr (σ : rS) (k i : Nat) (f) (k2 i2 x2 : Nat) : gI (sRr σ k i f) k2 i2 x2 = gI σ k2 i2 x2 := rfl
theorem gI_sN (σ : rS) (k i n k2 i2 x2 : Nat) : gI (sN σ k i n) k2 i2 x2 = gI σ k2 i2 x2 := rfl
theorem gI_sC (σ : rS) (k n k2 i2 x2 : Nat) : gI (sC σ k n) k2 i2 x2 = gI σ k2 i2 x2 := rfl
theorem gN_sI (σ : rS) (k i x : Nat) (v) (k2 i2 : Nat) : gN (sI σ k i x v) k2 i2 = gN σ k2 i2 := rfl
theorem gN_sIr (σ : rS) (k i : Nat) (f) (k2 i2 : Nat) : gN (sIr σ k i f) k2 i2 = gN σ k2 i2 := rfl
theorem gC_sI (σ : rS) (k i x : Nat) (v) (k2 : Nat) : gC (sI σ k i x v) k2 = gC σ k2 := rfl
theorem gC_sIr (σ : rS) (k i : Nat) (f) (k2 : Nat) : gC (sIr σ k i f) k2 = gC σ k2 := rfl
theorem gL_sL (σ : rS) (k i x : Nat) (v) (k2 i2 x2 : Nat) : gL (sL σ k i x v) k2 i2 x2 = if k2 = k ∧ i2 = i ∧ x2 = x then v else gL σ k2 i2 x2 := rfl
theorem gL_sLr (σ : rS) (k i : Nat) (f) (k2 i2 x2 : Nat) : gL (sLr σ k i f) k2 i2 x2 = if k2 = k ∧ i2 = i then f x2 else gL σ k2 i2 x2 := rfl
theorem gL_sI (σ : rS) (k i x : Nat) (v) (k2 i2 x2 : Nat) : gL (sI σ k i x v) k2 i2 x2 = gL σ k2 i2 x2 := rfl
theorem gL_sIr (σ : rS) (k i : Nat) (f) (k2 i2 x2 : Nat) : gL (sIr σ k i f) k2 i2 x2 = gL σ k2 i2 x2 := rfl
theorem gL_sR (σ : rS) (k i x : Nat) (v) (k2 i2 x2 : Nat) : gL (sR σ k i x v) k2 i2 x2 = gL σ k2 i2 x2 := rfl
theorem gL_sRr (σ : rS) (k i : Nat) (f) (k2 i2 x2 : Nat) : gL (sRr σ k i f) k2 i2 x2 = gL σ k2 i2 x2 := rfl
theorem gL_sN (σ : rS) (k i n k2 i2 x2 : Nat) : gL (sN σ k i n) k2 i2 x2 = gL σ k2 i2 x2 := rfl
theorem gL_sC (σ : rS) (k n k2 i2 x2 : Nat) : gL (sC σ k n) k2 i2 x2 = gL σ k2 i2 x2 := rfl
theorem gN_sL (σ : rS) (k i x : Nat) (v) (k2 i2 : Nat) : gN (sL σ k i x v) k2 i2 = gN σ k2 i2 := rfl
theorem gN_sLr (σ : rS) (k i : Nat) (f) (k2 i2 : Nat) : gN (sLr σ k i f) k2 i2 = gN σ k2 i2 := rfl
theorem gC_sL (σ : rS) (k i x : Nat) (v) (k2 : Nat) : gC (sL σ k i x v) k2 = gC σ k2 := rfl
theorem gC_sLr (σ : rS) (k i : Nat) (f) (k2 : Nat) : gC (sLr σ k i f) k2 = gC σ k2 := rfl
theorem gR_sR (σ : rS) (k i x : Nat) (v) (k2 i2 x2 : Nat) : gR (sR σ k i x v) k2 i2 x2 = if k2 = k ∧ i2 = i ∧ x2 = x then v else gR σ k2 i2 x2 := rfl
theorem gR_sRr (σ : rS) (k i : Nat) (f) (k2 i2 x2 : Nat) : gR (sRr σ k i f) k2 i2 x2 = if k2 = k ∧ i2 = i then f x2 else gR σ k2 i2 x2 := rfl
theorem gR_sI (σ : rS) (k i x : Nat) (v) (k2 i2 x2 : Nat) : gR (sI σ k i x v) k2 i2 x2 = gR σ k2 i2 x2 := rfl
theorem gR_sIr (σ : rS) (k i : Nat) (f) (k2 i2 x2 : Nat) : gR (sIr σ k i f) k2 i2 x2 = gR σ k2 i2 x2 := rfl
theorem gR_sL (σ : rS) (k i x : Nat) (v) (k2 i2 x2 : Nat) : gR (sL σ k i x v) k2 i2 x2 = gR σ k2 i2 x2 := rfl
theorem gR_sLr (σ : rS) (k i : Nat) (f) (k2 i2 x2 : Nat) : gR (sLr σ k i f) k2 i2 x2 = gR σ k2 i2 x2 := rfl
theorem gR_sN (σ : rS) (k i n k2 i2 x2 : Nat) : gR (sN σ k i n) k2 i2 x2 = gR σ k2 i2 x2 := rfl
theorem gR_sC (σ : rS) (k n k2 i2 x2 : Nat) : gR (sC σ k n) k2 i2 x2 = gR σ k2 i2 x2 := rfl
theorem gN_sR (σ : rS) (k i x : Nat) (v) (k2 i2 : Nat) : gN (sR σ k i x v) k2 i2 = gN σ k2 i2 := rfl
theorem gN_sRr (σ : rS) (k i : Nat) (f) (k2 i2 : Nat) : gN (sRr σ k i f) k2 i2 = gN σ k2 i2 := rfl
theorem gC_sR (σ : rS) (k i x : Nat) (v) (k2 : Nat) : gC (sR σ k i x v) k2 = gC σ k2 := rfl
theorem gC_sRr (σ : rS) (k i : Nat) (f) (k2 : Nat) : gC (sRr σ k i f) k2 = gC σ k2 := rfl
theorem gN_sN (σ : rS) (k i n k2 i2 : Nat) : gN (sN σ k i n) k2 i2 = if k2 = k ∧ i2 = i then n else gN σ k2 i2 := rfl
theorem gN_sC (σ : rS) (k n k2 i2 : Nat) : gN (sC σ k n) k2 i2 = gN σ k2 i2 := rfl
theorem gC_sN (σ : rS) (k i n k2 : Nat) : gC (sN σ k i n) k2 = gC σ k2 := rfl
theorem gC_sC (σ : rS) (k n k2 : Nat) : gC (sC σ k n) k2 = if k2 = k then n else gC σ k2 := rfl
/-- the objects by kind: the number of the class among vwCl, the fields: 0 int, 1 long, 2 reference of a kind, 3 a cell of a kind and of the same number -/
def lyO (k : Nat) : Option (Nat × List (Nat × Nat)) := match k with
  | 0 => some (8, [(3, 1), (3, 2), (3, 3), (3, 4), (3, 6), (3, 8), (3, 12), (3, 5), (0, 0), (0, 0), (0, 0), (0, 0), (0, 0), (1, 0)])
  | 6 => some (6, [(3, 7), (0, 0), (0, 0)])
  | 8 => some (3, [(3, 9), (0, 0), (3, 10), (3, 11), (2, 15), (0, 0), (0, 0), (0, 0)])
  | 12 => some (4, [(0, 0), (0, 0), (0, 0)])
  | 13 => some (5, [(0, 0), (3, 14), (0, 0)])
  | 15 => some (7, [(3, 16), (0, 0), (0, 0), (0, 0)])
  | 17 => some (2, [(3, 18), (3, 19), (0, 0)])
  | 20 => some (0, [(3, 21), (0, 0), (0, 0), (0, 0)])
  | 22 => some (1, [(0, 0), (0, 0), (3, 23), (3, 24), (3, 25), (0, 0), (0, 0), (0, 0)])
  | 29 => some (9, [(0, 0), (3, 31), (1, 0), (0, 0), (3, 34), (3, 35), (3, 36), (3, 37), (3, 38), (3, 39), (0, 0), (3, 41), (0, 0), (0, 0), (3, 44), (3, 45), (3, 46), (3, 47), (0, 0), (0, 0), (1, 0), (3, 51), (3, 52), (3, 53), (3, 54), (0, 0), (0, 0), (3, 57), (3, 58), (3, 59), (0, 0), (3, 61), (3, 62), (3, 63), (3, 64), (3, 65), (3, 66)])
  | _ => none
/-- the arrays by kind: 0 int, 1 byte, 2 boolean, 3 long, 4 references of a kind -/
def lyA (k : Nat) : Nat × Nat := match k with
  | 1 => (4, 13)
  | 2 => (4, 15)
  | 3 => (4, 17)
  | 4 => (4, 22)
  | 5 => (0, 0)
  | 7 => (4, 20)
  | 9 => (1, 0)
  | 10 => (3, 0)
  | 11 => (3, 0)
  | 14 => (3, 0)
  | 16 => (1, 0)
  | 18 => (3, 0)
  | 19 => (4, 20)
  | 21 => (1, 0)
  | 23 => (0, 0)
  | 24 => (0, 0)
  | 25 => (1, 0)
  | 31 => (0, 0)
  | 34 => (0, 0)
  | 35 => (0, 0)
  | 36 => (2, 0)
  | 37 => (3, 0)
  | 38 => (3, 0)
  | 39 => (3, 0)
  | 41 => (0, 0)
  | 44 => (0, 0)
  | 45 => (0, 0)
  | 46 => (0, 0)
  | 47 => (2, 0)
  | 51 => (0, 0)
  | 52 => (0, 0)
  | 53 => (0, 0)
  | 54 => (0, 0)
  | 57 => (0, 0)
  | 58 => (3, 0)
  | 59 => (0, 0)
  | 61 => (0, 0)
  | 62 => (0, 0)
  | 63 => (0, 0)
  | 64 => (0, 0)
  | 65 => (0, 0)
  | 66 => (0, 0)
  | _ => (9, 0)
def lyT (k : Nat) : FieldType := match k with
  | 1 => .object "PackDesk$Row"
  | 2 => .object "PackDesk$Stream"
  | 3 => .object "PackDesk$House"
  | 4 => .object "PackDesk$Delta"
  | 5 => .int
  | 7 => .object "PackDesk$Body"
  | 9 => .byte
  | 10 => .long
  | 11 => .long
  | 14 => .long
  | 16 => .byte
  | 18 => .long
  | 19 => .object "PackDesk$Body"
  | 21 => .byte
  | 23 => .int
  | 24 => .int
  | 25 => .byte
  | 31 => .int
  | 34 => .int
  | 35 => .int
  | 36 => .boolean
  | 37 => .long
  | 38 => .long
  | 39 => .long
  | 41 => .int
  | 44 => .int
  | 45 => .int
  | 46 => .int
  | 47 => .boolean
  | 51 => .int
  | 52 => .int
  | 53 => .int
  | 54 => .int
  | 57 => .int
  | 58 => .long
  | 59 => .int
  | 61 => .int
  | 62 => .int
  | 63 => .int
  | 64 => .int
  | 65 => .int
  | 66 => .int
  | _ => .int
/-- the kind that a reference at a position is of -/
def tk (k x : Nat) : Nat := match lyO k with
  | some q => ((q.2[x]?).getD (0, 0)).2
  | none => (lyA k).2
def fv (σ : rS) (ad : Nat → Nat → Nat) (k i x : Nat) (q : Nat × Nat) : Value := match q.1 with
  | 0 => .int (gI σ k i x)
  | 1 => .long (gL σ k i x)
  | 2 => va_rf ((gR σ k i x).map (ad q.2))
  | 3 => .ref (ad q.2 i)
  | _ => .null
def fvs (σ : rS) (ad : Nat → Nat → Nat) (k i : Nat) : Nat → List (Nat × Nat) → List Value
  | _, [] => []
  | x, q :: r => fv σ ad k i x q :: fvs σ ad k i (x + 1) r
def enA (σ : rS) (ad : Nat → Nat → Nat) (k i : Nat) : (Nat → Int32) ⊕ (Nat → Int64) ⊕ (Nat → UInt32) ⊕ (Nat → UInt64) ⊕ (Nat → Option Nat) := match (lyA k).1 with
  | 3 => .inr (.inl (fun x => gL σ k i x))
  | 4 => .inr (.inr (.inr (.inr (fun x => (gR σ k i x).map (ad (lyA k).2)))))
  | _ => .inl (fun x => gI σ k i x)
def ent (dA : Nat → ClassId) (σ : rS) (ad : Nat → Nat → Nat) (k i : Nat) : va_E := match lyO k with
  | some q => .inr (q.1, fvs σ ad k i 0 q.2)
  | none => .inl (dA k, gN σ k i, enA σ ad k i)
theorem fvs_len (σ : rS) (ad : Nat → Nat → Nat) (k i : Nat) : ∀ (fs : List (Nat × Nat)) (x0 : Nat), (fvs σ ad k i x0 fs).length = fs.length := by
  intro fs
  induction fs with
  | nil => intro x0; rfl
  | cons q r ih => intro x0; simp [fvs, ih]
theorem fvs_get (σ : rS) (ad : Nat → Nat → Nat) (k i : Nat) : ∀ (fs : List (Nat × Nat)) (x0 x : Nat), (fvs σ ad k i x0 fs)[x]? = (fs[x]?).map (fv σ ad k i (x0 + x)) := by
  intro fs
  induction fs with
  | nil => intro x0 x; simp [fvs]
  | cons q r ih =>
    intro x0 x
    cases x with
    | zero => simp [fvs]
    | succ x => simp only [fvs, List.getElem?_cons_succ, ih]; congr 2; omega
theorem fvs_congr {σ τ : rS} {ad bd : Nat → Nat → Nat} {k i : Nat} : ∀ (fs : List (Nat × Nat)) (x0 : Nat), (∀ x q, fs[x]? = some q → fv σ ad k i (x0 + x) q = fv τ bd k i (x0 + x) q) → fvs σ ad k i x0 fs = fvs τ bd k i x0 fs := by
  intro fs
  induction fs with
  | nil => intro x0 h; rfl
  | cons q r ih =>
    intro x0 h
    have h0 := h 0 q rfl
    rw [Nat.add_zero] at h0
    simp only [fvs, h0]
    congr 1
    refine ih (x0 + 1) (fun x q' hq => ?_)
    have := h (x + 1) q' (by simpa using hq)
    rwa [show x0 + (x + 1) = x0 + 1 + x by omega] at this
/-- what a cell's entry reads -/
theorem ent_congr {dA : Nat → ClassId} {σ τ : rS} {ad : Nat → Nat → Nat} {k i : Nat} (h1 : ∀ x, gI σ k i x = gI τ k i x) (h2 : ∀ x, gL σ k i x = gL τ k i x) (h3 : ∀ x, gR σ k i x = gR τ k i x) (h4 : gN σ k i = gN τ k i) : ent dA σ ad k i = ent dA τ ad k i := by
  unfold ent
  cases lyO k with
  | some q =>
    simp only
    rw [fvs_congr (τ := τ) (bd := ad) q.2 0 (fun x q' _ => by unfold fv; simp only [h1, h2, h3])]
  | none =>
    simp only
    unfold enA
    simp only [h1, h2, h3, h4]
/-- every reference leads to a cell that is there -/
def RfOk (σ : rS) : Prop := (∀ k i x j : Nat, i < gC σ k → gR σ k i x = some j → j < gC σ (tk k x)) ∧ ∀ (k i : Nat) (q : Nat × List (Nat × Nat)) (x t : Nat), i < gC σ k → lyO k = some q → q.2[x]? = some (3, t) → i < gC σ t
theorem ent_ad {dA : Nat → ClassId} {σ : rS} {ad bd : Nat → Nat → Nat} {k i : Nat} (hi : i < gC σ k) (hr : RfOk σ) (h : ∀ t j, j < gC σ t → bd t j = ad t j) : ent dA σ bd k i = ent dA σ ad k i := by
  have hm : ∀ (o : Option Nat) (t : Nat), (∀ j, o = some j → j < gC σ t) → o.map (bd t) = o.map (ad t) := by
    intro o t ho
    cases o with
    | none => rfl
    | some j => simp only [Option.map]; rw [h t j (ho j rfl)]
  unfold ent
  cases hk : lyO k with
  | some q =>
    simp only
    rw [fvs_congr (τ := σ) (bd := ad) q.2 0 (fun x q' hq => ?_)]
    rw [Nat.zero_add]
    have ht : tk k x = q'.2 := by unfold tk; rw [hk]; simp [hq]
    obtain ⟨c, t⟩ := q'
    unfold fv
    match c with
    | 0 => rfl
    | 1 => rfl
    | 2 => simp only; rw [hm _ t (fun j hj => by have := hr.1 k i x j hi hj; rwa [ht] at this)]
    | 3 => simp only; rw [h t i (hr.2 k i q x t hi hk hq)]
    | c + 4 => rfl
  | none =>
    simp only
    unfold enA
    have ht : ∀ x, tk k x = (lyA k).2 := fun x => by unfold tk; rw [hk]
    have e : (fun x => (gR σ k i x).map (bd (lyA k).2)) = (fun x => (gR σ k i x).map (ad (lyA k).2)) := by
      funext x
      exact hm _ _ (fun j hj => by have := hr.1 k i x j hi hj; rwa [ht x] at this)
    rw [e]
