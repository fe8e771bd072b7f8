/-! ===== what holds between the class's state and the reference's ===== -/
/-- the WHOLE that a word tells, by the kind -/
noncomputable def gapw (k : Int32) (w : Int64) : Prop := (k = 6 ∧ 2139095040 < w &&& 2147483647) ∨ (k = 7 ∧ 9218868437227405312 < w &&& 9223372036854775807)
noncomputable def cutw (k : Int32) (w : Int64) : Int64 :=
  if k = 0 then w &&& 1 else if k = 1 then Int32.toInt64 (Int8.toInt32 (Int32.toInt8 (Int64.toInt32 w))) else if k = 2 then Int32.toInt64 (UInt32.toInt32 (Int32.toUInt32 (Int64.toInt32 w) % 65536)) else if k = 3 then Int32.toInt64 (Int16.toInt32 (Int32.toInt16 (Int64.toInt32 w))) else if k = 4 then Int32.toInt64 (Int64.toInt32 w) else if k = 5 then w else
  if k = 6 then (if 2139095040 < w &&& 2147483647 then 2143289344 else Int32.toInt64 (Int64.toInt32 w)) else if k = 7 then (if 9218868437227405312 < w &&& 9223372036854775807 then 9221120237041090560 else w) else w
/-- a byte of the class's and one of the reference's -/
def bt (a b : Int32) : Prop := ∃ n : Nat, n < 256 ∧ b = nI n ∧ a = (nI n).toInt8.toInt32
noncomputable def zS (σ : rS) (s : Nat) : Nat := (gI σ 15 s 1).toNatClampNeg
noncomputable def pS (σ : rS) (s : Nat) : Nat := (gI σ 15 s 2).toNatClampNeg
noncomputable def zB (σ : rS) (b : Nat) : Nat := (gI σ 20 b 1).toNatClampNeg
noncomputable def uB (σ : rS) (b : Nat) : Nat := (gI σ 20 b 3).toNatClampNeg
noncomputable def nE (σ : rS) (h : Nat) : Nat := (gI σ 17 h 2).toNatClampNeg
noncomputable def nA (σ : rS) (d : Nat) : Nat := (gI σ 22 d 5).toNatClampNeg
def I_st (σ τ : rS) : Prop := (gN σ 1 0 = 60 ∧ gN σ 2 0 = 24 ∧ gN σ 3 0 = 6 ∧ gN σ 4 0 = 16 ∧ gN σ 5 0 = 10 ∧ gN σ 7 0 = 30 ∧ gN σ 9 0 = 264 ∧ gN σ 10 0 = 24 ∧ gN σ 11 0 = 24) ∧
  (gN τ 31 0 = 10 ∧ gN τ 34 0 = 60 ∧ gN τ 35 0 = 60 ∧ gN τ 36 0 = 60 ∧ gN τ 37 0 = 1440 ∧ gN τ 38 0 = 24 ∧ gN τ 39 0 = 24 ∧ gN τ 41 0 = 600 ∧ gN τ 44 0 = 9600 ∧ gN τ 45 0 = 24 ∧ gN τ 46 0 = 24 ∧ gN τ 47 0 = 24) ∧
  (gN τ 51 0 = 30 ∧ gN τ 52 0 = 30 ∧ gN τ 53 0 = 30 ∧ gN τ 54 0 = 12000 ∧ gN τ 57 0 = 6 ∧ gN τ 58 0 = 72 ∧ gN τ 59 0 = 72 ∧ gN τ 61 0 = 16 ∧ gN τ 62 0 = 16 ∧ gN τ 63 0 = 16 ∧ gN τ 64 0 = 6400 ∧ gN τ 65 0 = 6400 ∧ gN τ 66 0 = 6400)
def I_fd (σ τ : rS) : Prop := gI τ 29 0 0 = gI σ 0 0 12 ∧ (∀ f, f < 10 → gI τ 31 0 f = gI σ 5 0 f) ∧ gL τ 29 0 2 = gL σ 0 0 13
def rowOk (σ τ : rS) (r : Nat) : Prop := gR σ 1 0 r = some r ∧ (∃ kd : Nat, kd < 8 ∧ gI σ 13 r 0 = nI kd) ∧ gI τ 34 0 r = gI σ 13 r 0 ∧ gN σ 14 r ≤ 24 ∧ gI τ 35 0 r = nI (gN σ 14 r) ∧ (gI σ 13 r 2 = 0 ∨ gI σ 13 r 2 = 1) ∧ gI τ 36 0 r = gI σ 13 r 2 ∧ ∀ i, i < gN σ 14 r → gL τ 37 0 (24 * r + i) = gL σ 14 r i ∧ cutw (gI σ 13 r 0) (gL σ 14 r i) = gL σ 14 r i
def I_row (σ τ : rS) : Prop := gC σ 13 ≤ 60 ∧ gC σ 14 = gC σ 13 ∧ gI σ 0 0 8 = nI (gC σ 13) ∧ gI τ 29 0 3 = nI (gC σ 13) ∧ ∀ r, r < gC σ 13 → rowOk σ τ r
def strOk (σ τ : rS) (s : Nat) : Prop := gR σ 2 0 s = some s ∧ zS σ s ≤ 400 ∧ gI σ 15 s 1 = nI (zS σ s) ∧ gI τ 45 0 s = nI (zS σ s) ∧ pS σ s ≤ zS σ s ∧ gI σ 15 s 2 = nI (pS σ s) ∧ gI τ 46 0 s = nI (pS σ s) ∧ (gI σ 15 s 3 = 0 ∨ gI σ 15 s 3 = 1) ∧ gI τ 47 0 s = gI σ 15 s 3 ∧ gN σ 16 s = 400 ∧ ∀ i, i < zS σ s → bt (gI σ 16 s i) (gI τ 44 0 (400 * s + i))
def I_str (σ τ : rS) : Prop := gC σ 15 ≤ 24 ∧ gC σ 16 = gC σ 15 ∧ gI σ 0 0 9 = nI (gC σ 15) ∧ gI τ 29 0 13 = nI (gC σ 15) ∧ ∀ s, s < gC σ 15 → strOk σ τ s
/-- how many of the first n have p -/
def ctn (p : Nat → Prop) (ip : ∀ k, Decidable (p k)) : Nat → Nat
  | 0 => 0
  | n + 1 => ctn p ip n + (@ite Nat (p n) (ip n) 1 0)
/-- how many of the first n entries of a house have a body; of the first n houses -/
noncomputable def rcE (σ : rS) (h b : Nat) (n : Nat) : Nat := ctn (fun e => gR σ 19 h e = some b) (fun _ => inferInstance) n
def rcG (R : Nat → Nat → Option Nat) (E : Nat → Int32) (b : Nat) : Nat → Nat
  | 0 => 0
  | n + 1 => rcG R E b n + ctn (fun e => R n e = some b) (fun _ => inferInstance) (E n).toNatClampNeg
noncomputable def rcH (σ : rS) (b : Nat) (n : Nat) : Nat := rcG (fun h e => gR σ 19 h e) (fun h => gI σ 17 h 2) b n
def bodOk (σ τ : rS) (ev b : Nat) : Prop := gI σ 20 b 3 = nI (uB σ b) ∧ uB σ b = rcH σ b (gC σ 17) ∧ gN σ 21 b = 400 ∧ (uB σ b = 0 → gI τ 51 0 b = -1) ∧ (0 < uB σ b → (∃ n : Nat, n < ev ∧ gI σ 20 b 2 = nI n) ∧ gI τ 51 0 b = gI σ 20 b 2 ∧ gI τ 53 0 b = nI (uB σ b) ∧ zB σ b ≤ 400 ∧ gI σ 20 b 1 = nI (zB σ b) ∧ gI τ 52 0 b = nI (zB σ b) ∧ ∀ i, i < zB σ b → bt (gI σ 21 b i) (gI τ 54 0 (400 * b + i)))
def I_bod (t : Nat) (σ τ : rS) : Prop := gC σ 20 ≤ 30 ∧ gC σ 21 = gC σ 20 ∧ (∀ b, b < 30 → gR σ 7 0 b = if b < gC σ 20 then some b else none) ∧ gI σ 6 0 1 = nI (ctn (fun b => 0 < uB σ b) (fun _ => inferInstance) (gC σ 20)) ∧ (∀ b, gC σ 20 ≤ b → b < 30 → gI τ 51 0 b = -1) ∧ ∃ ev : Nat, ev ≤ t ∧ gI σ 6 0 2 = nI ev ∧ gI τ 29 0 25 = nI ev ∧ (∀ b, b < gC σ 20 → bodOk σ τ ev b) ∧ ∀ b b', b < gC σ 20 → b' < gC σ 20 → 0 < uB σ b → 0 < uB σ b' → gI σ 20 b 2 = gI σ 20 b' 2 → b = b'
def houOk (σ τ : rS) (h : Nat) : Prop := gR σ 3 0 h = some h ∧ nE σ h ≤ 12 ∧ gI σ 17 h 2 = nI (nE σ h) ∧ gI τ 57 0 h = nI (nE σ h) ∧ gN σ 18 h = 12 ∧ gN σ 19 h = 12 ∧ ∀ e, e < nE σ h → gL τ 58 0 (12 * h + e) = gL σ 18 h e ∧ ∃ b : Nat, b < gC σ 20 ∧ gR σ 19 h e = some b ∧ gI τ 59 0 (12 * h + e) = nI b
def I_hou (σ τ : rS) : Prop := gC σ 17 ≤ 6 ∧ gC σ 18 = gC σ 17 ∧ gC σ 19 = gC σ 17 ∧ gI σ 0 0 10 = nI (gC σ 17) ∧ gI τ 29 0 26 = nI (gC σ 17) ∧ ∀ h, h < gC σ 17 → houOk σ τ h
/-- the bytes of the first n acts of a delta that copy, that add (c: which) -/
def sumG (P Z : Nat → Int32) (c : Bool) : Nat → Nat
  | 0 => 0
  | n + 1 => sumG P Z c n + (if decide (P n = -1) = c then 0 else (Z n).toNatClampNeg)
noncomputable def sumA (σ : rS) (d : Nat) (c : Bool) (n : Nat) : Nat := sumG (fun k => gI σ 23 d k) (fun k => gI σ 24 d k) c n
def delOk (σ τ : rS) (d : Nat) : Prop := gR σ 4 0 d = some d ∧ nA σ d ≤ 400 ∧ gI σ 22 d 5 = nI (nA σ d) ∧ gI τ 63 0 d = nI (nA σ d) ∧ gI τ 61 0 d = gI σ 22 d 0 ∧ gI τ 62 0 d = gI σ 22 d 1 ∧ gI σ 22 d 7 = nI (sumA σ d true (nA σ d)) ∧ gI σ 22 d 6 = nI (sumA σ d false (nA σ d)) ∧ sumA σ d true (nA σ d) + sumA σ d false (nA σ d) ≤ 400 ∧ nA σ d ≤ gN σ 23 d ∧ nA σ d ≤ gN σ 24 d ∧ sumA σ d false (nA σ d) ≤ gN σ 25 d ∧ gN σ 25 d ≤ 400 ∧
  (∀ k, k < nA σ d → gI τ 64 0 (400 * d + k) = gI σ 23 d k ∧ gI τ 65 0 (400 * d + k) = gI σ 24 d k ∧ (∃ z : Nat, gI σ 24 d k = nI z ∧ 0 < z ∧ z ≤ 400) ∧ (gI σ 23 d k = -1 ∨ ∃ q : Nat, gI σ 23 d k = nI q ∧ ((q + (gI σ 24 d k).toNatClampNeg : Nat) : Int) ≤ (gI σ 22 d 0).toInt)) ∧ ∀ k, k < sumA σ d false (nA σ d) → bt (gI σ 25 d k) (gI τ 66 0 (400 * d + k))
def I_del (σ τ : rS) : Prop := gC σ 22 ≤ 16 ∧ gC σ 23 = gC σ 22 ∧ gC σ 24 = gC σ 22 ∧ gC σ 25 = gC σ 22 ∧ gI σ 0 0 11 = nI (gC σ 22) ∧ gI τ 29 0 30 = nI (gC σ 22) ∧ ∀ d, d < gC σ 22 → delOk σ τ d
def Inv (t : Nat) (σ τ : rS) : Prop := I_st σ τ ∧ I_fd σ τ ∧ I_row σ τ ∧ I_str σ τ ∧ I_bod t σ τ ∧ I_hou σ τ ∧ I_del σ τ
theorem Inv_mono (t : Nat) (σ τ : rS) (h : Inv t σ τ) : Inv (t + 1) σ τ := by
  obtain ⟨h1, h2, h3, h4, ⟨b1, b2, b3, b4, b5, ev, b6, b7⟩, h6, h7⟩ := h
  exact ⟨h1, h2, h3, h4, ⟨b1, b2, b3, b4, b5, ev, by omega, b7⟩, h6, h7⟩
theorem Inv_0 : Inv 0 sX0 sM0 := by
  refine ⟨⟨?_, ?_, ?_⟩, ⟨rfl, fun f hf => rfl, rfl⟩, ?_, ?_, ?_, ?_, ?_⟩
  · refine ⟨?_, ?_, ?_, ?_, ?_, ?_, ?_, ?_, ?_⟩ <;> rfl
  · refine ⟨?_, ?_, ?_, ?_, ?_, ?_, ?_, ?_, ?_, ?_, ?_, ?_⟩ <;> rfl
  · refine ⟨?_, ?_, ?_, ?_, ?_, ?_, ?_, ?_, ?_, ?_, ?_, ?_, ?_⟩ <;> rfl
  · exact ⟨by decide, by decide, rfl, rfl, fun r hr => absurd hr (by rw [gC_sX0]; exact Nat.not_lt_zero r)⟩
  · exact ⟨by decide, by decide, rfl, rfl, fun r hr => absurd hr (by rw [gC_sX0]; exact Nat.not_lt_zero r)⟩
  · refine ⟨by decide, by decide, fun b hb => rfl, rfl, fun b _ hb => ?_, 0, Nat.le_refl 0, rfl, rfl, fun r hr => absurd hr (by rw [gC_sX0]; exact Nat.not_lt_zero r), fun r r' hr => absurd hr (by rw [gC_sX0]; exact Nat.not_lt_zero r)⟩
    show (if (51 : Nat) = 51 then (if b < 30 then (-1 : Int32) else 0) else 0) = -1
    simp [hb]
  · exact ⟨by decide, by decide, by decide, rfl, rfl, fun r hr => absurd hr (by rw [gC_sX0]; exact Nat.not_lt_zero r)⟩
  · exact ⟨by decide, by decide, by decide, by decide, rfl, rfl, fun r hr => absurd hr (by rw [gC_sX0]; exact Nat.not_lt_zero r)⟩
/-! ===== small rows ===== -/
theorem obind_some {α β : Type} (a : α) (s : rS) (F : α → rS → Option β) : obind (some (a, s)) F = F a s := rfl
theorem onul_some {α : Type} (i : Nat) (A : Option α) (B : Nat → Option α) : onul (some i) A B = B i := rfl
theorem onul_none {α : Type} (A : Option α) (B : Nat → Option α) : onul none A B = A := rfl
theorem olet_eq {α β : Type} (x : α) (F : α → β) : olet x F = F x := rfl
theorem idx_nI {α : Type} {j n : Nat} (F : Nat → Option α) (h : j < n) (hn : j < 2 ^ 31) : idx (nI j) n F = F j := by
  unfold idx
  have e : (nI j).toInt = (j : Int) := nI_toInt (by omega)
  rw [e, if_pos ⟨by omega, by omega⟩]
  rfl
theorem ock_pos {α : Type} {c : Prop} {ic : Decidable c} (h : c) (A : Option α) : @ock _ c ic A = A := if_pos h
noncomputable def fnd (σ : rS) (f : Nat) : rS := sI (sI σ 0 0 12 (nI f)) 5 0 f (gI σ 5 0 f + 1)
noncomputable def mts (τ : rS) (f : Nat) : rS := sI (sI τ 29 0 0 (nI f)) 31 0 f (gI τ 31 0 f + 1)
theorem found_eq {σ τ : rS} (h : I_st σ τ) {v : Int32} (f : Nat) (hv : v = nI f) (hf : f < 10) : f10_found 0 v σ = some (-10 - v, fnd σ f) := by
  subst hv
  unfold f10_found
  simp only [olet_eq, gN_sI, h.1.2.2.2.2.1]
  rw [idx_nI _ hf (by omega), idx_nI _ hf (by omega)]
  simp [fnd, gI_sI]
theorem meets_eq {σ τ : rS} (h : I_st σ τ) {v : Int32} (f : Nat) (hv : v = nI f) (hf : f < 10) : f11_meets 0 v τ = some (-10 - v, mts τ f) := by
  subst hv
  unfold f11_meets
  simp only [olet_eq, gN_sI, h.2.1.1]
  rw [idx_nI _ hf (by omega), idx_nI _ hf (by omega)]
  simp [mts, gI_sI]
theorem fnd_Inv {t : Nat} {σ τ : rS} (h : Inv t σ τ) {f : Nat} (hf : f < 10) : Inv t (fnd σ f) (mts τ f) := by
  obtain ⟨h1, ⟨f1, f2, f3⟩, h3, h4, h5, h6, h7⟩ := h
  refine ⟨h1, ⟨?_, ?_, f3⟩, h3, h4, h5, h6, h7⟩
  · rfl
  · intro g hg
    simp only [fnd, mts, gI_sI]
    by_cases e : g = f
    · subst e; simp [f2 g hg]
    · simp [e, f2 g hg]
theorem found_both {t : Nat} {σ τ : rS} (h : Inv t σ τ) {v : Int32} (f : Nat) (hv : v = nI f) (hf : f < 10) : ∃ (r : Int32) (σ1 τ1 : rS), f10_found 0 v σ = some (r, σ1) ∧ f11_meets 0 v τ = some (r, τ1) ∧ Inv (t + 1) σ1 τ1 := ⟨_, _, _, found_eq h.1 f hv hf, meets_eq h.1 f hv hf, Inv_mono _ _ _ (fnd_Inv h hf)⟩
