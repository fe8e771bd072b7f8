/-! ===== opening: both sides ===== -/
theorem KC_4 (σ : rS) (v : Option Nat) : KC σ (sR σ 8 0 4 v) := by
  refine ⟨fun t τ h => ?_, rfl, rfl, fun _ _ => rfl, fun _ => rfl⟩
  obtain ⟨h1, h2, h3, h4, h5, h6, h7⟩ := h
  exact ⟨h1, h2, h3, h4, h5, h6, h7⟩
theorem uC_0 (σ : rS) (v5 v6 : Int32) : sI (sI (sI σ 8 0 5 v5) 8 0 6 v6) 8 0 7 0 = uC σ (gL σ 10 0) v5 v6 0 := by
  refine ext5 ?_ (Prod.ext ?_ rfl)
  · funext k i x
    simp only [uC, sI, sLr, gL]
  · funext k i x
    simp only [uC, sI, sLr, gL]
    grind
theorem uR_0 (τ : rS) (fr un : Int32) : sI (sI (sI τ 29 0 18 fr) 29 0 19 un) 29 0 10 0 = uR τ (gL τ 39 0) 0 fr un (gL τ 29 0 20) := by
  refine ext5 ?_ (Prod.ext ?_ rfl)
  · funext k i x
    simp only [uR, sI, sLr, sL, gL]
    grind
  · funext k i x
    simp only [uR, sI, sLr, sL, gL]
    grind
theorem p243 {N c kd l : Nat} {τ : rS} {V : Nat → Int64} {v4 v5 fr un : Int32} {tk : Int64} (h39 : gN τ 39 0 = 24) (hl : l ≤ 24) : ∀ (f n i : Nat) (g : Bool), f < n → i + f = l → (g = true → ∀ x, x < i → cutw (nI kd) (V x) = V x) → (g = false → ¬ tldP (nI kd) V l) →
    (tldP (nI kd) V l → L11_piece_243 N n 0 v4 v5 (nI c) (nI kd) (nI l) g (nI i) (uR τ V (nI l) fr un tk) = obind (f11_code N 0 (nI c) (uR τ V (nI l) fr un tk)) fun _ σ2 => if (gI σ2 29 0 12) = v5 then B11_piece_316 N 0 v4 v5 true σ2 else B11_piece_315 N 0 v4 v5 σ2) ∧
    (¬ tldP (nI kd) V l → L11_piece_243 N n 0 v4 v5 (nI c) (nI kd) (nI l) g (nI i) (uR τ V (nI l) fr un tk) = obind (f11_code N 0 (nI c) (uR τ V (nI l) fr un tk)) fun _ σ2 => B11_piece_315 N 0 v4 v5 σ2) := by
  intro f
  induction f with
  | zero =>
    intro n i g hn hi h1 h2
    obtain ⟨m, rfl⟩ : ∃ m', n = m' + 1 := ⟨n - 1, by omega⟩
    have e : i = l := by omega
    subst e
    have A : L11_piece_243 N (m + 1) 0 v4 v5 (nI c) (nI kd) (nI i) g (nI i) (uR τ V (nI i) fr un tk) = obind (f11_code N 0 (nI c) (uR τ V (nI i) fr un tk)) fun _ σ2 => if g = true then (if (gI σ2 29 0 12) = v5 then B11_piece_316 N 0 v4 v5 true σ2 else B11_piece_315 N 0 v4 v5 σ2) else B11_piece_315 N 0 v4 v5 σ2 := by
      show B11_piece_243 N (L11_piece_243 N m) 0 v4 v5 (nI c) (nI kd) (nI i) g (nI i) _ = _
      unfold B11_piece_243
      rw [if_pos (nI_le (by omega) (by omega))]
    rw [A]
    cases g with
    | true => exact ⟨fun _ => rfl, fun q => absurd (h1 rfl) q⟩
    | false => exact ⟨fun q => absurd q (h2 rfl), fun _ => rfl⟩
  | succ f ih =>
    intro n i g hn hi h1 h2
    obtain ⟨m, rfl⟩ : ∃ m', n = m' + 1 := ⟨n - 1, by omega⟩
    have e1 : gN (uR τ V (nI l) fr un tk) 39 0 = 24 := h39
    have e2 : ∀ y, gL (uR τ V (nI l) fr un tk) 39 0 y = V y := fun _ => rfl
    have A : L11_piece_243 N (m + 1) 0 v4 v5 (nI c) (nI kd) (nI l) g (nI i) (uR τ V (nI l) fr un tk) = L11_piece_243 N m 0 v4 v5 (nI c) (nI kd) (nI l) (g && decide (cutw (nI kd) (V i) = V i)) (nI (i + 1)) (uR τ V (nI l) fr un tk) := by
      show B11_piece_243 N (L11_piece_243 N m) 0 v4 v5 (nI c) (nI kd) (nI l) g (nI i) _ = _
      unfold B11_piece_243 B11_piece_282 B11_piece_283
      rw [if_neg (nI_ge (by omega) (by omega)), nI_1]
      cases g with
      | true =>
        rw [if_pos rfl, e1, idx_nI _ (by omega) (by omega), e2, cut_eq, obind_some, e1, idx_nI _ (by omega) (by omega), e2]
        by_cases q : cutw (nI kd) (V i) = V i
        · rw [if_pos q, decide_eq_true q]; rfl
        · rw [if_neg q, decide_eq_false q]; rfl
      | false => rw [if_neg (by decide)]; rfl
    rw [A]
    refine ih m (i + 1) _ (by omega) (by omega) ?_ ?_
    · intro q x hx
      rw [Bool.and_eq_true, decide_eq_true_eq] at q
      by_cases e : x = i
      · rw [e, q.2]
      · exact h1 q.1 x (by omega)
    · intro q
      cases g with
      | true =>
        have q' : decide (cutw (nI kd) (V i) = V i) = false := q
        rw [decide_eq_false_iff_not] at q'
        exact fun w => q' (w i (by omega))
      | false => exact h2 rfl
theorem p321f {N n : Nat} {v4 v5 i : Int32} {τ : rS} (hn : 0 < n) : L11_piece_321 N n 0 v4 v5 false i τ = some (8, τ) := by
  obtain ⟨m, rfl⟩ : ∃ m', n = m' + 1 := ⟨n - 1, by omega⟩
  show B11_piece_321 N (L11_piece_321 N m) 0 v4 v5 false i τ = _
  unfold B11_piece_321 B11_piece_368
  split
  · rfl
  · rfl
theorem p321 {N s p size z : Nat} {ρ τ : rS} {D : Nat → Nat} {B : List Nat} (hs : s < 24) (hz : z ≤ 400) (hp : p + 5 + size ≤ z) (hD : ∀ i, i < z → D i < 256 ∧ gI ρ 44 0 (400 * s + i) = nI (D i)) (hM : ∀ j (h : j < B.length), gI ρ 41 0 j = nI B[j]) (hB : ∀ b ∈ B, b < 256) (hl : B.length = size) (h44 : gN ρ 44 0 = 9600) (h41 : gN ρ 41 0 = 600) : ∀ (f n i : Nat), f + 1 < n → i + f = size → (∀ j (h : j < B.length), j < i → D (p + 5 + j) = B[j]) →
    ((∀ j (h : j < B.length), D (p + 5 + j) = B[j]) → L11_piece_321 N n 0 (nI (400 * s + p)) (nI size) true (nI i) ρ = some (0, ρ)) ∧ (¬ (∀ j (h : j < B.length), D (p + 5 + j) = B[j]) → L11_piece_321 N n 0 (nI (400 * s + p)) (nI size) true (nI i) ρ = some (8, ρ)) := by
  intro f
  induction f with
  | zero =>
    intro n i hn hi h
    obtain ⟨m, rfl⟩ : ∃ m', n = m' + 1 := ⟨n - 1, by omega⟩
    have e : i = size := by omega
    subst e
    refine ⟨fun _ => ?_, fun q => absurd (fun j hj => h j hj (by omega)) q⟩
    show B11_piece_321 N (L11_piece_321 N m) 0 (nI (400 * s + p)) (nI i) true (nI i) ρ = _
    unfold B11_piece_321 B11_piece_368
    rw [if_pos (nI_le (by omega) (by omega)), if_pos rfl]
  | succ f ih =>
    intro n i hn hi h
    obtain ⟨m, rfl⟩ : ∃ m', n = m' + 1 := ⟨n - 1, by omega⟩
    have e1 : (nI (400 * s + p) + 5) + nI i = nI (400 * s + (p + 5 + i)) := by
      have : nI (400 * s + p) + 5 = nI (400 * s + p + 5) := nI_add _ 5
      rw [this, nI_add]
      congr 1
      omega
    have hi2 : i < B.length := by omega
    have q1 := hD (p + 5 + i) (by omega)
    have q2 := hM i hi2
    have q3 := hB _ (List.getElem_mem hi2)
    have A : L11_piece_321 N (m + 1) 0 (nI (400 * s + p)) (nI size) true (nI i) ρ = if D (p + 5 + i) = B[i] then L11_piece_321 N m 0 (nI (400 * s + p)) (nI size) true (nI (i + 1)) ρ else L11_piece_321 N m 0 (nI (400 * s + p)) (nI size) false (nI (i + 1)) ρ := by
      show B11_piece_321 N (L11_piece_321 N m) 0 (nI (400 * s + p)) (nI size) true (nI i) ρ = _
      unfold B11_piece_321 B11_piece_360
      rw [if_neg (nI_ge (by omega) (by omega)), if_pos rfl, h41, idx_nI _ (by omega) (by omega), e1, h44, idx_nI _ (by omega) (by omega), q1.2, q2, nI_1]
      by_cases c : D (p + 5 + i) = B[i]
      · rw [if_pos c, if_pos (by rw [c])]
      · rw [if_neg c, if_neg (fun w => c ((nI_eq (by omega) (by omega)).mp w).symm)]
    rw [A]
    by_cases c : D (p + 5 + i) = B[i]
    · rw [if_pos c]
      exact ih m (i + 1) (by omega) (by omega) (fun j hj hj2 => by
        by_cases e : j = i
        · subst e; exact c
        · exact h j hj (by omega))
    · rw [if_neg c, p321f (by omega)]
      exact ⟨fun q => absurd (q i hi2) c, fun _ => rfl⟩
/-- what comes of looking at a piece: fine, with the numbers; or harmed -/
def UOut (σ τ : rS) (kd l sp : Nat) (A : Option (Bool × rS)) (B : Option (Int32 × rS)) : Prop :=
  (∃ (σ' τ' : rS) (F : Nat → Int64), A = some (true, σ') ∧ B = some (0, τ') ∧ KC σ σ' ∧ KR τ τ' ∧ (∀ x, x < l → gL σ' 10 0 x = F x ∧ gL τ' 39 0 x = F x ∧ cutw (nI kd) (F x) = F x) ∧ gI τ' 29 0 10 = nI l ∧ gI τ' 29 0 19 = nI sp) ∨
  (∃ (σ' τ' : rS), A = some (false, σ') ∧ B = some (8, τ') ∧ KC σ σ' ∧ KR τ τ')
theorem fin_both {N c kd l s z p sp : Nat} {σ τ : rS} {D : Nat → Nat} {O V : Nat → Int64} {fr fr' : Int32} {tk : Int64} (hN : 500 ≤ N) (hc : c < 5) (hl : l ≤ 24) (hS : SB σ τ s z D) (h4 : gR σ 8 0 4 = some s) (h9 : gN σ 9 0 = 264) (h11 : gN σ 11 0 = 24) (h41 : gN τ 41 0 = 600) (h1 : p + 5 ≤ sp) (h2 : sp ≤ z) (hb : ∀ i, i < z → gI σ 16 s i = sb (D i)) (hOV : ∀ x, x < l → O x = V x) :
    UOut σ τ kd l sp (B5_unpack_124 N 0 (nI c) (nI kd) (nI l) (nI (p + 5)) (nI sp) (uC σ O fr (nI sp) 0)) (L11_piece_243 N N 0 (nI (400 * s + p)) (nI (sp - (p + 5))) (nI c) (nI kd) (nI l) true 0 (uR τ V (nI l) fr' (nI sp) tk)) := by
  have hS' := hS
  obtain ⟨s1, s2, s3, s4, s5, s6, s7, s8⟩ := hS
  obtain ⟨f1, f2⟩ := f124 (N := N) (c := c) (kd := kd) (l := l) (st := p + 5) (sp := sp) (O := O) (fr := fr) (un := nI sp) hN hc hl hS' h4 h9 h11 h1 h2 hb
  have hcB : codeB c O l = codeB c V l := codeB_congr hOV
  have hT : tldP (nI kd) O l ↔ tldP (nI kd) V l := by
    constructor
    · intro h x hx; rw [← hOV x hx]; exact h x hx
    · intro h x hx; rw [hOV x hx]; exact h x hx
  obtain ⟨g1, g2⟩ := p243 (N := N) (c := c) (kd := kd) (l := l) (V := V) (v4 := nI (400 * s + p)) (v5 := nI (sp - (p + 5))) (fr := fr') (un := nI sp) (tk := tk) s6 hl l N 0 true (by omega) (by omega) (fun _ x hx => absurd hx (Nat.not_lt_zero x)) (fun q => absurd q (by decide))
  obtain ⟨V', v1, v2⟩ := code_eq (N := N) (l := l) (c := c) (τ := tR τ fr' (nI sp) tk) (V := V) (M := gI τ 41 0) (z := gI τ 29 0 12) hN hc h41 s6 hl
  rw [← uR_mkR] at v2
  have hle := codeB_len c V l hl
  have hbb := codeB_b c V l
  have e12 : gI (pR (tR τ fr' (nI sp) tk) V' (gI τ 41 0) (nI l) (codeB c V l)) 29 0 12 = nI (codeB c V l).length := rfl
  have hK : KR τ (pR (tR τ fr' (nI sp) tk) V' (gI τ 41 0) (nI l) (codeB c V l)) := KR_t (KR_tR τ fr' (nI sp) tk) (KR_p _ V' _ _ _)
  have bad : ∀ v4 v5, B11_piece_315 N 0 v4 v5 (pR (tR τ fr' (nI sp) tk) V' (gI τ 41 0) (nI l) (codeB c V l)) = some (8, pR (tR τ fr' (nI sp) tk) V' (gI τ 41 0) (nI l) (codeB c V l)) := by
    intro v4 v5
    unfold B11_piece_315 B11_piece_316
    exact p321f (by omega)
  by_cases ht : tldP (nI kd) V l
  · have g1' := g1 ht
    have g1'' : L11_piece_243 N N 0 (nI (400 * s + p)) (nI (sp - (p + 5))) (nI c) (nI kd) (nI l) true 0 (uR τ V (nI l) fr' (nI sp) tk) = _ := g1'
    rw [g1'', v2, obind_some, e12]
    by_cases hle2 : (codeB c V l).length = sp - (p + 5)
    · rw [if_pos (by rw [hle2])]
      unfold B11_piece_316
      obtain ⟨k1, k2⟩ := p321 (N := N) (s := s) (p := p) (size := sp - (p + 5)) (z := z) (ρ := pR (tR τ fr' (nI sp) tk) V' (gI τ 41 0) (nI l) (codeB c V l)) (τ := τ) (D := D) (B := codeB c V l) s1 s2 (by omega) (fun i hi => ⟨(s8 i hi).1, (s8 i hi).2.2⟩) (fun j hj => by
        have := wrL_at nI (codeB c V l) (gI τ 41 0) 0 j hj
        rw [Nat.zero_add] at this
        exact this) hbb hle2 s5 h41 (sp - (p + 5)) N 0 (by omega) (by omega) (fun j hj hj2 => absurd hj2 (Nat.not_lt_zero j))
      by_cases hs : ∀ j (h : j < (codeB c V l).length), D (p + 5 + j) = (codeB c V l)[j]
      · have hsame : sameB D (p + 5) sp (codeB c O l) := by
          rw [hcB]
          exact ⟨by omega, hs⟩
        obtain ⟨W, M, f3⟩ := f1 ⟨hT.mpr ht, hsame⟩
        have k1' := k1 hs
        refine Or.inl ⟨_, _, V, f3, k1', KC_t (KC_u σ O fr (nI sp) 0) (KC_p _ W M _), hK, ?_, rfl, rfl⟩
        intro x hx
        refine ⟨hOV x hx, v1 x hx, ht x hx⟩
      · have hns : ¬ (tldP (nI kd) O l ∧ sameB D (p + 5) sp (codeB c O l)) := by
          rintro ⟨-, q⟩
          rw [hcB] at q
          exact hs q.2
        obtain ⟨σ', f3, f4⟩ := f2 hns
        exact Or.inr ⟨σ', _, f4, k2 hs, f3, hK⟩
    · have hns : ¬ (tldP (nI kd) O l ∧ sameB D (p + 5) sp (codeB c O l)) := by
        rintro ⟨-, q⟩
        rw [hcB] at q
        have := q.1
        omega
      obtain ⟨σ', f3, f4⟩ := f2 hns
      rw [if_neg (fun q => hle2 ((nI_eq (by omega) (by omega)).mp q)), bad]
      exact Or.inr ⟨σ', _, f4, rfl, f3, hK⟩
  · have g2' := g2 ht
    have g2'' : L11_piece_243 N N 0 (nI (400 * s + p)) (nI (sp - (p + 5))) (nI c) (nI kd) (nI l) true 0 (uR τ V (nI l) fr' (nI sp) tk) = _ := g2'
    have hns : ¬ (tldP (nI kd) O l ∧ sameB D (p + 5) sp (codeB c O l)) := fun q => ht (hT.mp q.1)
    obtain ⟨σ', f3, f4⟩ := f2 hns
    rw [g2'', v2, obind_some, bad]
    exact Or.inr ⟨σ', _, f4, rfl, f3, hK⟩
