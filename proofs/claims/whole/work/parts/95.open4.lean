/-! ===== opening: the piece looked at again ===== -/
theorem smC_loop {N l : Nat} {σ : rS} {F : Nat → Int64} {fr un a : Int32} (h10 : gN σ 10 0 = 24) (hl : l ≤ 24) : ∀ (k n i : Nat), k < n → (i + 1) + k = l → L5_undoSteps_2 N n 0 (nI l) (nI (i + 1)) (uC σ (fun x => if x < i + 1 then ps F x else F x) fr un a) = some ((), uC σ (sm F l) fr un a) := by
  intro k
  induction k with
  | zero =>
    intro n i hn hi
    obtain ⟨m, rfl⟩ : ∃ m', n = m' + 1 := ⟨n - 1, by omega⟩
    show B5_undoSteps_2 N (L5_undoSteps_2 N m) 0 (nI l) (nI (i + 1)) _ = _
    unfold B5_undoSteps_2
    rw [if_pos (nI_le (by omega) (by omega))]
    have : i + 1 = l := by omega
    rw [this]
    rfl
  | succ k ih =>
    intro n i hn hi
    obtain ⟨m, rfl⟩ : ∃ m', n = m' + 1 := ⟨n - 1, by omega⟩
    show B5_undoSteps_2 N (L5_undoSteps_2 N m) 0 (nI l) (nI (i + 1)) _ = _
    unfold B5_undoSteps_2
    have e1 : ∀ G, gN (uC σ G fr un a) 10 0 = 24 := fun _ => h10
    have e2 : ∀ G y, gL (uC σ G fr un a) 10 0 y = G y := fun _ _ => rfl
    rw [if_neg (nI_ge (by omega) (by omega)), e1, idx_nI _ (by omega) (by omega), nI_pred, idx_nI _ (by omega) (by omega), idx_nI _ (by omega) (by omega), olet_eq, nI_1, e2, e2, uC_O, ← ih m (i + 1) (by omega) (by omega)]
    congr 2
    funext x
    unfold up
    by_cases c : x = i + 1
    · subst c
      simp only [Nat.lt_irrefl, if_false, if_true]
      rw [if_pos (by omega), if_pos (by omega)]
      rfl
    · simp only [c, if_false]
      by_cases c2 : x < i + 1
      · rw [if_pos c2, if_pos (by omega)]
      · rw [if_neg c2, if_neg (by omega)]
theorem undoSteps_eq {N l : Nat} {σ : rS} {F : Nat → Int64} {fr un a : Int32} (hN : 500 ≤ N) (h10 : gN σ 10 0 = 24) (hl : l ≤ 24) : f5_undoSteps N 0 (nI l) (uC σ F fr un a) = some ((), uC σ (sm F l) fr un a) := by
  unfold f5_undoSteps
  cases l with
  | zero =>
    obtain ⟨m, rfl⟩ : ∃ m', N = m' + 1 := ⟨N - 1, by omega⟩
    show B5_undoSteps_2 (m + 1) (L5_undoSteps_2 (m + 1) m) 0 (nI 0) 1 _ = _
    unfold B5_undoSteps_2
    rw [if_pos (show nI 0 ≤ 1 by decide)]
    have e : sm F 0 = F := by
      funext x
      unfold sm
      rw [if_neg (by omega)]
    rw [e]
  | succ l =>
    have := smC_loop (N := N) (F := F) (fr := fr) (un := un) (a := a) h10 hl l N 0 (by omega) (by omega)
    rw [← this]
    show L5_undoSteps_2 N N 0 (nI (l + 1)) 1 _ = L5_undoSteps_2 N N 0 (nI (l + 1)) 1 _
    congr 2
    funext x
    by_cases c : x < 0 + 1
    · rw [if_pos c]
      have : x = 0 := by omega
      rw [this]
      rfl
    · rw [if_neg c]
noncomputable def tR (τ : rS) (fr un : Int32) (tk : Int64) : rS := sL (sI (sI τ 29 0 18 fr) 29 0 19 un) 29 0 20 tk
theorem uR_mkR (τ : rS) (V : Nat → Int64) (c fr un : Int32) (tk : Int64) : uR τ V c fr un tk = mkR (tR τ fr un tk) V (gI τ 41 0) c (gI τ 29 0 12) := by
  refine ext5 ?_ (Prod.ext ?_ rfl)
  · funext k i x
    simp only [uR, tR, mkR, sI, sIr, sLr, sL, gI]
    grind
  · funext k i x
    simp only [uR, tR, mkR, sI, sIr, sLr, sL, gI]
    grind
theorem sumsU {N l : Nat} {τ : rS} {V : Nat → Int64} {fr un : Int32} {tk : Int64} (hN : 500 ≤ N) (h39 : gN τ 39 0 = 24) (hl : l ≤ 24) : f11_sums N 0 (uR τ V (nI l) fr un tk) = some ((), uR τ (sm V l) (nI l) fr un tk) := by
  rw [uR_mkR, uR_mkR]
  exact sums_eq hN h39 hl
def smc (c : Nat) (O : Nat → Int64) (l : Nat) : Nat → Int64 := if c = 1 ∨ c = 4 then sm O l else if c = 2 then sm (sm O l) l else O
theorem smc_congr {c l : Nat} {O V : Nat → Int64} (h : ∀ x, x < l → O x = V x) : ∀ x, x < l → smc c O l x = smc c V l x := by
  have h1 : ∀ {O V : Nat → Int64}, (∀ x, x < l → O x = V x) → ∀ x, x < l → sm O l x = sm V l x := by
    intro O V h x hx
    unfold sm
    rw [if_pos hx, if_pos hx]
    exact ps_congr x (fun y hy => h y (by omega))
  intro x hx
  unfold smc
  split
  · exact h1 h x hx
  split
  · exact h1 (h1 h) x hx
  · exact h x hx
theorem u94 {N c l : Nat} {σ : rS} {O : Nat → Int64} {fr un a v2 v5 v6 : Int32} (hN : 500 ≤ N) (hc : c < 5) (h10 : gN σ 10 0 = 24) (hl : l ≤ 24) : B5_unpack_94 N 0 (nI c) v2 (nI l) v5 v6 (uC σ O fr un a) = B5_unpack_124 N 0 (nI c) v2 (nI l) v5 v6 (uC σ (smc c O l) fr un a) := by
  have hcc : c = 0 ∨ c = 1 ∨ c = 2 ∨ c = 3 ∨ c = 4 := by omega
  unfold B5_unpack_94 B5_unpack_109 B5_unpack_114
  rcases hcc with rfl | rfl | rfl | rfl | rfl
  · rw [if_neg (by decide), if_neg (by decide), if_neg (by decide), if_neg (by decide)]; rfl
  · rw [if_pos (by decide), undoSteps_eq hN h10 hl, obind_some, if_neg (by decide)]; rfl
  · rw [if_neg (by decide), if_pos (by decide), undoSteps_eq hN h10 hl, obind_some, if_pos (by decide), undoSteps_eq hN h10 hl, obind_some]; rfl
  · rw [if_neg (by decide), if_neg (by decide), if_neg (by decide), if_neg (by decide)]; rfl
  · rw [if_neg (by decide), if_neg (by decide), if_pos (by decide), undoSteps_eq hN h10 hl, obind_some, if_neg (by decide)]; rfl
theorem d191 {N c l : Nat} {τ : rS} {V : Nat → Int64} {fr un v1 : Int32} {tk : Int64} {K : Nat → Int32 → Int32 → Int32 → rS → Option (Bool × rS)} (hN : 500 ≤ N) (hc : c < 5) (h39 : gN τ 39 0 = 24) (hl : l ≤ 24) : B11_decode_191 N K 0 v1 (nI c) (nI l) (uR τ V (nI l) fr un tk) = some (true, uR τ (smc c V l) (nI l) fr un tk) := by
  have hcc : c = 0 ∨ c = 1 ∨ c = 2 ∨ c = 3 ∨ c = 4 := by omega
  have e1 : gI (uR τ V (nI l) fr un tk) 29 0 10 = nI l := rfl
  unfold B11_decode_191 B11_decode_311
  rw [e1, if_pos (nI_le (Nat.le_refl _) (by omega))]
  rcases hcc with rfl | rfl | rfl | rfl | rfl
  · rw [if_neg (by decide), if_pos (by decide)]; rfl
  · rw [if_neg (by decide), if_neg (by decide), if_neg (by decide), sumsU hN h39 hl]; rfl
  · rw [if_pos (by decide), sumsU hN h39 hl, obind_some, if_neg (by decide), if_neg (by decide), sumsU hN h39 hl]; rfl
  · rw [if_neg (by decide), if_neg (by decide), if_pos (by decide)]; rfl
  · rw [if_neg (by decide), if_neg (by decide), if_neg (by decide), sumsU hN h39 hl]; rfl
def tldP (k : Int32) (O : Nat → Int64) (l : Nat) : Prop := ∀ x, x < l → cutw k (O x) = O x
theorem told_loop {N l : Nat} {σ : rS} {O : Nat → Int64} {k fr un a : Int32} (h10 : gN σ 10 0 = 24) (hl : l ≤ 24) : ∀ (f n i : Nat), f < n → i + f = l → (∀ x, x < i → cutw k (O x) = O x) → ((tldP k O l → L5_areTold_2 N n 0 k (nI l) (nI i) (uC σ O fr un a) = some (true, uC σ O fr un a)) ∧ (¬ tldP k O l → L5_areTold_2 N n 0 k (nI l) (nI i) (uC σ O fr un a) = some (false, uC σ O fr un a))) := by
  intro f
  induction f with
  | zero =>
    intro n i hn hi h
    obtain ⟨m, rfl⟩ : ∃ m', n = m' + 1 := ⟨n - 1, by omega⟩
    have e : i = l := by omega
    subst e
    refine ⟨fun _ => ?_, fun q => absurd h q⟩
    show B5_areTold_2 N (L5_areTold_2 N m) 0 k (nI i) (nI i) _ = _
    unfold B5_areTold_2
    rw [if_pos (nI_le (by omega) (by omega))]
  | succ f ih =>
    intro n i hn hi h
    obtain ⟨m, rfl⟩ : ∃ m', n = m' + 1 := ⟨n - 1, by omega⟩
    have e1 : ∀ G, gN (uC σ G fr un a) 10 0 = 24 := fun _ => h10
    have e2 : ∀ G y, gL (uC σ G fr un a) 10 0 y = G y := fun _ _ => rfl
    have A : L5_areTold_2 N (m + 1) 0 k (nI l) (nI i) (uC σ O fr un a) = if cutw k (O i) = O i then L5_areTold_2 N m 0 k (nI l) (nI (i + 1)) (uC σ O fr un a) else some (false, uC σ O fr un a) := by
      show B5_areTold_2 N (L5_areTold_2 N m) 0 k (nI l) (nI i) _ = _
      unfold B5_areTold_2
      rw [if_neg (nI_ge (by omega) (by omega)), e1, idx_nI _ (by omega) (by omega), e2, told_eq, obind_some, e1, idx_nI _ (by omega) (by omega), e2, nI_1]
    rw [A]
    by_cases c : cutw k (O i) = O i
    · rw [if_pos c]
      exact ih m (i + 1) (by omega) (by omega) (fun x hx => by
        by_cases e : x = i
        · rw [e, c]
        · exact h x (by omega))
    · rw [if_neg c]
      exact ⟨fun q => absurd (q i (by omega)) c, fun _ => rfl⟩
/-- what is kept of a state on the class's side, on the reference's -/
def KC (σ σ' : rS) : Prop := (∀ t τ, Inv t σ τ → Inv t σ' τ) ∧ gC σ' 13 = gC σ 13 ∧ gC σ' 15 = gC σ 15 ∧ (∀ s x, gI σ' 15 s x = gI σ 15 s x) ∧ ∀ x, gI σ' 12 0 x = gI σ 12 0 x
def KR (τ τ' : rS) : Prop := (∀ t σ, Inv t σ τ → Inv t σ τ') ∧ ∀ x, gI τ' 44 0 x = gI τ 44 0 x
theorem KC_u (σ : rS) (O : Nat → Int64) (fr un a : Int32) : KC σ (uC σ O fr un a) := by
  refine ⟨fun t τ h => ?_, rfl, rfl, fun _ _ => rfl, fun _ => rfl⟩
  obtain ⟨h1, h2, h3, h4, h5, h6, h7⟩ := h
  exact ⟨h1, h2, h3, h4, h5, h6, h7⟩
theorem KC_p (σ : rS) (W : Nat → Int64) (M : Nat → Int32) (B : List Nat) : KC σ (pC σ W M B) := by
  refine ⟨fun t τ h => ?_, rfl, rfl, fun _ _ => rfl, fun _ => rfl⟩
  obtain ⟨h1, h2, h3, h4, h5, h6, h7⟩ := h
  exact ⟨h1, h2, h3, h4, h5, h6, h7⟩
theorem KC_t {a b c : rS} (h1 : KC a b) (h2 : KC b c) : KC a c := ⟨fun t τ h => h2.1 t τ (h1.1 t τ h), h2.2.1.trans h1.2.1, h2.2.2.1.trans h1.2.2.1, fun s x => (h2.2.2.2.1 s x).trans (h1.2.2.2.1 s x), fun x => (h2.2.2.2.2 x).trans (h1.2.2.2.2 x)⟩
theorem KR_u (τ : rS) (V : Nat → Int64) (c fr un : Int32) (tk : Int64) : KR τ (uR τ V c fr un tk) := by
  refine ⟨fun t σ h => ?_, fun _ => rfl⟩
  obtain ⟨h1, h2, h3, h4, h5, h6, h7⟩ := h
  exact ⟨h1, h2, h3, h4, h5, h6, h7⟩
theorem KR_tR (τ : rS) (fr un : Int32) (tk : Int64) : KR τ (tR τ fr un tk) := by
  refine ⟨fun t σ h => ?_, fun _ => rfl⟩
  obtain ⟨h1, h2, h3, h4, h5, h6, h7⟩ := h
  exact ⟨h1, h2, h3, h4, h5, h6, h7⟩
theorem KR_p (τ : rS) (V : Nat → Int64) (M : Nat → Int32) (c : Int32) (B : List Nat) : KR τ (pR τ V M c B) := by
  refine ⟨fun t σ h => ?_, fun _ => rfl⟩
  obtain ⟨h1, h2, h3, h4, h5, h6, h7⟩ := h
  exact ⟨h1, h2, h3, h4, h5, h6, h7⟩
theorem KR_t {a b c : rS} (h1 : KR a b) (h2 : KR b c) : KR a c := ⟨fun t σ h => h2.1 t σ (h1.1 t σ h), fun x => (h2.2 x).trans (h1.2 x)⟩
/-- the bytes from st to sp are those of B -/
def sameB (D : Nat → Nat) (st sp : Nat) (B : List Nat) : Prop := sp = st + B.length ∧ ∀ j (h : j < B.length), D (st + j) = B[j]
theorem sb_inj {a b : Nat} (ha : a < 256) (hb : b < 256) (h : sb a = sb b) : a = b := by
  have h1 := bt_255 (bt_mk ha)
  have h2 := bt_255 (bt_mk hb)
  have e : nI a = nI b := by
    rw [← h1, ← h2]
    unfold sb at h
    rw [h]
  exact (nI_eq (by omega) (by omega)).mp e
theorem f124 {N c kd l st sp s z : Nat} {σ τ : rS} {D : Nat → Nat} {O : Nat → Int64} {fr un : Int32} (hN : 500 ≤ N) (hc : c < 5) (hl : l ≤ 24) (hS : SB σ τ s z D) (h4 : gR σ 8 0 4 = some s) (h9 : gN σ 9 0 = 264) (h11 : gN σ 11 0 = 24) (h1 : st ≤ sp) (h2 : sp ≤ z) (hb : ∀ i, i < z → gI σ 16 s i = sb (D i)) :
    (tldP (nI kd) O l ∧ sameB D st sp (codeB c O l) → ∃ W M, B5_unpack_124 N 0 (nI c) (nI kd) (nI l) (nI st) (nI sp) (uC σ O fr un 0) = some (true, pC (uC σ O fr un 0) W M (codeB c O l))) ∧ (¬ (tldP (nI kd) O l ∧ sameB D st sp (codeB c O l)) → ∃ σ', KC σ σ' ∧ B5_unpack_124 N 0 (nI c) (nI kd) (nI l) (nI st) (nI sp) (uC σ O fr un 0) = some (false, σ')) := by
  obtain ⟨s1, s2, s3, s4, s5, s6, s7, s8⟩ := hS
  unfold B5_unpack_124
  have e0 : gI (uC σ O fr un 0) 8 0 7 = 0 := rfl
  rw [e0, if_pos rfl]
  unfold f5_areTold
  obtain ⟨t1, t2⟩ := told_loop (N := N) (O := O) (k := nI kd) (fr := fr) (un := un) (a := 0) s7 hl l N 0 (by omega) (by omega) (fun x hx => absurd hx (Nat.not_lt_zero x))
  have t1' : tldP (nI kd) O l → L5_areTold_2 N N 0 (nI kd) (nI l) 0 (uC σ O fr un 0) = some (true, uC σ O fr un 0) := t1
  have t2' : ¬ tldP (nI kd) O l → L5_areTold_2 N N 0 (nI kd) (nI l) 0 (uC σ O fr un 0) = some (false, uC σ O fr un 0) := t2
  by_cases ht : tldP (nI kd) O l
  · rw [t1' ht, obind_some, if_pos rfl]
    obtain ⟨W, hW⟩ := pack_eq (N := N) (k2 := 10) (v2 := 0) (l := l) (c := c) (σ := uC σ O fr un 0) hN hc h9 h11 hl (by show l ≤ gN σ 10 0; omega)
    have hW' : f5_pack N 10 0 (nI c) 0 (nI l) (uC σ O fr un 0) = some ((), pC (uC σ O fr un 0) W (gI (uC σ O fr un 0) 9 0) (codeB c O l)) := hW
    rw [hW', obind_some, olet_eq]
    generalize gI (uC σ O fr un 0) 9 0 = M
    have e1 : gR (pC (uC σ O fr un 0) W M (codeB c O l)) 8 0 4 = gR σ 8 0 4 := rfl
    have e2 : gI (pC (uC σ O fr un 0) W M (codeB c O l)) 8 0 1 = nI (codeB c O l).length := rfl
    have e3 : gI (pC (uC σ O fr un 0) W M (codeB c O l)) 15 s 1 = nI z := s3
    have e4 : gN (pC (uC σ O fr un 0) W M (codeB c O l)) 16 s = 400 := s4
    have e5 : gN (pC (uC σ O fr un 0) W M (codeB c O l)) 9 0 = 264 := h9
    have e6 : ∀ j, gI (pC (uC σ O fr un 0) W M (codeB c O l)) 16 s j = gI σ 16 s j := fun _ => rfl
    have e7 : ∀ j, gI (pC (uC σ O fr un 0) W M (codeB c O l)) 9 0 j = wrL sb M 0 (codeB c O l) j := fun _ => rfl
    have ez : zS (pC (uC σ O fr un 0) W M (codeB c O l)) s = z := by
      unfold zS
      rw [e3, nI_clamp (by omega)]
    have hle := codeB_len c O l hl
    have hbb := codeB_b c O l
    have key := hasAt_eq (N := N) (k3 := 9) (s := s) (v3 := 0) (a := st) (e := sp) (z := (codeB c O l).length) (σ := pC (uC σ O fr un 0) W M (codeB c O l)) hN (by rw [ez]; exact e3) e4 (by rw [ez]; omega) (by rw [ez]; omega) h1 (by rw [e5]; omega) (by rw [e5]; omega)
    rw [e1, h4, onul_some, e2, key, obind_some]
    have hiff : (sp = st + (codeB c O l).length ∧ ∀ j, j < (codeB c O l).length → gI (pC (uC σ O fr un 0) W M (codeB c O l)) 16 s (st + j) = gI (pC (uC σ O fr un 0) W M (codeB c O l)) 9 0 j) ↔ sameB D st sp (codeB c O l) := by
      constructor
      · rintro ⟨g1, g2⟩
        refine ⟨g1, fun j hj => ?_⟩
        have g3 := g2 j hj
        rw [e6, e7, hb (st + j) (by omega)] at g3
        have g4 := wrL_at sb (codeB c O l) M 0 j hj
        rw [Nat.zero_add] at g4
        rw [g4] at g3
        exact sb_inj (s8 (st + j) (by omega)).1 (hbb _ (List.getElem_mem hj)) g3
      · rintro ⟨g1, g2⟩
        refine ⟨g1, fun j hj => ?_⟩
        have g4 := wrL_at sb (codeB c O l) M 0 j hj
        rw [Nat.zero_add] at g4
        rw [e6, e7, hb (st + j) (by omega), g4, g2 j hj]
    constructor
    · rintro ⟨-, g⟩
      exact ⟨W, M, by rw [decide_eq_true (hiff.mpr g)]⟩
    · intro g
      refine ⟨_, KC_t (KC_u σ O fr un 0) (KC_p _ W M (codeB c O l)), ?_⟩
      rw [decide_eq_false (fun q => g ⟨ht, hiff.mp q⟩)]
  · rw [t2' ht, obind_some, if_neg (by decide)]
    exact ⟨fun q => absurd q.1 ht, fun _ => ⟨_, KC_u σ O fr un 0, rfl⟩⟩
theorem f124a {N : Nat} {σ : rS} {O : Nat → Int64} {fr un v1 v2 v3 v5 v6 : Int32} : B5_unpack_124 N 0 v1 v2 v3 v5 v6 (uC σ O fr un 1) = some (false, uC σ O fr un 1) := by
  unfold B5_unpack_124
  have e0 : gI (uC σ O fr un 1) 8 0 7 = 1 := rfl
  rw [e0, if_neg (by decide)]
