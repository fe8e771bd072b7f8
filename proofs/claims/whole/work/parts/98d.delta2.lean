/-! ===== deltas: made ===== -/
theorem lgR_loop {N a b p za zb : Nat} {σ τ : rS} {v3 v4 v5 : Int32} (K : Nat → Int32 → Int32 → Int32 → Int32 → Int32 → Int32 → rS → Option (Int32 × rS)) (hN : 500 ≤ N) (h : AB σ τ a b za zb) (hp : p ≤ zb) : ∀ (f n i m : Nat) (pl : Int32), f < n → i + f = za → m < 1000 → L11_delta_65 N K n 0 (nI a) (nI b) v3 v4 v5 (nI p) pl (nI m) (nI i) τ = B11_delta_65 N K (fun _ _ _ _ _ _ _ _ _ _ _ => none) 0 (nI a) (nI b) v3 v4 v5 (nI p) (lgF (fun q => mt (gI σ 16 a) (gI σ 16 b) za zb q p) f i pl m).1 (nI (lgF (fun q => mt (gI σ 16 a) (gI σ 16 b) za zb q p) f i pl m).2) (nI za) τ := by
  have h' := h
  obtain ⟨h1, h2, h3, h4, h5, h6, h7, h8, h9, h10, h11, h12, h13, h14⟩ := h
  intro f
  induction f with
  | zero =>
    intro n i m pl hn hi hm
    obtain ⟨m', rfl⟩ : ∃ m', n = m' + 1 := ⟨n - 1, by omega⟩
    have e : i = za := by omega
    subst e
    show B11_delta_65 N K (L11_delta_65 N K m') 0 (nI a) (nI b) v3 v4 v5 (nI p) pl (nI m) (nI i) τ = B11_delta_65 N K _ 0 (nI a) (nI b) v3 v4 v5 (nI p) pl (nI m) (nI i) τ
    unfold B11_delta_65
    rw [h12, idx_nI _ h1 (by omega), idx_nI _ h1 (by omega), h9, if_pos (nI_le (Nat.le_refl _) (by omega)), if_pos (nI_le (Nat.le_refl _) (by omega))]
  | succ f ih =>
    intro n i m pl hn hi hm
    obtain ⟨m', rfl⟩ : ∃ m', n = m' + 1 := ⟨n - 1, by omega⟩
    have hm2 := mt_le (gI σ 16 a) (gI σ 16 b) za zb i p
    have A : L11_delta_65 N K (m' + 1) 0 (nI a) (nI b) v3 v4 v5 (nI p) pl (nI m) (nI i) τ = if mt (gI σ 16 a) (gI σ 16 b) za zb i p ≤ m then L11_delta_65 N K m' 0 (nI a) (nI b) v3 v4 v5 (nI p) pl (nI m) (nI (i + 1)) τ else L11_delta_65 N K m' 0 (nI a) (nI b) v3 v4 v5 (nI p) (nI i) (nI (mt (gI σ 16 a) (gI σ 16 b) za zb i p)) (nI (i + 1)) τ := by
      show B11_delta_65 N K (L11_delta_65 N K m') 0 (nI a) (nI b) v3 v4 v5 (nI p) pl (nI m) (nI i) τ = _
      unfold B11_delta_65 B11_delta_103
      rw [h12, idx_nI _ h1 (by omega), h9, if_neg (nI_ge (by omega) (by omega)), matching_eq hN h' (by omega) hp, obind_some, nI_1]
      by_cases c : mt (gI σ 16 a) (gI σ 16 b) za zb i p ≤ m
      · rw [if_pos (nI_le c (by omega)), if_pos c]
      · rw [if_neg (nI_ge (by omega) (by omega)), if_neg c]
    have el : lgF (fun q => mt (gI σ 16 a) (gI σ 16 b) za zb q p) (f + 1) i pl m = if mt (gI σ 16 a) (gI σ 16 b) za zb i p ≤ m then lgF (fun q => mt (gI σ 16 a) (gI σ 16 b) za zb q p) f (i + 1) pl m else lgF (fun q => mt (gI σ 16 a) (gI σ 16 b) za zb q p) f (i + 1) (nI i) (mt (gI σ 16 a) (gI σ 16 b) za zb i p) := rfl
    rw [A, el]
    by_cases c : mt (gI σ 16 a) (gI σ 16 b) za zb i p ≤ m
    · rw [if_pos c, if_pos c]
      exact ih m' (i + 1) m pl (by omega) (by omega) hm
    · rw [if_neg c, if_neg c]
      exact ih m' (i + 1) _ _ (by omega) (by omega) (by omega)
section DX
variable {N a b d za zb : Nat} {σ τ : rS}
theorem r213 {k ad p : Nat} {P' L' A' : Nat → Int32} (K : Nat → Int32 → Int32 → Int32 → Int32 → Int32 → Int32 → rS → Option (Int32 × rS)) (hd : d < 16) (hk : k < 400) (ha : ad < 400) (hb : b < 24) (hp : p < 400) (g44 : gN τ 44 0 = 9600) (g65 : gN τ 65 0 = 6400) (g66 : gN τ 66 0 = 6400) : B11_delta_213 N K 0 (nI a) (nI b) (nI d) (nI (k + 1)) (nI ad) (nI p) (dlR τ P' L' A') = K 0 (nI a) (nI b) (nI d) (nI (k + 1)) (nI (ad + 1)) (nI (p + 1)) (dlR τ P' (up L' (400 * d + k) (L' (400 * d + k) + 1)) (up A' (400 * d + ad) (gI τ 44 0 (400 * b + p)))) := by
  unfold B11_delta_213 B11_delta_264
  have e1 : (400 : Int32) * nI d + nI (k + 1) - 1 = nI (400 * d + k) := by
    rw [ix44]
    exact nI_pred (400 * d + k)
  have e2 : gN (dlR τ P' L' A') 65 0 = 6400 := g65
  have e3 : ∀ L', gN (dlR τ P' L' A') 44 0 = 9600 := fun _ => g44
  have e4 : ∀ L', gN (dlR τ P' L' A') 66 0 = 6400 := fun _ => g66
  have e5 : ∀ j, gI (dlR τ P' L' A') 65 0 j = L' j := fun _ => rfl
  have e6 : ∀ L' j, gI (dlR τ P' L' A') 44 0 j = gI τ 44 0 j := fun _ _ => rfl
  rw [e1, e2, idx_nI _ (by omega) (by omega), idx_nI _ (by omega) (by omega), olet_eq, e5, dlR_L, ix44, ix44, e3, e4, idx_nI _ (by omega) (by omega), idx_nI _ (by omega) (by omega), olet_eq, e6, dlR_A, nI_1, nI_1]
theorem r182 {k ad p : Nat} {P' L' A' : Nat → Int32} (K : Nat → Int32 → Int32 → Int32 → Int32 → Int32 → Int32 → rS → Option (Int32 × rS)) (hd : d < 16) (hk : k < 400) (ha : ad < 400) (hb : b < 24) (hp : p < 400) (g44 : gN τ 44 0 = 9600) (g64 : gN τ 64 0 = 6400) (g65 : gN τ 65 0 = 6400) (g66 : gN τ 66 0 = 6400) : B11_delta_182 N K 0 (nI a) (nI b) (nI d) (nI k) (nI ad) (nI p) (dlR τ P' L' A') = K 0 (nI a) (nI b) (nI d) (nI (k + 1)) (nI (ad + 1)) (nI (p + 1)) (dlR τ (up P' (400 * d + k) (-1)) (up (up L' (400 * d + k) 0) (400 * d + k) (0 + 1)) (up A' (400 * d + ad) (gI τ 44 0 (400 * b + p)))) := by
  unfold B11_delta_182
  have e2 : gN (dlR τ P' L' A') 64 0 = 6400 := g64
  have e3 : ∀ P', gN (dlR τ P' L' A') 65 0 = 6400 := fun _ => g65
  rw [ix44, e2, idx_nI _ (by omega) (by omega), olet_eq, dlR_P, e3, idx_nI _ (by omega) (by omega), olet_eq, dlR_L, nI_1, r213 K hd hk ha hb hp g44 g65 g66, up_same]
theorem by8_255 {x y : Int32} (h : bt x y) : bt (by8 (x &&& 255)) y := by
  rw [bt_255 h]
  obtain ⟨n, hn, rfl, -⟩ := h
  exact bt_sm n hn
theorem dl_loop (hN : 500 ≤ N) (h : AB σ τ a b za zb) (hd : d < 16) (g23 : gN σ 23 d = zb) (g24 : gN σ 24 d = zb) (g25 : gN σ 25 d = zb) (g64 : gN τ 64 0 = 6400) (g65 : gN τ 65 0 = 6400) (g66 : gN τ 66 0 = 6400) : ∀ (F n n' p T k ad cp : Nat) (P L A P' L' A' : Nat → Int32), zb - p ≤ F → F < n → F < n' → T ≤ p → p ≤ zb → k ≤ p → ad + cp = p → DI d za k ad cp P L A τ P' L' A' →
    ∃ (P2 L2 A2 P2' L2' A2' : Nat → Int32) (k2 ad2 cp2 : Nat), DI d za k2 ad2 cp2 P2 L2 A2 τ P2' L2' A2' ∧ k2 ≤ zb ∧ ad2 + cp2 = zb ∧ L1_fill_5 N n d a b (nI p) (nI T) (dlC σ d P L A (nI k) (nI ad) (nI cp)) = some ((), dlC σ d P2 L2 A2 (nI k2) (nI ad2) (nI cp2)) ∧ L11_delta_45 N n' 0 (nI a) (nI b) (nI d) (nI k) (nI ad) (nI p) (dlR τ P' L' A') = B11_delta_45 N (fun _ _ _ _ _ _ _ _ => none) 0 (nI a) (nI b) (nI d) (nI k2) (nI ad2) (nI zb) (dlR τ P2' L2' A2') := by
  have h' := h
  obtain ⟨h1, h2, h3, h4, h5, h6, h7, h8, h9, h10, h11, h12, h13, h14⟩ := h
  intro F
  have endC : ∀ (n p T k ad cp : Nat) (P L A : Nat → Int32), 0 < n → p = zb → L1_fill_5 N n d a b (nI p) (nI T) (dlC σ d P L A (nI k) (nI ad) (nI cp)) = some ((), dlC σ d P L A (nI k) (nI ad) (nI cp)) := by
    intro n p T k ad cp P L A hn hp
    obtain ⟨m, rfl⟩ : ∃ m', n = m' + 1 := ⟨n - 1, by omega⟩
    show B1_fill_5 N (L1_fill_5 N m) d a b (nI p) (nI T) _ = _
    unfold B1_fill_5
    have e1 : gI (dlC σ d P L A (nI k) (nI ad) (nI cp)) 15 b 1 = nI zb := h6
    rw [e1]
    split
    · rfl
    · rw [if_pos (nI_le (by omega) (by omega))]
  have endR : ∀ (n p k ad : Nat) (P' L' A' : Nat → Int32), 0 < n → p = zb → L11_delta_45 N n 0 (nI a) (nI b) (nI d) (nI k) (nI ad) (nI p) (dlR τ P' L' A') = B11_delta_45 N (fun _ _ _ _ _ _ _ _ => none) 0 (nI a) (nI b) (nI d) (nI k) (nI ad) (nI zb) (dlR τ P' L' A') := by
    intro n p k ad P' L' A' hn hp
    subst hp
    obtain ⟨m, rfl⟩ : ∃ m', n = m' + 1 := ⟨n - 1, by omega⟩
    show B11_delta_45 N (L11_delta_45 N m) 0 (nI a) (nI b) (nI d) (nI k) (nI ad) (nI p) _ = _
    unfold B11_delta_45
    have e1 : gI (dlR τ P' L' A') 45 0 b = nI p := h10
    have e2 : gN (dlR τ P' L' A') 45 0 = 24 := h12
    rw [e2, idx_nI _ h2 (by omega), idx_nI _ h2 (by omega), e1, if_pos (nI_le (Nat.le_refl _) (by omega)), if_pos (nI_le (Nat.le_refl _) (by omega))]
  induction F with
  | zero =>
    intro n n' p T k ad cp P L A P' L' A' hF hn hn' hT hp hk hsum hDI
    exact ⟨P, L, A, P', L', A', k, ad, cp, hDI, by omega, by omega, endC n p T k ad cp P L A (by omega) (by omega), endR n' p k ad P' L' A' (by omega) (by omega)⟩
  | succ F ih =>
    intro n n' p T k ad cp P L A P' L' A' hF hn hn' hT hp hk hsum hDI
    by_cases cz : p = zb
    · exact ⟨P, L, A, P', L', A', k, ad, cp, hDI, by omega, by omega, endC n p T k ad cp P L A (by omega) cz, endR n' p k ad P' L' A' (by omega) cz⟩
    obtain ⟨m, rfl⟩ : ∃ m', n = m' + 1 := ⟨n - 1, by omega⟩
    obtain ⟨m', rfl⟩ : ∃ m', n' = m' + 1 := ⟨n' - 1, by omega⟩
    have hAB2 : AB (dlC σ d P L A (nI k) (nI ad) (nI cp)) (dlR τ P' L' A') a b za zb := h'
    have lC := lgC_loop (N := N) (a := a) (b := b) (p := p) (za := za) (zb := zb) (σ := dlC σ d P L A (nI k) (nI ad) (nI cp)) hN h7 h8 h5 h6 h3 h4 hp za N 0 3 (-1) (by omega) (by omega) (by omega)
    have lC' : f1_longestLike N a b (nI p) (dlC σ d P L A (nI k) (nI ad) (nI cp)) = some ((lgF (fun q => mt (gI σ 16 a) (gI σ 16 b) za zb q p) za 0 (-1) 3).1, dlC σ d P L A (nI k) (nI ad) (nI cp)) := lC
    have lR := lgR_loop (N := N) (a := a) (b := b) (p := p) (za := za) (zb := zb) (v3 := nI d) (v4 := nI k) (v5 := nI ad) (L11_delta_45 N m') hN hAB2 hp za N 0 3 (-1) (by omega) (by omega) (by omega)
    have lR' : L11_delta_65 N (L11_delta_45 N m') N 0 (nI a) (nI b) (nI d) (nI k) (nI ad) (nI p) (-1) 3 0 (dlR τ P' L' A') = B11_delta_65 N (L11_delta_45 N m') (fun _ _ _ _ _ _ _ _ _ _ _ => none) 0 (nI a) (nI b) (nI d) (nI k) (nI ad) (nI p) (lgF (fun q => mt (gI σ 16 a) (gI σ 16 b) za zb q p) za 0 (-1) 3).1 (nI (lgF (fun q => mt (gI σ 16 a) (gI σ 16 b) za zb q p) za 0 (-1) 3).2) (nI za) (dlR τ P' L' A') := lR
    have hinv := lgF_inv (fun q => mt (gI σ 16 a) (gI σ 16 b) za zb q p) za za 0 (-1) 3 (by omega) (Or.inl ⟨rfl, rfl⟩)
    generalize hlg : lgF (fun q => mt (gI σ 16 a) (gI σ 16 b) za zb q p) za 0 (-1) 3 = lg at lC' lR' hinv
    have c15 : gI (dlC σ d P L A (nI k) (nI ad) (nI cp)) 15 b 1 = nI zb := h6
    have c45 : ∀ s, gI (dlR τ P' L' A') 45 0 s = gI τ 45 0 s := fun _ => rfl
    have n45 : gN (dlR τ P' L' A') 45 0 = 24 := h12
    have n64 : gN (dlR τ P' L' A') 64 0 = 6400 := g64
    have i64 : ∀ j, gI (dlR τ P' L' A') 64 0 j = P' j := fun _ => rfl
    have CA : L1_fill_5 N (m + 1) d a b (nI p) (nI T) (dlC σ d P L A (nI k) (nI ad) (nI cp)) = if lg.1 = -1 then (obind (f9_byteAt b (nI p) (dlC σ d P L A (nI k) (nI ad) (nI cp))) fun r9 σ10 => obind (f1_addByte d r9 σ10) fun r11 σ12 => L1_fill_5 N m d a b (nI (p + 1)) (nI (T + 1)) σ12) else (obind (f1_likeBytes N a lg.1 b (nI p) (dlC σ d P L A (nI k) (nI ad) (nI cp))) fun r3 σ4 => obind (f1_newAct d lg.1 r3 σ4) fun r5 σ6 => olet (sI σ6 22 d 7 ((gI σ6 22 d 7) + r3)) fun σ7 => olet (nI p + r3) fun x8 => L1_fill_5 N m d a b x8 (nI (T + 1)) σ7) := by
      show B1_fill_5 N (L1_fill_5 N m) d a b (nI p) (nI T) _ = _
      unfold B1_fill_5 B1_fill_85
      rw [c15, if_neg (nI_ge (by omega) (by omega)), if_neg (nI_ge (by omega) (by omega)), lC', obind_some, nI_1, nI_1]
    have RA : L11_delta_45 N (m' + 1) 0 (nI a) (nI b) (nI d) (nI k) (nI ad) (nI p) (dlR τ P' L' A') = B11_delta_65 N (L11_delta_45 N m') (fun _ _ _ _ _ _ _ _ _ _ _ => none) 0 (nI a) (nI b) (nI d) (nI k) (nI ad) (nI p) lg.1 (nI lg.2) (nI za) (dlR τ P' L' A') := by
      show B11_delta_45 N (L11_delta_45 N m') 0 (nI a) (nI b) (nI d) (nI k) (nI ad) (nI p) _ = _
      unfold B11_delta_45
      rw [n45, idx_nI _ h2 (by omega), c45, h10, if_neg (nI_ge (by omega) (by omega)), lR']
    rw [CA, RA]
    unfold B11_delta_65
    rw [n45, idx_nI _ h1 (by omega), c45, h9, if_pos (nI_le (Nat.le_refl _) (by omega))]
    rcases hinv with ⟨i1, i2⟩ | ⟨q, i1, i2, i3, i4⟩
    · rw [i1, if_pos rfl, if_pos rfl]
      have ez : zS (dlC σ d P L A (nI k) (nI ad) (nI cp)) b = zb := by
        unfold zS
        rw [c15, nI_clamp (by omega)]
      have c16 : gI (dlC σ d P L A (nI k) (nI ad) (nI cp)) 16 b p = gI σ 16 b p := rfl
      have hbt := by8_255 (h14 p (by omega))
      rw [byteAt_eq (σ := dlC σ d P L A (nI k) (nI ad) (nI cp)) (by rw [ez]; exact c15) h8 (by rw [ez]; omega) (by rw [ez]; omega), obind_some, c16]
      by_cases ck : k = 0 ∨ ∃ k', k = k' + 1 ∧ ¬ P k' = -1
      · rw [add_new g23 g24 g25 (by omega) (by omega) h4 ck, obind_some]
        have RB : (if nI k = 0 then B11_delta_182 N (L11_delta_45 N m') 0 (nI a) (nI b) (nI d) (nI k) (nI ad) (nI p) (dlR τ P' L' A') else idx (400 * nI d + nI k - 1) (gN (dlR τ P' L' A') 64 0) fun j2 => if gI (dlR τ P' L' A') 64 0 j2 = -1 then B11_delta_213 N (L11_delta_45 N m') 0 (nI a) (nI b) (nI d) (nI k) (nI ad) (nI p) (dlR τ P' L' A') else B11_delta_182 N (L11_delta_45 N m') 0 (nI a) (nI b) (nI d) (nI k) (nI ad) (nI p) (dlR τ P' L' A')) = B11_delta_182 N (L11_delta_45 N m') 0 (nI a) (nI b) (nI d) (nI k) (nI ad) (nI p) (dlR τ P' L' A') := by
          rcases ck with rfl | ⟨k', rfl, hP⟩
          · rw [if_pos (show nI 0 = 0 from rfl)]
          · have e1 : (400 : Int32) * nI d + nI (k' + 1) - 1 = nI (400 * d + k') := by
              rw [ix44]
              exact nI_pred (400 * d + k')
            rw [if_neg (nI_ne0 (by omega) (by omega)), e1, n64, idx_nI _ (by omega) (by omega), i64, (hDI.1 k' (by omega)).1, if_neg hP]
        rw [RB, r182 (L11_delta_45 N m') hd (by omega) (by omega) h2 (by omega) h11 g64 g65 g66]
        exact ih m m' (p + 1) (T + 1) (k + 1) (ad + 1) cp _ _ _ _ _ _ (by omega) (by omega) (by omega) (by omega) (by omega) (by omega) (by omega) (DI_new hDI (by omega) (by omega) hbt)
      · obtain ⟨k', hk', hP⟩ : ∃ k', k = k' + 1 ∧ P k' = -1 := by
          refine ⟨k - 1, ?_, ?_⟩
          · by_cases c0 : k = 0
            · exact absurd (Or.inl c0) ck
            · omega
          · by_cases c0 : k = 0
            · exact absurd (Or.inl c0) ck
            · apply Classical.byContradiction
              intro q
              exact ck (Or.inr ⟨k - 1, by omega, q⟩)
        subst hk'
        have e1 : (400 : Int32) * nI d + nI (k' + 1) - 1 = nI (400 * d + k') := by
          rw [ix44]
          exact nI_pred (400 * d + k')
        rw [add_ext g23 g24 g25 (by omega) (by omega) h4 hP, obind_some, if_neg (nI_ne0 (by omega) (by omega)), e1, n64, idx_nI _ (by omega) (by omega), i64, (hDI.1 k' (by omega)).1, if_pos hP, r213 (L11_delta_45 N m') hd (by omega) (by omega) h2 (by omega) h11 g65 g66]
        exact ih m m' (p + 1) (T + 1) (k' + 1) (ad + 1) cp _ _ _ _ _ _ (by omega) (by omega) (by omega) (by omega) (by omega) (by omega) (by omega) (DI_ext hDI (by omega) (by omega) hP hbt)
    · have hne : ¬ nI q = -1 := nI_nm1 (by omega)
      have hm2 := mt_le (gI σ 16 a) (gI σ 16 b) za zb q p
      have i3' : lg.2 = mt (gI σ 16 a) (gI σ 16 b) za zb q p := i3
      have i4' : 4 ≤ mt (gI σ 16 a) (gI σ 16 b) za zb q p := i4
      have lk := likeBytes_eq (N := N) (a := a) (b := b) (q := q) (p := p) (za := za) (zb := zb) (σ := dlC σ d P L A (nI k) (nI ad) (nI cp)) hN h7 h8 h5 h6 h3 h4 (by omega) hp
      have lk' : f1_likeBytes N a (nI q) b (nI p) (dlC σ d P L A (nI k) (nI ad) (nI cp)) = some (nI (mt (gI σ 16 a) (gI σ 16 b) za zb q p), dlC σ d P L A (nI k) (nI ad) (nI cp)) := lk
      have n65 : ∀ P', gN (dlR τ P' L' A') 65 0 = 6400 := fun _ => g65
      unfold B11_delta_264
      rw [i2, if_neg hne, if_neg hne, i3', lk', obind_some, newAct_eq g23 g24 (by omega) h4, obind_some, olet_eq, rd7, nI_add, dlC_cp, olet_eq, nI_add, ix44, n64, idx_nI _ (by omega) (by omega), olet_eq, dlR_P, n65, idx_nI _ (by omega) (by omega), olet_eq, dlR_L, olet_eq, nI_1]
      exact ih m m' (p + mt (gI σ 16 a) (gI σ 16 b) za zb q p) (T + 1) (k + 1) ad (cp + mt (gI σ 16 a) (gI σ 16 b) za zb q p) _ _ _ _ _ _ (by omega) (by omega) (by omega) (by omega) (by omega) (by omega) (by omega) (DI_copy hDI (by omega) (by omega) (by omega) (by omega) (by omega))
end DX
