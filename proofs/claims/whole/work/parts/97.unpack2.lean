/-! ===== opening: whole ===== -/
theorem UOut_4 {σ τ : rS} {kd l sp : Nat} {v : Option Nat} {A : Option (Bool × rS)} {B : Option (Int32 × rS)} (h : UOut (sR σ 8 0 4 v) τ kd l sp A B) : UOut σ τ kd l sp A B := by
  rcases h with ⟨σ', τ', F, a1, a2, a3, a4⟩ | ⟨σ', τ', a1, a2, a3, a4⟩
  · exact Or.inl ⟨σ', τ', F, a1, a2, KC_t (KC_4 σ v) a3, a4⟩
  · exact Or.inr ⟨σ', τ', a1, a2, KC_t (KC_4 σ v) a3, a4⟩
theorem UOut_bad {σ τ : rS} {kd l sp : Nat} {O V : Nat → Int64} {fr un a c fr' un' : Int32} {tk : Int64} {A : Option (Bool × rS)} {B : Option (Int32 × rS)} (hA : A = some (false, uC σ O fr un a)) (hB : B = some (8, uR τ V c fr' un' tk)) : UOut σ τ kd l sp A B :=
  Or.inr ⟨_, _, hA, hB, KC_u _ _ _ _ _, KR_u _ _ _ _ _ _⟩
theorem unpack_both {N c kd l s z p sp : Nat} {σ τ : rS} {D : Nat → Nat} (hN : 500 ≤ N) (hc : c < 5) (hl : l ≤ 24) (hS : SB σ τ s z D) (h9 : gN σ 9 0 = 264) (h11 : gN σ 11 0 = 24) (h41 : gN τ 41 0 = 600) (h1 : p + 5 ≤ sp) (h2 : sp ≤ z) (hb : ∀ i, i < z → gI σ 16 s i = sb (D i)) :
    UOut σ τ kd l sp (f5_unpack N 0 (nI c) (nI kd) (nI l) s (nI (p + 5)) (nI sp) σ) (obind (f11_decode N 0 (nI s) (nI c) (nI l) (sI (sI τ 29 0 18 (nI (p + 5))) 29 0 19 (nI sp))) fun r23 σ24 => if r23 = true then (L11_piece_243 N N 0 (nI (400 * s + p)) (nI (sp - (p + 5))) (nI c) (nI kd) (nI l) true 0 σ24) else some (8, σ24)) := by
  refine UOut_4 (v := some s) ?_
  have hS1 : SB (sR σ 8 0 4 (some s)) τ s z D := hS
  have h4 : gR (sR σ 8 0 4 (some s)) 8 0 4 = some s := rfl
  have h91 : gN (sR σ 8 0 4 (some s)) 9 0 = 264 := h9
  have h111 : gN (sR σ 8 0 4 (some s)) 11 0 = 24 := h11
  have hb1 : ∀ i, i < z → gI (sR σ 8 0 4 (some s)) 16 s i = sb (D i) := hb
  unfold f5_unpack f11_decode
  rw [olet_eq, olet_eq, olet_eq, olet_eq, olet_eq, uC_0, uR_0]
  clear hS h9 h11 hb
  generalize sR σ 8 0 4 (some s) = ρ at hS1 h4 h91 h111 hb1 ⊢
  obtain ⟨s1, s2, s3, s4, s5, s6, s7, s8⟩ := hS1
  have hS1 : SB ρ τ s z D := ⟨s1, s2, s3, s4, s5, s6, s7, s8⟩
  have good : ∀ (O V : Nat → Int64) (fr fr' : Int32) (tk : Int64), (∀ x, x < l → O x = V x) → UOut ρ τ kd l sp (B5_unpack_94 N 0 (nI c) (nI kd) (nI l) (nI (p + 5)) (nI sp) (uC ρ O fr (nI sp) 0)) (obind (B11_decode_191 N (fun _ _ _ _ _ => none) 0 (nI s) (nI c) (nI l) (uR τ V (nI l) fr' (nI sp) tk)) fun r23 σ24 => if r23 = true then (L11_piece_243 N N 0 (nI (400 * s + p)) (nI (sp - (p + 5))) (nI c) (nI kd) (nI l) true 0 σ24) else some (8, σ24)) := by
    intro O V fr fr' tk hOV
    rw [u94 hN hc s7 hl, d191 hN hc s6 hl, obind_some, if_pos rfl]
    exact fin_both hN hc hl hS1 h4 h91 h111 h41 h1 h2 hb1 (smc_congr hOV)
  have badC : ∀ (O : Nat → Int64) (fr : Int32), B5_unpack_94 N 0 (nI c) (nI kd) (nI l) (nI (p + 5)) (nI sp) (uC ρ O fr (nI sp) 1) = some (false, uC ρ (smc c O l) fr (nI sp) 1) := by
    intro O fr
    rw [u94 hN hc s7 hl, f124a]
  have e10 : nI 0 = 0 := rfl
  have hcc : c < 3 ∨ c = 3 ∨ c = 4 := by omega
  rcases hcc with hc3 | rfl | rfl
  · have n3 : ¬ nI c = 3 := fun q => by have := (nI_eq (b := 3) (by omega) (by omega)).mp q; omega
    have n4 : ¬ nI c = 4 := fun q => by have := (nI_eq (b := 4) (by omega) (by omega)).mp q; omega
    rw [if_neg n3, if_neg n4, if_neg n4]
    rcases dP_loop (v1 := nI c) (v2 := nI kd) (v5 := nI (p + 5)) (v6 := nI sp) (w2 := nI c) hN hS1 h4 h2 hl n3 l N N 0 (p + 5) (gL ρ 10 0) (gL τ 39 0) (gL τ 29 0 20) (by omega) (by omega) (by omega) h1 (fun x hx => absurd hx (Nat.not_lt_zero x)) with ⟨O', V', fr', tk', g1, g2, g3⟩ | ⟨O', fr', V', c', fr'', tk', g2, g3⟩
    · rw [e10] at g2 g3
      rw [g2, g3]
      exact good O' V' fr' fr' tk' g1
    · rw [e10] at g2 g3
      rw [g2, g3, badC]
      exact UOut_bad rfl rfl
  · rw [if_pos (show nI 3 = 3 from rfl), if_neg (show ¬ nI 3 = 4 by decide)]
    unfold f5_openRuns
    rcases dR_loop (l := l) hN hS1 h4 h2 hl l l N N 0 (p + 5) (gL ρ 10 0) (gL τ 39 0) (gL τ 29 0 20) (Nat.le_refl _) (by omega) (by omega) (by omega) h1 (fun x hx => absurd hx (Nat.not_lt_zero x)) with ⟨O', V', fr', tk', g1, g2, g3⟩ | ⟨O', fr', V', c', fr'', tk', g2, g3⟩
    · rw [e10] at g2 g3
      have g3' : L11_decode_191 N N 0 (nI s) (nI 3) (nI l) (uR τ (gL τ 39 0) 0 (nI (p + 5)) (nI sp) (gL τ 29 0 20)) = _ := g3
      rw [g2, g3', obind_some]
      exact good O' V' fr' fr' tk' g1
    · rw [e10] at g2 g3
      have g3' : L11_decode_191 N N 0 (nI s) (nI 3) (nI l) (uR τ (gL τ 39 0) 0 (nI (p + 5)) (nI sp) (gL τ 29 0 20)) = _ := g3
      rw [g2, g3', obind_some, badC]
      exact UOut_bad rfl rfl
  · rw [if_neg (show ¬ nI 4 = 3 by decide), if_pos (show nI 4 = 4 from rfl), if_pos (show nI 4 = 4 from rfl)]
    unfold f5_openWide B11_decode_40
    have r18 : ∀ V c fr tk, gI (uR τ V c fr (nI sp) tk) 29 0 18 = fr := fun _ _ _ _ => rfl
    have r19 : ∀ V c fr tk, gI (uR τ V c fr (nI sp) tk) 29 0 19 = nI sp := fun _ _ _ _ => rfl
    have r44 : ∀ V c fr tk j, gI (uR τ V c fr (nI sp) tk) 44 0 j = gI τ 44 0 j := fun _ _ _ _ _ => rfl
    have n44 : ∀ V c fr tk, gN (uR τ V c fr (nI sp) tk) 44 0 = 9600 := fun _ _ _ _ => s5
    rw [r18, r19]
    by_cases hlt : p + 5 < sp
    · have hD := s8 (p + 5) (by omega)
      rw [if_neg (nI_ge hlt (by omega)), n44, ix44, idx_nI _ (by omega) (by omega), r44, hD.2.2, openByte_in hS1 h4 h2 hlt, obind_some]
      have hin := in_lit 1 8 (nI (D (p + 5))) (uR τ (gL τ 39 0) 0 (nI (p + 5)) (nI sp) (gL τ 29 0 20))
      have i1 : (1 : Int32).toInt = 1 := rfl
      have i8 : (8 : Int32).toInt = 8 := rfl
      rw [i1, i8, nI_toInt (by omega)] at hin
      have hin' : f11_in (Int32.toInt64 (nI (D (p + 5)))) 1 8 (uR τ (gL τ 39 0) 0 (nI (p + 5)) (nI sp) (gL τ 29 0 20)) = _ := hin
      rw [hin', obind_some]
      generalize hw : D (p + 5) = w at *
      by_cases cw : (1 : Int) ≤ (w : Int) ∧ (w : Int) ≤ 8
      · rw [if_neg (show ¬ nI w < 1 from nI_nlt (b := 1) (by omega) (by omega)), if_pos (show nI w ≤ 8 from nI_le (b := 8) (by omega) (by omega)), decide_eq_true cw, if_pos rfl]
        have hmul : l * w ≤ 24 * 8 := Nat.mul_le_mul hl (by omega)
        have em : (1 : Int32) + nI l * nI w = nI (1 + l * w) := by
          rw [pk_mul]
          exact nI_add 1 _
        have eq1 : (nI sp - nI (p + 5) = (1 : Int32) + nI l * nI w) ↔ sp = p + 5 + 1 + l * w := by
          rw [em, pk_sub (by omega), nI_eq (by omega) (by omega)]
          omega
        by_cases ce : sp = p + 5 + 1 + l * w
        · rw [r18, r19, if_pos (eq1.mpr ce), olet_eq, nI_1, uR_fr]
          obtain ⟨O', o1, o2⟩ := wO_out (b0 := p + 5 + 1) (l := l) (w := w) (a := 0) hN hS1 h4 h2 hl (by omega) (by omega) l N 0 (gL ρ 10 0) (by omega) (by omega) (fun x hx => absurd hx (Nat.not_lt_zero x))
          obtain ⟨V', u1, u2⟩ := wT_out (b0 := p + 5 + 1) (l := l) (w := w) (v2 := nI 4) (tk := gL τ 29 0 20) hN hS1 h2 hl (by omega) (by omega) l N 0 (gL τ 39 0) (by omega) (by omega) (fun x hx => absurd hx (Nat.not_lt_zero x))
          rw [e10, Nat.zero_mul, Nat.add_zero] at o2 u2
          rw [o2, u2, obind_some]
          exact good O' V' _ _ _ (fun x hx => by rw [o1 x hx, u1 x hx])
        · rw [r18, r19, if_neg (fun q => ce (eq1.mp q)), obind_some, if_neg (show ¬ (false = true) by decide)]
          by_cases cl : p + 5 + 1 + l * w ≤ sp
          · obtain ⟨O', o1, o2⟩ := wO_out (b0 := p + 5 + 1) (l := l) (w := w) (a := 0) hN hS1 h4 h2 hl (by omega) cl l N 0 (gL ρ 10 0) (by omega) (by omega) (fun x hx => absurd hx (Nat.not_lt_zero x))
            rw [e10, Nat.zero_mul, Nat.add_zero] at o2
            rw [o2, obind_some, u94 hN hc s7 hl]
            obtain ⟨-, f2⟩ := f124 (N := N) (c := 4) (kd := kd) (l := l) (st := p + 5) (sp := sp) (O := smc 4 O' l) (fr := nI (p + 5 + 1 + l * w)) (un := nI sp) hN hc hl hS1 h4 h91 h111 h1 h2 hb1
            have hns : ¬ (tldP (nI kd) (smc 4 O' l) l ∧ sameB D (p + 5) sp (codeB 4 (smc 4 O' l) l)) := by
              rintro ⟨-, q⟩
              have q1 := q.1
              have ed : ∀ x, x < l → dif (smc 4 O' l) l x = O' x := fun x hx => dif_sm x hx
              have ew : wid (dif (smc 4 O' l) l) l = wid O' l := wid_congr l ed
              have hwid : ∀ i, i ≤ l → wid O' i ≤ w := by
                intro i
                induction i with
                | zero => intro _; show 1 ≤ w; omega
                | succ i ih =>
                  intro hi
                  have h3 := ih (by omega)
                  have h5 := sx_wd w (wacc D (p + 5 + 1 + i * w) w) (by omega) (by omega)
                  show max (wid O' i) (wdI (O' i).toInt) ≤ w
                  rw [o1 i (by omega)]
                  omega
              have hlen : (codeB 4 (smc 4 O' l) l).length = 1 + wid O' l * l := by
                show (wid (dif (smc 4 O' l) l) l :: wides (dif (smc 4 O' l) l) (wid (dif (smc 4 O' l) l) l) l).length = _
                rw [List.length_cons, wides_len, ew]
                omega
              have hle : wid O' l * l ≤ w * l := Nat.mul_le_mul_right l (hwid l (Nat.le_refl l))
              rw [Nat.mul_comm w l] at hle
              omega
            obtain ⟨σ', k1, k2⟩ := f2 hns
            exact Or.inr ⟨σ', _, k2, rfl, k1, KR_u _ _ _ _ _ _⟩
          · obtain ⟨O', fr', a', o1, o2⟩ := wO_outA (l := l) (w := w) hN hS1 h4 h2 hl (by omega) l N 0 (p + 5 + 1) (gL ρ 10 0) 0 (by omega) (by omega) (by omega) (Or.inl rfl)
            rcases o1 with o1 | ⟨-, -, o1⟩
            · subst o1
              have o2' : L5_openWide_24 N N 0 (nI l) (nI w) 0 (uC ρ (gL ρ 10 0) (nI (p + 5 + 1)) (nI sp) 0) = _ := o2
              rw [o2', obind_some, badC]
              exact UOut_bad rfl rfl
            · omega
      · rw [decide_eq_false cw, if_neg (show ¬ (false = true) by decide), obind_some, if_neg (show ¬ (false = true) by decide)]
        by_cases c1 : nI w < 1
        · rw [if_pos c1, olet_eq, uC_a, obind_some, badC]
          exact UOut_bad rfl rfl
        · have c0 : ¬ w < 1 := fun q => c1 (nI_lt (b := 1) q (by omega))
          rw [if_neg c1, if_neg (show ¬ nI w ≤ 8 from nI_ge (a := 8) (by omega) (by omega)), olet_eq, uC_a, obind_some, badC]
          exact UOut_bad rfl rfl
    · rw [if_pos (nI_le (by omega) (by omega)), openByte_out (by omega) (by omega), obind_some, if_pos (by decide), olet_eq, uC_a, obind_some, badC]
      have hin : f11_in (Int32.toInt64 0) 1 8 (uR τ (gL τ 39 0) 0 (nI (p + 5)) (nI sp) (gL τ 29 0 20)) = some (false, uR τ (gL τ 39 0) 0 (nI (p + 5)) (nI sp) (gL τ 29 0 20)) := in_lit 1 8 0 _
      rw [hin, obind_some, if_neg (by decide), obind_some, if_neg (by decide)]
      exact UOut_bad rfl rfl
