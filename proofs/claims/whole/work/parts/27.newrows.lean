theorem ock_some {α : Type} {c : Prop} {ic : Decidable c} {A : Option α} {t : α} (h : @ock _ c ic A = some t) : c ∧ A = some t := by
  unfold ock at h
  by_cases hc : c
  · rw [if_pos hc] at h
    exact ⟨hc, h⟩
  · rw [if_neg hc] at h
    cases h
theorem f9_sum_st {N v0 : Nat} {v1 v2 : Int32} {σ τ : rS} {r : Int32} (h : f9_sum N v0 v1 v2 σ = some (r, τ)) : τ = σ := by
  have hl : ∀ (n : Nat) (v2 v3 v4 : Int32) (r : Int32) (τ : rS), L9_sum_9 N n v0 v2 v3 v4 σ = some (r, τ) → τ = σ := by
    intro n
    induction n with
    | zero => intro v2 v3 v4 r τ h; cases h
    | succ n ih =>
      intro v2 v3 v4 r τ h
      unfold L9_sum_9 B9_sum_9 at h
      split at h
      · cases h; rfl
      · split at h
        · cases h; rfl
        · unfold idx olet at h
          split at h
          · exact ih _ _ _ _ _ h
          · cases h
  unfold f9_sum fJ_max at h
  split at h <;> exact hl _ _ _ _ _ _ h
theorem ci_RX10_311 : CaI RX10 311 yX7_init cX7_init 3 2 := ⟨Or.inl tw_1_169, tw_1_170, tw_1_6, tw_1_171, rfl, by decide +kernel, by decide +kernel, by decide +kernel⟩
set_option maxHeartbeats 4000000 in
theorem j_newRow10 {ρ : Type} {Γ : jX} {R : Room} {er : ρ → Option aV} {cc : ByteArray} {nL : Nat} {ret : Option FieldType} {tg : ρ × rS} {kc ks : Nat} {pc : Nat} {lv : List (Nat × aV)} {st : List aV} {σ : rS} {F : Nat → rS → Option (ρ × rS)} {kd n : Int32} {q1 q2 : Fin 4} (d0 : decode cc pc = .ok (.new 9, 3)) (d1 : decode cc (pc + 3) = .ok (.dup, 1)) (d2 : decode cc (pc + 4) = .ok (.iload_n q1, 1)) (d3 : decode cc (pc + 5) = .ok (.iload_n q2, 1)) (dI : decode cc (pc + 6) = .ok (.invokespecial 311, 3)) (a1 a2 : Nat) (h1 : lv[a1]? = some ((q1 : Nat), aI kd)) (h2 : lv[a2]? = some ((q2 : Nat), aI n)) (h8 : (st.map ac).sum ≤ 7) (hrm : ri7.frames + 1 ≤ R.frames ∧ 8 + (3 + 11) + ri7.locals ≤ R.locals) (hcs : kc + 1 + ri7.cells ≤ R.cells ∧ ks + 3 + ri7.slots ≤ R.slots) (kk : ∀ (i : Nat) (τ : rS), J Γ R er cc RX10 nL ret tg (kc + 1 + ri7.cells) (ks + 3 + ri7.slots) ((pc + 6) + 3) lv (aR 13 i :: st) τ (F i τ)) : J Γ R er cc RX10 nL ret tg kc ks pc lv st σ (newRow kd n σ F) := by
  exact j_newG (k0 := 13) (g := gC σ 13) (τ := mkRow σ kd n) (P2 := gC σ 14 = gC σ 13) (n := 2) (As := [aI kd, aI n]) (fun l => i7 l kd n) ci_RX10_311 tw_1_26 tw_1_168 tw_1_6 uwX7 tyX7 tyX7_ok rfl dvX7 (fun h => by obtain ⟨hc, h⟩ := ock_some h; exact ⟨⟨hc.1, hc.2.1⟩, hc.2.2, h⟩) (fun _ => ⟨trivial, trivial, trivial⟩) (fun _ => by show gC σ 13 < gC (mkRow σ kd n) 13; simp [mkRow, olet, gC_sC, gC_sN]) (fun ad S hx hb hL k => lv_iload_n hx hb d2 rfl (lv_at hL a1 (lm_get h1)) (lv_iload_n hx hb d3 rfl (lv_at hL a2 (lm_get h2)) k)) rfl h8 hrm hcs d0 d1 dI (kk _ _) (fun D dA A ad ad2 ws xs H q hp hC hP hD hpo => ad_Row hp D dA A ad ad2 ws xs H q hC hP hD hpo)
theorem ci_RX10_314 : CaI RX10 314 yX9_init cX9_init 1 0 := ⟨Or.inr ⟨"PackDesk", fun _ _ _ h => h.2.2.2.2.2.1⟩, tw_2_131, tw_1_14, tw_2_132, rfl, by decide +kernel, by decide +kernel, by decide +kernel⟩
set_option maxHeartbeats 4000000 in
theorem j_newStream10 {ρ : Type} {Γ : jX} {R : Room} {er : ρ → Option aV} {cc : ByteArray} {nL : Nat} {ret : Option FieldType} {tg : ρ × rS} {kc ks : Nat} {pc : Nat} {lv : List (Nat × aV)} {st : List aV} {σ : rS} {F : Nat → rS → Option (ρ × rS)} (d0 : decode cc pc = .ok (.new 15, 3)) (d1 : decode cc (pc + 3) = .ok (.dup, 1)) (dI : decode cc (pc + 4) = .ok (.invokespecial 314, 3)) (h8 : (st.map ac).sum ≤ 7) (hrm : ri9.frames + 1 ≤ R.frames ∧ 8 + (1 + 11) + ri9.locals ≤ R.locals) (hcs : kc + 1 + ri9.cells ≤ R.cells ∧ ks + 4 + ri9.slots ≤ R.slots) (kk : ∀ (i : Nat) (τ : rS), J Γ R er cc RX10 nL ret tg (kc + 1 + ri9.cells) (ks + 4 + ri9.slots) ((pc + 4) + 3) lv (aR 15 i :: st) τ (F i τ)) : J Γ R er cc RX10 nL ret tg kc ks pc lv st σ (newStream σ F) := by
  exact j_newG (k0 := 15) (g := gC σ 15) (τ := mkStream σ) (P2 := gC σ 16 = gC σ 15) (n := 0) (As := []) (fun l => i9 l) ci_RX10_314 tw_1_28 tw_2_129 tw_1_14 uwX9 tyX9 tyX9_ok rfl dvX9 (fun h => by obtain ⟨hc, h⟩ := ock_some h; exact ⟨trivial, hc, h⟩) (fun _ => trivial) (fun _ => by show gC σ 15 < gC (mkStream σ) 15; simp [mkStream, olet, gC_sC, gC_sN]) (fun ad S hx hb hL k => k) rfl h8 hrm hcs d0 d1 dI (kk _ _) (fun D dA A ad ad2 ws xs H q hp hC hP hD hpo => ad_Stream hp D dA A ad ad2 ws xs H q hC hP hD hpo)
theorem ci_RX10_202 : CaI RX10 202 yX3_init cX3_init 1 0 := ⟨Or.inr ⟨"PackDesk", fun _ _ _ h => h.2.2.2.2.2.2.2.2.1⟩, tw_3_83, tw_1_15, tw_3_84, rfl, by decide +kernel, by decide +kernel, by decide +kernel⟩
set_option maxHeartbeats 4000000 in
theorem j_newHouse10 {ρ : Type} {Γ : jX} {R : Room} {er : ρ → Option aV} {cc : ByteArray} {nL : Nat} {ret : Option FieldType} {tg : ρ × rS} {kc ks : Nat} {pc : Nat} {lv : List (Nat × aV)} {st : List aV} {σ : rS} {F : Nat → rS → Option (ρ × rS)} (d0 : decode cc pc = .ok (.new 21, 3)) (d1 : decode cc (pc + 3) = .ok (.dup, 1)) (dI : decode cc (pc + 4) = .ok (.invokespecial 202, 3)) (h8 : (st.map ac).sum ≤ 7) (hrm : ri3.frames + 1 ≤ R.frames ∧ 8 + (1 + 11) + ri3.locals ≤ R.locals) (hcs : kc + 1 + ri3.cells ≤ R.cells ∧ ks + 3 + ri3.slots ≤ R.slots) (kk : ∀ (i : Nat) (τ : rS), J Γ R er cc RX10 nL ret tg (kc + 1 + ri3.cells) (ks + 3 + ri3.slots) ((pc + 4) + 3) lv (aR 17 i :: st) τ (F i τ)) : J Γ R er cc RX10 nL ret tg kc ks pc lv st σ (newHouse σ F) := by
  exact j_newG (k0 := 17) (g := gC σ 17) (τ := mkHouse σ) (P2 := gC σ 18 = gC σ 17 ∧ gC σ 19 = gC σ 17) (n := 0) (As := []) (fun l => i3 l) ci_RX10_202 tw_1_30 tw_3_81 tw_1_15 uwX3 tyX3 tyX3_ok rfl dvX3 (fun h => by obtain ⟨hc, h⟩ := ock_some h; exact ⟨trivial, hc, h⟩) (fun _ => trivial) (fun _ => by show gC σ 17 < gC (mkHouse σ) 17; simp [mkHouse, olet, gC_sC, gC_sN]) (fun ad S hx hb hL k => k) rfl h8 hrm hcs d0 d1 dI (kk _ _) (fun D dA A ad ad2 ws xs H q hp hC hP hD hpo => ad_House hp.1 hp.2 D dA A ad ad2 ws xs H q hC hP hD hpo)
theorem ci_RX8_35 : CaI RX8 35 yX0_init cX0_init 1 0 := ⟨Or.inr ⟨"PackDesk", fun _ _ _ h => h.2.2.2.2.2.2.2.2.2.1⟩, tw_3_123, tw_1_16, tw_3_124, rfl, by decide +kernel, by decide +kernel, by decide +kernel⟩
set_option maxHeartbeats 4000000 in
theorem j_newBody8 {ρ : Type} {Γ : jX} {R : Room} {er : ρ → Option aV} {cc : ByteArray} {nL : Nat} {ret : Option FieldType} {tg : ρ × rS} {kc ks : Nat} {pc : Nat} {lv : List (Nat × aV)} {st : List aV} {σ : rS} {F : Nat → rS → Option (ρ × rS)} (d0 : decode cc pc = .ok (.new 9, 3)) (d1 : decode cc (pc + 3) = .ok (.dup, 1)) (dI : decode cc (pc + 4) = .ok (.invokespecial 35, 3)) (h8 : (st.map ac).sum ≤ 7) (hrm : ri0.frames + 1 ≤ R.frames ∧ 8 + (1 + 11) + ri0.locals ≤ R.locals) (hcs : kc + 1 + ri0.cells ≤ R.cells ∧ ks + 4 + ri0.slots ≤ R.slots) (kk : ∀ (i : Nat) (τ : rS), J Γ R er cc RX8 nL ret tg (kc + 1 + ri0.cells) (ks + 4 + ri0.slots) ((pc + 4) + 3) lv (aR 20 i :: st) τ (F i τ)) : J Γ R er cc RX8 nL ret tg kc ks pc lv st σ (newBody σ F) := by
  exact j_newG (k0 := 20) (g := gC σ 20) (τ := mkBody σ) (P2 := gC σ 21 = gC σ 20) (n := 0) (As := []) (fun l => i0 l) ci_RX8_35 tw_1_40 tw_3_121 tw_1_16 uwX0 tyX0 tyX0_ok rfl dvX0 (fun h => by obtain ⟨hc, h⟩ := ock_some h; exact ⟨trivial, hc, h⟩) (fun _ => trivial) (fun _ => by show gC σ 20 < gC (mkBody σ) 20; simp [mkBody, olet, gC_sC, gC_sN]) (fun ad S hx hb hL k => k) rfl h8 hrm hcs d0 d1 dI (kk _ _) (fun D dA A ad ad2 ws xs H q hp hC hP hD hpo => ad_Body hp D dA A ad ad2 ws xs H q hC hP hD hpo)
theorem ci_RX10_259 : CaI RX10 259 yX1_init cX1_init 3 2 := ⟨Or.inl tw_3_186, tw_3_187, tw_1_17, tw_3_188, rfl, by decide +kernel, by decide +kernel, by decide +kernel⟩
set_option maxHeartbeats 4000000 in
theorem j_newDelta10 {ρ : Type} {Γ : jX} {R : Room} {er : ρ → Option aV} {cc : ByteArray} {nL : Nat} {ret : Option FieldType} {tg : ρ × rS} {kc ks : Nat} {pc : Nat} {lv : List (Nat × aV)} {st : List aV} {σ : rS} {F : Nat → rS → Option (ρ × rS)} {N va vb : Nat} (d0 : decode cc pc = .ok (.new 27, 3)) (d1 : decode cc (pc + 3) = .ok (.dup, 1)) (d2 : decode cc (pc + 4) = .ok (.aload_n 3, 1)) (d3 : decode cc (pc + 5) = .ok (.aload 4, 2)) (dI : decode cc (pc + 7) = .ok (.invokespecial 259, 3)) (a1 a2 : Nat) (h1 : lv[a1]? = some (3, aR 15 va)) (h2 : lv[a2]? = some (4, aR 15 vb)) (h8 : (st.map ac).sum ≤ 7) (hrm : ri1.frames + 1 ≤ R.frames ∧ 8 + (3 + 11) + ri1.locals ≤ R.locals) (hcs : kc + 1 + ri1.cells ≤ R.cells ∧ ks + 8 + ri1.slots ≤ R.slots) (kk : ∀ (i : Nat) (τ : rS), J Γ R er cc RX10 nL ret tg (kc + 1 + ri1.cells) (ks + 8 + ri1.slots) ((pc + 7) + 3) lv (aR 22 i :: st) τ (F i τ)) : J Γ R er cc RX10 nL ret tg kc ks pc lv st σ (newDelta N va vb σ F) := by
  unfold newDelta
  cases hf : f9_sum N va 0 (gI σ 15 va 1) σ with
  | none => exact j_none
  | some z =>
    obtain ⟨r, τ⟩ := z
    have hτ := f9_sum_st hf
    subst hτ
    show J Γ R er cc RX10 nL ret tg kc ks pc lv st τ (ock _ _)
    exact j_newG (k0 := 22) (g := gC τ 22) (τ := mkDelta τ (gI τ 15 va 1) r (gI τ 15 vb 1)) (P2 := gC τ 23 = gC τ 22 ∧ gC τ 24 = gC τ 22 ∧ gC τ 25 = gC τ 22) (n := 2) (As := [aR 15 va, aR 15 vb]) (fun l => i1 l N r va vb) ci_RX10_259 tw_1_32 tw_3_185 tw_1_17 uwX1 tyX1 tyX1_ok rfl dvX1 (fun h => by obtain ⟨hc, h⟩ := ock_some h; exact ⟨⟨hf, hc.1, hc.2.1⟩, hc.2.2, h⟩) (fun hlv => ⟨lvl_at hlv h1, lvl_at hlv h2, trivial⟩) (fun _ => by show gC τ 22 < gC (mkDelta τ (gI τ 15 va 1) r (gI τ 15 vb 1)) 22; simp [mkDelta, olet, gC_sC, gC_sN]) (fun ad S hx hb hL k => lv_aload_n hx hb d2 rfl (lv_at hL a1 (lm_get h1)) (lv_aload hx hb d3 (lv_at hL a2 (lm_get h2)) (k))) rfl h8 hrm hcs d0 d1 dI (kk _ _) (fun D dA A ad ad2 ws xs H q hp hC hP hD hpo => ad_Delta hp.1 hp.2.1 hp.2.2 D dA A ad ad2 ws xs H q hC hP hD hpo)
