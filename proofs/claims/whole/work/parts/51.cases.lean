def EQ_row (N : Nat) (Inv : Nat → rS → rS → Prop) : Prop := ∀ (a0 : Int32) (a1 : Int32) (t : Nat) (σ τ : rS), t < 100 → Inv t σ τ → ∃ (r : Int32) (σ1 τ1 : rS), f10_row 0 a0 a1 σ = some (r, σ1) ∧ f11_row N 0 a0 a1 τ = some (r, τ1) ∧ Inv (t + 1) σ1 τ1
def EQ_lose (N : Nat) (Inv : Nat → rS → rS → Prop) : Prop := ∀ (a0 : Int32) (t : Nat) (σ τ : rS), t < 100 → Inv t σ τ → ∃ (r : Int32) (σ1 τ1 : rS), f10_lose 0 a0 σ = some (r, σ1) ∧ f11_lose 0 a0 τ = some (r, τ1) ∧ Inv (t + 1) σ1 τ1
def EQ_kind (N : Nat) (Inv : Nat → rS → rS → Prop) : Prop := ∀ (a0 : Int32) (t : Nat) (σ τ : rS), t < 100 → Inv t σ τ → ∃ (r : Int32) (σ1 τ1 : rS), f10_kind 0 a0 σ = some (r, σ1) ∧ f11_kind 0 a0 τ = some (r, τ1) ∧ Inv (t + 1) σ1 τ1
def EQ_length (N : Nat) (Inv : Nat → rS → rS → Prop) : Prop := ∀ (a0 : Int32) (t : Nat) (σ τ : rS), t < 100 → Inv t σ τ → ∃ (r : Int32) (σ1 τ1 : rS), f10_length 0 a0 σ = some (r, σ1) ∧ f11_length 0 a0 τ = some (r, τ1) ∧ Inv (t + 1) σ1 τ1
def EQ_put (N : Nat) (Inv : Nat → rS → rS → Prop) : Prop := ∀ (a0 : Int32) (a1 : Int32) (a2 : Int64) (t : Nat) (σ τ : rS), t < 100 → Inv t σ τ → ∃ (r : Int32) (σ1 τ1 : rS), f10_put 0 a0 a1 a2 σ = some (r, σ1) ∧ f11_put 0 a0 a1 a2 τ = some (r, τ1) ∧ Inv (t + 1) σ1 τ1
def EQ_get (N : Nat) (Inv : Nat → rS → rS → Prop) : Prop := ∀ (a0 : Int32) (a1 : Int32) (t : Nat) (σ τ : rS), t < 100 → Inv t σ τ → ∃ (r : Int32) (σ1 τ1 : rS), f10_get 0 a0 a1 σ = some (r, σ1) ∧ f11_get 0 a0 a1 τ = some (r, τ1) ∧ Inv (t + 1) σ1 τ1
def EQ_copy (N : Nat) (Inv : Nat → rS → rS → Prop) : Prop := ∀ (a0 : Int32) (a1 : Int32) (a2 : Int32) (a3 : Int32) (a4 : Int32) (t : Nat) (σ τ : rS), t < 100 → Inv t σ τ → ∃ (r : Int32) (σ1 τ1 : rS), f10_copy 0 a0 a1 a2 a3 a4 σ = some (r, σ1) ∧ f11_copy N 0 a0 a1 a2 a3 a4 τ = some (r, τ1) ∧ Inv (t + 1) σ1 τ1
def EQ_compare (N : Nat) (Inv : Nat → rS → rS → Prop) : Prop := ∀ (a0 : Int32) (a1 : Int32) (a2 : Int32) (t : Nat) (σ τ : rS), t < 100 → Inv t σ τ → ∃ (r : Int32) (σ1 τ1 : rS), f10_compare 0 a0 a1 a2 σ = some (r, σ1) ∧ f11_compare 0 a0 a1 a2 τ = some (r, τ1) ∧ Inv (t + 1) σ1 τ1
def EQ_shape (N : Nat) (Inv : Nat → rS → rS → Prop) : Prop := ∀ (a0 : Int32) (a1 : Int32) (a2 : Int32) (t : Nat) (σ τ : rS), t < 100 → Inv t σ τ → ∃ (r : Int32) (σ1 τ1 : rS), f10_shape 0 a0 a1 a2 σ = some (r, σ1) ∧ f11_shape 0 a0 a1 a2 τ = some (r, τ1) ∧ Inv (t + 1) σ1 τ1
def EQ_rest (N : Nat) (Inv : Nat → rS → rS → Prop) : Prop := ∀ (a0 : Int32) (a1 : Int32) (a2 : Int32) (t : Nat) (σ τ : rS), t < 100 → Inv t σ τ → ∃ (r : Int32) (σ1 τ1 : rS), f10_rest N 0 a0 a1 a2 σ = some (r, σ1) ∧ f11_rest 0 a0 a1 a2 τ = some (r, τ1) ∧ Inv (t + 1) σ1 τ1
def EQ_most (N : Nat) (Inv : Nat → rS → rS → Prop) : Prop := ∀ (a0 : Int32) (a1 : Int32) (t : Nat) (σ τ : rS), t < 100 → Inv t σ τ → ∃ (r : Int32) (σ1 τ1 : rS), f10_most N 0 a0 a1 σ = some (r, σ1) ∧ f11_most N 0 a0 a1 τ = some (r, τ1) ∧ Inv (t + 1) σ1 τ1
def EQ_seen (N : Nat) (Inv : Nat → rS → rS → Prop) : Prop := ∀ (t : Nat) (σ τ : rS), t < 100 → Inv t σ τ → ∃ (r : Int64) (σ1 τ1 : rS), f10_seen 0 σ = some (r, σ1) ∧ f11_seen 0 τ = some (r, τ1) ∧ Inv (t + 1) σ1 τ1
def EQ_stream (N : Nat) (Inv : Nat → rS → rS → Prop) : Prop := ∀ (t : Nat) (σ τ : rS), t < 100 → Inv t σ τ → ∃ (r : Int32) (σ1 τ1 : rS), f10_stream 0 σ = some (r, σ1) ∧ f11_stream 0 τ = some (r, τ1) ∧ Inv (t + 1) σ1 τ1
def EQ_write (N : Nat) (Inv : Nat → rS → rS → Prop) : Prop := ∀ (a0 : Int32) (a1 : Int32) (a2 : Int32) (t : Nat) (σ τ : rS), t < 100 → Inv t σ τ → ∃ (r : Int32) (σ1 τ1 : rS), f10_write N 0 a0 a1 a2 σ = some (r, σ1) ∧ f11_write N 0 a0 a1 a2 τ = some (r, τ1) ∧ Inv (t + 1) σ1 τ1
def EQ_cost (N : Nat) (Inv : Nat → rS → rS → Prop) : Prop := ∀ (a0 : Int32) (a1 : Int32) (t : Nat) (σ τ : rS), t < 100 → Inv t σ τ → ∃ (r : Int32) (σ1 τ1 : rS), f10_cost N 0 a0 a1 σ = some (r, σ1) ∧ f11_cost N 0 a0 a1 τ = some (r, τ1) ∧ Inv (t + 1) σ1 τ1
def EQ_best (N : Nat) (Inv : Nat → rS → rS → Prop) : Prop := ∀ (a0 : Int32) (t : Nat) (σ τ : rS), t < 100 → Inv t σ τ → ∃ (r : Int32) (σ1 τ1 : rS), f10_best N 0 a0 σ = some (r, σ1) ∧ f11_best N 0 a0 τ = some (r, τ1) ∧ Inv (t + 1) σ1 τ1
def EQ_add (N : Nat) (Inv : Nat → rS → rS → Prop) : Prop := ∀ (a0 : Int32) (a1 : Int32) (t : Nat) (σ τ : rS), t < 100 → Inv t σ τ → ∃ (r : Int32) (σ1 τ1 : rS), f10_add 0 a0 a1 σ = some (r, σ1) ∧ f11_add 0 a0 a1 τ = some (r, τ1) ∧ Inv (t + 1) σ1 τ1
def EQ_end (N : Nat) (Inv : Nat → rS → rS → Prop) : Prop := ∀ (a0 : Int32) (t : Nat) (σ τ : rS), t < 100 → Inv t σ τ → ∃ (r : Int32) (σ1 τ1 : rS), f10_end 0 a0 σ = some (r, σ1) ∧ f11_end 0 a0 τ = some (r, τ1) ∧ Inv (t + 1) σ1 τ1
def EQ_about (N : Nat) (Inv : Nat → rS → rS → Prop) : Prop := ∀ (a0 : Int32) (a1 : Int32) (t : Nat) (σ τ : rS), t < 100 → Inv t σ τ → ∃ (r : Int32) (σ1 τ1 : rS), f10_about N 0 a0 a1 σ = some (r, σ1) ∧ f11_about N 0 a0 a1 τ = some (r, τ1) ∧ Inv (t + 1) σ1 τ1
def EQ_at (N : Nat) (Inv : Nat → rS → rS → Prop) : Prop := ∀ (a0 : Int32) (a1 : Int32) (t : Nat) (σ τ : rS), t < 100 → Inv t σ τ → ∃ (r : Int32) (σ1 τ1 : rS), f10_at 0 a0 a1 σ = some (r, σ1) ∧ f11_at 0 a0 a1 τ = some (r, τ1) ∧ Inv (t + 1) σ1 τ1
def EQ_harm (N : Nat) (Inv : Nat → rS → rS → Prop) : Prop := ∀ (a0 : Int32) (a1 : Int32) (a2 : Int32) (t : Nat) (σ τ : rS), t < 100 → Inv t σ τ → ∃ (r : Int32) (σ1 τ1 : rS), f10_harm 0 a0 a1 a2 σ = some (r, σ1) ∧ f11_harm 0 a0 a1 a2 τ = some (r, τ1) ∧ Inv (t + 1) σ1 τ1
def EQ_seek (N : Nat) (Inv : Nat → rS → rS → Prop) : Prop := ∀ (a0 : Int32) (a1 : Int32) (t : Nat) (σ τ : rS), t < 100 → Inv t σ τ → ∃ (r : Int32) (σ1 τ1 : rS), f10_seek 0 a0 a1 σ = some (r, σ1) ∧ f11_seek 0 a0 a1 τ = some (r, τ1) ∧ Inv (t + 1) σ1 τ1
def EQ_read (N : Nat) (Inv : Nat → rS → rS → Prop) : Prop := ∀ (a0 : Int32) (t : Nat) (σ τ : rS), t < 100 → Inv t σ τ → ∃ (r : Int32) (σ1 τ1 : rS), f10_read N 0 a0 σ = some (r, σ1) ∧ f11_read N 0 a0 τ = some (r, τ1) ∧ Inv (t + 1) σ1 τ1
def EQ_pieces (N : Nat) (Inv : Nat → rS → rS → Prop) : Prop := ∀ (a0 : Int32) (t : Nat) (σ τ : rS), t < 100 → Inv t σ τ → ∃ (r : Int32) (σ1 τ1 : rS), f10_pieces N 0 a0 σ = some (r, σ1) ∧ f11_pieces N 0 a0 τ = some (r, τ1) ∧ Inv (t + 1) σ1 τ1
def EQ_house (N : Nat) (Inv : Nat → rS → rS → Prop) : Prop := ∀ (t : Nat) (σ τ : rS), t < 100 → Inv t σ τ → ∃ (r : Int32) (σ1 τ1 : rS), f10_house 0 σ = some (r, σ1) ∧ f11_house 0 τ = some (r, τ1) ∧ Inv (t + 1) σ1 τ1
def EQ_keep (N : Nat) (Inv : Nat → rS → rS → Prop) : Prop := ∀ (a0 : Int32) (a1 : Int64) (a2 : Int32) (t : Nat) (σ τ : rS), t < 100 → Inv t σ τ → ∃ (r : Int32) (σ1 τ1 : rS), f10_keep N 0 a0 a1 a2 σ = some (r, σ1) ∧ f11_keep N 0 a0 a1 a2 τ = some (r, τ1) ∧ Inv (t + 1) σ1 τ1
def EQ_find (N : Nat) (Inv : Nat → rS → rS → Prop) : Prop := ∀ (a0 : Int32) (a1 : Int64) (t : Nat) (σ τ : rS), t < 100 → Inv t σ τ → ∃ (r : Int32) (σ1 τ1 : rS), f10_find N 0 a0 a1 σ = some (r, σ1) ∧ f11_find N 0 a0 a1 τ = some (r, τ1) ∧ Inv (t + 1) σ1 τ1
def EQ_drop (N : Nat) (Inv : Nat → rS → rS → Prop) : Prop := ∀ (a0 : Int32) (a1 : Int64) (t : Nat) (σ τ : rS), t < 100 → Inv t σ τ → ∃ (r : Int32) (σ1 τ1 : rS), f10_drop N 0 a0 a1 σ = some (r, σ1) ∧ f11_drop N 0 a0 a1 τ = some (r, τ1) ∧ Inv (t + 1) σ1 τ1
def EQ_list (N : Nat) (Inv : Nat → rS → rS → Prop) : Prop := ∀ (a0 : Int32) (a1 : Int32) (t : Nat) (σ τ : rS), t < 100 → Inv t σ τ → ∃ (r : Int32) (σ1 τ1 : rS), f10_list 0 a0 a1 σ = some (r, σ1) ∧ f11_list 0 a0 a1 τ = some (r, τ1) ∧ Inv (t + 1) σ1 τ1
def EQ_take (N : Nat) (Inv : Nat → rS → rS → Prop) : Prop := ∀ (a0 : Int32) (a1 : Int64) (t : Nat) (σ τ : rS), t < 100 → Inv t σ τ → ∃ (r : Int32) (σ1 τ1 : rS), f10_take N 0 a0 a1 σ = some (r, σ1) ∧ f11_take N 0 a0 a1 τ = some (r, τ1) ∧ Inv (t + 1) σ1 τ1
def EQ_uses (N : Nat) (Inv : Nat → rS → rS → Prop) : Prop := ∀ (a0 : Int32) (t : Nat) (σ τ : rS), t < 100 → Inv t σ τ → ∃ (r : Int32) (σ1 τ1 : rS), f10_uses N 0 a0 σ = some (r, σ1) ∧ f11_uses N 0 a0 τ = some (r, τ1) ∧ Inv (t + 1) σ1 τ1
def EQ_delta (N : Nat) (Inv : Nat → rS → rS → Prop) : Prop := ∀ (a0 : Int32) (a1 : Int32) (t : Nat) (σ τ : rS), t < 100 → Inv t σ τ → ∃ (r : Int32) (σ1 τ1 : rS), f10_delta N 0 a0 a1 σ = some (r, σ1) ∧ f11_delta N 0 a0 a1 τ = some (r, τ1) ∧ Inv (t + 1) σ1 τ1
def EQ_act (N : Nat) (Inv : Nat → rS → rS → Prop) : Prop := ∀ (a0 : Int32) (a1 : Int32) (a2 : Int32) (t : Nat) (σ τ : rS), t < 100 → Inv t σ τ → ∃ (r : Int32) (σ1 τ1 : rS), f10_act 0 a0 a1 a2 σ = some (r, σ1) ∧ f11_act N 0 a0 a1 a2 τ = some (r, τ1) ∧ Inv (t + 1) σ1 τ1
def EQ_apply (N : Nat) (Inv : Nat → rS → rS → Prop) : Prop := ∀ (a0 : Int32) (a1 : Int32) (t : Nat) (σ τ : rS), t < 100 → Inv t σ τ → ∃ (r : Int32) (σ1 τ1 : rS), f10_apply N 0 a0 a1 σ = some (r, σ1) ∧ f11_apply N 0 a0 a1 τ = some (r, τ1) ∧ Inv (t + 1) σ1 τ1
def EQ_finding (N : Nat) (Inv : Nat → rS → rS → Prop) : Prop := ∀ (t : Nat) (σ τ : rS), t < 100 → Inv t σ τ → ∃ (r : Int32) (σ1 τ1 : rS), f10_finding 0 σ = some (r, σ1) ∧ f11_finding 0 τ = some (r, τ1) ∧ Inv (t + 1) σ1 τ1
def EQ_findings (N : Nat) (Inv : Nat → rS → rS → Prop) : Prop := ∀ (a0 : Int32) (t : Nat) (σ τ : rS), t < 100 → Inv t σ τ → ∃ (r : Int32) (σ1 τ1 : rS), f10_findings 0 a0 σ = some (r, σ1) ∧ f11_findings 0 a0 τ = some (r, τ1) ∧ Inv (t + 1) σ1 τ1
def EQ_count (N : Nat) (Inv : Nat → rS → rS → Prop) : Prop := ∀ (a0 : Int32) (t : Nat) (σ τ : rS), t < 100 → Inv t σ τ → ∃ (r : Int32) (σ1 τ1 : rS), f10_count 0 a0 σ = some (r, σ1) ∧ f11_count N 0 a0 τ = some (r, τ1) ∧ Inv (t + 1) σ1 τ1
def EQ_digest (N : Nat) (Inv : Nat → rS → rS → Prop) : Prop := ∀ (t : Nat) (σ τ : rS), t < 100 → Inv t σ τ → ∃ (r : Int64) (σ1 τ1 : rS), f10_digest N 0 σ = some (r, σ1) ∧ f11_digest N 0 τ = some (r, τ1) ∧ Inv (t + 1) σ1 τ1
theorem cs_RL_13 : CaV RL RX10 13 yX10_row cX10_row 3 (some .int) 2 := ⟨tw_1_153, tw_1_154, tw_1_155, tw_1_1, tw_1_156, rfl, by decide +kernel, by decide +kernel, by decide +kernel⟩
theorem cs_RL_17 : CaV RL RX11 17 yX11_row cX11_row 3 (some .int) 2 := ⟨tw_4_176, tw_4_177, tw_4_178, tw_1_5, tw_4_179, rfl, by decide +kernel, by decide +kernel, by decide +kernel⟩
set_option maxRecDepth 20000 in
set_option maxHeartbeats 4000000 in
theorem lw_c0 {N t : Nat} {Inv : Nat → rS → rS → Prop} (hq : EQ_row N Inv) {Γ : lX} {sc : Nat → Int32} {L : Nat} {Q : State → Prop} {kc ks i : Nat} {x : Int32} {σ τ : rS} (hx : x = nI i) (hi : i + 6 ≤ L) (hkc : kc + 62 ≤ 600000) (hks : ks + 12524 ≤ room_1.slots) (ht : t < 100) (hI : Inv t σ τ) (hk : ∀ σ τ, Inv (t + 1) σ τ → JL Γ sc L Q (kc + 62) (ks + 12524) 1516 x [] σ τ) : JL Γ sc L Q kc ks 200 x [] σ τ := by
  obtain ⟨r, σ1, τ1, h1, h2, h3⟩ := hq (sc (i + 1)) (sc (i + 2)) t σ τ ht hI
  refine l_al1 (pc := 200) dL_law_200 ?_
  refine l_arg (pc := 201) (z := 1) dL_law_201 dL_law_202 dL_law_203 dL_law_204 dL_law_205 (by decide) hx (by omega) ?_
  refine l_arg (pc := 206) (z := 2) dL_law_206 dL_law_207 dL_law_208 dL_law_209 dL_law_210 (by decide) hx (by omega) ?_
  refine l_callXI (pc := 211) (As := [aI (sc (i + 1)), aI (sc (i + 2))]) (Vs := [.int (sc (i + 1)), .int (sc (i + 2))]) (st := []) (Ws := []) (fun l => c10_row l 0 (sc (i + 1)) (sc (i + 2))) h1 cs_RL_13 rfl (fun _ => rfl) (fun _ => ⟨trivial, trivial, trivial⟩) (fun _ => rfl) (Nat.le_of_ble_eq_true rfl) ⟨(Nat.le_of_ble_eq_true rfl), (Nat.le_of_ble_eq_true rfl)⟩ ⟨by show kc + 2 ≤ 600000; omega, by show ks + 27 ≤ room_1.slots; omega⟩ dL_law_211 ?_
  refine l_al2 (pc := 214) dL_law_214 ?_
  refine l_arg (pc := 215) (z := 1) dL_law_215 dL_law_216 dL_law_217 dL_law_218 dL_law_219 (by decide) hx (by omega) ?_
  refine l_arg (pc := 220) (z := 2) dL_law_220 dL_law_221 dL_law_222 dL_law_223 dL_law_224 (by decide) hx (by omega) ?_
  refine l_callMI (pc := 225) (As := [aI (sc (i + 1)), aI (sc (i + 2))]) (Vs := [.int (sc (i + 1)), .int (sc (i + 2))]) (st := [aI r]) (Ws := [.int r]) (fun l => c11_row l N 0 (sc (i + 1)) (sc (i + 2))) h2 cs_RL_17 rfl (fun _ => rfl) (fun _ => ⟨trivial, trivial, trivial⟩) (fun _ => rfl) (Nat.le_of_ble_eq_true rfl) ⟨(Nat.le_of_ble_eq_true rfl), (Nat.le_of_ble_eq_true rfl)⟩ ⟨by show kc + 2 + 0 ≤ 600000; omega, by show ks + 27 + 0 ≤ room_1.slots; omega⟩ dL_law_225 ?_
  refine l_cmpeq (pc := 228) (tgt := 1516) dL_law_228 rfl rfl ?_
  refine l_wide (kc2 := kc + 62) (ks2 := ks + 12524) (by show kc + 2 + 0 ≤ kc + 62; omega) (by show ks + 27 + 0 ≤ ks + 12524; omega) ?_
  exact hk σ1 τ1 h3
theorem cs_RL_18 : CaV RL RX10 18 yX10_lose cX10_lose 3 (some .int) 1 := ⟨tw_1_185, tw_1_186, tw_1_187, tw_1_1, tw_1_188, rfl, by decide +kernel, by decide +kernel, by decide +kernel⟩
theorem cs_RL_22 : CaV RL RX11 22 yX11_lose cX11_lose 2 (some .int) 1 := ⟨tw_4_192, tw_4_193, tw_4_194, tw_1_5, tw_4_195, rfl, by decide +kernel, by decide +kernel, by decide +kernel⟩
set_option maxRecDepth 20000 in
set_option maxHeartbeats 4000000 in
theorem lw_c1 {N t : Nat} {Inv : Nat → rS → rS → Prop} (hq : EQ_lose N Inv) {Γ : lX} {sc : Nat → Int32} {L : Nat} {Q : State → Prop} {kc ks i : Nat} {x : Int32} {σ τ : rS} (hx : x = nI i) (hi : i + 6 ≤ L) (hkc : kc + 62 ≤ 600000) (hks : ks + 12524 ≤ room_1.slots) (ht : t < 100) (hI : Inv t σ τ) (hk : ∀ σ τ, Inv (t + 1) σ τ → JL Γ sc L Q (kc + 62) (ks + 12524) 1516 x [] σ τ) : JL Γ sc L Q kc ks 233 x [] σ τ := by
  obtain ⟨r, σ1, τ1, h1, h2, h3⟩ := hq (sc (i + 1)) t σ τ ht hI
  refine l_al1 (pc := 233) dL_law_233 ?_
  refine l_arg (pc := 234) (z := 1) dL_law_234 dL_law_235 dL_law_236 dL_law_237 dL_law_238 (by decide) hx (by omega) ?_
  refine l_callXI (pc := 239) (As := [aI (sc (i + 1))]) (Vs := [.int (sc (i + 1))]) (st := []) (Ws := []) (fun l => c10_lose l 0 (sc (i + 1))) h1 cs_RL_18 rfl (fun _ => rfl) (fun _ => ⟨trivial, trivial⟩) (fun _ => rfl) (Nat.le_of_ble_eq_true rfl) ⟨(Nat.le_of_ble_eq_true rfl), (Nat.le_of_ble_eq_true rfl)⟩ ⟨by show kc + 0 ≤ 600000; omega, by show ks + 0 ≤ room_1.slots; omega⟩ dL_law_239 ?_
  refine l_al2 (pc := 242) dL_law_242 ?_
  refine l_arg (pc := 243) (z := 1) dL_law_243 dL_law_244 dL_law_245 dL_law_246 dL_law_247 (by decide) hx (by omega) ?_
  refine l_callMI (pc := 248) (As := [aI (sc (i + 1))]) (Vs := [.int (sc (i + 1))]) (st := [aI r]) (Ws := [.int r]) (fun l => c11_lose l 0 (sc (i + 1))) h2 cs_RL_22 rfl (fun _ => rfl) (fun _ => ⟨trivial, trivial⟩) (fun _ => rfl) (Nat.le_of_ble_eq_true rfl) ⟨(Nat.le_of_ble_eq_true rfl), (Nat.le_of_ble_eq_true rfl)⟩ ⟨by show kc + 0 + 0 ≤ 600000; omega, by show ks + 0 + 0 ≤ room_1.slots; omega⟩ dL_law_248 ?_
  refine l_cmpeq (pc := 251) (tgt := 1516) dL_law_251 rfl rfl ?_
  refine l_wide (kc2 := kc + 62) (ks2 := ks + 12524) (by show kc + 0 + 0 ≤ kc + 62; omega) (by show ks + 0 + 0 ≤ ks + 12524; omega) ?_
  exact hk σ1 τ1 h3
theorem cs_RL_23 : CaV RL RX10 23 yX10_kind cX10_kind 3 (some .int) 1 := ⟨tw_1_193, tw_1_194, tw_1_195, tw_1_1, tw_1_196, rfl, by decide +kernel, by decide +kernel, by decide +kernel⟩
theorem cs_RL_26 : CaV RL RX11 26 yX11_kind cX11_kind 2 (some .int) 1 := ⟨tw_4_200, tw_4_201, tw_4_202, tw_1_5, tw_4_203, rfl, by decide +kernel, by decide +kernel, by decide +kernel⟩
set_option maxRecDepth 20000 in
set_option maxHeartbeats 4000000 in
theorem lw_c2 {N t : Nat} {Inv : Nat → rS → rS → Prop} (hq : EQ_kind N Inv) {Γ : lX} {sc : Nat → Int32} {L : Nat} {Q : State → Prop} {kc ks i : Nat} {x : Int32} {σ τ : rS} (hx : x = nI i) (hi : i + 6 ≤ L) (hkc : kc + 62 ≤ 600000) (hks : ks + 12524 ≤ room_1.slots) (ht : t < 100) (hI : Inv t σ τ) (hk : ∀ σ τ, Inv (t + 1) σ τ → JL Γ sc L Q (kc + 62) (ks + 12524) 1516 x [] σ τ) : JL Γ sc L Q kc ks 256 x [] σ τ := by
  obtain ⟨r, σ1, τ1, h1, h2, h3⟩ := hq (sc (i + 1)) t σ τ ht hI
  refine l_al1 (pc := 256) dL_law_256 ?_
  refine l_arg (pc := 257) (z := 1) dL_law_257 dL_law_258 dL_law_259 dL_law_260 dL_law_261 (by decide) hx (by omega) ?_
  refine l_callXI (pc := 262) (As := [aI (sc (i + 1))]) (Vs := [.int (sc (i + 1))]) (st := []) (Ws := []) (fun l => c10_kind l 0 (sc (i + 1))) h1 cs_RL_23 rfl (fun _ => rfl) (fun _ => ⟨trivial, trivial⟩) (fun _ => rfl) (Nat.le_of_ble_eq_true rfl) ⟨(Nat.le_of_ble_eq_true rfl), (Nat.le_of_ble_eq_true rfl)⟩ ⟨by show kc + 0 ≤ 600000; omega, by show ks + 0 ≤ room_1.slots; omega⟩ dL_law_262 ?_
  refine l_al2 (pc := 265) dL_law_265 ?_
  refine l_arg (pc := 266) (z := 1) dL_law_266 dL_law_267 dL_law_268 dL_law_269 dL_law_270 (by decide) hx (by omega) ?_
  refine l_callMI (pc := 271) (As := [aI (sc (i + 1))]) (Vs := [.int (sc (i + 1))]) (st := [aI r]) (Ws := [.int r]) (fun l => c11_kind l 0 (sc (i + 1))) h2 cs_RL_26 rfl (fun _ => rfl) (fun _ => ⟨trivial, trivial⟩) (fun _ => rfl) (Nat.le_of_ble_eq_true rfl) ⟨(Nat.le_of_ble_eq_true rfl), (Nat.le_of_ble_eq_true rfl)⟩ ⟨by show kc + 0 + 0 ≤ 600000; omega, by show ks + 0 + 0 ≤ room_1.slots; omega⟩ dL_law_271 ?_
  refine l_cmpeq (pc := 274) (tgt := 1516) dL_law_274 rfl rfl ?_
  refine l_wide (kc2 := kc + 62) (ks2 := ks + 12524) (by show kc + 0 + 0 ≤ kc + 62; omega) (by show ks + 0 + 0 ≤ ks + 12524; omega) ?_
  exact hk σ1 τ1 h3
theorem cs_RL_27 : CaV RL RX10 27 yX10_length cX10_length 3 (some .int) 1 := ⟨tw_1_197, tw_1_198, tw_1_199, tw_1_1, tw_1_200, rfl, by decide +kernel, by decide +kernel, by decide +kernel⟩
theorem cs_RL_30 : CaV RL RX11 30 yX11_length cX11_length 2 (some .int) 1 := ⟨tw_4_204, tw_4_205, tw_4_206, tw_1_5, tw_4_207, rfl, by decide +kernel, by decide +kernel, by decide +kernel⟩
set_option maxRecDepth 20000 in
set_option maxHeartbeats 4000000 in
theorem lw_c3 {N t : Nat} {Inv : Nat → rS → rS → Prop} (hq : EQ_length N Inv) {Γ : lX} {sc : Nat → Int32} {L : Nat} {Q : State → Prop} {kc ks i : Nat} {x : Int32} {σ τ : rS} (hx : x = nI i) (hi : i + 6 ≤ L) (hkc : kc + 62 ≤ 600000) (hks : ks + 12524 ≤ room_1.slots) (ht : t < 100) (hI : Inv t σ τ) (hk : ∀ σ τ, Inv (t + 1) σ τ → JL Γ sc L Q (kc + 62) (ks + 12524) 1516 x [] σ τ) : JL Γ sc L Q kc ks 279 x [] σ τ := by
  obtain ⟨r, σ1, τ1, h1, h2, h3⟩ := hq (sc (i + 1)) t σ τ ht hI
  refine l_al1 (pc := 279) dL_law_279 ?_
  refine l_arg (pc := 280) (z := 1) dL_law_280 dL_law_281 dL_law_282 dL_law_283 dL_law_284 (by decide) hx (by omega) ?_
  refine l_callXI (pc := 285) (As := [aI (sc (i + 1))]) (Vs := [.int (sc (i + 1))]) (st := []) (Ws := []) (fun l => c10_length l 0 (sc (i + 1))) h1 cs_RL_27 rfl (fun _ => rfl) (fun _ => ⟨trivial, trivial⟩) (fun _ => rfl) (Nat.le_of_ble_eq_true rfl) ⟨(Nat.le_of_ble_eq_true rfl), (Nat.le_of_ble_eq_true rfl)⟩ ⟨by show kc + 0 ≤ 600000; omega, by show ks + 0 ≤ room_1.slots; omega⟩ dL_law_285 ?_
  refine l_al2 (pc := 288) dL_law_288 ?_
  refine l_arg (pc := 289) (z := 1) dL_law_289 dL_law_290 dL_law_291 dL_law_292 dL_law_293 (by decide) hx (by omega) ?_
  refine l_callMI (pc := 294) (As := [aI (sc (i + 1))]) (Vs := [.int (sc (i + 1))]) (st := [aI r]) (Ws := [.int r]) (fun l => c11_length l 0 (sc (i + 1))) h2 cs_RL_30 rfl (fun _ => rfl) (fun _ => ⟨trivial, trivial⟩) (fun _ => rfl) (Nat.le_of_ble_eq_true rfl) ⟨(Nat.le_of_ble_eq_true rfl), (Nat.le_of_ble_eq_true rfl)⟩ ⟨by show kc + 0 + 0 ≤ 600000; omega, by show ks + 0 + 0 ≤ room_1.slots; omega⟩ dL_law_294 ?_
  refine l_cmpeq (pc := 297) (tgt := 1516) dL_law_297 rfl rfl ?_
  refine l_wide (kc2 := kc + 62) (ks2 := ks + 12524) (by show kc + 0 + 0 ≤ kc + 62; omega) (by show ks + 0 + 0 ≤ ks + 12524; omega) ?_
  exact hk σ1 τ1 h3
theorem cs_RL_33 : CaV RL RX10 33 yX10_put cX10_put 6 (some .int) 3 := ⟨tw_1_201, tw_1_202, tw_1_203, tw_1_1, tw_1_204, rfl, by decide +kernel, by decide +kernel, by decide +kernel⟩
theorem cs_RL_37 : CaV RL RX11 37 yX11_put cX11_put 6 (some .int) 3 := ⟨tw_4_208, tw_4_209, tw_4_210, tw_1_5, tw_4_211, rfl, by decide +kernel, by decide +kernel, by decide +kernel⟩
set_option maxRecDepth 20000 in
set_option maxHeartbeats 4000000 in
theorem lw_c4 {N t : Nat} {Inv : Nat → rS → rS → Prop} (hq : EQ_put N Inv) {Γ : lX} {sc : Nat → Int32} {L : Nat} {Q : State → Prop} {kc ks i : Nat} {x : Int32} {σ τ : rS} (hx : x = nI i) (hi : i + 6 ≤ L) (hkc : kc + 62 ≤ 600000) (hks : ks + 12524 ≤ room_1.slots) (ht : t < 100) (hI : Inv t σ τ) (hk : ∀ σ τ, Inv (t + 1) σ τ → JL Γ sc L Q (kc + 62) (ks + 12524) 1516 x [] σ τ) : JL Γ sc L Q kc ks 302 x [] σ τ := by
  obtain ⟨r, σ1, τ1, h1, h2, h3⟩ := hq (sc (i + 1)) (sc (i + 2)) (((Int32.toInt64 (sc (i + 3))) <<< (Int32.toInt64 32 &&& 63)) ||| ((Int32.toInt64 (sc (i + 4))) &&& 4294967295)) t σ τ ht hI
  refine l_al1 (pc := 302) dL_law_302 ?_
  refine l_arg (pc := 303) (z := 1) dL_law_303 dL_law_304 dL_law_305 dL_law_306 dL_law_307 (by decide) hx (by omega) ?_
  refine l_arg (pc := 308) (z := 2) dL_law_308 dL_law_309 dL_law_310 dL_law_311 dL_law_312 (by decide) hx (by omega) ?_
  refine l_arg (pc := 313) (z := 3) dL_law_313 dL_law_314 dL_law_315 dL_law_316 dL_law_317 (by decide) hx (by omega) ?_
  refine l_i2l (pc := 318) dL_law_318 ?_
  refine l_bipush (pc := 319) (v := 32) (by decide) dL_law_319 ?_
  refine l_lshl (pc := 321) dL_law_321 ?_
  refine l_arg (pc := 322) (z := 4) dL_law_322 dL_law_323 dL_law_324 dL_law_325 dL_law_326 (by decide) hx (by omega) ?_
  refine l_i2l (pc := 327) dL_law_327 ?_
  refine l_ldc2 (pc := 328) tw_6_41 dL_law_328 ?_
  refine l_land (pc := 331) dL_law_331 ?_
  refine l_lor (pc := 332) dL_law_332 ?_
  refine l_callXI (pc := 333) (As := [aI (sc (i + 1)), aI (sc (i + 2)), aL (((Int32.toInt64 (sc (i + 3))) <<< (Int32.toInt64 32 &&& 63)) ||| ((Int32.toInt64 (sc (i + 4))) &&& 4294967295))]) (Vs := [.int (sc (i + 1)), .int (sc (i + 2)), .long (((Int32.toInt64 (sc (i + 3))) <<< (Int32.toInt64 32 &&& 63)) ||| ((Int32.toInt64 (sc (i + 4))) &&& 4294967295))]) (st := []) (Ws := []) (fun l => c10_put l 0 (sc (i + 1)) (sc (i + 2)) (((Int32.toInt64 (sc (i + 3))) <<< (Int32.toInt64 32 &&& 63)) ||| ((Int32.toInt64 (sc (i + 4))) &&& 4294967295))) h1 cs_RL_33 rfl (fun _ => rfl) (fun _ => ⟨trivial, trivial, trivial, trivial⟩) (fun _ => rfl) (Nat.le_of_ble_eq_true rfl) ⟨(Nat.le_of_ble_eq_true rfl), (Nat.le_of_ble_eq_true rfl)⟩ ⟨by show kc + 0 ≤ 600000; omega, by show ks + 0 ≤ room_1.slots; omega⟩ dL_law_333 ?_
  refine l_al2 (pc := 336) dL_law_336 ?_
  refine l_arg (pc := 337) (z := 1) dL_law_337 dL_law_338 dL_law_339 dL_law_340 dL_law_341 (by decide) hx (by omega) ?_
  refine l_arg (pc := 342) (z := 2) dL_law_342 dL_law_343 dL_law_344 dL_law_345 dL_law_346 (by decide) hx (by omega) ?_
  refine l_arg (pc := 347) (z := 3) dL_law_347 dL_law_348 dL_law_349 dL_law_350 dL_law_351 (by decide) hx (by omega) ?_
  refine l_i2l (pc := 352) dL_law_352 ?_
  refine l_bipush (pc := 353) (v := 32) (by decide) dL_law_353 ?_
  refine l_lshl (pc := 355) dL_law_355 ?_
  refine l_arg (pc := 356) (z := 4) dL_law_356 dL_law_357 dL_law_358 dL_law_359 dL_law_360 (by decide) hx (by omega) ?_
  refine l_i2l (pc := 361) dL_law_361 ?_
  refine l_ldc2 (pc := 362) tw_6_41 dL_law_362 ?_
  refine l_land (pc := 365) dL_law_365 ?_
  refine l_lor (pc := 366) dL_law_366 ?_
  refine l_callMI (pc := 367) (As := [aI (sc (i + 1)), aI (sc (i + 2)), aL (((Int32.toInt64 (sc (i + 3))) <<< (Int32.toInt64 32 &&& 63)) ||| ((Int32.toInt64 (sc (i + 4))) &&& 4294967295))]) (Vs := [.int (sc (i + 1)), .int (sc (i + 2)), .long (((Int32.toInt64 (sc (i + 3))) <<< (Int32.toInt64 32 &&& 63)) ||| ((Int32.toInt64 (sc (i + 4))) &&& 4294967295))]) (st := [aI r]) (Ws := [.int r]) (fun l => c11_put l 0 (sc (i + 1)) (sc (i + 2)) (((Int32.toInt64 (sc (i + 3))) <<< (Int32.toInt64 32 &&& 63)) ||| ((Int32.toInt64 (sc (i + 4))) &&& 4294967295))) h2 cs_RL_37 rfl (fun _ => rfl) (fun _ => ⟨trivial, trivial, trivial, trivial⟩) (fun _ => rfl) (Nat.le_of_ble_eq_true rfl) ⟨(Nat.le_of_ble_eq_true rfl), (Nat.le_of_ble_eq_true rfl)⟩ ⟨by show kc + 0 + 0 ≤ 600000; omega, by show ks + 0 + 0 ≤ room_1.slots; omega⟩ dL_law_367 ?_
  refine l_cmpeq (pc := 370) (tgt := 1516) dL_law_370 rfl rfl ?_
  refine l_wide (kc2 := kc + 62) (ks2 := ks + 12524) (by show kc + 0 + 0 ≤ kc + 62; omega) (by show ks + 0 + 0 ≤ ks + 12524; omega) ?_
  exact hk σ1 τ1 h3
theorem cs_RL_38 : CaV RL RX10 38 yX10_get cX10_get 4 (some .int) 2 := ⟨tw_1_227, tw_1_228, tw_1_229, tw_1_1, tw_1_230, rfl, by decide +kernel, by decide +kernel, by decide +kernel⟩
theorem cs_RL_41 : CaV RL RX11 41 yX11_get cX11_get 4 (some .int) 2 := ⟨tw_4_228, tw_4_229, tw_4_230, tw_1_5, tw_4_231, rfl, by decide +kernel, by decide +kernel, by decide +kernel⟩
set_option maxRecDepth 20000 in
set_option maxHeartbeats 4000000 in
theorem lw_c5 {N t : Nat} {Inv : Nat → rS → rS → Prop} (hq : EQ_get N Inv) {Γ : lX} {sc : Nat → Int32} {L : Nat} {Q : State → Prop} {kc ks i : Nat} {x : Int32} {σ τ : rS} (hx : x = nI i) (hi : i + 6 ≤ L) (hkc : kc + 62 ≤ 600000) (hks : ks + 12524 ≤ room_1.slots) (ht : t < 100) (hI : Inv t σ τ) (hk : ∀ σ τ, Inv (t + 1) σ τ → JL Γ sc L Q (kc + 62) (ks + 12524) 1516 x [] σ τ) : JL Γ sc L Q kc ks 375 x [] σ τ := by
  obtain ⟨r, σ1, τ1, h1, h2, h3⟩ := hq (sc (i + 1)) (sc (i + 2)) t σ τ ht hI
  refine l_al1 (pc := 375) dL_law_375 ?_
  refine l_arg (pc := 376) (z := 1) dL_law_376 dL_law_377 dL_law_378 dL_law_379 dL_law_380 (by decide) hx (by omega) ?_
  refine l_arg (pc := 381) (z := 2) dL_law_381 dL_law_382 dL_law_383 dL_law_384 dL_law_385 (by decide) hx (by omega) ?_
  refine l_callXI (pc := 386) (As := [aI (sc (i + 1)), aI (sc (i + 2))]) (Vs := [.int (sc (i + 1)), .int (sc (i + 2))]) (st := []) (Ws := []) (fun l => c10_get l 0 (sc (i + 1)) (sc (i + 2))) h1 cs_RL_38 rfl (fun _ => rfl) (fun _ => ⟨trivial, trivial, trivial⟩) (fun _ => rfl) (Nat.le_of_ble_eq_true rfl) ⟨(Nat.le_of_ble_eq_true rfl), (Nat.le_of_ble_eq_true rfl)⟩ ⟨by show kc + 0 ≤ 600000; omega, by show ks + 0 ≤ room_1.slots; omega⟩ dL_law_386 ?_
  refine l_al2 (pc := 389) dL_law_389 ?_
  refine l_arg (pc := 390) (z := 1) dL_law_390 dL_law_391 dL_law_392 dL_law_393 dL_law_394 (by decide) hx (by omega) ?_
  refine l_arg (pc := 395) (z := 2) dL_law_395 dL_law_396 dL_law_397 dL_law_398 dL_law_399 (by decide) hx (by omega) ?_
  refine l_callMI (pc := 400) (As := [aI (sc (i + 1)), aI (sc (i + 2))]) (Vs := [.int (sc (i + 1)), .int (sc (i + 2))]) (st := [aI r]) (Ws := [.int r]) (fun l => c11_get l 0 (sc (i + 1)) (sc (i + 2))) h2 cs_RL_41 rfl (fun _ => rfl) (fun _ => ⟨trivial, trivial, trivial⟩) (fun _ => rfl) (Nat.le_of_ble_eq_true rfl) ⟨(Nat.le_of_ble_eq_true rfl), (Nat.le_of_ble_eq_true rfl)⟩ ⟨by show kc + 0 + 0 ≤ 600000; omega, by show ks + 0 + 0 ≤ room_1.slots; omega⟩ dL_law_400 ?_
  refine l_cmpeq (pc := 403) (tgt := 1516) dL_law_403 rfl rfl ?_
  refine l_wide (kc2 := kc + 62) (ks2 := ks + 12524) (by show kc + 0 + 0 ≤ kc + 62; omega) (by show ks + 0 + 0 ≤ ks + 12524; omega) ?_
  exact hk σ1 τ1 h3
theorem cs_RL_42 : CaV RL RX10 42 yX10_copy cX10_copy 8 (some .int) 5 := ⟨tw_1_231, tw_1_232, tw_1_233, tw_1_1, tw_1_234, rfl, by decide +kernel, by decide +kernel, by decide +kernel⟩
theorem cs_RL_46 : CaV RL RX11 46 yX11_copy cX11_copy 7 (some .int) 5 := ⟨tw_4_232, tw_4_233, tw_4_234, tw_1_5, tw_4_235, rfl, by decide +kernel, by decide +kernel, by decide +kernel⟩
set_option maxRecDepth 20000 in
set_option maxHeartbeats 4000000 in
theorem lw_c6 {N t : Nat} {Inv : Nat → rS → rS → Prop} (hq : EQ_copy N Inv) {Γ : lX} {sc : Nat → Int32} {L : Nat} {Q : State → Prop} {kc ks i : Nat} {x : Int32} {σ τ : rS} (hx : x = nI i) (hi : i + 6 ≤ L) (hkc : kc + 62 ≤ 600000) (hks : ks + 12524 ≤ room_1.slots) (ht : t < 100) (hI : Inv t σ τ) (hk : ∀ σ τ, Inv (t + 1) σ τ → JL Γ sc L Q (kc + 62) (ks + 12524) 1516 x [] σ τ) : JL Γ sc L Q kc ks 408 x [] σ τ := by
  obtain ⟨r, σ1, τ1, h1, h2, h3⟩ := hq (sc (i + 1)) (sc (i + 2)) (sc (i + 3)) (sc (i + 4)) (sc (i + 5)) t σ τ ht hI
  refine l_al1 (pc := 408) dL_law_408 ?_
  refine l_arg (pc := 409) (z := 1) dL_law_409 dL_law_410 dL_law_411 dL_law_412 dL_law_413 (by decide) hx (by omega) ?_
  refine l_arg (pc := 414) (z := 2) dL_law_414 dL_law_415 dL_law_416 dL_law_417 dL_law_418 (by decide) hx (by omega) ?_
  refine l_arg (pc := 419) (z := 3) dL_law_419 dL_law_420 dL_law_421 dL_law_422 dL_law_423 (by decide) hx (by omega) ?_
  refine l_arg (pc := 424) (z := 4) dL_law_424 dL_law_425 dL_law_426 dL_law_427 dL_law_428 (by decide) hx (by omega) ?_
  refine l_arg (pc := 429) (z := 5) dL_law_429 dL_law_430 dL_law_431 dL_law_432 dL_law_433 (by decide) hx (by omega) ?_
  refine l_callXI (pc := 434) (As := [aI (sc (i + 1)), aI (sc (i + 2)), aI (sc (i + 3)), aI (sc (i + 4)), aI (sc (i + 5))]) (Vs := [.int (sc (i + 1)), .int (sc (i + 2)), .int (sc (i + 3)), .int (sc (i + 4)), .int (sc (i + 5))]) (st := []) (Ws := []) (fun l => c10_copy l 0 (sc (i + 1)) (sc (i + 2)) (sc (i + 3)) (sc (i + 4)) (sc (i + 5))) h1 cs_RL_42 rfl (fun _ => rfl) (fun _ => ⟨trivial, trivial, trivial, trivial, trivial, trivial⟩) (fun _ => rfl) (Nat.le_of_ble_eq_true rfl) ⟨(Nat.le_of_ble_eq_true rfl), (Nat.le_of_ble_eq_true rfl)⟩ ⟨by show kc + 0 ≤ 600000; omega, by show ks + 0 ≤ room_1.slots; omega⟩ dL_law_434 ?_
  refine l_al2 (pc := 437) dL_law_437 ?_
  refine l_arg (pc := 438) (z := 1) dL_law_438 dL_law_439 dL_law_440 dL_law_441 dL_law_442 (by decide) hx (by omega) ?_
  refine l_arg (pc := 443) (z := 2) dL_law_443 dL_law_444 dL_law_445 dL_law_446 dL_law_447 (by decide) hx (by omega) ?_
  refine l_arg (pc := 448) (z := 3) dL_law_448 dL_law_449 dL_law_450 dL_law_451 dL_law_452 (by decide) hx (by omega) ?_
  refine l_arg (pc := 453) (z := 4) dL_law_453 dL_law_454 dL_law_455 dL_law_456 dL_law_457 (by decide) hx (by omega) ?_
  refine l_arg (pc := 458) (z := 5) dL_law_458 dL_law_459 dL_law_460 dL_law_461 dL_law_462 (by decide) hx (by omega) ?_
  refine l_callMI (pc := 463) (As := [aI (sc (i + 1)), aI (sc (i + 2)), aI (sc (i + 3)), aI (sc (i + 4)), aI (sc (i + 5))]) (Vs := [.int (sc (i + 1)), .int (sc (i + 2)), .int (sc (i + 3)), .int (sc (i + 4)), .int (sc (i + 5))]) (st := [aI r]) (Ws := [.int r]) (fun l => c11_copy l N 0 (sc (i + 1)) (sc (i + 2)) (sc (i + 3)) (sc (i + 4)) (sc (i + 5))) h2 cs_RL_46 rfl (fun _ => rfl) (fun _ => ⟨trivial, trivial, trivial, trivial, trivial, trivial⟩) (fun _ => rfl) (Nat.le_of_ble_eq_true rfl) ⟨(Nat.le_of_ble_eq_true rfl), (Nat.le_of_ble_eq_true rfl)⟩ ⟨by show kc + 0 + 0 ≤ 600000; omega, by show ks + 0 + 0 ≤ room_1.slots; omega⟩ dL_law_463 ?_
  refine l_cmpeq (pc := 466) (tgt := 1516) dL_law_466 rfl rfl ?_
  refine l_wide (kc2 := kc + 62) (ks2 := ks + 12524) (by show kc + 0 + 0 ≤ kc + 62; omega) (by show ks + 0 + 0 ≤ ks + 12524; omega) ?_
  exact hk σ1 τ1 h3
theorem cs_RL_47 : CaV RL RX10 47 yX10_compare cX10_compare 5 (some .int) 3 := ⟨tw_2_2, tw_2_3, tw_2_4, tw_1_1, tw_2_5, rfl, by decide +kernel, by decide +kernel, by decide +kernel⟩
theorem cs_RL_51 : CaV RL RX11 51 yX11_compare cX11_compare 10 (some .int) 3 := ⟨tw_4_236, tw_4_237, tw_4_238, tw_1_5, tw_4_239, rfl, by decide +kernel, by decide +kernel, by decide +kernel⟩
set_option maxRecDepth 20000 in
set_option maxHeartbeats 4000000 in
theorem lw_c7 {N t : Nat} {Inv : Nat → rS → rS → Prop} (hq : EQ_compare N Inv) {Γ : lX} {sc : Nat → Int32} {L : Nat} {Q : State → Prop} {kc ks i : Nat} {x : Int32} {σ τ : rS} (hx : x = nI i) (hi : i + 6 ≤ L) (hkc : kc + 62 ≤ 600000) (hks : ks + 12524 ≤ room_1.slots) (ht : t < 100) (hI : Inv t σ τ) (hk : ∀ σ τ, Inv (t + 1) σ τ → JL Γ sc L Q (kc + 62) (ks + 12524) 1516 x [] σ τ) : JL Γ sc L Q kc ks 471 x [] σ τ := by
  obtain ⟨r, σ1, τ1, h1, h2, h3⟩ := hq (sc (i + 1)) (sc (i + 2)) (sc (i + 3)) t σ τ ht hI
  refine l_al1 (pc := 471) dL_law_471 ?_
  refine l_arg (pc := 472) (z := 1) dL_law_472 dL_law_473 dL_law_474 dL_law_475 dL_law_476 (by decide) hx (by omega) ?_
  refine l_arg (pc := 477) (z := 2) dL_law_477 dL_law_478 dL_law_479 dL_law_480 dL_law_481 (by decide) hx (by omega) ?_
  refine l_arg (pc := 482) (z := 3) dL_law_482 dL_law_483 dL_law_484 dL_law_485 dL_law_486 (by decide) hx (by omega) ?_
  refine l_callXI (pc := 487) (As := [aI (sc (i + 1)), aI (sc (i + 2)), aI (sc (i + 3))]) (Vs := [.int (sc (i + 1)), .int (sc (i + 2)), .int (sc (i + 3))]) (st := []) (Ws := []) (fun l => c10_compare l 0 (sc (i + 1)) (sc (i + 2)) (sc (i + 3))) h1 cs_RL_47 rfl (fun _ => rfl) (fun _ => ⟨trivial, trivial, trivial, trivial⟩) (fun _ => rfl) (Nat.le_of_ble_eq_true rfl) ⟨(Nat.le_of_ble_eq_true rfl), (Nat.le_of_ble_eq_true rfl)⟩ ⟨by show kc + 0 ≤ 600000; omega, by show ks + 0 ≤ room_1.slots; omega⟩ dL_law_487 ?_
  refine l_al2 (pc := 490) dL_law_490 ?_
  refine l_arg (pc := 491) (z := 1) dL_law_491 dL_law_492 dL_law_493 dL_law_494 dL_law_495 (by decide) hx (by omega) ?_
  refine l_arg (pc := 496) (z := 2) dL_law_496 dL_law_497 dL_law_498 dL_law_499 dL_law_500 (by decide) hx (by omega) ?_
  refine l_arg (pc := 501) (z := 3) dL_law_501 dL_law_502 dL_law_503 dL_law_504 dL_law_505 (by decide) hx (by omega) ?_
  refine l_callMI (pc := 506) (As := [aI (sc (i + 1)), aI (sc (i + 2)), aI (sc (i + 3))]) (Vs := [.int (sc (i + 1)), .int (sc (i + 2)), .int (sc (i + 3))]) (st := [aI r]) (Ws := [.int r]) (fun l => c11_compare l 0 (sc (i + 1)) (sc (i + 2)) (sc (i + 3))) h2 cs_RL_51 rfl (fun _ => rfl) (fun _ => ⟨trivial, trivial, trivial, trivial⟩) (fun _ => rfl) (Nat.le_of_ble_eq_true rfl) ⟨(Nat.le_of_ble_eq_true rfl), (Nat.le_of_ble_eq_true rfl)⟩ ⟨by show kc + 0 + 0 ≤ 600000; omega, by show ks + 0 + 0 ≤ room_1.slots; omega⟩ dL_law_506 ?_
  refine l_cmpeq (pc := 509) (tgt := 1516) dL_law_509 rfl rfl ?_
  refine l_wide (kc2 := kc + 62) (ks2 := ks + 12524) (by show kc + 0 + 0 ≤ kc + 62; omega) (by show ks + 0 + 0 ≤ ks + 12524; omega) ?_
  exact hk σ1 τ1 h3
theorem cs_RL_52 : CaV RL RX10 52 yX10_shape cX10_shape 5 (some .int) 3 := ⟨tw_2_33, tw_2_34, tw_2_35, tw_1_1, tw_2_36, rfl, by decide +kernel, by decide +kernel, by decide +kernel⟩
theorem cs_RL_55 : CaV RL RX11 55 yX11_shape cX11_shape 8 (some .int) 3 := ⟨tw_5_15, tw_5_16, tw_5_17, tw_1_5, tw_5_18, rfl, by decide +kernel, by decide +kernel, by decide +kernel⟩
set_option maxRecDepth 20000 in
set_option maxHeartbeats 4000000 in
theorem lw_c8 {N t : Nat} {Inv : Nat → rS → rS → Prop} (hq : EQ_shape N Inv) {Γ : lX} {sc : Nat → Int32} {L : Nat} {Q : State → Prop} {kc ks i : Nat} {x : Int32} {σ τ : rS} (hx : x = nI i) (hi : i + 6 ≤ L) (hkc : kc + 62 ≤ 600000) (hks : ks + 12524 ≤ room_1.slots) (ht : t < 100) (hI : Inv t σ τ) (hk : ∀ σ τ, Inv (t + 1) σ τ → JL Γ sc L Q (kc + 62) (ks + 12524) 1516 x [] σ τ) : JL Γ sc L Q kc ks 514 x [] σ τ := by
  obtain ⟨r, σ1, τ1, h1, h2, h3⟩ := hq (sc (i + 1)) (sc (i + 2)) (sc (i + 3)) t σ τ ht hI
  refine l_al1 (pc := 514) dL_law_514 ?_
  refine l_arg (pc := 515) (z := 1) dL_law_515 dL_law_516 dL_law_517 dL_law_518 dL_law_519 (by decide) hx (by omega) ?_
  refine l_arg (pc := 520) (z := 2) dL_law_520 dL_law_521 dL_law_522 dL_law_523 dL_law_524 (by decide) hx (by omega) ?_
  refine l_arg (pc := 525) (z := 3) dL_law_525 dL_law_526 dL_law_527 dL_law_528 dL_law_529 (by decide) hx (by omega) ?_
  refine l_callXI (pc := 530) (As := [aI (sc (i + 1)), aI (sc (i + 2)), aI (sc (i + 3))]) (Vs := [.int (sc (i + 1)), .int (sc (i + 2)), .int (sc (i + 3))]) (st := []) (Ws := []) (fun l => c10_shape l 0 (sc (i + 1)) (sc (i + 2)) (sc (i + 3))) h1 cs_RL_52 rfl (fun _ => rfl) (fun _ => ⟨trivial, trivial, trivial, trivial⟩) (fun _ => rfl) (Nat.le_of_ble_eq_true rfl) ⟨(Nat.le_of_ble_eq_true rfl), (Nat.le_of_ble_eq_true rfl)⟩ ⟨by show kc + 0 ≤ 600000; omega, by show ks + 0 ≤ room_1.slots; omega⟩ dL_law_530 ?_
  refine l_al2 (pc := 533) dL_law_533 ?_
  refine l_arg (pc := 534) (z := 1) dL_law_534 dL_law_535 dL_law_536 dL_law_537 dL_law_538 (by decide) hx (by omega) ?_
  refine l_arg (pc := 539) (z := 2) dL_law_539 dL_law_540 dL_law_541 dL_law_542 dL_law_543 (by decide) hx (by omega) ?_
  refine l_arg (pc := 544) (z := 3) dL_law_544 dL_law_545 dL_law_546 dL_law_547 dL_law_548 (by decide) hx (by omega) ?_
  refine l_callMI (pc := 549) (As := [aI (sc (i + 1)), aI (sc (i + 2)), aI (sc (i + 3))]) (Vs := [.int (sc (i + 1)), .int (sc (i + 2)), .int (sc (i + 3))]) (st := [aI r]) (Ws := [.int r]) (fun l => c11_shape l 0 (sc (i + 1)) (sc (i + 2)) (sc (i + 3))) h2 cs_RL_55 rfl (fun _ => rfl) (fun _ => ⟨trivial, trivial, trivial, trivial⟩) (fun _ => rfl) (Nat.le_of_ble_eq_true rfl) ⟨(Nat.le_of_ble_eq_true rfl), (Nat.le_of_ble_eq_true rfl)⟩ ⟨by show kc + 0 + 0 ≤ 600000; omega, by show ks + 0 + 0 ≤ room_1.slots; omega⟩ dL_law_549 ?_
  refine l_cmpeq (pc := 552) (tgt := 1516) dL_law_552 rfl rfl ?_
  refine l_wide (kc2 := kc + 62) (ks2 := ks + 12524) (by show kc + 0 + 0 ≤ kc + 62; omega) (by show ks + 0 + 0 ≤ ks + 12524; omega) ?_
  exact hk σ1 τ1 h3
theorem cs_RL_56 : CaV RL RX10 56 yX10_rest cX10_rest 5 (some .int) 3 := ⟨tw_2_71, tw_2_72, tw_2_73, tw_1_1, tw_2_74, rfl, by decide +kernel, by decide +kernel, by decide +kernel⟩
theorem cs_RL_59 : CaV RL RX11 59 yX11_rest cX11_rest 11 (some .int) 3 := ⟨tw_5_58, tw_5_59, tw_5_60, tw_1_5, tw_5_61, rfl, by decide +kernel, by decide +kernel, by decide +kernel⟩
set_option maxRecDepth 20000 in
set_option maxHeartbeats 4000000 in
theorem lw_c9 {N t : Nat} {Inv : Nat → rS → rS → Prop} (hq : EQ_rest N Inv) {Γ : lX} {sc : Nat → Int32} {L : Nat} {Q : State → Prop} {kc ks i : Nat} {x : Int32} {σ τ : rS} (hx : x = nI i) (hi : i + 6 ≤ L) (hkc : kc + 62 ≤ 600000) (hks : ks + 12524 ≤ room_1.slots) (ht : t < 100) (hI : Inv t σ τ) (hk : ∀ σ τ, Inv (t + 1) σ τ → JL Γ sc L Q (kc + 62) (ks + 12524) 1516 x [] σ τ) : JL Γ sc L Q kc ks 557 x [] σ τ := by
  obtain ⟨r, σ1, τ1, h1, h2, h3⟩ := hq (sc (i + 1)) (sc (i + 2)) (sc (i + 3)) t σ τ ht hI
  refine l_al1 (pc := 557) dL_law_557 ?_
  refine l_arg (pc := 558) (z := 1) dL_law_558 dL_law_559 dL_law_560 dL_law_561 dL_law_562 (by decide) hx (by omega) ?_
  refine l_arg (pc := 563) (z := 2) dL_law_563 dL_law_564 dL_law_565 dL_law_566 dL_law_567 (by decide) hx (by omega) ?_
  refine l_arg (pc := 568) (z := 3) dL_law_568 dL_law_569 dL_law_570 dL_law_571 dL_law_572 (by decide) hx (by omega) ?_
  refine l_callXI (pc := 573) (As := [aI (sc (i + 1)), aI (sc (i + 2)), aI (sc (i + 3))]) (Vs := [.int (sc (i + 1)), .int (sc (i + 2)), .int (sc (i + 3))]) (st := []) (Ws := []) (fun l => c10_rest l N 0 (sc (i + 1)) (sc (i + 2)) (sc (i + 3))) h1 cs_RL_56 rfl (fun _ => rfl) (fun _ => ⟨trivial, trivial, trivial, trivial⟩) (fun _ => rfl) (Nat.le_of_ble_eq_true rfl) ⟨(Nat.le_of_ble_eq_true rfl), (Nat.le_of_ble_eq_true rfl)⟩ ⟨by show kc + 0 ≤ 600000; omega, by show ks + 0 ≤ room_1.slots; omega⟩ dL_law_573 ?_
  refine l_al2 (pc := 576) dL_law_576 ?_
  refine l_arg (pc := 577) (z := 1) dL_law_577 dL_law_578 dL_law_579 dL_law_580 dL_law_581 (by decide) hx (by omega) ?_
  refine l_arg (pc := 582) (z := 2) dL_law_582 dL_law_583 dL_law_584 dL_law_585 dL_law_586 (by decide) hx (by omega) ?_
  refine l_arg (pc := 587) (z := 3) dL_law_587 dL_law_588 dL_law_589 dL_law_590 dL_law_591 (by decide) hx (by omega) ?_
  refine l_callMI (pc := 592) (As := [aI (sc (i + 1)), aI (sc (i + 2)), aI (sc (i + 3))]) (Vs := [.int (sc (i + 1)), .int (sc (i + 2)), .int (sc (i + 3))]) (st := [aI r]) (Ws := [.int r]) (fun l => c11_rest l 0 (sc (i + 1)) (sc (i + 2)) (sc (i + 3))) h2 cs_RL_59 rfl (fun _ => rfl) (fun _ => ⟨trivial, trivial, trivial, trivial⟩) (fun _ => rfl) (Nat.le_of_ble_eq_true rfl) ⟨(Nat.le_of_ble_eq_true rfl), (Nat.le_of_ble_eq_true rfl)⟩ ⟨by show kc + 0 + 0 ≤ 600000; omega, by show ks + 0 + 0 ≤ room_1.slots; omega⟩ dL_law_592 ?_
  refine l_cmpeq (pc := 595) (tgt := 1516) dL_law_595 rfl rfl ?_
  refine l_wide (kc2 := kc + 62) (ks2 := ks + 12524) (by show kc + 0 + 0 ≤ kc + 62; omega) (by show ks + 0 + 0 ≤ ks + 12524; omega) ?_
  exact hk σ1 τ1 h3
theorem cs_RL_60 : CaV RL RX10 60 yX10_most cX10_most 5 (some .int) 2 := ⟨tw_2_103, tw_2_104, tw_2_105, tw_1_1, tw_2_106, rfl, by decide +kernel, by decide +kernel, by decide +kernel⟩
theorem cs_RL_63 : CaV RL RX11 63 yX11_most cX11_most 9 (some .int) 2 := ⟨tw_5_68, tw_5_69, tw_5_70, tw_1_5, tw_5_71, rfl, by decide +kernel, by decide +kernel, by decide +kernel⟩
set_option maxRecDepth 20000 in
set_option maxHeartbeats 4000000 in
theorem lw_c10 {N t : Nat} {Inv : Nat → rS → rS → Prop} (hq : EQ_most N Inv) {Γ : lX} {sc : Nat → Int32} {L : Nat} {Q : State → Prop} {kc ks i : Nat} {x : Int32} {σ τ : rS} (hx : x = nI i) (hi : i + 6 ≤ L) (hkc : kc + 62 ≤ 600000) (hks : ks + 12524 ≤ room_1.slots) (ht : t < 100) (hI : Inv t σ τ) (hk : ∀ σ τ, Inv (t + 1) σ τ → JL Γ sc L Q (kc + 62) (ks + 12524) 1516 x [] σ τ) : JL Γ sc L Q kc ks 600 x [] σ τ := by
  obtain ⟨r, σ1, τ1, h1, h2, h3⟩ := hq (sc (i + 1)) (sc (i + 2)) t σ τ ht hI
  refine l_al1 (pc := 600) dL_law_600 ?_
  refine l_arg (pc := 601) (z := 1) dL_law_601 dL_law_602 dL_law_603 dL_law_604 dL_law_605 (by decide) hx (by omega) ?_
  refine l_arg (pc := 606) (z := 2) dL_law_606 dL_law_607 dL_law_608 dL_law_609 dL_law_610 (by decide) hx (by omega) ?_
  refine l_callXI (pc := 611) (As := [aI (sc (i + 1)), aI (sc (i + 2))]) (Vs := [.int (sc (i + 1)), .int (sc (i + 2))]) (st := []) (Ws := []) (fun l => c10_most l N 0 (sc (i + 1)) (sc (i + 2))) h1 cs_RL_60 rfl (fun _ => rfl) (fun _ => ⟨trivial, trivial, trivial⟩) (fun _ => rfl) (Nat.le_of_ble_eq_true rfl) ⟨(Nat.le_of_ble_eq_true rfl), (Nat.le_of_ble_eq_true rfl)⟩ ⟨by show kc + 0 ≤ 600000; omega, by show ks + 0 ≤ room_1.slots; omega⟩ dL_law_611 ?_
  refine l_al2 (pc := 614) dL_law_614 ?_
  refine l_arg (pc := 615) (z := 1) dL_law_615 dL_law_616 dL_law_617 dL_law_618 dL_law_619 (by decide) hx (by omega) ?_
  refine l_arg (pc := 620) (z := 2) dL_law_620 dL_law_621 dL_law_622 dL_law_623 dL_law_624 (by decide) hx (by omega) ?_
  refine l_callMI (pc := 625) (As := [aI (sc (i + 1)), aI (sc (i + 2))]) (Vs := [.int (sc (i + 1)), .int (sc (i + 2))]) (st := [aI r]) (Ws := [.int r]) (fun l => c11_most l N 0 (sc (i + 1)) (sc (i + 2))) h2 cs_RL_63 rfl (fun _ => rfl) (fun _ => ⟨trivial, trivial, trivial⟩) (fun _ => rfl) (Nat.le_of_ble_eq_true rfl) ⟨(Nat.le_of_ble_eq_true rfl), (Nat.le_of_ble_eq_true rfl)⟩ ⟨by show kc + 0 + 0 ≤ 600000; omega, by show ks + 0 + 0 ≤ room_1.slots; omega⟩ dL_law_625 ?_
  refine l_cmpeq (pc := 628) (tgt := 1516) dL_law_628 rfl rfl ?_
  refine l_wide (kc2 := kc + 62) (ks2 := ks + 12524) (by show kc + 0 + 0 ≤ kc + 62; omega) (by show ks + 0 + 0 ≤ ks + 12524; omega) ?_
  exact hk σ1 τ1 h3
theorem cs_RL_64 : CaV RL RX10 64 yX10_seen cX10_seen 1 (some .long) 0 := ⟨tw_2_117, tw_2_118, tw_2_119, tw_1_1, tw_2_120, rfl, by decide +kernel, by decide +kernel, by decide +kernel⟩
theorem cs_RL_68 : CaV RL RX11 68 yX11_seen cX11_seen 1 (some .long) 0 := ⟨tw_5_77, tw_5_78, tw_5_79, tw_1_5, tw_5_80, rfl, by decide +kernel, by decide +kernel, by decide +kernel⟩
set_option maxRecDepth 20000 in
set_option maxHeartbeats 4000000 in
theorem lw_c11 {N t : Nat} {Inv : Nat → rS → rS → Prop} (hq : EQ_seen N Inv) {Γ : lX} {sc : Nat → Int32} {L : Nat} {Q : State → Prop} {kc ks i : Nat} {x : Int32} {σ τ : rS} (hx : x = nI i) (hi : i + 6 ≤ L) (hkc : kc + 62 ≤ 600000) (hks : ks + 12524 ≤ room_1.slots) (ht : t < 100) (hI : Inv t σ τ) (hk : ∀ σ τ, Inv (t + 1) σ τ → JL Γ sc L Q (kc + 62) (ks + 12524) 1516 x [] σ τ) : JL Γ sc L Q kc ks 633 x [] σ τ := by
  obtain ⟨r, σ1, τ1, h1, h2, h3⟩ := hq t σ τ ht hI
  refine l_al1 (pc := 633) dL_law_633 ?_
  refine l_callXL (pc := 634) (As := []) (Vs := []) (st := []) (Ws := []) (fun l => c10_seen l 0) h1 cs_RL_64 rfl (fun _ => rfl) (fun _ => trivial) (fun _ => rfl) (Nat.le_of_ble_eq_true rfl) ⟨(Nat.le_of_ble_eq_true rfl), (Nat.le_of_ble_eq_true rfl)⟩ ⟨by show kc + 0 ≤ 600000; omega, by show ks + 0 ≤ room_1.slots; omega⟩ dL_law_634 ?_
  refine l_al2 (pc := 637) dL_law_637 ?_
  refine l_callML (pc := 638) (As := []) (Vs := []) (st := [aL r]) (Ws := [.long r]) (fun l => c11_seen l 0) h2 cs_RL_68 rfl (fun _ => rfl) (fun _ => trivial) (fun _ => rfl) (Nat.le_of_ble_eq_true rfl) ⟨(Nat.le_of_ble_eq_true rfl), (Nat.le_of_ble_eq_true rfl)⟩ ⟨by show kc + 0 + 0 ≤ 600000; omega, by show ks + 0 + 0 ≤ room_1.slots; omega⟩ dL_law_638 ?_
  refine l_lcmpeq (pc := 641) (tgt := 1516) dL_law_641 dL_law_642 rfl rfl ?_
  refine l_wide (kc2 := kc + 62) (ks2 := ks + 12524) (by show kc + 0 + 0 ≤ kc + 62; omega) (by show ks + 0 + 0 ≤ ks + 12524; omega) ?_
  exact hk σ1 τ1 h3
theorem cs_RL_69 : CaV RL RX10 69 yX10_stream cX10_stream 1 (some .int) 0 := ⟨tw_2_121, tw_2_122, tw_2_123, tw_1_1, tw_2_124, rfl, by decide +kernel, by decide +kernel, by decide +kernel⟩
theorem cs_RL_73 : CaV RL RX11 73 yX11_stream cX11_stream 1 (some .int) 0 := ⟨tw_5_81, tw_5_82, tw_5_83, tw_1_5, tw_5_84, rfl, by decide +kernel, by decide +kernel, by decide +kernel⟩
set_option maxRecDepth 20000 in
set_option maxHeartbeats 4000000 in
theorem lw_c12 {N t : Nat} {Inv : Nat → rS → rS → Prop} (hq : EQ_stream N Inv) {Γ : lX} {sc : Nat → Int32} {L : Nat} {Q : State → Prop} {kc ks i : Nat} {x : Int32} {σ τ : rS} (hx : x = nI i) (hi : i + 6 ≤ L) (hkc : kc + 62 ≤ 600000) (hks : ks + 12524 ≤ room_1.slots) (ht : t < 100) (hI : Inv t σ τ) (hk : ∀ σ τ, Inv (t + 1) σ τ → JL Γ sc L Q (kc + 62) (ks + 12524) 1516 x [] σ τ) : JL Γ sc L Q kc ks 647 x [] σ τ := by
  obtain ⟨r, σ1, τ1, h1, h2, h3⟩ := hq t σ τ ht hI
  refine l_al1 (pc := 647) dL_law_647 ?_
  refine l_callXI (pc := 648) (As := []) (Vs := []) (st := []) (Ws := []) (fun l => c10_stream l 0) h1 cs_RL_69 rfl (fun _ => rfl) (fun _ => trivial) (fun _ => rfl) (Nat.le_of_ble_eq_true rfl) ⟨(Nat.le_of_ble_eq_true rfl), (Nat.le_of_ble_eq_true rfl)⟩ ⟨by show kc + 2 ≤ 600000; omega, by show ks + 404 ≤ room_1.slots; omega⟩ dL_law_648 ?_
  refine l_al2 (pc := 651) dL_law_651 ?_
  refine l_callMI (pc := 652) (As := []) (Vs := []) (st := [aI r]) (Ws := [.int r]) (fun l => c11_stream l 0) h2 cs_RL_73 rfl (fun _ => rfl) (fun _ => trivial) (fun _ => rfl) (Nat.le_of_ble_eq_true rfl) ⟨(Nat.le_of_ble_eq_true rfl), (Nat.le_of_ble_eq_true rfl)⟩ ⟨by show kc + 2 + 0 ≤ 600000; omega, by show ks + 404 + 0 ≤ room_1.slots; omega⟩ dL_law_652 ?_
  refine l_cmpeq (pc := 655) (tgt := 1516) dL_law_655 rfl rfl ?_
  refine l_wide (kc2 := kc + 62) (ks2 := ks + 12524) (by show kc + 2 + 0 ≤ kc + 62; omega) (by show ks + 404 + 0 ≤ ks + 12524; omega) ?_
  exact hk σ1 τ1 h3
theorem cs_RL_74 : CaV RL RX10 74 yX10_write cX10_write 6 (some .int) 3 := ⟨tw_2_154, tw_2_155, tw_2_156, tw_1_1, tw_2_157, rfl, by decide +kernel, by decide +kernel, by decide +kernel⟩
theorem cs_RL_77 : CaV RL RX11 77 yX11_write cX11_write 6 (some .int) 3 := ⟨tw_5_89, tw_5_90, tw_5_91, tw_1_5, tw_5_92, rfl, by decide +kernel, by decide +kernel, by decide +kernel⟩
set_option maxRecDepth 20000 in
set_option maxHeartbeats 4000000 in
theorem lw_c13 {N t : Nat} {Inv : Nat → rS → rS → Prop} (hq : EQ_write N Inv) {Γ : lX} {sc : Nat → Int32} {L : Nat} {Q : State → Prop} {kc ks i : Nat} {x : Int32} {σ τ : rS} (hx : x = nI i) (hi : i + 6 ≤ L) (hkc : kc + 62 ≤ 600000) (hks : ks + 12524 ≤ room_1.slots) (ht : t < 100) (hI : Inv t σ τ) (hk : ∀ σ τ, Inv (t + 1) σ τ → JL Γ sc L Q (kc + 62) (ks + 12524) 1516 x [] σ τ) : JL Γ sc L Q kc ks 660 x [] σ τ := by
  obtain ⟨r, σ1, τ1, h1, h2, h3⟩ := hq (sc (i + 1)) (sc (i + 2)) (sc (i + 3)) t σ τ ht hI
  refine l_al1 (pc := 660) dL_law_660 ?_
  refine l_arg (pc := 661) (z := 1) dL_law_661 dL_law_662 dL_law_663 dL_law_664 dL_law_665 (by decide) hx (by omega) ?_
  refine l_arg (pc := 666) (z := 2) dL_law_666 dL_law_667 dL_law_668 dL_law_669 dL_law_670 (by decide) hx (by omega) ?_
  refine l_arg (pc := 671) (z := 3) dL_law_671 dL_law_672 dL_law_673 dL_law_674 dL_law_675 (by decide) hx (by omega) ?_
  refine l_callXI (pc := 676) (As := [aI (sc (i + 1)), aI (sc (i + 2)), aI (sc (i + 3))]) (Vs := [.int (sc (i + 1)), .int (sc (i + 2)), .int (sc (i + 3))]) (st := []) (Ws := []) (fun l => c10_write l N 0 (sc (i + 1)) (sc (i + 2)) (sc (i + 3))) h1 cs_RL_74 rfl (fun _ => rfl) (fun _ => ⟨trivial, trivial, trivial, trivial⟩) (fun _ => rfl) (Nat.le_of_ble_eq_true rfl) ⟨(Nat.le_of_ble_eq_true rfl), (Nat.le_of_ble_eq_true rfl)⟩ ⟨by show kc + 0 ≤ 600000; omega, by show ks + 0 ≤ room_1.slots; omega⟩ dL_law_676 ?_
  refine l_al2 (pc := 679) dL_law_679 ?_
  refine l_arg (pc := 680) (z := 1) dL_law_680 dL_law_681 dL_law_682 dL_law_683 dL_law_684 (by decide) hx (by omega) ?_
  refine l_arg (pc := 685) (z := 2) dL_law_685 dL_law_686 dL_law_687 dL_law_688 dL_law_689 (by decide) hx (by omega) ?_
  refine l_arg (pc := 690) (z := 3) dL_law_690 dL_law_691 dL_law_692 dL_law_693 dL_law_694 (by decide) hx (by omega) ?_
  refine l_callMI (pc := 695) (As := [aI (sc (i + 1)), aI (sc (i + 2)), aI (sc (i + 3))]) (Vs := [.int (sc (i + 1)), .int (sc (i + 2)), .int (sc (i + 3))]) (st := [aI r]) (Ws := [.int r]) (fun l => c11_write l N 0 (sc (i + 1)) (sc (i + 2)) (sc (i + 3))) h2 cs_RL_77 rfl (fun _ => rfl) (fun _ => ⟨trivial, trivial, trivial, trivial⟩) (fun _ => rfl) (Nat.le_of_ble_eq_true rfl) ⟨(Nat.le_of_ble_eq_true rfl), (Nat.le_of_ble_eq_true rfl)⟩ ⟨by show kc + 0 + 0 ≤ 600000; omega, by show ks + 0 + 0 ≤ room_1.slots; omega⟩ dL_law_695 ?_
  refine l_cmpeq (pc := 698) (tgt := 1516) dL_law_698 rfl rfl ?_
  refine l_wide (kc2 := kc + 62) (ks2 := ks + 12524) (by show kc + 0 + 0 ≤ kc + 62; omega) (by show ks + 0 + 0 ≤ ks + 12524; omega) ?_
  exact hk σ1 τ1 h3
theorem cs_RL_78 : CaV RL RX10 78 yX10_cost cX10_cost 4 (some .int) 2 := ⟨tw_2_220, tw_2_221, tw_2_222, tw_1_1, tw_2_223, rfl, by decide +kernel, by decide +kernel, by decide +kernel⟩
theorem cs_RL_81 : CaV RL RX11 81 yX11_cost cX11_cost 3 (some .int) 2 := ⟨tw_5_133, tw_5_134, tw_5_135, tw_1_5, tw_5_136, rfl, by decide +kernel, by decide +kernel, by decide +kernel⟩
set_option maxRecDepth 20000 in
set_option maxHeartbeats 4000000 in
theorem lw_c14 {N t : Nat} {Inv : Nat → rS → rS → Prop} (hq : EQ_cost N Inv) {Γ : lX} {sc : Nat → Int32} {L : Nat} {Q : State → Prop} {kc ks i : Nat} {x : Int32} {σ τ : rS} (hx : x = nI i) (hi : i + 6 ≤ L) (hkc : kc + 62 ≤ 600000) (hks : ks + 12524 ≤ room_1.slots) (ht : t < 100) (hI : Inv t σ τ) (hk : ∀ σ τ, Inv (t + 1) σ τ → JL Γ sc L Q (kc + 62) (ks + 12524) 1516 x [] σ τ) : JL Γ sc L Q kc ks 703 x [] σ τ := by
  obtain ⟨r, σ1, τ1, h1, h2, h3⟩ := hq (sc (i + 1)) (sc (i + 2)) t σ τ ht hI
  refine l_al1 (pc := 703) dL_law_703 ?_
  refine l_arg (pc := 704) (z := 1) dL_law_704 dL_law_705 dL_law_706 dL_law_707 dL_law_708 (by decide) hx (by omega) ?_
  refine l_arg (pc := 709) (z := 2) dL_law_709 dL_law_710 dL_law_711 dL_law_712 dL_law_713 (by decide) hx (by omega) ?_
  refine l_callXI (pc := 714) (As := [aI (sc (i + 1)), aI (sc (i + 2))]) (Vs := [.int (sc (i + 1)), .int (sc (i + 2))]) (st := []) (Ws := []) (fun l => c10_cost l N 0 (sc (i + 1)) (sc (i + 2))) h1 cs_RL_78 rfl (fun _ => rfl) (fun _ => ⟨trivial, trivial, trivial⟩) (fun _ => rfl) (Nat.le_of_ble_eq_true rfl) ⟨(Nat.le_of_ble_eq_true rfl), (Nat.le_of_ble_eq_true rfl)⟩ ⟨by show kc + 0 ≤ 600000; omega, by show ks + 0 ≤ room_1.slots; omega⟩ dL_law_714 ?_
  refine l_al2 (pc := 717) dL_law_717 ?_
  refine l_arg (pc := 718) (z := 1) dL_law_718 dL_law_719 dL_law_720 dL_law_721 dL_law_722 (by decide) hx (by omega) ?_
  refine l_arg (pc := 723) (z := 2) dL_law_723 dL_law_724 dL_law_725 dL_law_726 dL_law_727 (by decide) hx (by omega) ?_
  refine l_callMI (pc := 728) (As := [aI (sc (i + 1)), aI (sc (i + 2))]) (Vs := [.int (sc (i + 1)), .int (sc (i + 2))]) (st := [aI r]) (Ws := [.int r]) (fun l => c11_cost l N 0 (sc (i + 1)) (sc (i + 2))) h2 cs_RL_81 rfl (fun _ => rfl) (fun _ => ⟨trivial, trivial, trivial⟩) (fun _ => rfl) (Nat.le_of_ble_eq_true rfl) ⟨(Nat.le_of_ble_eq_true rfl), (Nat.le_of_ble_eq_true rfl)⟩ ⟨by show kc + 0 + 0 ≤ 600000; omega, by show ks + 0 + 0 ≤ room_1.slots; omega⟩ dL_law_728 ?_
  refine l_cmpeq (pc := 731) (tgt := 1516) dL_law_731 rfl rfl ?_
  refine l_wide (kc2 := kc + 62) (ks2 := ks + 12524) (by show kc + 0 + 0 ≤ kc + 62; omega) (by show ks + 0 + 0 ≤ ks + 12524; omega) ?_
  exact hk σ1 τ1 h3
theorem cs_RL_82 : CaV RL RX10 82 yX10_best cX10_best 6 (some .int) 1 := ⟨tw_2_224, tw_2_225, tw_2_226, tw_1_1, tw_2_227, rfl, by decide +kernel, by decide +kernel, by decide +kernel⟩
theorem cs_RL_85 : CaV RL RX11 85 yX11_best cX11_best 5 (some .int) 1 := ⟨tw_5_137, tw_5_138, tw_5_139, tw_1_5, tw_5_140, rfl, by decide +kernel, by decide +kernel, by decide +kernel⟩
set_option maxRecDepth 20000 in
set_option maxHeartbeats 4000000 in
theorem lw_c15 {N t : Nat} {Inv : Nat → rS → rS → Prop} (hq : EQ_best N Inv) {Γ : lX} {sc : Nat → Int32} {L : Nat} {Q : State → Prop} {kc ks i : Nat} {x : Int32} {σ τ : rS} (hx : x = nI i) (hi : i + 6 ≤ L) (hkc : kc + 62 ≤ 600000) (hks : ks + 12524 ≤ room_1.slots) (ht : t < 100) (hI : Inv t σ τ) (hk : ∀ σ τ, Inv (t + 1) σ τ → JL Γ sc L Q (kc + 62) (ks + 12524) 1516 x [] σ τ) : JL Γ sc L Q kc ks 736 x [] σ τ := by
  obtain ⟨r, σ1, τ1, h1, h2, h3⟩ := hq (sc (i + 1)) t σ τ ht hI
  refine l_al1 (pc := 736) dL_law_736 ?_
  refine l_arg (pc := 737) (z := 1) dL_law_737 dL_law_738 dL_law_739 dL_law_740 dL_law_741 (by decide) hx (by omega) ?_
  refine l_callXI (pc := 742) (As := [aI (sc (i + 1))]) (Vs := [.int (sc (i + 1))]) (st := []) (Ws := []) (fun l => c10_best l N 0 (sc (i + 1))) h1 cs_RL_82 rfl (fun _ => rfl) (fun _ => ⟨trivial, trivial⟩) (fun _ => rfl) (Nat.le_of_ble_eq_true rfl) ⟨(Nat.le_of_ble_eq_true rfl), (Nat.le_of_ble_eq_true rfl)⟩ ⟨by show kc + 0 ≤ 600000; omega, by show ks + 0 ≤ room_1.slots; omega⟩ dL_law_742 ?_
  refine l_al2 (pc := 745) dL_law_745 ?_
  refine l_arg (pc := 746) (z := 1) dL_law_746 dL_law_747 dL_law_748 dL_law_749 dL_law_750 (by decide) hx (by omega) ?_
  refine l_callMI (pc := 751) (As := [aI (sc (i + 1))]) (Vs := [.int (sc (i + 1))]) (st := [aI r]) (Ws := [.int r]) (fun l => c11_best l N 0 (sc (i + 1))) h2 cs_RL_85 rfl (fun _ => rfl) (fun _ => ⟨trivial, trivial⟩) (fun _ => rfl) (Nat.le_of_ble_eq_true rfl) ⟨(Nat.le_of_ble_eq_true rfl), (Nat.le_of_ble_eq_true rfl)⟩ ⟨by show kc + 0 + 0 ≤ 600000; omega, by show ks + 0 + 0 ≤ room_1.slots; omega⟩ dL_law_751 ?_
  refine l_cmpeq (pc := 754) (tgt := 1516) dL_law_754 rfl rfl ?_
  refine l_wide (kc2 := kc + 62) (ks2 := ks + 12524) (by show kc + 0 + 0 ≤ kc + 62; omega) (by show ks + 0 + 0 ≤ ks + 12524; omega) ?_
  exact hk σ1 τ1 h3
theorem cs_RL_86 : CaV RL RX10 86 yX10_add cX10_add 4 (some .int) 2 := ⟨tw_2_228, tw_2_229, tw_2_230, tw_1_1, tw_2_231, rfl, by decide +kernel, by decide +kernel, by decide +kernel⟩
theorem cs_RL_89 : CaV RL RX11 89 yX11_add cX11_add 3 (some .int) 2 := ⟨tw_5_141, tw_5_142, tw_5_143, tw_1_5, tw_5_144, rfl, by decide +kernel, by decide +kernel, by decide +kernel⟩
set_option maxRecDepth 20000 in
set_option maxHeartbeats 4000000 in
theorem lw_c16 {N t : Nat} {Inv : Nat → rS → rS → Prop} (hq : EQ_add N Inv) {Γ : lX} {sc : Nat → Int32} {L : Nat} {Q : State → Prop} {kc ks i : Nat} {x : Int32} {σ τ : rS} (hx : x = nI i) (hi : i + 6 ≤ L) (hkc : kc + 62 ≤ 600000) (hks : ks + 12524 ≤ room_1.slots) (ht : t < 100) (hI : Inv t σ τ) (hk : ∀ σ τ, Inv (t + 1) σ τ → JL Γ sc L Q (kc + 62) (ks + 12524) 1516 x [] σ τ) : JL Γ sc L Q kc ks 759 x [] σ τ := by
  obtain ⟨r, σ1, τ1, h1, h2, h3⟩ := hq (sc (i + 1)) (sc (i + 2)) t σ τ ht hI
  refine l_al1 (pc := 759) dL_law_759 ?_
  refine l_arg (pc := 760) (z := 1) dL_law_760 dL_law_761 dL_law_762 dL_law_763 dL_law_764 (by decide) hx (by omega) ?_
  refine l_arg (pc := 765) (z := 2) dL_law_765 dL_law_766 dL_law_767 dL_law_768 dL_law_769 (by decide) hx (by omega) ?_
  refine l_callXI (pc := 770) (As := [aI (sc (i + 1)), aI (sc (i + 2))]) (Vs := [.int (sc (i + 1)), .int (sc (i + 2))]) (st := []) (Ws := []) (fun l => c10_add l 0 (sc (i + 1)) (sc (i + 2))) h1 cs_RL_86 rfl (fun _ => rfl) (fun _ => ⟨trivial, trivial, trivial⟩) (fun _ => rfl) (Nat.le_of_ble_eq_true rfl) ⟨(Nat.le_of_ble_eq_true rfl), (Nat.le_of_ble_eq_true rfl)⟩ ⟨by show kc + 0 ≤ 600000; omega, by show ks + 0 ≤ room_1.slots; omega⟩ dL_law_770 ?_
  refine l_al2 (pc := 773) dL_law_773 ?_
  refine l_arg (pc := 774) (z := 1) dL_law_774 dL_law_775 dL_law_776 dL_law_777 dL_law_778 (by decide) hx (by omega) ?_
  refine l_arg (pc := 779) (z := 2) dL_law_779 dL_law_780 dL_law_781 dL_law_782 dL_law_783 (by decide) hx (by omega) ?_
  refine l_callMI (pc := 784) (As := [aI (sc (i + 1)), aI (sc (i + 2))]) (Vs := [.int (sc (i + 1)), .int (sc (i + 2))]) (st := [aI r]) (Ws := [.int r]) (fun l => c11_add l 0 (sc (i + 1)) (sc (i + 2))) h2 cs_RL_89 rfl (fun _ => rfl) (fun _ => ⟨trivial, trivial, trivial⟩) (fun _ => rfl) (Nat.le_of_ble_eq_true rfl) ⟨(Nat.le_of_ble_eq_true rfl), (Nat.le_of_ble_eq_true rfl)⟩ ⟨by show kc + 0 + 0 ≤ 600000; omega, by show ks + 0 + 0 ≤ room_1.slots; omega⟩ dL_law_784 ?_
  refine l_cmpeq (pc := 787) (tgt := 1516) dL_law_787 rfl rfl ?_
  refine l_wide (kc2 := kc + 62) (ks2 := ks + 12524) (by show kc + 0 + 0 ≤ kc + 62; omega) (by show ks + 0 + 0 ≤ ks + 12524; omega) ?_
  exact hk σ1 τ1 h3
theorem cs_RL_90 : CaV RL RX10 90 yX10_end cX10_end 3 (some .int) 1 := ⟨tw_2_232, tw_2_233, tw_2_234, tw_1_1, tw_2_235, rfl, by decide +kernel, by decide +kernel, by decide +kernel⟩
theorem cs_RL_93 : CaV RL RX11 93 yX11_end cX11_end 2 (some .int) 1 := ⟨tw_5_145, tw_5_146, tw_5_147, tw_1_5, tw_5_148, rfl, by decide +kernel, by decide +kernel, by decide +kernel⟩
set_option maxRecDepth 20000 in
set_option maxHeartbeats 4000000 in
theorem lw_c17 {N t : Nat} {Inv : Nat → rS → rS → Prop} (hq : EQ_end N Inv) {Γ : lX} {sc : Nat → Int32} {L : Nat} {Q : State → Prop} {kc ks i : Nat} {x : Int32} {σ τ : rS} (hx : x = nI i) (hi : i + 6 ≤ L) (hkc : kc + 62 ≤ 600000) (hks : ks + 12524 ≤ room_1.slots) (ht : t < 100) (hI : Inv t σ τ) (hk : ∀ σ τ, Inv (t + 1) σ τ → JL Γ sc L Q (kc + 62) (ks + 12524) 1516 x [] σ τ) : JL Γ sc L Q kc ks 792 x [] σ τ := by
  obtain ⟨r, σ1, τ1, h1, h2, h3⟩ := hq (sc (i + 1)) t σ τ ht hI
  refine l_al1 (pc := 792) dL_law_792 ?_
  refine l_arg (pc := 793) (z := 1) dL_law_793 dL_law_794 dL_law_795 dL_law_796 dL_law_797 (by decide) hx (by omega) ?_
  refine l_callXI (pc := 798) (As := [aI (sc (i + 1))]) (Vs := [.int (sc (i + 1))]) (st := []) (Ws := []) (fun l => c10_end l 0 (sc (i + 1))) h1 cs_RL_90 rfl (fun _ => rfl) (fun _ => ⟨trivial, trivial⟩) (fun _ => rfl) (Nat.le_of_ble_eq_true rfl) ⟨(Nat.le_of_ble_eq_true rfl), (Nat.le_of_ble_eq_true rfl)⟩ ⟨by show kc + 0 ≤ 600000; omega, by show ks + 0 ≤ room_1.slots; omega⟩ dL_law_798 ?_
  refine l_al2 (pc := 801) dL_law_801 ?_
  refine l_arg (pc := 802) (z := 1) dL_law_802 dL_law_803 dL_law_804 dL_law_805 dL_law_806 (by decide) hx (by omega) ?_
  refine l_callMI (pc := 807) (As := [aI (sc (i + 1))]) (Vs := [.int (sc (i + 1))]) (st := [aI r]) (Ws := [.int r]) (fun l => c11_end l 0 (sc (i + 1))) h2 cs_RL_93 rfl (fun _ => rfl) (fun _ => ⟨trivial, trivial⟩) (fun _ => rfl) (Nat.le_of_ble_eq_true rfl) ⟨(Nat.le_of_ble_eq_true rfl), (Nat.le_of_ble_eq_true rfl)⟩ ⟨by show kc + 0 + 0 ≤ 600000; omega, by show ks + 0 + 0 ≤ room_1.slots; omega⟩ dL_law_807 ?_
  refine l_cmpeq (pc := 810) (tgt := 1516) dL_law_810 rfl rfl ?_
  refine l_wide (kc2 := kc + 62) (ks2 := ks + 12524) (by show kc + 0 + 0 ≤ kc + 62; omega) (by show ks + 0 + 0 ≤ ks + 12524; omega) ?_
  exact hk σ1 τ1 h3
theorem cs_RL_94 : CaV RL RX10 94 yX10_about cX10_about 4 (some .int) 2 := ⟨tw_2_236, tw_2_237, tw_2_238, tw_1_1, tw_2_239, rfl, by decide +kernel, by decide +kernel, by decide +kernel⟩
theorem cs_RL_97 : CaV RL RX11 97 yX11_about cX11_about 3 (some .int) 2 := ⟨tw_5_149, tw_5_150, tw_5_151, tw_1_5, tw_5_152, rfl, by decide +kernel, by decide +kernel, by decide +kernel⟩
set_option maxRecDepth 20000 in
set_option maxHeartbeats 4000000 in
theorem lw_c18 {N t : Nat} {Inv : Nat → rS → rS → Prop} (hq : EQ_about N Inv) {Γ : lX} {sc : Nat → Int32} {L : Nat} {Q : State → Prop} {kc ks i : Nat} {x : Int32} {σ τ : rS} (hx : x = nI i) (hi : i + 6 ≤ L) (hkc : kc + 62 ≤ 600000) (hks : ks + 12524 ≤ room_1.slots) (ht : t < 100) (hI : Inv t σ τ) (hk : ∀ σ τ, Inv (t + 1) σ τ → JL Γ sc L Q (kc + 62) (ks + 12524) 1516 x [] σ τ) : JL Γ sc L Q kc ks 815 x [] σ τ := by
  obtain ⟨r, σ1, τ1, h1, h2, h3⟩ := hq (sc (i + 1)) (sc (i + 2)) t σ τ ht hI
  refine l_al1 (pc := 815) dL_law_815 ?_
  refine l_arg (pc := 816) (z := 1) dL_law_816 dL_law_817 dL_law_818 dL_law_819 dL_law_820 (by decide) hx (by omega) ?_
  refine l_arg (pc := 821) (z := 2) dL_law_821 dL_law_822 dL_law_823 dL_law_824 dL_law_825 (by decide) hx (by omega) ?_
  refine l_callXI (pc := 826) (As := [aI (sc (i + 1)), aI (sc (i + 2))]) (Vs := [.int (sc (i + 1)), .int (sc (i + 2))]) (st := []) (Ws := []) (fun l => c10_about l N 0 (sc (i + 1)) (sc (i + 2))) h1 cs_RL_94 rfl (fun _ => rfl) (fun _ => ⟨trivial, trivial, trivial⟩) (fun _ => rfl) (Nat.le_of_ble_eq_true rfl) ⟨(Nat.le_of_ble_eq_true rfl), (Nat.le_of_ble_eq_true rfl)⟩ ⟨by show kc + 0 ≤ 600000; omega, by show ks + 0 ≤ room_1.slots; omega⟩ dL_law_826 ?_
  refine l_al2 (pc := 829) dL_law_829 ?_
  refine l_arg (pc := 830) (z := 1) dL_law_830 dL_law_831 dL_law_832 dL_law_833 dL_law_834 (by decide) hx (by omega) ?_
  refine l_arg (pc := 835) (z := 2) dL_law_835 dL_law_836 dL_law_837 dL_law_838 dL_law_839 (by decide) hx (by omega) ?_
  refine l_callMI (pc := 840) (As := [aI (sc (i + 1)), aI (sc (i + 2))]) (Vs := [.int (sc (i + 1)), .int (sc (i + 2))]) (st := [aI r]) (Ws := [.int r]) (fun l => c11_about l N 0 (sc (i + 1)) (sc (i + 2))) h2 cs_RL_97 rfl (fun _ => rfl) (fun _ => ⟨trivial, trivial, trivial⟩) (fun _ => rfl) (Nat.le_of_ble_eq_true rfl) ⟨(Nat.le_of_ble_eq_true rfl), (Nat.le_of_ble_eq_true rfl)⟩ ⟨by show kc + 0 + 0 ≤ 600000; omega, by show ks + 0 + 0 ≤ room_1.slots; omega⟩ dL_law_840 ?_
  refine l_cmpeq (pc := 843) (tgt := 1516) dL_law_843 rfl rfl ?_
  refine l_wide (kc2 := kc + 62) (ks2 := ks + 12524) (by show kc + 0 + 0 ≤ kc + 62; omega) (by show ks + 0 + 0 ≤ ks + 12524; omega) ?_
  exact hk σ1 τ1 h3
theorem cs_RL_98 : CaV RL RX10 98 yX10_at cX10_at 4 (some .int) 2 := ⟨tw_3_0, tw_3_1, tw_3_2, tw_1_1, tw_3_3, rfl, by decide +kernel, by decide +kernel, by decide +kernel⟩
theorem cs_RL_101 : CaV RL RX11 101 yX11_at cX11_at 3 (some .int) 2 := ⟨tw_5_153, tw_5_154, tw_5_155, tw_1_5, tw_5_156, rfl, by decide +kernel, by decide +kernel, by decide +kernel⟩
set_option maxRecDepth 20000 in
set_option maxHeartbeats 4000000 in
theorem lw_c19 {N t : Nat} {Inv : Nat → rS → rS → Prop} (hq : EQ_at N Inv) {Γ : lX} {sc : Nat → Int32} {L : Nat} {Q : State → Prop} {kc ks i : Nat} {x : Int32} {σ τ : rS} (hx : x = nI i) (hi : i + 6 ≤ L) (hkc : kc + 62 ≤ 600000) (hks : ks + 12524 ≤ room_1.slots) (ht : t < 100) (hI : Inv t σ τ) (hk : ∀ σ τ, Inv (t + 1) σ τ → JL Γ sc L Q (kc + 62) (ks + 12524) 1516 x [] σ τ) : JL Γ sc L Q kc ks 848 x [] σ τ := by
  obtain ⟨r, σ1, τ1, h1, h2, h3⟩ := hq (sc (i + 1)) (sc (i + 2)) t σ τ ht hI
  refine l_al1 (pc := 848) dL_law_848 ?_
  refine l_arg (pc := 849) (z := 1) dL_law_849 dL_law_850 dL_law_851 dL_law_852 dL_law_853 (by decide) hx (by omega) ?_
  refine l_arg (pc := 854) (z := 2) dL_law_854 dL_law_855 dL_law_856 dL_law_857 dL_law_858 (by decide) hx (by omega) ?_
  refine l_callXI (pc := 859) (As := [aI (sc (i + 1)), aI (sc (i + 2))]) (Vs := [.int (sc (i + 1)), .int (sc (i + 2))]) (st := []) (Ws := []) (fun l => c10_at l 0 (sc (i + 1)) (sc (i + 2))) h1 cs_RL_98 rfl (fun _ => rfl) (fun _ => ⟨trivial, trivial, trivial⟩) (fun _ => rfl) (Nat.le_of_ble_eq_true rfl) ⟨(Nat.le_of_ble_eq_true rfl), (Nat.le_of_ble_eq_true rfl)⟩ ⟨by show kc + 0 ≤ 600000; omega, by show ks + 0 ≤ room_1.slots; omega⟩ dL_law_859 ?_
  refine l_al2 (pc := 862) dL_law_862 ?_
  refine l_arg (pc := 863) (z := 1) dL_law_863 dL_law_864 dL_law_865 dL_law_866 dL_law_867 (by decide) hx (by omega) ?_
  refine l_arg (pc := 868) (z := 2) dL_law_868 dL_law_869 dL_law_870 dL_law_871 dL_law_872 (by decide) hx (by omega) ?_
  refine l_callMI (pc := 873) (As := [aI (sc (i + 1)), aI (sc (i + 2))]) (Vs := [.int (sc (i + 1)), .int (sc (i + 2))]) (st := [aI r]) (Ws := [.int r]) (fun l => c11_at l 0 (sc (i + 1)) (sc (i + 2))) h2 cs_RL_101 rfl (fun _ => rfl) (fun _ => ⟨trivial, trivial, trivial⟩) (fun _ => rfl) (Nat.le_of_ble_eq_true rfl) ⟨(Nat.le_of_ble_eq_true rfl), (Nat.le_of_ble_eq_true rfl)⟩ ⟨by show kc + 0 + 0 ≤ 600000; omega, by show ks + 0 + 0 ≤ room_1.slots; omega⟩ dL_law_873 ?_
  refine l_cmpeq (pc := 876) (tgt := 1516) dL_law_876 rfl rfl ?_
  refine l_wide (kc2 := kc + 62) (ks2 := ks + 12524) (by show kc + 0 + 0 ≤ kc + 62; omega) (by show ks + 0 + 0 ≤ ks + 12524; omega) ?_
  exact hk σ1 τ1 h3
theorem cs_RL_102 : CaV RL RX10 102 yX10_harm cX10_harm 5 (some .int) 3 := ⟨tw_3_13, tw_3_14, tw_3_15, tw_1_1, tw_3_16, rfl, by decide +kernel, by decide +kernel, by decide +kernel⟩
theorem cs_RL_105 : CaV RL RX11 105 yX11_harm cX11_harm 4 (some .int) 3 := ⟨tw_5_157, tw_5_158, tw_5_159, tw_1_5, tw_5_160, rfl, by decide +kernel, by decide +kernel, by decide +kernel⟩
set_option maxRecDepth 20000 in
set_option maxHeartbeats 4000000 in
theorem lw_c20 {N t : Nat} {Inv : Nat → rS → rS → Prop} (hq : EQ_harm N Inv) {Γ : lX} {sc : Nat → Int32} {L : Nat} {Q : State → Prop} {kc ks i : Nat} {x : Int32} {σ τ : rS} (hx : x = nI i) (hi : i + 6 ≤ L) (hkc : kc + 62 ≤ 600000) (hks : ks + 12524 ≤ room_1.slots) (ht : t < 100) (hI : Inv t σ τ) (hk : ∀ σ τ, Inv (t + 1) σ τ → JL Γ sc L Q (kc + 62) (ks + 12524) 1516 x [] σ τ) : JL Γ sc L Q kc ks 881 x [] σ τ := by
  obtain ⟨r, σ1, τ1, h1, h2, h3⟩ := hq (sc (i + 1)) (sc (i + 2)) (sc (i + 3)) t σ τ ht hI
  refine l_al1 (pc := 881) dL_law_881 ?_
  refine l_arg (pc := 882) (z := 1) dL_law_882 dL_law_883 dL_law_884 dL_law_885 dL_law_886 (by decide) hx (by omega) ?_
  refine l_arg (pc := 887) (z := 2) dL_law_887 dL_law_888 dL_law_889 dL_law_890 dL_law_891 (by decide) hx (by omega) ?_
  refine l_arg (pc := 892) (z := 3) dL_law_892 dL_law_893 dL_law_894 dL_law_895 dL_law_896 (by decide) hx (by omega) ?_
  refine l_callXI (pc := 897) (As := [aI (sc (i + 1)), aI (sc (i + 2)), aI (sc (i + 3))]) (Vs := [.int (sc (i + 1)), .int (sc (i + 2)), .int (sc (i + 3))]) (st := []) (Ws := []) (fun l => c10_harm l 0 (sc (i + 1)) (sc (i + 2)) (sc (i + 3))) h1 cs_RL_102 rfl (fun _ => rfl) (fun _ => ⟨trivial, trivial, trivial, trivial⟩) (fun _ => rfl) (Nat.le_of_ble_eq_true rfl) ⟨(Nat.le_of_ble_eq_true rfl), (Nat.le_of_ble_eq_true rfl)⟩ ⟨by show kc + 0 ≤ 600000; omega, by show ks + 0 ≤ room_1.slots; omega⟩ dL_law_897 ?_
  refine l_al2 (pc := 900) dL_law_900 ?_
  refine l_arg (pc := 901) (z := 1) dL_law_901 dL_law_902 dL_law_903 dL_law_904 dL_law_905 (by decide) hx (by omega) ?_
  refine l_arg (pc := 906) (z := 2) dL_law_906 dL_law_907 dL_law_908 dL_law_909 dL_law_910 (by decide) hx (by omega) ?_
  refine l_arg (pc := 911) (z := 3) dL_law_911 dL_law_912 dL_law_913 dL_law_914 dL_law_915 (by decide) hx (by omega) ?_
  refine l_callMI (pc := 916) (As := [aI (sc (i + 1)), aI (sc (i + 2)), aI (sc (i + 3))]) (Vs := [.int (sc (i + 1)), .int (sc (i + 2)), .int (sc (i + 3))]) (st := [aI r]) (Ws := [.int r]) (fun l => c11_harm l 0 (sc (i + 1)) (sc (i + 2)) (sc (i + 3))) h2 cs_RL_105 rfl (fun _ => rfl) (fun _ => ⟨trivial, trivial, trivial, trivial⟩) (fun _ => rfl) (Nat.le_of_ble_eq_true rfl) ⟨(Nat.le_of_ble_eq_true rfl), (Nat.le_of_ble_eq_true rfl)⟩ ⟨by show kc + 0 + 0 ≤ 600000; omega, by show ks + 0 + 0 ≤ room_1.slots; omega⟩ dL_law_916 ?_
  refine l_cmpeq (pc := 919) (tgt := 1516) dL_law_919 rfl rfl ?_
  refine l_wide (kc2 := kc + 62) (ks2 := ks + 12524) (by show kc + 0 + 0 ≤ kc + 62; omega) (by show ks + 0 + 0 ≤ ks + 12524; omega) ?_
  exact hk σ1 τ1 h3
theorem cs_RL_106 : CaV RL RX10 106 yX10_seek cX10_seek 5 (some .int) 2 := ⟨tw_3_17, tw_3_18, tw_3_19, tw_1_1, tw_3_20, rfl, by decide +kernel, by decide +kernel, by decide +kernel⟩
theorem cs_RL_109 : CaV RL RX11 109 yX11_seek cX11_seek 4 (some .int) 2 := ⟨tw_5_161, tw_5_162, tw_5_163, tw_1_5, tw_5_164, rfl, by decide +kernel, by decide +kernel, by decide +kernel⟩
set_option maxRecDepth 20000 in
set_option maxHeartbeats 4000000 in
theorem lw_c21 {N t : Nat} {Inv : Nat → rS → rS → Prop} (hq : EQ_seek N Inv) {Γ : lX} {sc : Nat → Int32} {L : Nat} {Q : State → Prop} {kc ks i : Nat} {x : Int32} {σ τ : rS} (hx : x = nI i) (hi : i + 6 ≤ L) (hkc : kc + 62 ≤ 600000) (hks : ks + 12524 ≤ room_1.slots) (ht : t < 100) (hI : Inv t σ τ) (hk : ∀ σ τ, Inv (t + 1) σ τ → JL Γ sc L Q (kc + 62) (ks + 12524) 1516 x [] σ τ) : JL Γ sc L Q kc ks 924 x [] σ τ := by
  obtain ⟨r, σ1, τ1, h1, h2, h3⟩ := hq (sc (i + 1)) (sc (i + 2)) t σ τ ht hI
  refine l_al1 (pc := 924) dL_law_924 ?_
  refine l_arg (pc := 925) (z := 1) dL_law_925 dL_law_926 dL_law_927 dL_law_928 dL_law_929 (by decide) hx (by omega) ?_
  refine l_arg (pc := 930) (z := 2) dL_law_930 dL_law_931 dL_law_932 dL_law_933 dL_law_934 (by decide) hx (by omega) ?_
  refine l_callXI (pc := 935) (As := [aI (sc (i + 1)), aI (sc (i + 2))]) (Vs := [.int (sc (i + 1)), .int (sc (i + 2))]) (st := []) (Ws := []) (fun l => c10_seek l 0 (sc (i + 1)) (sc (i + 2))) h1 cs_RL_106 rfl (fun _ => rfl) (fun _ => ⟨trivial, trivial, trivial⟩) (fun _ => rfl) (Nat.le_of_ble_eq_true rfl) ⟨(Nat.le_of_ble_eq_true rfl), (Nat.le_of_ble_eq_true rfl)⟩ ⟨by show kc + 0 ≤ 600000; omega, by show ks + 0 ≤ room_1.slots; omega⟩ dL_law_935 ?_
  refine l_al2 (pc := 938) dL_law_938 ?_
  refine l_arg (pc := 939) (z := 1) dL_law_939 dL_law_940 dL_law_941 dL_law_942 dL_law_943 (by decide) hx (by omega) ?_
  refine l_arg (pc := 944) (z := 2) dL_law_944 dL_law_945 dL_law_946 dL_law_947 dL_law_948 (by decide) hx (by omega) ?_
  refine l_callMI (pc := 949) (As := [aI (sc (i + 1)), aI (sc (i + 2))]) (Vs := [.int (sc (i + 1)), .int (sc (i + 2))]) (st := [aI r]) (Ws := [.int r]) (fun l => c11_seek l 0 (sc (i + 1)) (sc (i + 2))) h2 cs_RL_109 rfl (fun _ => rfl) (fun _ => ⟨trivial, trivial, trivial⟩) (fun _ => rfl) (Nat.le_of_ble_eq_true rfl) ⟨(Nat.le_of_ble_eq_true rfl), (Nat.le_of_ble_eq_true rfl)⟩ ⟨by show kc + 0 + 0 ≤ 600000; omega, by show ks + 0 + 0 ≤ room_1.slots; omega⟩ dL_law_949 ?_
  refine l_cmpeq (pc := 952) (tgt := 1516) dL_law_952 rfl rfl ?_
  refine l_wide (kc2 := kc + 62) (ks2 := ks + 12524) (by show kc + 0 + 0 ≤ kc + 62; omega) (by show ks + 0 + 0 ≤ ks + 12524; omega) ?_
  exact hk σ1 τ1 h3
theorem cs_RL_110 : CaV RL RX10 110 yX10_read cX10_read 5 (some .int) 1 := ⟨tw_3_21, tw_3_22, tw_3_23, tw_1_1, tw_3_24, rfl, by decide +kernel, by decide +kernel, by decide +kernel⟩
theorem cs_RL_113 : CaV RL RX11 113 yX11_read cX11_read 5 (some .int) 1 := ⟨tw_5_165, tw_5_166, tw_5_167, tw_1_5, tw_5_168, rfl, by decide +kernel, by decide +kernel, by decide +kernel⟩
set_option maxRecDepth 20000 in
set_option maxHeartbeats 4000000 in
theorem lw_c22 {N t : Nat} {Inv : Nat → rS → rS → Prop} (hq : EQ_read N Inv) {Γ : lX} {sc : Nat → Int32} {L : Nat} {Q : State → Prop} {kc ks i : Nat} {x : Int32} {σ τ : rS} (hx : x = nI i) (hi : i + 6 ≤ L) (hkc : kc + 62 ≤ 600000) (hks : ks + 12524 ≤ room_1.slots) (ht : t < 100) (hI : Inv t σ τ) (hk : ∀ σ τ, Inv (t + 1) σ τ → JL Γ sc L Q (kc + 62) (ks + 12524) 1516 x [] σ τ) : JL Γ sc L Q kc ks 957 x [] σ τ := by
  obtain ⟨r, σ1, τ1, h1, h2, h3⟩ := hq (sc (i + 1)) t σ τ ht hI
  refine l_al1 (pc := 957) dL_law_957 ?_
  refine l_arg (pc := 958) (z := 1) dL_law_958 dL_law_959 dL_law_960 dL_law_961 dL_law_962 (by decide) hx (by omega) ?_
  refine l_callXI (pc := 963) (As := [aI (sc (i + 1))]) (Vs := [.int (sc (i + 1))]) (st := []) (Ws := []) (fun l => c10_read l N 0 (sc (i + 1))) h1 cs_RL_110 rfl (fun _ => rfl) (fun _ => ⟨trivial, trivial⟩) (fun _ => rfl) (Nat.le_of_ble_eq_true rfl) ⟨(Nat.le_of_ble_eq_true rfl), (Nat.le_of_ble_eq_true rfl)⟩ ⟨by show kc + 2 ≤ 600000; omega, by show ks + 27 ≤ room_1.slots; omega⟩ dL_law_963 ?_
  refine l_al2 (pc := 966) dL_law_966 ?_
  refine l_arg (pc := 967) (z := 1) dL_law_967 dL_law_968 dL_law_969 dL_law_970 dL_law_971 (by decide) hx (by omega) ?_
  refine l_callMI (pc := 972) (As := [aI (sc (i + 1))]) (Vs := [.int (sc (i + 1))]) (st := [aI r]) (Ws := [.int r]) (fun l => c11_read l N 0 (sc (i + 1))) h2 cs_RL_113 rfl (fun _ => rfl) (fun _ => ⟨trivial, trivial⟩) (fun _ => rfl) (Nat.le_of_ble_eq_true rfl) ⟨(Nat.le_of_ble_eq_true rfl), (Nat.le_of_ble_eq_true rfl)⟩ ⟨by show kc + 2 + 0 ≤ 600000; omega, by show ks + 27 + 0 ≤ room_1.slots; omega⟩ dL_law_972 ?_
  refine l_cmpeq (pc := 975) (tgt := 1516) dL_law_975 rfl rfl ?_
  refine l_wide (kc2 := kc + 62) (ks2 := ks + 12524) (by show kc + 2 + 0 ≤ kc + 62; omega) (by show ks + 27 + 0 ≤ ks + 12524; omega) ?_
  exact hk σ1 τ1 h3
theorem cs_RL_114 : CaV RL RX10 114 yX10_pieces cX10_pieces 5 (some .int) 1 := ⟨tw_3_73, tw_3_74, tw_3_75, tw_1_1, tw_3_76, rfl, by decide +kernel, by decide +kernel, by decide +kernel⟩
theorem cs_RL_117 : CaV RL RX11 117 yX11_pieces cX11_pieces 4 (some .int) 1 := ⟨tw_5_182, tw_5_183, tw_5_184, tw_1_5, tw_5_185, rfl, by decide +kernel, by decide +kernel, by decide +kernel⟩
set_option maxRecDepth 20000 in
set_option maxHeartbeats 4000000 in
theorem lw_c23 {N t : Nat} {Inv : Nat → rS → rS → Prop} (hq : EQ_pieces N Inv) {Γ : lX} {sc : Nat → Int32} {L : Nat} {Q : State → Prop} {kc ks i : Nat} {x : Int32} {σ τ : rS} (hx : x = nI i) (hi : i + 6 ≤ L) (hkc : kc + 62 ≤ 600000) (hks : ks + 12524 ≤ room_1.slots) (ht : t < 100) (hI : Inv t σ τ) (hk : ∀ σ τ, Inv (t + 1) σ τ → JL Γ sc L Q (kc + 62) (ks + 12524) 1516 x [] σ τ) : JL Γ sc L Q kc ks 980 x [] σ τ := by
  obtain ⟨r, σ1, τ1, h1, h2, h3⟩ := hq (sc (i + 1)) t σ τ ht hI
  refine l_al1 (pc := 980) dL_law_980 ?_
  refine l_arg (pc := 981) (z := 1) dL_law_981 dL_law_982 dL_law_983 dL_law_984 dL_law_985 (by decide) hx (by omega) ?_
  refine l_callXI (pc := 986) (As := [aI (sc (i + 1))]) (Vs := [.int (sc (i + 1))]) (st := []) (Ws := []) (fun l => c10_pieces l N 0 (sc (i + 1))) h1 cs_RL_114 rfl (fun _ => rfl) (fun _ => ⟨trivial, trivial⟩) (fun _ => rfl) (Nat.le_of_ble_eq_true rfl) ⟨(Nat.le_of_ble_eq_true rfl), (Nat.le_of_ble_eq_true rfl)⟩ ⟨by show kc + 0 ≤ 600000; omega, by show ks + 0 ≤ room_1.slots; omega⟩ dL_law_986 ?_
  refine l_al2 (pc := 989) dL_law_989 ?_
  refine l_arg (pc := 990) (z := 1) dL_law_990 dL_law_991 dL_law_992 dL_law_993 dL_law_994 (by decide) hx (by omega) ?_
  refine l_callMI (pc := 995) (As := [aI (sc (i + 1))]) (Vs := [.int (sc (i + 1))]) (st := [aI r]) (Ws := [.int r]) (fun l => c11_pieces l N 0 (sc (i + 1))) h2 cs_RL_117 rfl (fun _ => rfl) (fun _ => ⟨trivial, trivial⟩) (fun _ => rfl) (Nat.le_of_ble_eq_true rfl) ⟨(Nat.le_of_ble_eq_true rfl), (Nat.le_of_ble_eq_true rfl)⟩ ⟨by show kc + 0 + 0 ≤ 600000; omega, by show ks + 0 + 0 ≤ room_1.slots; omega⟩ dL_law_995 ?_
  refine l_cmpeq (pc := 998) (tgt := 1516) dL_law_998 rfl rfl ?_
  refine l_wide (kc2 := kc + 62) (ks2 := ks + 12524) (by show kc + 0 + 0 ≤ kc + 62; omega) (by show ks + 0 + 0 ≤ ks + 12524; omega) ?_
  exact hk σ1 τ1 h3
theorem cs_RL_118 : CaV RL RX10 118 yX10_house cX10_house 1 (some .int) 0 := ⟨tw_3_77, tw_3_78, tw_3_79, tw_1_1, tw_3_80, rfl, by decide +kernel, by decide +kernel, by decide +kernel⟩
theorem cs_RL_121 : CaV RL RX11 121 yX11_house cX11_house 1 (some .int) 0 := ⟨tw_5_186, tw_5_187, tw_5_188, tw_1_5, tw_5_189, rfl, by decide +kernel, by decide +kernel, by decide +kernel⟩
set_option maxRecDepth 20000 in
set_option maxHeartbeats 4000000 in
theorem lw_c24 {N t : Nat} {Inv : Nat → rS → rS → Prop} (hq : EQ_house N Inv) {Γ : lX} {sc : Nat → Int32} {L : Nat} {Q : State → Prop} {kc ks i : Nat} {x : Int32} {σ τ : rS} (hx : x = nI i) (hi : i + 6 ≤ L) (hkc : kc + 62 ≤ 600000) (hks : ks + 12524 ≤ room_1.slots) (ht : t < 100) (hI : Inv t σ τ) (hk : ∀ σ τ, Inv (t + 1) σ τ → JL Γ sc L Q (kc + 62) (ks + 12524) 1516 x [] σ τ) : JL Γ sc L Q kc ks 1003 x [] σ τ := by
  obtain ⟨r, σ1, τ1, h1, h2, h3⟩ := hq t σ τ ht hI
  refine l_al1 (pc := 1003) dL_law_1003 ?_
  refine l_callXI (pc := 1004) (As := []) (Vs := []) (st := []) (Ws := []) (fun l => c10_house l 0) h1 cs_RL_118 rfl (fun _ => rfl) (fun _ => trivial) (fun _ => rfl) (Nat.le_of_ble_eq_true rfl) ⟨(Nat.le_of_ble_eq_true rfl), (Nat.le_of_ble_eq_true rfl)⟩ ⟨by show kc + 3 ≤ 600000; omega, by show ks + 27 ≤ room_1.slots; omega⟩ dL_law_1004 ?_
  refine l_al2 (pc := 1007) dL_law_1007 ?_
  refine l_callMI (pc := 1008) (As := []) (Vs := []) (st := [aI r]) (Ws := [.int r]) (fun l => c11_house l 0) h2 cs_RL_121 rfl (fun _ => rfl) (fun _ => trivial) (fun _ => rfl) (Nat.le_of_ble_eq_true rfl) ⟨(Nat.le_of_ble_eq_true rfl), (Nat.le_of_ble_eq_true rfl)⟩ ⟨by show kc + 3 + 0 ≤ 600000; omega, by show ks + 27 + 0 ≤ room_1.slots; omega⟩ dL_law_1008 ?_
  refine l_cmpeq (pc := 1011) (tgt := 1516) dL_law_1011 rfl rfl ?_
  refine l_wide (kc2 := kc + 62) (ks2 := ks + 12524) (by show kc + 3 + 0 ≤ kc + 62; omega) (by show ks + 27 + 0 ≤ ks + 12524; omega) ?_
  exact hk σ1 τ1 h3
theorem cs_RL_122 : CaV RL RX10 122 yX10_keep cX10_keep 9 (some .int) 3 := ⟨tw_3_100, tw_3_101, tw_3_102, tw_1_1, tw_3_103, rfl, by decide +kernel, by decide +kernel, by decide +kernel⟩
theorem cs_RL_126 : CaV RL RX11 126 yX11_keep cX11_keep 8 (some .int) 3 := ⟨tw_5_190, tw_5_191, tw_5_192, tw_1_5, tw_5_193, rfl, by decide +kernel, by decide +kernel, by decide +kernel⟩
set_option maxRecDepth 20000 in
set_option maxHeartbeats 4000000 in
theorem lw_c25 {N t : Nat} {Inv : Nat → rS → rS → Prop} (hq : EQ_keep N Inv) {Γ : lX} {sc : Nat → Int32} {L : Nat} {Q : State → Prop} {kc ks i : Nat} {x : Int32} {σ τ : rS} (hx : x = nI i) (hi : i + 6 ≤ L) (hkc : kc + 62 ≤ 600000) (hks : ks + 12524 ≤ room_1.slots) (ht : t < 100) (hI : Inv t σ τ) (hk : ∀ σ τ, Inv (t + 1) σ τ → JL Γ sc L Q (kc + 62) (ks + 12524) 1516 x [] σ τ) : JL Γ sc L Q kc ks 1016 x [] σ τ := by
  obtain ⟨r, σ1, τ1, h1, h2, h3⟩ := hq (sc (i + 1)) (((Int32.toInt64 (sc (i + 2))) <<< (Int32.toInt64 32 &&& 63)) ||| ((Int32.toInt64 (sc (i + 3))) &&& 4294967295)) (sc (i + 4)) t σ τ ht hI
  refine l_al1 (pc := 1016) dL_law_1016 ?_
  refine l_arg (pc := 1017) (z := 1) dL_law_1017 dL_law_1018 dL_law_1019 dL_law_1020 dL_law_1021 (by decide) hx (by omega) ?_
  refine l_arg (pc := 1022) (z := 2) dL_law_1022 dL_law_1023 dL_law_1024 dL_law_1025 dL_law_1026 (by decide) hx (by omega) ?_
  refine l_i2l (pc := 1027) dL_law_1027 ?_
  refine l_bipush (pc := 1028) (v := 32) (by decide) dL_law_1028 ?_
  refine l_lshl (pc := 1030) dL_law_1030 ?_
  refine l_arg (pc := 1031) (z := 3) dL_law_1031 dL_law_1032 dL_law_1033 dL_law_1034 dL_law_1035 (by decide) hx (by omega) ?_
  refine l_i2l (pc := 1036) dL_law_1036 ?_
  refine l_ldc2 (pc := 1037) tw_6_41 dL_law_1037 ?_
  refine l_land (pc := 1040) dL_law_1040 ?_
  refine l_lor (pc := 1041) dL_law_1041 ?_
  refine l_arg (pc := 1042) (z := 4) dL_law_1042 dL_law_1043 dL_law_1044 dL_law_1045 dL_law_1046 (by decide) hx (by omega) ?_
  refine l_callXI (pc := 1047) (As := [aI (sc (i + 1)), aL (((Int32.toInt64 (sc (i + 2))) <<< (Int32.toInt64 32 &&& 63)) ||| ((Int32.toInt64 (sc (i + 3))) &&& 4294967295)), aI (sc (i + 4))]) (Vs := [.int (sc (i + 1)), .long (((Int32.toInt64 (sc (i + 2))) <<< (Int32.toInt64 32 &&& 63)) ||| ((Int32.toInt64 (sc (i + 3))) &&& 4294967295)), .int (sc (i + 4))]) (st := []) (Ws := []) (fun l => c10_keep l N 0 (sc (i + 1)) (((Int32.toInt64 (sc (i + 2))) <<< (Int32.toInt64 32 &&& 63)) ||| ((Int32.toInt64 (sc (i + 3))) &&& 4294967295)) (sc (i + 4))) h1 cs_RL_122 rfl (fun _ => rfl) (fun _ => ⟨trivial, trivial, trivial, trivial⟩) (fun _ => rfl) (Nat.le_of_ble_eq_true rfl) ⟨(Nat.le_of_ble_eq_true rfl), (Nat.le_of_ble_eq_true rfl)⟩ ⟨by show kc + 62 ≤ 600000; omega, by show ks + 12524 ≤ room_1.slots; omega⟩ dL_law_1047 ?_
  refine l_al2 (pc := 1050) dL_law_1050 ?_
  refine l_arg (pc := 1051) (z := 1) dL_law_1051 dL_law_1052 dL_law_1053 dL_law_1054 dL_law_1055 (by decide) hx (by omega) ?_
  refine l_arg (pc := 1056) (z := 2) dL_law_1056 dL_law_1057 dL_law_1058 dL_law_1059 dL_law_1060 (by decide) hx (by omega) ?_
  refine l_i2l (pc := 1061) dL_law_1061 ?_
  refine l_bipush (pc := 1062) (v := 32) (by decide) dL_law_1062 ?_
  refine l_lshl (pc := 1064) dL_law_1064 ?_
  refine l_arg (pc := 1065) (z := 3) dL_law_1065 dL_law_1066 dL_law_1067 dL_law_1068 dL_law_1069 (by decide) hx (by omega) ?_
  refine l_i2l (pc := 1070) dL_law_1070 ?_
  refine l_ldc2 (pc := 1071) tw_6_41 dL_law_1071 ?_
  refine l_land (pc := 1074) dL_law_1074 ?_
  refine l_lor (pc := 1075) dL_law_1075 ?_
  refine l_arg (pc := 1076) (z := 4) dL_law_1076 dL_law_1077 dL_law_1078 dL_law_1079 dL_law_1080 (by decide) hx (by omega) ?_
  refine l_callMI (pc := 1081) (As := [aI (sc (i + 1)), aL (((Int32.toInt64 (sc (i + 2))) <<< (Int32.toInt64 32 &&& 63)) ||| ((Int32.toInt64 (sc (i + 3))) &&& 4294967295)), aI (sc (i + 4))]) (Vs := [.int (sc (i + 1)), .long (((Int32.toInt64 (sc (i + 2))) <<< (Int32.toInt64 32 &&& 63)) ||| ((Int32.toInt64 (sc (i + 3))) &&& 4294967295)), .int (sc (i + 4))]) (st := [aI r]) (Ws := [.int r]) (fun l => c11_keep l N 0 (sc (i + 1)) (((Int32.toInt64 (sc (i + 2))) <<< (Int32.toInt64 32 &&& 63)) ||| ((Int32.toInt64 (sc (i + 3))) &&& 4294967295)) (sc (i + 4))) h2 cs_RL_126 rfl (fun _ => rfl) (fun _ => ⟨trivial, trivial, trivial, trivial⟩) (fun _ => rfl) (Nat.le_of_ble_eq_true rfl) ⟨(Nat.le_of_ble_eq_true rfl), (Nat.le_of_ble_eq_true rfl)⟩ ⟨by show kc + 62 + 0 ≤ 600000; omega, by show ks + 12524 + 0 ≤ room_1.slots; omega⟩ dL_law_1081 ?_
  refine l_cmpeq (pc := 1084) (tgt := 1516) dL_law_1084 rfl rfl ?_
  refine l_wide (kc2 := kc + 62) (ks2 := ks + 12524) (by show kc + 62 + 0 ≤ kc + 62; omega) (by show ks + 12524 + 0 ≤ ks + 12524; omega) ?_
  exact hk σ1 τ1 h3
theorem cs_RL_127 : CaV RL RX10 127 yX10_find cX10_find 6 (some .int) 2 := ⟨tw_3_153, tw_3_154, tw_3_155, tw_1_1, tw_3_156, rfl, by decide +kernel, by decide +kernel, by decide +kernel⟩
theorem cs_RL_131 : CaV RL RX11 131 yX11_find cX11_find 5 (some .int) 2 := ⟨tw_5_214, tw_5_215, tw_5_216, tw_1_5, tw_5_217, rfl, by decide +kernel, by decide +kernel, by decide +kernel⟩
set_option maxRecDepth 20000 in
set_option maxHeartbeats 4000000 in
theorem lw_c26 {N t : Nat} {Inv : Nat → rS → rS → Prop} (hq : EQ_find N Inv) {Γ : lX} {sc : Nat → Int32} {L : Nat} {Q : State → Prop} {kc ks i : Nat} {x : Int32} {σ τ : rS} (hx : x = nI i) (hi : i + 6 ≤ L) (hkc : kc + 62 ≤ 600000) (hks : ks + 12524 ≤ room_1.slots) (ht : t < 100) (hI : Inv t σ τ) (hk : ∀ σ τ, Inv (t + 1) σ τ → JL Γ sc L Q (kc + 62) (ks + 12524) 1516 x [] σ τ) : JL Γ sc L Q kc ks 1089 x [] σ τ := by
  obtain ⟨r, σ1, τ1, h1, h2, h3⟩ := hq (sc (i + 1)) (((Int32.toInt64 (sc (i + 2))) <<< (Int32.toInt64 32 &&& 63)) ||| ((Int32.toInt64 (sc (i + 3))) &&& 4294967295)) t σ τ ht hI
  refine l_al1 (pc := 1089) dL_law_1089 ?_
  refine l_arg (pc := 1090) (z := 1) dL_law_1090 dL_law_1091 dL_law_1092 dL_law_1093 dL_law_1094 (by decide) hx (by omega) ?_
  refine l_arg (pc := 1095) (z := 2) dL_law_1095 dL_law_1096 dL_law_1097 dL_law_1098 dL_law_1099 (by decide) hx (by omega) ?_
  refine l_i2l (pc := 1100) dL_law_1100 ?_
  refine l_bipush (pc := 1101) (v := 32) (by decide) dL_law_1101 ?_
  refine l_lshl (pc := 1103) dL_law_1103 ?_
  refine l_arg (pc := 1104) (z := 3) dL_law_1104 dL_law_1105 dL_law_1106 dL_law_1107 dL_law_1108 (by decide) hx (by omega) ?_
  refine l_i2l (pc := 1109) dL_law_1109 ?_
  refine l_ldc2 (pc := 1110) tw_6_41 dL_law_1110 ?_
  refine l_land (pc := 1113) dL_law_1113 ?_
  refine l_lor (pc := 1114) dL_law_1114 ?_
  refine l_callXI (pc := 1115) (As := [aI (sc (i + 1)), aL (((Int32.toInt64 (sc (i + 2))) <<< (Int32.toInt64 32 &&& 63)) ||| ((Int32.toInt64 (sc (i + 3))) &&& 4294967295))]) (Vs := [.int (sc (i + 1)), .long (((Int32.toInt64 (sc (i + 2))) <<< (Int32.toInt64 32 &&& 63)) ||| ((Int32.toInt64 (sc (i + 3))) &&& 4294967295))]) (st := []) (Ws := []) (fun l => c10_find l N 0 (sc (i + 1)) (((Int32.toInt64 (sc (i + 2))) <<< (Int32.toInt64 32 &&& 63)) ||| ((Int32.toInt64 (sc (i + 3))) &&& 4294967295))) h1 cs_RL_127 rfl (fun _ => rfl) (fun _ => ⟨trivial, trivial, trivial⟩) (fun _ => rfl) (Nat.le_of_ble_eq_true rfl) ⟨(Nat.le_of_ble_eq_true rfl), (Nat.le_of_ble_eq_true rfl)⟩ ⟨by show kc + 0 ≤ 600000; omega, by show ks + 0 ≤ room_1.slots; omega⟩ dL_law_1115 ?_
  refine l_al2 (pc := 1118) dL_law_1118 ?_
  refine l_arg (pc := 1119) (z := 1) dL_law_1119 dL_law_1120 dL_law_1121 dL_law_1122 dL_law_1123 (by decide) hx (by omega) ?_
  refine l_arg (pc := 1124) (z := 2) dL_law_1124 dL_law_1125 dL_law_1126 dL_law_1127 dL_law_1128 (by decide) hx (by omega) ?_
  refine l_i2l (pc := 1129) dL_law_1129 ?_
  refine l_bipush (pc := 1130) (v := 32) (by decide) dL_law_1130 ?_
  refine l_lshl (pc := 1132) dL_law_1132 ?_
  refine l_arg (pc := 1133) (z := 3) dL_law_1133 dL_law_1134 dL_law_1135 dL_law_1136 dL_law_1137 (by decide) hx (by omega) ?_
  refine l_i2l (pc := 1138) dL_law_1138 ?_
  refine l_ldc2 (pc := 1139) tw_6_41 dL_law_1139 ?_
  refine l_land (pc := 1142) dL_law_1142 ?_
  refine l_lor (pc := 1143) dL_law_1143 ?_
  refine l_callMI (pc := 1144) (As := [aI (sc (i + 1)), aL (((Int32.toInt64 (sc (i + 2))) <<< (Int32.toInt64 32 &&& 63)) ||| ((Int32.toInt64 (sc (i + 3))) &&& 4294967295))]) (Vs := [.int (sc (i + 1)), .long (((Int32.toInt64 (sc (i + 2))) <<< (Int32.toInt64 32 &&& 63)) ||| ((Int32.toInt64 (sc (i + 3))) &&& 4294967295))]) (st := [aI r]) (Ws := [.int r]) (fun l => c11_find l N 0 (sc (i + 1)) (((Int32.toInt64 (sc (i + 2))) <<< (Int32.toInt64 32 &&& 63)) ||| ((Int32.toInt64 (sc (i + 3))) &&& 4294967295))) h2 cs_RL_131 rfl (fun _ => rfl) (fun _ => ⟨trivial, trivial, trivial⟩) (fun _ => rfl) (Nat.le_of_ble_eq_true rfl) ⟨(Nat.le_of_ble_eq_true rfl), (Nat.le_of_ble_eq_true rfl)⟩ ⟨by show kc + 0 + 0 ≤ 600000; omega, by show ks + 0 + 0 ≤ room_1.slots; omega⟩ dL_law_1144 ?_
  refine l_cmpeq (pc := 1147) (tgt := 1516) dL_law_1147 rfl rfl ?_
  refine l_wide (kc2 := kc + 62) (ks2 := ks + 12524) (by show kc + 0 + 0 ≤ kc + 62; omega) (by show ks + 0 + 0 ≤ ks + 12524; omega) ?_
  exact hk σ1 τ1 h3
theorem cs_RL_132 : CaV RL RX10 132 yX10_drop cX10_drop 7 (some .int) 2 := ⟨tw_3_157, tw_3_158, tw_3_159, tw_1_1, tw_3_160, rfl, by decide +kernel, by decide +kernel, by decide +kernel⟩
theorem cs_RL_135 : CaV RL RX11 135 yX11_drop cX11_drop 7 (some .int) 2 := ⟨tw_5_218, tw_5_219, tw_5_220, tw_1_5, tw_5_221, rfl, by decide +kernel, by decide +kernel, by decide +kernel⟩
set_option maxRecDepth 20000 in
set_option maxHeartbeats 4000000 in
theorem lw_c27 {N t : Nat} {Inv : Nat → rS → rS → Prop} (hq : EQ_drop N Inv) {Γ : lX} {sc : Nat → Int32} {L : Nat} {Q : State → Prop} {kc ks i : Nat} {x : Int32} {σ τ : rS} (hx : x = nI i) (hi : i + 6 ≤ L) (hkc : kc + 62 ≤ 600000) (hks : ks + 12524 ≤ room_1.slots) (ht : t < 100) (hI : Inv t σ τ) (hk : ∀ σ τ, Inv (t + 1) σ τ → JL Γ sc L Q (kc + 62) (ks + 12524) 1516 x [] σ τ) : JL Γ sc L Q kc ks 1152 x [] σ τ := by
  obtain ⟨r, σ1, τ1, h1, h2, h3⟩ := hq (sc (i + 1)) (((Int32.toInt64 (sc (i + 2))) <<< (Int32.toInt64 32 &&& 63)) ||| ((Int32.toInt64 (sc (i + 3))) &&& 4294967295)) t σ τ ht hI
  refine l_al1 (pc := 1152) dL_law_1152 ?_
  refine l_arg (pc := 1153) (z := 1) dL_law_1153 dL_law_1154 dL_law_1155 dL_law_1156 dL_law_1157 (by decide) hx (by omega) ?_
  refine l_arg (pc := 1158) (z := 2) dL_law_1158 dL_law_1159 dL_law_1160 dL_law_1161 dL_law_1162 (by decide) hx (by omega) ?_
  refine l_i2l (pc := 1163) dL_law_1163 ?_
  refine l_bipush (pc := 1164) (v := 32) (by decide) dL_law_1164 ?_
  refine l_lshl (pc := 1166) dL_law_1166 ?_
  refine l_arg (pc := 1167) (z := 3) dL_law_1167 dL_law_1168 dL_law_1169 dL_law_1170 dL_law_1171 (by decide) hx (by omega) ?_
  refine l_i2l (pc := 1172) dL_law_1172 ?_
  refine l_ldc2 (pc := 1173) tw_6_41 dL_law_1173 ?_
  refine l_land (pc := 1176) dL_law_1176 ?_
  refine l_lor (pc := 1177) dL_law_1177 ?_
  refine l_callXI (pc := 1178) (As := [aI (sc (i + 1)), aL (((Int32.toInt64 (sc (i + 2))) <<< (Int32.toInt64 32 &&& 63)) ||| ((Int32.toInt64 (sc (i + 3))) &&& 4294967295))]) (Vs := [.int (sc (i + 1)), .long (((Int32.toInt64 (sc (i + 2))) <<< (Int32.toInt64 32 &&& 63)) ||| ((Int32.toInt64 (sc (i + 3))) &&& 4294967295))]) (st := []) (Ws := []) (fun l => c10_drop l N 0 (sc (i + 1)) (((Int32.toInt64 (sc (i + 2))) <<< (Int32.toInt64 32 &&& 63)) ||| ((Int32.toInt64 (sc (i + 3))) &&& 4294967295))) h1 cs_RL_132 rfl (fun _ => rfl) (fun _ => ⟨trivial, trivial, trivial⟩) (fun _ => rfl) (Nat.le_of_ble_eq_true rfl) ⟨(Nat.le_of_ble_eq_true rfl), (Nat.le_of_ble_eq_true rfl)⟩ ⟨by show kc + 0 ≤ 600000; omega, by show ks + 0 ≤ room_1.slots; omega⟩ dL_law_1178 ?_
  refine l_al2 (pc := 1181) dL_law_1181 ?_
  refine l_arg (pc := 1182) (z := 1) dL_law_1182 dL_law_1183 dL_law_1184 dL_law_1185 dL_law_1186 (by decide) hx (by omega) ?_
  refine l_arg (pc := 1187) (z := 2) dL_law_1187 dL_law_1188 dL_law_1189 dL_law_1190 dL_law_1191 (by decide) hx (by omega) ?_
  refine l_i2l (pc := 1192) dL_law_1192 ?_
  refine l_bipush (pc := 1193) (v := 32) (by decide) dL_law_1193 ?_
  refine l_lshl (pc := 1195) dL_law_1195 ?_
  refine l_arg (pc := 1196) (z := 3) dL_law_1196 dL_law_1197 dL_law_1198 dL_law_1199 dL_law_1200 (by decide) hx (by omega) ?_
  refine l_i2l (pc := 1201) dL_law_1201 ?_
  refine l_ldc2 (pc := 1202) tw_6_41 dL_law_1202 ?_
  refine l_land (pc := 1205) dL_law_1205 ?_
  refine l_lor (pc := 1206) dL_law_1206 ?_
  refine l_callMI (pc := 1207) (As := [aI (sc (i + 1)), aL (((Int32.toInt64 (sc (i + 2))) <<< (Int32.toInt64 32 &&& 63)) ||| ((Int32.toInt64 (sc (i + 3))) &&& 4294967295))]) (Vs := [.int (sc (i + 1)), .long (((Int32.toInt64 (sc (i + 2))) <<< (Int32.toInt64 32 &&& 63)) ||| ((Int32.toInt64 (sc (i + 3))) &&& 4294967295))]) (st := [aI r]) (Ws := [.int r]) (fun l => c11_drop l N 0 (sc (i + 1)) (((Int32.toInt64 (sc (i + 2))) <<< (Int32.toInt64 32 &&& 63)) ||| ((Int32.toInt64 (sc (i + 3))) &&& 4294967295))) h2 cs_RL_135 rfl (fun _ => rfl) (fun _ => ⟨trivial, trivial, trivial⟩) (fun _ => rfl) (Nat.le_of_ble_eq_true rfl) ⟨(Nat.le_of_ble_eq_true rfl), (Nat.le_of_ble_eq_true rfl)⟩ ⟨by show kc + 0 + 0 ≤ 600000; omega, by show ks + 0 + 0 ≤ room_1.slots; omega⟩ dL_law_1207 ?_
  refine l_cmpeq (pc := 1210) (tgt := 1516) dL_law_1210 rfl rfl ?_
  refine l_wide (kc2 := kc + 62) (ks2 := ks + 12524) (by show kc + 0 + 0 ≤ kc + 62; omega) (by show ks + 0 + 0 ≤ ks + 12524; omega) ?_
  exact hk σ1 τ1 h3
theorem cs_RL_136 : CaV RL RX10 136 yX10_list cX10_list 4 (some .int) 2 := ⟨tw_3_165, tw_3_166, tw_3_167, tw_1_1, tw_3_168, rfl, by decide +kernel, by decide +kernel, by decide +kernel⟩
theorem cs_RL_139 : CaV RL RX11 139 yX11_list cX11_list 3 (some .int) 2 := ⟨tw_5_222, tw_5_223, tw_5_224, tw_1_5, tw_5_225, rfl, by decide +kernel, by decide +kernel, by decide +kernel⟩
set_option maxRecDepth 20000 in
set_option maxHeartbeats 4000000 in
theorem lw_c28 {N t : Nat} {Inv : Nat → rS → rS → Prop} (hq : EQ_list N Inv) {Γ : lX} {sc : Nat → Int32} {L : Nat} {Q : State → Prop} {kc ks i : Nat} {x : Int32} {σ τ : rS} (hx : x = nI i) (hi : i + 6 ≤ L) (hkc : kc + 62 ≤ 600000) (hks : ks + 12524 ≤ room_1.slots) (ht : t < 100) (hI : Inv t σ τ) (hk : ∀ σ τ, Inv (t + 1) σ τ → JL Γ sc L Q (kc + 62) (ks + 12524) 1516 x [] σ τ) : JL Γ sc L Q kc ks 1215 x [] σ τ := by
  obtain ⟨r, σ1, τ1, h1, h2, h3⟩ := hq (sc (i + 1)) (sc (i + 2)) t σ τ ht hI
  refine l_al1 (pc := 1215) dL_law_1215 ?_
  refine l_arg (pc := 1216) (z := 1) dL_law_1216 dL_law_1217 dL_law_1218 dL_law_1219 dL_law_1220 (by decide) hx (by omega) ?_
  refine l_arg (pc := 1221) (z := 2) dL_law_1221 dL_law_1222 dL_law_1223 dL_law_1224 dL_law_1225 (by decide) hx (by omega) ?_
  refine l_callXI (pc := 1226) (As := [aI (sc (i + 1)), aI (sc (i + 2))]) (Vs := [.int (sc (i + 1)), .int (sc (i + 2))]) (st := []) (Ws := []) (fun l => c10_list l 0 (sc (i + 1)) (sc (i + 2))) h1 cs_RL_136 rfl (fun _ => rfl) (fun _ => ⟨trivial, trivial, trivial⟩) (fun _ => rfl) (Nat.le_of_ble_eq_true rfl) ⟨(Nat.le_of_ble_eq_true rfl), (Nat.le_of_ble_eq_true rfl)⟩ ⟨by show kc + 0 ≤ 600000; omega, by show ks + 0 ≤ room_1.slots; omega⟩ dL_law_1226 ?_
  refine l_al2 (pc := 1229) dL_law_1229 ?_
  refine l_arg (pc := 1230) (z := 1) dL_law_1230 dL_law_1231 dL_law_1232 dL_law_1233 dL_law_1234 (by decide) hx (by omega) ?_
  refine l_arg (pc := 1235) (z := 2) dL_law_1235 dL_law_1236 dL_law_1237 dL_law_1238 dL_law_1239 (by decide) hx (by omega) ?_
  refine l_callMI (pc := 1240) (As := [aI (sc (i + 1)), aI (sc (i + 2))]) (Vs := [.int (sc (i + 1)), .int (sc (i + 2))]) (st := [aI r]) (Ws := [.int r]) (fun l => c11_list l 0 (sc (i + 1)) (sc (i + 2))) h2 cs_RL_139 rfl (fun _ => rfl) (fun _ => ⟨trivial, trivial, trivial⟩) (fun _ => rfl) (Nat.le_of_ble_eq_true rfl) ⟨(Nat.le_of_ble_eq_true rfl), (Nat.le_of_ble_eq_true rfl)⟩ ⟨by show kc + 0 + 0 ≤ 600000; omega, by show ks + 0 + 0 ≤ room_1.slots; omega⟩ dL_law_1240 ?_
  refine l_cmpeq (pc := 1243) (tgt := 1516) dL_law_1243 rfl rfl ?_
  refine l_wide (kc2 := kc + 62) (ks2 := ks + 12524) (by show kc + 0 + 0 ≤ kc + 62; omega) (by show ks + 0 + 0 ≤ ks + 12524; omega) ?_
  exact hk σ1 τ1 h3
theorem cs_RL_140 : CaV RL RX10 140 yX10_take cX10_take 8 (some .int) 2 := ⟨tw_3_169, tw_3_170, tw_3_171, tw_1_1, tw_3_172, rfl, by decide +kernel, by decide +kernel, by decide +kernel⟩
theorem cs_RL_143 : CaV RL RX11 143 yX11_take cX11_take 8 (some .int) 2 := ⟨tw_5_226, tw_5_227, tw_5_228, tw_1_5, tw_5_229, rfl, by decide +kernel, by decide +kernel, by decide +kernel⟩
set_option maxRecDepth 20000 in
set_option maxHeartbeats 4000000 in
theorem lw_c29 {N t : Nat} {Inv : Nat → rS → rS → Prop} (hq : EQ_take N Inv) {Γ : lX} {sc : Nat → Int32} {L : Nat} {Q : State → Prop} {kc ks i : Nat} {x : Int32} {σ τ : rS} (hx : x = nI i) (hi : i + 6 ≤ L) (hkc : kc + 62 ≤ 600000) (hks : ks + 12524 ≤ room_1.slots) (ht : t < 100) (hI : Inv t σ τ) (hk : ∀ σ τ, Inv (t + 1) σ τ → JL Γ sc L Q (kc + 62) (ks + 12524) 1516 x [] σ τ) : JL Γ sc L Q kc ks 1248 x [] σ τ := by
  obtain ⟨r, σ1, τ1, h1, h2, h3⟩ := hq (sc (i + 1)) (((Int32.toInt64 (sc (i + 2))) <<< (Int32.toInt64 32 &&& 63)) ||| ((Int32.toInt64 (sc (i + 3))) &&& 4294967295)) t σ τ ht hI
  refine l_al1 (pc := 1248) dL_law_1248 ?_
  refine l_arg (pc := 1249) (z := 1) dL_law_1249 dL_law_1250 dL_law_1251 dL_law_1252 dL_law_1253 (by decide) hx (by omega) ?_
  refine l_arg (pc := 1254) (z := 2) dL_law_1254 dL_law_1255 dL_law_1256 dL_law_1257 dL_law_1258 (by decide) hx (by omega) ?_
  refine l_i2l (pc := 1259) dL_law_1259 ?_
  refine l_bipush (pc := 1260) (v := 32) (by decide) dL_law_1260 ?_
  refine l_lshl (pc := 1262) dL_law_1262 ?_
  refine l_arg (pc := 1263) (z := 3) dL_law_1263 dL_law_1264 dL_law_1265 dL_law_1266 dL_law_1267 (by decide) hx (by omega) ?_
  refine l_i2l (pc := 1268) dL_law_1268 ?_
  refine l_ldc2 (pc := 1269) tw_6_41 dL_law_1269 ?_
  refine l_land (pc := 1272) dL_law_1272 ?_
  refine l_lor (pc := 1273) dL_law_1273 ?_
  refine l_callXI (pc := 1274) (As := [aI (sc (i + 1)), aL (((Int32.toInt64 (sc (i + 2))) <<< (Int32.toInt64 32 &&& 63)) ||| ((Int32.toInt64 (sc (i + 3))) &&& 4294967295))]) (Vs := [.int (sc (i + 1)), .long (((Int32.toInt64 (sc (i + 2))) <<< (Int32.toInt64 32 &&& 63)) ||| ((Int32.toInt64 (sc (i + 3))) &&& 4294967295))]) (st := []) (Ws := []) (fun l => c10_take l N 0 (sc (i + 1)) (((Int32.toInt64 (sc (i + 2))) <<< (Int32.toInt64 32 &&& 63)) ||| ((Int32.toInt64 (sc (i + 3))) &&& 4294967295))) h1 cs_RL_140 rfl (fun _ => rfl) (fun _ => ⟨trivial, trivial, trivial⟩) (fun _ => rfl) (Nat.le_of_ble_eq_true rfl) ⟨(Nat.le_of_ble_eq_true rfl), (Nat.le_of_ble_eq_true rfl)⟩ ⟨by show kc + 2 ≤ 600000; omega, by show ks + 404 ≤ room_1.slots; omega⟩ dL_law_1274 ?_
  refine l_al2 (pc := 1277) dL_law_1277 ?_
  refine l_arg (pc := 1278) (z := 1) dL_law_1278 dL_law_1279 dL_law_1280 dL_law_1281 dL_law_1282 (by decide) hx (by omega) ?_
  refine l_arg (pc := 1283) (z := 2) dL_law_1283 dL_law_1284 dL_law_1285 dL_law_1286 dL_law_1287 (by decide) hx (by omega) ?_
  refine l_i2l (pc := 1288) dL_law_1288 ?_
  refine l_bipush (pc := 1289) (v := 32) (by decide) dL_law_1289 ?_
  refine l_lshl (pc := 1291) dL_law_1291 ?_
  refine l_arg (pc := 1292) (z := 3) dL_law_1292 dL_law_1293 dL_law_1294 dL_law_1295 dL_law_1296 (by decide) hx (by omega) ?_
  refine l_i2l (pc := 1297) dL_law_1297 ?_
  refine l_ldc2 (pc := 1298) tw_6_41 dL_law_1298 ?_
  refine l_land (pc := 1301) dL_law_1301 ?_
  refine l_lor (pc := 1302) dL_law_1302 ?_
  refine l_callMI (pc := 1303) (As := [aI (sc (i + 1)), aL (((Int32.toInt64 (sc (i + 2))) <<< (Int32.toInt64 32 &&& 63)) ||| ((Int32.toInt64 (sc (i + 3))) &&& 4294967295))]) (Vs := [.int (sc (i + 1)), .long (((Int32.toInt64 (sc (i + 2))) <<< (Int32.toInt64 32 &&& 63)) ||| ((Int32.toInt64 (sc (i + 3))) &&& 4294967295))]) (st := [aI r]) (Ws := [.int r]) (fun l => c11_take l N 0 (sc (i + 1)) (((Int32.toInt64 (sc (i + 2))) <<< (Int32.toInt64 32 &&& 63)) ||| ((Int32.toInt64 (sc (i + 3))) &&& 4294967295))) h2 cs_RL_143 rfl (fun _ => rfl) (fun _ => ⟨trivial, trivial, trivial⟩) (fun _ => rfl) (Nat.le_of_ble_eq_true rfl) ⟨(Nat.le_of_ble_eq_true rfl), (Nat.le_of_ble_eq_true rfl)⟩ ⟨by show kc + 2 + 0 ≤ 600000; omega, by show ks + 404 + 0 ≤ room_1.slots; omega⟩ dL_law_1303 ?_
  refine l_cmpeq (pc := 1306) (tgt := 1516) dL_law_1306 rfl rfl ?_
  refine l_wide (kc2 := kc + 62) (ks2 := ks + 12524) (by show kc + 2 + 0 ≤ kc + 62; omega) (by show ks + 404 + 0 ≤ ks + 12524; omega) ?_
  exact hk σ1 τ1 h3
theorem cs_RL_144 : CaV RL RX10 144 yX10_uses cX10_uses 2 (some .int) 1 := ⟨tw_3_173, tw_3_174, tw_3_175, tw_1_1, tw_3_176, rfl, by decide +kernel, by decide +kernel, by decide +kernel⟩
theorem cs_RL_147 : CaV RL RX11 147 yX11_uses cX11_uses 4 (some .int) 1 := ⟨tw_5_230, tw_5_231, tw_5_232, tw_1_5, tw_5_233, rfl, by decide +kernel, by decide +kernel, by decide +kernel⟩
set_option maxRecDepth 20000 in
set_option maxHeartbeats 4000000 in
theorem lw_c30 {N t : Nat} {Inv : Nat → rS → rS → Prop} (hq : EQ_uses N Inv) {Γ : lX} {sc : Nat → Int32} {L : Nat} {Q : State → Prop} {kc ks i : Nat} {x : Int32} {σ τ : rS} (hx : x = nI i) (hi : i + 6 ≤ L) (hkc : kc + 62 ≤ 600000) (hks : ks + 12524 ≤ room_1.slots) (ht : t < 100) (hI : Inv t σ τ) (hk : ∀ σ τ, Inv (t + 1) σ τ → JL Γ sc L Q (kc + 62) (ks + 12524) 1516 x [] σ τ) : JL Γ sc L Q kc ks 1311 x [] σ τ := by
  obtain ⟨r, σ1, τ1, h1, h2, h3⟩ := hq (sc (i + 1)) t σ τ ht hI
  refine l_al1 (pc := 1311) dL_law_1311 ?_
  refine l_arg (pc := 1312) (z := 1) dL_law_1312 dL_law_1313 dL_law_1314 dL_law_1315 dL_law_1316 (by decide) hx (by omega) ?_
  refine l_callXI (pc := 1317) (As := [aI (sc (i + 1))]) (Vs := [.int (sc (i + 1))]) (st := []) (Ws := []) (fun l => c10_uses l N 0 (sc (i + 1))) h1 cs_RL_144 rfl (fun _ => rfl) (fun _ => ⟨trivial, trivial⟩) (fun _ => rfl) (Nat.le_of_ble_eq_true rfl) ⟨(Nat.le_of_ble_eq_true rfl), (Nat.le_of_ble_eq_true rfl)⟩ ⟨by show kc + 0 ≤ 600000; omega, by show ks + 0 ≤ room_1.slots; omega⟩ dL_law_1317 ?_
  refine l_al2 (pc := 1320) dL_law_1320 ?_
  refine l_arg (pc := 1321) (z := 1) dL_law_1321 dL_law_1322 dL_law_1323 dL_law_1324 dL_law_1325 (by decide) hx (by omega) ?_
  refine l_callMI (pc := 1326) (As := [aI (sc (i + 1))]) (Vs := [.int (sc (i + 1))]) (st := [aI r]) (Ws := [.int r]) (fun l => c11_uses l N 0 (sc (i + 1))) h2 cs_RL_147 rfl (fun _ => rfl) (fun _ => ⟨trivial, trivial⟩) (fun _ => rfl) (Nat.le_of_ble_eq_true rfl) ⟨(Nat.le_of_ble_eq_true rfl), (Nat.le_of_ble_eq_true rfl)⟩ ⟨by show kc + 0 + 0 ≤ 600000; omega, by show ks + 0 + 0 ≤ room_1.slots; omega⟩ dL_law_1326 ?_
  refine l_cmpeq (pc := 1329) (tgt := 1516) dL_law_1329 rfl rfl ?_
  refine l_wide (kc2 := kc + 62) (ks2 := ks + 12524) (by show kc + 0 + 0 ≤ kc + 62; omega) (by show ks + 0 + 0 ≤ ks + 12524; omega) ?_
  exact hk σ1 τ1 h3
theorem cs_RL_148 : CaV RL RX10 148 yX10_delta cX10_delta 5 (some .int) 2 := ⟨tw_3_181, tw_3_182, tw_3_183, tw_1_1, tw_3_184, rfl, by decide +kernel, by decide +kernel, by decide +kernel⟩
theorem cs_RL_151 : CaV RL RX11 151 yX11_delta cX11_delta 11 (some .int) 2 := ⟨tw_5_234, tw_5_235, tw_5_236, tw_1_5, tw_5_237, rfl, by decide +kernel, by decide +kernel, by decide +kernel⟩
set_option maxRecDepth 20000 in
set_option maxHeartbeats 4000000 in
theorem lw_c31 {N t : Nat} {Inv : Nat → rS → rS → Prop} (hq : EQ_delta N Inv) {Γ : lX} {sc : Nat → Int32} {L : Nat} {Q : State → Prop} {kc ks i : Nat} {x : Int32} {σ τ : rS} (hx : x = nI i) (hi : i + 6 ≤ L) (hkc : kc + 62 ≤ 600000) (hks : ks + 12524 ≤ room_1.slots) (ht : t < 100) (hI : Inv t σ τ) (hk : ∀ σ τ, Inv (t + 1) σ τ → JL Γ sc L Q (kc + 62) (ks + 12524) 1516 x [] σ τ) : JL Γ sc L Q kc ks 1334 x [] σ τ := by
  obtain ⟨r, σ1, τ1, h1, h2, h3⟩ := hq (sc (i + 1)) (sc (i + 2)) t σ τ ht hI
  refine l_al1 (pc := 1334) dL_law_1334 ?_
  refine l_arg (pc := 1335) (z := 1) dL_law_1335 dL_law_1336 dL_law_1337 dL_law_1338 dL_law_1339 (by decide) hx (by omega) ?_
  refine l_arg (pc := 1340) (z := 2) dL_law_1340 dL_law_1341 dL_law_1342 dL_law_1343 dL_law_1344 (by decide) hx (by omega) ?_
  refine l_callXI (pc := 1345) (As := [aI (sc (i + 1)), aI (sc (i + 2))]) (Vs := [.int (sc (i + 1)), .int (sc (i + 2))]) (st := []) (Ws := []) (fun l => c10_delta l N 0 (sc (i + 1)) (sc (i + 2))) h1 cs_RL_148 rfl (fun _ => rfl) (fun _ => ⟨trivial, trivial, trivial⟩) (fun _ => rfl) (Nat.le_of_ble_eq_true rfl) ⟨(Nat.le_of_ble_eq_true rfl), (Nat.le_of_ble_eq_true rfl)⟩ ⟨by show kc + 4 ≤ 600000; omega, by show ks + 1208 ≤ room_1.slots; omega⟩ dL_law_1345 ?_
  refine l_al2 (pc := 1348) dL_law_1348 ?_
  refine l_arg (pc := 1349) (z := 1) dL_law_1349 dL_law_1350 dL_law_1351 dL_law_1352 dL_law_1353 (by decide) hx (by omega) ?_
  refine l_arg (pc := 1354) (z := 2) dL_law_1354 dL_law_1355 dL_law_1356 dL_law_1357 dL_law_1358 (by decide) hx (by omega) ?_
  refine l_callMI (pc := 1359) (As := [aI (sc (i + 1)), aI (sc (i + 2))]) (Vs := [.int (sc (i + 1)), .int (sc (i + 2))]) (st := [aI r]) (Ws := [.int r]) (fun l => c11_delta l N 0 (sc (i + 1)) (sc (i + 2))) h2 cs_RL_151 rfl (fun _ => rfl) (fun _ => ⟨trivial, trivial, trivial⟩) (fun _ => rfl) (Nat.le_of_ble_eq_true rfl) ⟨(Nat.le_of_ble_eq_true rfl), (Nat.le_of_ble_eq_true rfl)⟩ ⟨by show kc + 4 + 0 ≤ 600000; omega, by show ks + 1208 + 0 ≤ room_1.slots; omega⟩ dL_law_1359 ?_
  refine l_cmpeq (pc := 1362) (tgt := 1516) dL_law_1362 rfl rfl ?_
  refine l_wide (kc2 := kc + 62) (ks2 := ks + 12524) (by show kc + 4 + 0 ≤ kc + 62; omega) (by show ks + 1208 + 0 ≤ ks + 12524; omega) ?_
  exact hk σ1 τ1 h3
theorem cs_RL_152 : CaV RL RX10 152 yX10_act cX10_act 5 (some .int) 3 := ⟨tw_3_237, tw_3_238, tw_3_239, tw_1_1, tw_4_0, rfl, by decide +kernel, by decide +kernel, by decide +kernel⟩
theorem cs_RL_155 : CaV RL RX11 155 yX11_act cX11_act 5 (some .int) 3 := ⟨tw_6_2, tw_6_3, tw_6_4, tw_1_5, tw_6_5, rfl, by decide +kernel, by decide +kernel, by decide +kernel⟩
set_option maxRecDepth 20000 in
set_option maxHeartbeats 4000000 in
theorem lw_c32 {N t : Nat} {Inv : Nat → rS → rS → Prop} (hq : EQ_act N Inv) {Γ : lX} {sc : Nat → Int32} {L : Nat} {Q : State → Prop} {kc ks i : Nat} {x : Int32} {σ τ : rS} (hx : x = nI i) (hi : i + 6 ≤ L) (hkc : kc + 62 ≤ 600000) (hks : ks + 12524 ≤ room_1.slots) (ht : t < 100) (hI : Inv t σ τ) (hk : ∀ σ τ, Inv (t + 1) σ τ → JL Γ sc L Q (kc + 62) (ks + 12524) 1516 x [] σ τ) : JL Γ sc L Q kc ks 1367 x [] σ τ := by
  obtain ⟨r, σ1, τ1, h1, h2, h3⟩ := hq (sc (i + 1)) (sc (i + 2)) (sc (i + 3)) t σ τ ht hI
  refine l_al1 (pc := 1367) dL_law_1367 ?_
  refine l_arg (pc := 1368) (z := 1) dL_law_1368 dL_law_1369 dL_law_1370 dL_law_1371 dL_law_1372 (by decide) hx (by omega) ?_
  refine l_arg (pc := 1373) (z := 2) dL_law_1373 dL_law_1374 dL_law_1375 dL_law_1376 dL_law_1377 (by decide) hx (by omega) ?_
  refine l_arg (pc := 1378) (z := 3) dL_law_1378 dL_law_1379 dL_law_1380 dL_law_1381 dL_law_1382 (by decide) hx (by omega) ?_
  refine l_callXI (pc := 1383) (As := [aI (sc (i + 1)), aI (sc (i + 2)), aI (sc (i + 3))]) (Vs := [.int (sc (i + 1)), .int (sc (i + 2)), .int (sc (i + 3))]) (st := []) (Ws := []) (fun l => c10_act l 0 (sc (i + 1)) (sc (i + 2)) (sc (i + 3))) h1 cs_RL_152 rfl (fun _ => rfl) (fun _ => ⟨trivial, trivial, trivial, trivial⟩) (fun _ => rfl) (Nat.le_of_ble_eq_true rfl) ⟨(Nat.le_of_ble_eq_true rfl), (Nat.le_of_ble_eq_true rfl)⟩ ⟨by show kc + 0 ≤ 600000; omega, by show ks + 0 ≤ room_1.slots; omega⟩ dL_law_1383 ?_
  refine l_al2 (pc := 1386) dL_law_1386 ?_
  refine l_arg (pc := 1387) (z := 1) dL_law_1387 dL_law_1388 dL_law_1389 dL_law_1390 dL_law_1391 (by decide) hx (by omega) ?_
  refine l_arg (pc := 1392) (z := 2) dL_law_1392 dL_law_1393 dL_law_1394 dL_law_1395 dL_law_1396 (by decide) hx (by omega) ?_
  refine l_arg (pc := 1397) (z := 3) dL_law_1397 dL_law_1398 dL_law_1399 dL_law_1400 dL_law_1401 (by decide) hx (by omega) ?_
  refine l_callMI (pc := 1402) (As := [aI (sc (i + 1)), aI (sc (i + 2)), aI (sc (i + 3))]) (Vs := [.int (sc (i + 1)), .int (sc (i + 2)), .int (sc (i + 3))]) (st := [aI r]) (Ws := [.int r]) (fun l => c11_act l N 0 (sc (i + 1)) (sc (i + 2)) (sc (i + 3))) h2 cs_RL_155 rfl (fun _ => rfl) (fun _ => ⟨trivial, trivial, trivial, trivial⟩) (fun _ => rfl) (Nat.le_of_ble_eq_true rfl) ⟨(Nat.le_of_ble_eq_true rfl), (Nat.le_of_ble_eq_true rfl)⟩ ⟨by show kc + 0 + 0 ≤ 600000; omega, by show ks + 0 + 0 ≤ room_1.slots; omega⟩ dL_law_1402 ?_
  refine l_cmpeq (pc := 1405) (tgt := 1516) dL_law_1405 rfl rfl ?_
  refine l_wide (kc2 := kc + 62) (ks2 := ks + 12524) (by show kc + 0 + 0 ≤ kc + 62; omega) (by show ks + 0 + 0 ≤ ks + 12524; omega) ?_
  exact hk σ1 τ1 h3
theorem cs_RL_156 : CaV RL RX10 156 yX10_apply cX10_apply 6 (some .int) 2 := ⟨tw_4_13, tw_4_14, tw_4_15, tw_1_1, tw_4_16, rfl, by decide +kernel, by decide +kernel, by decide +kernel⟩
theorem cs_RL_159 : CaV RL RX11 159 yX11_apply cX11_apply 8 (some .int) 2 := ⟨tw_6_14, tw_6_15, tw_6_16, tw_1_5, tw_6_17, rfl, by decide +kernel, by decide +kernel, by decide +kernel⟩
set_option maxRecDepth 20000 in
set_option maxHeartbeats 4000000 in
theorem lw_c33 {N t : Nat} {Inv : Nat → rS → rS → Prop} (hq : EQ_apply N Inv) {Γ : lX} {sc : Nat → Int32} {L : Nat} {Q : State → Prop} {kc ks i : Nat} {x : Int32} {σ τ : rS} (hx : x = nI i) (hi : i + 6 ≤ L) (hkc : kc + 62 ≤ 600000) (hks : ks + 12524 ≤ room_1.slots) (ht : t < 100) (hI : Inv t σ τ) (hk : ∀ σ τ, Inv (t + 1) σ τ → JL Γ sc L Q (kc + 62) (ks + 12524) 1516 x [] σ τ) : JL Γ sc L Q kc ks 1410 x [] σ τ := by
  obtain ⟨r, σ1, τ1, h1, h2, h3⟩ := hq (sc (i + 1)) (sc (i + 2)) t σ τ ht hI
  refine l_al1 (pc := 1410) dL_law_1410 ?_
  refine l_arg (pc := 1411) (z := 1) dL_law_1411 dL_law_1412 dL_law_1413 dL_law_1414 dL_law_1415 (by decide) hx (by omega) ?_
  refine l_arg (pc := 1416) (z := 2) dL_law_1416 dL_law_1417 dL_law_1418 dL_law_1419 dL_law_1420 (by decide) hx (by omega) ?_
  refine l_callXI (pc := 1421) (As := [aI (sc (i + 1)), aI (sc (i + 2))]) (Vs := [.int (sc (i + 1)), .int (sc (i + 2))]) (st := []) (Ws := []) (fun l => c10_apply l N 0 (sc (i + 1)) (sc (i + 2))) h1 cs_RL_156 rfl (fun _ => rfl) (fun _ => ⟨trivial, trivial, trivial⟩) (fun _ => rfl) (Nat.le_of_ble_eq_true rfl) ⟨(Nat.le_of_ble_eq_true rfl), (Nat.le_of_ble_eq_true rfl)⟩ ⟨by show kc + 2 ≤ 600000; omega, by show ks + 404 ≤ room_1.slots; omega⟩ dL_law_1421 ?_
  refine l_al2 (pc := 1424) dL_law_1424 ?_
  refine l_arg (pc := 1425) (z := 1) dL_law_1425 dL_law_1426 dL_law_1427 dL_law_1428 dL_law_1429 (by decide) hx (by omega) ?_
  refine l_arg (pc := 1430) (z := 2) dL_law_1430 dL_law_1431 dL_law_1432 dL_law_1433 dL_law_1434 (by decide) hx (by omega) ?_
  refine l_callMI (pc := 1435) (As := [aI (sc (i + 1)), aI (sc (i + 2))]) (Vs := [.int (sc (i + 1)), .int (sc (i + 2))]) (st := [aI r]) (Ws := [.int r]) (fun l => c11_apply l N 0 (sc (i + 1)) (sc (i + 2))) h2 cs_RL_159 rfl (fun _ => rfl) (fun _ => ⟨trivial, trivial, trivial⟩) (fun _ => rfl) (Nat.le_of_ble_eq_true rfl) ⟨(Nat.le_of_ble_eq_true rfl), (Nat.le_of_ble_eq_true rfl)⟩ ⟨by show kc + 2 + 0 ≤ 600000; omega, by show ks + 404 + 0 ≤ room_1.slots; omega⟩ dL_law_1435 ?_
  refine l_cmpeq (pc := 1438) (tgt := 1516) dL_law_1438 rfl rfl ?_
  refine l_wide (kc2 := kc + 62) (ks2 := ks + 12524) (by show kc + 2 + 0 ≤ kc + 62; omega) (by show ks + 404 + 0 ≤ ks + 12524; omega) ?_
  exact hk σ1 τ1 h3
theorem cs_RL_160 : CaV RL RX10 160 yX10_finding cX10_finding 1 (some .int) 0 := ⟨tw_4_26, tw_4_27, tw_4_28, tw_1_1, tw_4_29, rfl, by decide +kernel, by decide +kernel, by decide +kernel⟩
theorem cs_RL_163 : CaV RL RX11 163 yX11_finding cX11_finding 1 (some .int) 0 := ⟨tw_6_18, tw_6_19, tw_6_20, tw_1_5, tw_6_21, rfl, by decide +kernel, by decide +kernel, by decide +kernel⟩
set_option maxRecDepth 20000 in
set_option maxHeartbeats 4000000 in
theorem lw_c34 {N t : Nat} {Inv : Nat → rS → rS → Prop} (hq : EQ_finding N Inv) {Γ : lX} {sc : Nat → Int32} {L : Nat} {Q : State → Prop} {kc ks i : Nat} {x : Int32} {σ τ : rS} (hx : x = nI i) (hi : i + 6 ≤ L) (hkc : kc + 62 ≤ 600000) (hks : ks + 12524 ≤ room_1.slots) (ht : t < 100) (hI : Inv t σ τ) (hk : ∀ σ τ, Inv (t + 1) σ τ → JL Γ sc L Q (kc + 62) (ks + 12524) 1516 x [] σ τ) : JL Γ sc L Q kc ks 1443 x [] σ τ := by
  obtain ⟨r, σ1, τ1, h1, h2, h3⟩ := hq t σ τ ht hI
  refine l_al1 (pc := 1443) dL_law_1443 ?_
  refine l_callXI (pc := 1444) (As := []) (Vs := []) (st := []) (Ws := []) (fun l => c10_finding l 0) h1 cs_RL_160 rfl (fun _ => rfl) (fun _ => trivial) (fun _ => rfl) (Nat.le_of_ble_eq_true rfl) ⟨(Nat.le_of_ble_eq_true rfl), (Nat.le_of_ble_eq_true rfl)⟩ ⟨by show kc + 0 ≤ 600000; omega, by show ks + 0 ≤ room_1.slots; omega⟩ dL_law_1444 ?_
  refine l_al2 (pc := 1447) dL_law_1447 ?_
  refine l_callMI (pc := 1448) (As := []) (Vs := []) (st := [aI r]) (Ws := [.int r]) (fun l => c11_finding l 0) h2 cs_RL_163 rfl (fun _ => rfl) (fun _ => trivial) (fun _ => rfl) (Nat.le_of_ble_eq_true rfl) ⟨(Nat.le_of_ble_eq_true rfl), (Nat.le_of_ble_eq_true rfl)⟩ ⟨by show kc + 0 + 0 ≤ 600000; omega, by show ks + 0 + 0 ≤ room_1.slots; omega⟩ dL_law_1448 ?_
  refine l_cmpeq (pc := 1451) (tgt := 1516) dL_law_1451 rfl rfl ?_
  refine l_wide (kc2 := kc + 62) (ks2 := ks + 12524) (by show kc + 0 + 0 ≤ kc + 62; omega) (by show ks + 0 + 0 ≤ ks + 12524; omega) ?_
  exact hk σ1 τ1 h3
theorem cs_RL_164 : CaV RL RX10 164 yX10_findings cX10_findings 2 (some .int) 1 := ⟨tw_4_30, tw_4_31, tw_4_32, tw_1_1, tw_4_33, rfl, by decide +kernel, by decide +kernel, by decide +kernel⟩
theorem cs_RL_167 : CaV RL RX11 167 yX11_findings cX11_findings 2 (some .int) 1 := ⟨tw_6_22, tw_6_23, tw_6_24, tw_1_5, tw_6_25, rfl, by decide +kernel, by decide +kernel, by decide +kernel⟩
set_option maxRecDepth 20000 in
set_option maxHeartbeats 4000000 in
theorem lw_c35 {N t : Nat} {Inv : Nat → rS → rS → Prop} (hq : EQ_findings N Inv) {Γ : lX} {sc : Nat → Int32} {L : Nat} {Q : State → Prop} {kc ks i : Nat} {x : Int32} {σ τ : rS} (hx : x = nI i) (hi : i + 6 ≤ L) (hkc : kc + 62 ≤ 600000) (hks : ks + 12524 ≤ room_1.slots) (ht : t < 100) (hI : Inv t σ τ) (hk : ∀ σ τ, Inv (t + 1) σ τ → JL Γ sc L Q (kc + 62) (ks + 12524) 1516 x [] σ τ) : JL Γ sc L Q kc ks 1456 x [] σ τ := by
  obtain ⟨r, σ1, τ1, h1, h2, h3⟩ := hq (sc (i + 1)) t σ τ ht hI
  refine l_al1 (pc := 1456) dL_law_1456 ?_
  refine l_arg (pc := 1457) (z := 1) dL_law_1457 dL_law_1458 dL_law_1459 dL_law_1460 dL_law_1461 (by decide) hx (by omega) ?_
  refine l_callXI (pc := 1462) (As := [aI (sc (i + 1))]) (Vs := [.int (sc (i + 1))]) (st := []) (Ws := []) (fun l => c10_findings l 0 (sc (i + 1))) h1 cs_RL_164 rfl (fun _ => rfl) (fun _ => ⟨trivial, trivial⟩) (fun _ => rfl) (Nat.le_of_ble_eq_true rfl) ⟨(Nat.le_of_ble_eq_true rfl), (Nat.le_of_ble_eq_true rfl)⟩ ⟨by show kc + 0 ≤ 600000; omega, by show ks + 0 ≤ room_1.slots; omega⟩ dL_law_1462 ?_
  refine l_al2 (pc := 1465) dL_law_1465 ?_
  refine l_arg (pc := 1466) (z := 1) dL_law_1466 dL_law_1467 dL_law_1468 dL_law_1469 dL_law_1470 (by decide) hx (by omega) ?_
  refine l_callMI (pc := 1471) (As := [aI (sc (i + 1))]) (Vs := [.int (sc (i + 1))]) (st := [aI r]) (Ws := [.int r]) (fun l => c11_findings l 0 (sc (i + 1))) h2 cs_RL_167 rfl (fun _ => rfl) (fun _ => ⟨trivial, trivial⟩) (fun _ => rfl) (Nat.le_of_ble_eq_true rfl) ⟨(Nat.le_of_ble_eq_true rfl), (Nat.le_of_ble_eq_true rfl)⟩ ⟨by show kc + 0 + 0 ≤ 600000; omega, by show ks + 0 + 0 ≤ room_1.slots; omega⟩ dL_law_1471 ?_
  refine l_cmpeq (pc := 1474) (tgt := 1516) dL_law_1474 rfl rfl ?_
  refine l_wide (kc2 := kc + 62) (ks2 := ks + 12524) (by show kc + 0 + 0 ≤ kc + 62; omega) (by show ks + 0 + 0 ≤ ks + 12524; omega) ?_
  exact hk σ1 τ1 h3
theorem cs_RL_168 : CaV RL RX10 168 yX10_count cX10_count 2 (some .int) 1 := ⟨tw_4_34, tw_4_35, tw_4_36, tw_1_1, tw_4_37, rfl, by decide +kernel, by decide +kernel, by decide +kernel⟩
theorem cs_RL_171 : CaV RL RX11 171 yX11_count cX11_count 2 (some .int) 1 := ⟨tw_6_27, tw_6_28, tw_6_29, tw_1_5, tw_6_30, rfl, by decide +kernel, by decide +kernel, by decide +kernel⟩
set_option maxRecDepth 20000 in
set_option maxHeartbeats 4000000 in
theorem lw_c36 {N t : Nat} {Inv : Nat → rS → rS → Prop} (hq : EQ_count N Inv) {Γ : lX} {sc : Nat → Int32} {L : Nat} {Q : State → Prop} {kc ks i : Nat} {x : Int32} {σ τ : rS} (hx : x = nI i) (hi : i + 6 ≤ L) (hkc : kc + 62 ≤ 600000) (hks : ks + 12524 ≤ room_1.slots) (ht : t < 100) (hI : Inv t σ τ) (hk : ∀ σ τ, Inv (t + 1) σ τ → JL Γ sc L Q (kc + 62) (ks + 12524) 1516 x [] σ τ) : JL Γ sc L Q kc ks 1479 x [] σ τ := by
  obtain ⟨r, σ1, τ1, h1, h2, h3⟩ := hq (sc (i + 1)) t σ τ ht hI
  refine l_al1 (pc := 1479) dL_law_1479 ?_
  refine l_arg (pc := 1480) (z := 1) dL_law_1480 dL_law_1481 dL_law_1482 dL_law_1483 dL_law_1484 (by decide) hx (by omega) ?_
  refine l_callXI (pc := 1485) (As := [aI (sc (i + 1))]) (Vs := [.int (sc (i + 1))]) (st := []) (Ws := []) (fun l => c10_count l 0 (sc (i + 1))) h1 cs_RL_168 rfl (fun _ => rfl) (fun _ => ⟨trivial, trivial⟩) (fun _ => rfl) (Nat.le_of_ble_eq_true rfl) ⟨(Nat.le_of_ble_eq_true rfl), (Nat.le_of_ble_eq_true rfl)⟩ ⟨by show kc + 0 ≤ 600000; omega, by show ks + 0 ≤ room_1.slots; omega⟩ dL_law_1485 ?_
  refine l_al2 (pc := 1488) dL_law_1488 ?_
  refine l_arg (pc := 1489) (z := 1) dL_law_1489 dL_law_1490 dL_law_1491 dL_law_1492 dL_law_1493 (by decide) hx (by omega) ?_
  refine l_callMI (pc := 1494) (As := [aI (sc (i + 1))]) (Vs := [.int (sc (i + 1))]) (st := [aI r]) (Ws := [.int r]) (fun l => c11_count l N 0 (sc (i + 1))) h2 cs_RL_171 rfl (fun _ => rfl) (fun _ => ⟨trivial, trivial⟩) (fun _ => rfl) (Nat.le_of_ble_eq_true rfl) ⟨(Nat.le_of_ble_eq_true rfl), (Nat.le_of_ble_eq_true rfl)⟩ ⟨by show kc + 0 + 0 ≤ 600000; omega, by show ks + 0 + 0 ≤ room_1.slots; omega⟩ dL_law_1494 ?_
  refine l_cmpeq (pc := 1497) (tgt := 1516) dL_law_1497 rfl rfl ?_
  refine l_wide (kc2 := kc + 62) (ks2 := ks + 12524) (by show kc + 0 + 0 ≤ kc + 62; omega) (by show ks + 0 + 0 ≤ ks + 12524; omega) ?_
  exact hk σ1 τ1 h3
theorem cs_RL_172 : CaV RL RX10 172 yX10_digest cX10_digest 4 (some .long) 0 := ⟨tw_4_38, tw_4_39, tw_4_40, tw_1_1, tw_4_41, rfl, by decide +kernel, by decide +kernel, by decide +kernel⟩
theorem cs_RL_175 : CaV RL RX11 175 yX11_digest cX11_digest 5 (some .long) 0 := ⟨tw_6_35, tw_6_36, tw_6_37, tw_1_5, tw_6_38, rfl, by decide +kernel, by decide +kernel, by decide +kernel⟩
set_option maxRecDepth 20000 in
set_option maxHeartbeats 4000000 in
theorem lw_c37 {N t : Nat} {Inv : Nat → rS → rS → Prop} (hq : EQ_digest N Inv) {Γ : lX} {sc : Nat → Int32} {L : Nat} {Q : State → Prop} {kc ks i : Nat} {x : Int32} {σ τ : rS} (hx : x = nI i) (hi : i + 6 ≤ L) (hkc : kc + 62 ≤ 600000) (hks : ks + 12524 ≤ room_1.slots) (ht : t < 100) (hI : Inv t σ τ) (hk : ∀ σ τ, Inv (t + 1) σ τ → JL Γ sc L Q (kc + 62) (ks + 12524) 1516 x [] σ τ) : JL Γ sc L Q kc ks 1502 x [] σ τ := by
  obtain ⟨r, σ1, τ1, h1, h2, h3⟩ := hq t σ τ ht hI
  refine l_al1 (pc := 1502) dL_law_1502 ?_
  refine l_callXL (pc := 1503) (As := []) (Vs := []) (st := []) (Ws := []) (fun l => c10_digest l N 0) h1 cs_RL_172 rfl (fun _ => rfl) (fun _ => trivial) (fun _ => rfl) (Nat.le_of_ble_eq_true rfl) ⟨(Nat.le_of_ble_eq_true rfl), (Nat.le_of_ble_eq_true rfl)⟩ ⟨by show kc + 0 ≤ 600000; omega, by show ks + 0 ≤ room_1.slots; omega⟩ dL_law_1503 ?_
  refine l_al2 (pc := 1506) dL_law_1506 ?_
  refine l_callML (pc := 1507) (As := []) (Vs := []) (st := [aL r]) (Ws := [.long r]) (fun l => c11_digest l N 0) h2 cs_RL_175 rfl (fun _ => rfl) (fun _ => trivial) (fun _ => rfl) (Nat.le_of_ble_eq_true rfl) ⟨(Nat.le_of_ble_eq_true rfl), (Nat.le_of_ble_eq_true rfl)⟩ ⟨by show kc + 0 + 0 ≤ 600000; omega, by show ks + 0 + 0 ≤ room_1.slots; omega⟩ dL_law_1507 ?_
  refine l_lcmpeq (pc := 1510) (tgt := 1516) dL_law_1510 dL_law_1511 rfl rfl ?_
  refine l_wide (kc2 := kc + 62) (ks2 := ks + 12524) (by show kc + 0 + 0 ≤ kc + 62; omega) (by show ks + 0 + 0 ≤ ks + 12524; omega) ?_
  exact hk σ1 τ1 h3
