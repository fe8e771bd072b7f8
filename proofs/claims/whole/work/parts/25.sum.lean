abbrev rmJ_max : Room := { frames := 0, cells := 0, slots := 0, locals := 0 }
set_option maxRecDepth 20000 in
set_option maxHeartbeats 4000000 in
theorem jJ_max {Γ : jX} {tg : Int32 × rS} (v0 : Int32) (v1 : Int32) (σ : rS) : J Γ rmJ_max eI cJ9_max_7cf53 RJ9 2 (some .int) tg 0 0 0 [(0, aI v0), (1, aI v1)] [] σ (fJ_max v0 v1 σ) := by
  unfold fJ_max
  refine j_iload_n (pc := 0) 0 dJ9_max_7cf53_0 rfl rfl ?_
  refine j_iload_n (pc := 1) 1 dJ9_max_7cf53_1 rfl rfl ?_
  refine j_icmplt (pc := 2) (tgt := 9) dJ9_max_7cf53_2 rfl (fun _ => ?_) (fun _ => ?_)
  · refine j_iload_n (pc := 9) 1 dJ9_max_7cf53_9 rfl rfl ?_
    exact j_ireturn (pc := 10) rfl (Nat.le_of_ble_eq_true rfl) (Nat.le_of_ble_eq_true rfl) dJ9_max_7cf53_10
  · refine j_iload_n (pc := 5) 0 dJ9_max_7cf53_5 rfl rfl ?_
    refine j_goto (pc := 6) (tgt := 10) dJ9_max_7cf53_6 rfl ?_
    exact j_ireturn (pc := 10) rfl (Nat.le_of_ble_eq_true rfl) (Nat.le_of_ble_eq_true rfl) dJ9_max_7cf53_10
theorem cJ_max (l : Launch) (v0 : Int32) (v1 : Int32) : Ctr l yJ9_max_7cf53 cJ9_max_7cf53 2 (some .int) rmJ_max eI [aI v0, aI v1] (fJ_max v0 v1) := ctr_of (lv := [(0, aI v0), (1, aI v1)]) (by decide +kernel) (fun _ => rfl) (fun _ => (Nat.le_of_ble_eq_true rfl)) (fun _ h => lvl_als h rfl) (fun _ σ _ => jJ_max v0 v1 σ)
theorem cs_RX9_27 : CaS RX9 27 yJ9_max_7cf53 cJ9_max_7cf53 2 (some .int) 2 := ⟨tw_2_214, tw_2_95, tw_1_13, tw_2_96, by decide +kernel, by decide +kernel, by decide +kernel⟩
abbrev rm9_sum : Room := { frames := 1, cells := 0, slots := 0, locals := 21 }
set_option maxRecDepth 20000 in
set_option maxHeartbeats 4000000 in
theorem jb9_sum_9 {Γ : jX} {tg : Int32 × rS} (N : Nat) (K9 : Nat → Int32 → Int32 → Int32 → rS → Option (Int32 × rS)) (hK9 : ∀ (v0 : Nat) (v2 : Int32) (v3 : Int32) (v4 : Int32) (σ : rS), J Γ rm9_sum eI cX9_sum RX9 5 (some .int) tg 0 0 9 [(0, aR 15 v0), (2, aI v2), (3, aI v3), (4, aI v4)] [] σ (K9 v0 v2 v3 v4 σ)) (v0 : Nat) (v2 : Int32) (v3 : Int32) (v4 : Int32) (σ : rS) : J Γ rm9_sum eI cX9_sum RX9 5 (some .int) tg 0 0 9 [(0, aR 15 v0), (2, aI v2), (3, aI v3), (4, aI v4)] [] σ (B9_sum_9 N K9 v0 v2 v3 v4 σ) := by
  unfold B9_sum_9
  refine j_iload (pc := 9) 3 dX9_sum_9 rfl ?_
  refine j_iload_n (pc := 11) 1 dX9_sum_11 rfl rfl ?_
  refine j_icmpge (pc := 12) (tgt := 51) dX9_sum_12 rfl (fun _ => ?_) (fun _ => ?_)
  · refine j_iload_n (pc := 51) 2 dX9_sum_51 rfl rfl ?_
    exact j_ireturn (pc := 52) rfl (Nat.le_of_ble_eq_true rfl) (Nat.le_of_ble_eq_true rfl) dX9_sum_52
  · refine j_iload (pc := 15) 3 dX9_sum_15 rfl ?_
    refine j_aload_n (pc := 17) 0 dX9_sum_17 rfl rfl ?_
    refine j_getF (pc := 18) fd_15_0 tw_2_134 dX9_sum_18 ?_
    refine j_alen (pc := 21) rfl (by decide) dX9_sum_21 ?_
    refine j_icmpge (pc := 22) (tgt := 51) dX9_sum_22 rfl (fun _ => ?_) (fun _ => ?_)
    · refine j_iload_n (pc := 51) 2 dX9_sum_51 rfl rfl ?_
      exact j_ireturn (pc := 52) rfl (Nat.le_of_ble_eq_true rfl) (Nat.le_of_ble_eq_true rfl) dX9_sum_52
    · refine j_bipush (pc := 25) (v := 31) (by decide) dX9_sum_25 ?_
      refine j_iload_n (pc := 27) 2 dX9_sum_27 rfl rfl ?_
      refine j_imul (pc := 28) dX9_sum_28 ?_
      refine j_aload_n (pc := 29) 0 dX9_sum_29 rfl rfl ?_
      refine j_getF (pc := 30) fd_15_0 tw_2_134 dX9_sum_30 ?_
      refine j_iload (pc := 33) 3 dX9_sum_33 rfl ?_
      refine j_bald (pc := 35) rfl rfl rfl dX9_sum_35 (fun j1 => ?_)
      refine j_sipush (pc := 36) (v := 255) (by decide) dX9_sum_36 ?_
      refine j_iand (pc := 39) dX9_sum_39 ?_
      refine j_iadd (pc := 40) dX9_sum_40 ?_
      refine j_ldc (pc := 41) tw_2_219 dX9_sum_41 ?_
      refine j_iand (pc := 43) dX9_sum_43 ?_
      refine j_leti (fun x2 => ?_)
      refine j_istore_n (pc := 44) (lv' := [(3, aI x2), (0, aR 15 v0), (2, aI v2), (4, aI v4)]) dX9_sum_44 rfl (Nat.le_of_ble_eq_true rfl) rfl ?_
      refine j_iinc (pc := 45) (w := 1) (lv' := [(4, aI (v4 + 1)), (3, aI x2), (0, aR 15 v0), (2, aI v2)]) 3 dX9_sum_45 rfl (by decide) (Nat.le_of_ble_eq_true rfl) rfl ?_
      refine j_goto (pc := 48) (tgt := 9) dX9_sum_48 rfl ?_
      refine j_sub [2, 3, 1, 0] (lv' := [(0, aR 15 v0), (2, aI v2), (3, aI x2), (4, aI (v4 + 1))]) rfl ?_
      exact hK9 v0 v2 x2 (v4 + 1) σ
theorem jl9_sum_9 {Γ : jX} {tg : Int32 × rS} (N : Nat) : ∀ (n : Nat) (v0 : Nat) (v2 : Int32) (v3 : Int32) (v4 : Int32) (σ : rS), J Γ rm9_sum eI cX9_sum RX9 5 (some .int) tg 0 0 9 [(0, aR 15 v0), (2, aI v2), (3, aI v3), (4, aI v4)] [] σ (L9_sum_9 N n v0 v2 v3 v4 σ) := by
  intro n
  induction n with
  | zero => intro v0 v2 v3 v4 σ; exact j_none
  | succ n ih => intro v0 v2 v3 v4 σ; exact jb9_sum_9 N (L9_sum_9 N n) ih v0 v2 v3 v4 σ
set_option maxRecDepth 20000 in
set_option maxHeartbeats 4000000 in
theorem j9_sum {Γ : jX} {tg : Int32 × rS} (N : Nat) (v0 : Nat) (v1 : Int32) (v2 : Int32) (σ : rS) : J Γ rm9_sum eI cX9_sum RX9 5 (some .int) tg 0 0 0 [(0, aR 15 v0), (1, aI v1), (2, aI v2)] [] σ (f9_sum N v0 v1 v2 σ) := by
  unfold f9_sum
  refine j_iconst (pc := 0) (v := 0) (by decide) dX9_sum_0 ?_
  refine j_istore_n (pc := 1) (lv' := [(3, aI 0), (0, aR 15 v0), (1, aI v1), (2, aI v2)]) dX9_sum_1 rfl (Nat.le_of_ble_eq_true rfl) rfl ?_
  refine j_iconst (pc := 2) (v := 0) (by decide) dX9_sum_2 ?_
  refine j_iload_n (pc := 3) 2 dX9_sum_3 rfl rfl ?_
  refine j_callSI (pc := 4) (As := [aI 0, aI v1]) (st := []) (fun l => cJ_max l 0 v1) cs_RX9_27 rfl rfl (Nat.le_of_ble_eq_true rfl) ⟨(Nat.le_of_ble_eq_true rfl), (Nat.le_of_ble_eq_true rfl)⟩ ⟨(Nat.le_of_ble_eq_true rfl), (Nat.le_of_ble_eq_true rfl)⟩ dX9_sum_4 (fun r1 σ2 => ?_)
  refine j_istore (pc := 7) (lv' := [(4, aI r1), (3, aI 0), (0, aR 15 v0), (1, aI v1), (2, aI v2)]) dX9_sum_7 (Nat.le_of_ble_eq_true rfl) rfl ?_
  refine j_sub [0, 1, 2, 4] (lv' := [(4, aI r1), (3, aI 0), (0, aR 15 v0), (2, aI v2)]) rfl ?_
  refine j_sub [2, 3, 1, 0] (lv' := [(0, aR 15 v0), (2, aI v2), (3, aI 0), (4, aI r1)]) rfl ?_
  exact jl9_sum_9 N  N v0 v2 0 r1 σ2
theorem c9_sum (l : Launch) (N : Nat) (v0 : Nat) (v1 : Int32) (v2 : Int32) : Ctr l yX9_sum cX9_sum 5 (some .int) rm9_sum eI [aR 15 v0, aI v1, aI v2] (f9_sum N v0 v1 v2) := ctr_of (lv := [(0, aR 15 v0), (1, aI v1), (2, aI v2)]) (by decide +kernel) (fun _ => rfl) (fun _ => (Nat.le_of_ble_eq_true rfl)) (fun _ h => lvl_als h rfl) (fun _ σ _ => j9_sum N v0 v1 v2 σ)
theorem cs_RX1_20 : CaV RX1 RX9 20 yX9_sum cX9_sum 5 (some .int) 2 := ⟨tw_3_190, tw_2_216, tw_2_217, tw_1_14, tw_2_218, rfl, by decide +kernel, by decide +kernel, by decide +kernel⟩
