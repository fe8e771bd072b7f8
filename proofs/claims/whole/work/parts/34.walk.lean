abbrev rm11_in : Room := { frames := 0, cells := 0, slots := 0, locals := 0 }
set_option maxRecDepth 20000 in
set_option maxHeartbeats 4000000 in
theorem j11_in {Γ : jX} {tg : Bool × rS} (v0 : Int64) (v2 : Int64) (v4 : Int64) (σ : rS) : J Γ rm11_in eZ cX11_in RX11 6 (some .boolean) tg 0 0 0 [(0, aL v0), (2, aL v2), (4, aL v4)] [] σ (f11_in v0 v2 v4 σ) := by
  unfold f11_in
  refine j_lload_n (pc := 0) 0 dX11_in_0 rfl rfl ?_
  refine j_lload_n (pc := 1) 1 dX11_in_1 rfl rfl ?_
  refine j_lcmplt (pc := 2) (tgt := 17) dX11_in_2 dX11_in_3 rfl (fun _ => ?_) (fun _ => ?_)
  · refine j_iconst (pc := 17) (v := 0) (by decide) dX11_in_17 ?_
    exact j_zret0 (pc := 18) rfl (Nat.le_of_ble_eq_true rfl) (Nat.le_of_ble_eq_true rfl) dX11_in_18
  · refine j_lload_n (pc := 6) 0 dX11_in_6 rfl rfl ?_
    refine j_lload (pc := 7) 2 dX11_in_7 rfl ?_
    refine j_lcmpgt (pc := 9) (tgt := 17) dX11_in_9 dX11_in_10 rfl (fun _ => ?_) (fun _ => ?_)
    · refine j_iconst (pc := 17) (v := 0) (by decide) dX11_in_17 ?_
      exact j_zret0 (pc := 18) rfl (Nat.le_of_ble_eq_true rfl) (Nat.le_of_ble_eq_true rfl) dX11_in_18
    · refine j_iconst (pc := 13) (v := 1) (by decide) dX11_in_13 ?_
      refine j_goto (pc := 14) (tgt := 18) dX11_in_14 rfl ?_
      exact j_zret1 (pc := 18) rfl (Nat.le_of_ble_eq_true rfl) (Nat.le_of_ble_eq_true rfl) dX11_in_18
theorem c11_in (l : Launch) (v0 : Int64) (v2 : Int64) (v4 : Int64) : Ctr l yX11_in cX11_in 6 (some .boolean) rm11_in eZ [aL v0, aL v2, aL v4] (f11_in v0 v2 v4) := ctr_of (lv := [(0, aL v0), (2, aL v2), (4, aL v4)]) (by decide +kernel) (fun _ => rfl) (fun _ => (Nat.le_of_ble_eq_true rfl)) (fun _ h => lvl_als h rfl) (fun _ σ _ => j11_in v0 v2 v4 σ)
theorem cs_RX11_140 : CaS RX11 140 yX11_in cX11_in 6 (some .boolean) 3 := ⟨tw_4_184, tw_4_185, tw_1_5, tw_4_186, by decide +kernel, by decide +kernel, by decide +kernel⟩
abbrev rm11_isStream : Room := { frames := 1, cells := 0, slots := 0, locals := 25 }
set_option maxRecDepth 20000 in
set_option maxHeartbeats 4000000 in
theorem j11_isStream {Γ : jX} {tg : Bool × rS} (v0 : Nat) (v1 : Int32) (σ : rS) : J Γ rm11_isStream eZ cX11_isStream RX11 2 (some .boolean) tg 0 0 0 [(0, aR 29 v0), (1, aI v1)] [] σ (f11_isStream v0 v1 σ) := by
  unfold f11_isStream
  refine j_iload_n (pc := 0) 1 dX11_isStream_0 rfl rfl ?_
  refine j_i2l (pc := 1) dX11_isStream_1 ?_
  refine j_lconst (pc := 2) (v := 0) (by decide) dX11_isStream_2 ?_
  refine j_aload_n (pc := 3) 0 dX11_isStream_3 rfl rfl ?_
  refine j_getI (pc := 4) fd_29_13 tw_4_79 dX11_isStream_4 ?_
  refine j_iconst (pc := 7) (v := 1) (by decide) dX11_isStream_7 ?_
  refine j_isub (pc := 8) dX11_isStream_8 ?_
  refine j_i2l (pc := 9) dX11_isStream_9 ?_
  refine j_callSZ (pc := 10) (As := [aL (Int32.toInt64 v1), aL 0, aL (Int32.toInt64 ((gI σ 29 v0 13) - 1))]) (st := []) (fun l => c11_in l (Int32.toInt64 v1) 0 (Int32.toInt64 ((gI σ 29 v0 13) - 1))) cs_RX11_140 rfl rfl (Nat.le_of_ble_eq_true rfl) ⟨(Nat.le_of_ble_eq_true rfl), (Nat.le_of_ble_eq_true rfl)⟩ ⟨(Nat.le_of_ble_eq_true rfl), (Nat.le_of_ble_eq_true rfl)⟩ dX11_isStream_10 (fun r1 σ2 => ?_)
  exact j_zretB (pc := 13) rfl (Nat.le_of_ble_eq_true rfl) (Nat.le_of_ble_eq_true rfl) dX11_isStream_13
theorem c11_isStream (l : Launch) (v0 : Nat) (v1 : Int32) : Ctr l yX11_isStream cX11_isStream 2 (some .boolean) rm11_isStream eZ [aR 29 v0, aI v1] (f11_isStream v0 v1) := ctr_of (lv := [(0, aR 29 v0), (1, aI v1)]) (by decide +kernel) (fun _ => rfl) (fun _ => (Nat.le_of_ble_eq_true rfl)) (fun _ h => lvl_als h rfl) (fun _ σ _ => j11_isStream v0 v1 σ)
abbrev rm11_sumOf : Room := { frames := 0, cells := 0, slots := 0, locals := 0 }
set_option maxRecDepth 20000 in
set_option maxHeartbeats 4000000 in
theorem jb11_sumOf_6 {Γ : jX} {tg : Int32 × rS} (N : Nat) (K6 : Nat → Int32 → Int32 → Int32 → Int32 → rS → Option (Int32 × rS)) (hK6 : ∀ (v0 : Nat) (v1 : Int32) (v3 : Int32) (v4 : Int32) (v5 : Int32) (σ : rS), J Γ rm11_sumOf eI cX11_sumOf RX11 6 (some .int) tg 0 0 6 [(0, aR 29 v0), (1, aI v1), (3, aI v3), (4, aI v4), (5, aI v5)] [] σ (K6 v0 v1 v3 v4 v5 σ)) (v0 : Nat) (v1 : Int32) (v3 : Int32) (v4 : Int32) (v5 : Int32) (σ : rS) : J Γ rm11_sumOf eI cX11_sumOf RX11 6 (some .int) tg 0 0 6 [(0, aR 29 v0), (1, aI v1), (3, aI v3), (4, aI v4), (5, aI v5)] [] σ (B11_sumOf_6 N K6 v0 v1 v3 v4 v5 σ) := by
  unfold B11_sumOf_6
  refine j_iload (pc := 6) 4 dX11_sumOf_6 rfl ?_
  refine j_iload_n (pc := 8) 2 dX11_sumOf_8 rfl rfl ?_
  refine j_icmpge (pc := 9) (tgt := 42) dX11_sumOf_9 rfl (fun _ => ?_) (fun _ => ?_)
  · refine j_iload (pc := 42) 3 dX11_sumOf_42 rfl ?_
    exact j_ireturn (pc := 44) rfl (Nat.le_of_ble_eq_true rfl) (Nat.le_of_ble_eq_true rfl) dX11_sumOf_44
  · refine j_bipush (pc := 12) (v := 31) (by decide) dX11_sumOf_12 ?_
    refine j_iload (pc := 14) 3 dX11_sumOf_14 rfl ?_
    refine j_imul (pc := 16) dX11_sumOf_16 ?_
    refine j_aload_n (pc := 17) 0 dX11_sumOf_17 rfl rfl ?_
    refine j_getF (pc := 18) fd_29_14 tw_4_80 dX11_sumOf_18 ?_
    refine j_sipush (pc := 21) (v := 400) (by decide) dX11_sumOf_21 ?_
    refine j_iload_n (pc := 24) 1 dX11_sumOf_24 rfl rfl ?_
    refine j_imul (pc := 25) dX11_sumOf_25 ?_
    refine j_iload (pc := 26) 4 dX11_sumOf_26 rfl ?_
    refine j_iadd (pc := 28) dX11_sumOf_28 ?_
    refine j_iald (pc := 29) rfl rfl rfl dX11_sumOf_29 (fun j1 => ?_)
    refine j_iadd (pc := 30) dX11_sumOf_30 ?_
    refine j_ldc (pc := 31) tw_5_135 dX11_sumOf_31 ?_
    refine j_iand (pc := 33) dX11_sumOf_33 ?_
    refine j_leti (fun x2 => ?_)
    refine j_istore (pc := 34) (lv' := [(4, aI x2), (0, aR 29 v0), (1, aI v1), (3, aI v3), (5, aI v5)]) dX11_sumOf_34 (Nat.le_of_ble_eq_true rfl) rfl ?_
    refine j_iinc (pc := 36) (w := 1) (lv' := [(5, aI (v5 + 1)), (4, aI x2), (0, aR 29 v0), (1, aI v1), (3, aI v3)]) 4 dX11_sumOf_36 rfl (by decide) (Nat.le_of_ble_eq_true rfl) rfl ?_
    refine j_goto (pc := 39) (tgt := 6) dX11_sumOf_39 rfl ?_
    refine j_sub [2, 3, 4, 1, 0] (lv' := [(0, aR 29 v0), (1, aI v1), (3, aI v3), (4, aI x2), (5, aI (v5 + 1))]) rfl ?_
    exact hK6 v0 v1 v3 x2 (v5 + 1) σ
theorem jl11_sumOf_6 {Γ : jX} {tg : Int32 × rS} (N : Nat) : ∀ (n : Nat) (v0 : Nat) (v1 : Int32) (v3 : Int32) (v4 : Int32) (v5 : Int32) (σ : rS), J Γ rm11_sumOf eI cX11_sumOf RX11 6 (some .int) tg 0 0 6 [(0, aR 29 v0), (1, aI v1), (3, aI v3), (4, aI v4), (5, aI v5)] [] σ (L11_sumOf_6 N n v0 v1 v3 v4 v5 σ) := by
  intro n
  induction n with
  | zero => intro v0 v1 v3 v4 v5 σ; exact j_none
  | succ n ih => intro v0 v1 v3 v4 v5 σ; exact jb11_sumOf_6 N (L11_sumOf_6 N n) ih v0 v1 v3 v4 v5 σ
set_option maxRecDepth 20000 in
set_option maxHeartbeats 4000000 in
theorem j11_sumOf {Γ : jX} {tg : Int32 × rS} (N : Nat) (v0 : Nat) (v1 : Int32) (v2 : Int32) (v3 : Int32) (σ : rS) : J Γ rm11_sumOf eI cX11_sumOf RX11 6 (some .int) tg 0 0 0 [(0, aR 29 v0), (1, aI v1), (2, aI v2), (3, aI v3)] [] σ (f11_sumOf N v0 v1 v2 v3 σ) := by
  unfold f11_sumOf
  refine j_iconst (pc := 0) (v := 0) (by decide) dX11_sumOf_0 ?_
  refine j_istore (pc := 1) (lv' := [(4, aI 0), (0, aR 29 v0), (1, aI v1), (2, aI v2), (3, aI v3)]) dX11_sumOf_1 (Nat.le_of_ble_eq_true rfl) rfl ?_
  refine j_iload_n (pc := 3) 3 dX11_sumOf_3 rfl rfl ?_
  refine j_istore (pc := 4) (lv' := [(5, aI v2), (4, aI 0), (0, aR 29 v0), (1, aI v1), (2, aI v2), (3, aI v3)]) dX11_sumOf_4 (Nat.le_of_ble_eq_true rfl) rfl ?_
  refine j_sub [0, 1, 2, 3, 5] (lv' := [(5, aI v2), (4, aI 0), (0, aR 29 v0), (1, aI v1), (3, aI v3)]) rfl ?_
  refine j_sub [2, 3, 4, 1, 0] (lv' := [(0, aR 29 v0), (1, aI v1), (3, aI v3), (4, aI 0), (5, aI v2)]) rfl ?_
  exact jl11_sumOf_6 N  N v0 v1 v3 0 v2 σ
theorem c11_sumOf (l : Launch) (N : Nat) (v0 : Nat) (v1 : Int32) (v2 : Int32) (v3 : Int32) : Ctr l yX11_sumOf cX11_sumOf 6 (some .int) rm11_sumOf eI [aR 29 v0, aI v1, aI v2, aI v3] (f11_sumOf N v0 v1 v2 v3) := ctr_of (lv := [(0, aR 29 v0), (1, aI v1), (2, aI v2), (3, aI v3)]) (by decide +kernel) (fun _ => rfl) (fun _ => (Nat.le_of_ble_eq_true rfl)) (fun _ h => lvl_als h rfl) (fun _ σ _ => j11_sumOf N v0 v1 v2 v3 σ)
theorem cs_RX11_247 : CaV RX11 RX11 247 yX11_isStream cX11_isStream 2 (some .boolean) 1 := ⟨tw_5_96, tw_5_98, tw_p26, tw_1_5, tw_5_99, rfl, by decide +kernel, by decide +kernel, by decide +kernel⟩
theorem cs_RX11_259 : CaV RX11 RX11 259 yX11_sumOf cX11_sumOf 6 (some .int) 3 := ⟨tw_5_131, tw_5_133, tw_p34, tw_1_5, tw_5_134, rfl, by decide +kernel, by decide +kernel, by decide +kernel⟩
abbrev rm11_about : Room := { frames := 2, cells := 0, slots := 0, locals := 46 }
set_option maxRecDepth 20000 in
set_option maxHeartbeats 4000000 in
theorem j11_about {Γ : jX} {tg : Int32 × rS} (N : Nat) (v0 : Nat) (v1 : Int32) (v2 : Int32) (σ : rS) : J Γ rm11_about eI cX11_about RX11 3 (some .int) tg 0 0 0 [(0, aR 29 v0), (1, aI v1), (2, aI v2)] [] σ (f11_about N v0 v1 v2 σ) := by
  unfold f11_about
  refine j_aload_n (pc := 0) 0 dX11_about_0 rfl rfl ?_
  refine j_iload_n (pc := 1) 1 dX11_about_1 rfl rfl ?_
  refine j_callVZ (pc := 2) (As := [aI v1]) (st := []) (fun l => c11_isStream l v0 v1) cs_RX11_247 rfl rfl rfl rfl (Nat.le_of_ble_eq_true rfl) ⟨(Nat.le_of_ble_eq_true rfl), (Nat.le_of_ble_eq_true rfl)⟩ ⟨(Nat.le_of_ble_eq_true rfl), (Nat.le_of_ble_eq_true rfl)⟩ dX11_about_2 (fun r1 σ2 => ?_)
  refine j_ifneB (pc := 5) (tgt := 11) dX11_about_5 rfl (fun _ => ?_) (fun _ => ?_)
  · refine j_iload_n (pc := 11) 2 dX11_about_11 rfl rfl ?_
    refine j_ifne (pc := 12) (tgt := 24) dX11_about_12 rfl (fun _ => ?_) (fun _ => ?_)
    · refine j_iload_n (pc := 24) 2 dX11_about_24 rfl rfl ?_
      refine j_iconst (pc := 25) (v := 1) (by decide) dX11_about_25 ?_
      refine j_icmpne (pc := 26) (tgt := 38) dX11_about_26 rfl (fun _ => ?_) (fun _ => ?_)
      · refine j_iload_n (pc := 38) 2 dX11_about_38 rfl rfl ?_
        refine j_iconst (pc := 39) (v := 2) (by decide) dX11_about_39 ?_
        refine j_icmpne (pc := 40) (tgt := 60) dX11_about_40 rfl (fun _ => ?_) (fun _ => ?_)
        · refine j_iload_n (pc := 60) 2 dX11_about_60 rfl rfl ?_
          refine j_iconst (pc := 61) (v := 3) (by decide) dX11_about_61 ?_
          refine j_icmpne (pc := 62) (tgt := 80) dX11_about_62 rfl (fun _ => ?_) (fun _ => ?_)
          · refine j_bipush (pc := 80) (v := (-102)) (by decide) dX11_about_80 ?_
            exact j_ireturn (pc := 82) rfl (Nat.le_of_ble_eq_true rfl) (Nat.le_of_ble_eq_true rfl) dX11_about_82
          · refine j_aload_n (pc := 65) 0 dX11_about_65 rfl rfl ?_
            refine j_iload_n (pc := 66) 1 dX11_about_66 rfl rfl ?_
            refine j_iconst (pc := 67) (v := 0) (by decide) dX11_about_67 ?_
            refine j_aload_n (pc := 68) 0 dX11_about_68 rfl rfl ?_
            refine j_getF (pc := 69) fd_29_15 tw_4_81 dX11_about_69 ?_
            refine j_iload_n (pc := 72) 1 dX11_about_72 rfl rfl ?_
            refine j_iald (pc := 73) rfl rfl rfl dX11_about_73 (fun j3 => ?_)
            refine j_callVI (pc := 74) (As := [aI v1, aI 0, aI (gI σ2 45 v0 j3)]) (st := []) (fun l => c11_sumOf l N v0 v1 0 (gI σ2 45 v0 j3)) cs_RX11_259 rfl rfl rfl rfl (Nat.le_of_ble_eq_true rfl) ⟨(Nat.le_of_ble_eq_true rfl), (Nat.le_of_ble_eq_true rfl)⟩ ⟨(Nat.le_of_ble_eq_true rfl), (Nat.le_of_ble_eq_true rfl)⟩ dX11_about_74 (fun r4 σ5 => ?_)
            refine j_goto (pc := 77) (tgt := 82) dX11_about_77 rfl ?_
            exact j_ireturn (pc := 82) rfl (Nat.le_of_ble_eq_true rfl) (Nat.le_of_ble_eq_true rfl) dX11_about_82
        · refine j_aload_n (pc := 43) 0 dX11_about_43 rfl rfl ?_
          refine j_getF (pc := 44) fd_29_17 tw_4_83 dX11_about_44 ?_
          refine j_iload_n (pc := 47) 1 dX11_about_47 rfl rfl ?_
          refine j_zald (pc := 48) rfl rfl rfl dX11_about_48 (fun j6 => ?_)
          refine j_ifeq (pc := 49) (tgt := 56) dX11_about_49 rfl (fun _ => ?_) (fun _ => ?_)
          · refine j_iconst (pc := 56) (v := 0) (by decide) dX11_about_56 ?_
            refine j_goto (pc := 57) (tgt := 82) dX11_about_57 rfl ?_
            exact j_ireturn (pc := 82) rfl (Nat.le_of_ble_eq_true rfl) (Nat.le_of_ble_eq_true rfl) dX11_about_82
          · refine j_iconst (pc := 52) (v := 1) (by decide) dX11_about_52 ?_
            refine j_goto (pc := 53) (tgt := 82) dX11_about_53 rfl ?_
            exact j_ireturn (pc := 82) rfl (Nat.le_of_ble_eq_true rfl) (Nat.le_of_ble_eq_true rfl) dX11_about_82
      · refine j_aload_n (pc := 29) 0 dX11_about_29 rfl rfl ?_
        refine j_getF (pc := 30) fd_29_16 tw_4_82 dX11_about_30 ?_
        refine j_iload_n (pc := 33) 1 dX11_about_33 rfl rfl ?_
        refine j_iald (pc := 34) rfl rfl rfl dX11_about_34 (fun j7 => ?_)
        refine j_goto (pc := 35) (tgt := 82) dX11_about_35 rfl ?_
        exact j_ireturn (pc := 82) rfl (Nat.le_of_ble_eq_true rfl) (Nat.le_of_ble_eq_true rfl) dX11_about_82
    · refine j_aload_n (pc := 15) 0 dX11_about_15 rfl rfl ?_
      refine j_getF (pc := 16) fd_29_15 tw_4_81 dX11_about_16 ?_
      refine j_iload_n (pc := 19) 1 dX11_about_19 rfl rfl ?_
      refine j_iald (pc := 20) rfl rfl rfl dX11_about_20 (fun j8 => ?_)
      refine j_goto (pc := 21) (tgt := 82) dX11_about_21 rfl ?_
      exact j_ireturn (pc := 82) rfl (Nat.le_of_ble_eq_true rfl) (Nat.le_of_ble_eq_true rfl) dX11_about_82
  · refine j_bipush (pc := 8) (v := (-101)) (by decide) dX11_about_8 ?_
    exact j_ireturn (pc := 10) rfl (Nat.le_of_ble_eq_true rfl) (Nat.le_of_ble_eq_true rfl) dX11_about_10
theorem c11_about (l : Launch) (N : Nat) (v0 : Nat) (v1 : Int32) (v2 : Int32) : Ctr l yX11_about cX11_about 3 (some .int) rm11_about eI [aR 29 v0, aI v1, aI v2] (f11_about N v0 v1 v2) := ctr_of (lv := [(0, aR 29 v0), (1, aI v1), (2, aI v2)]) (by decide +kernel) (fun _ => rfl) (fun _ => (Nat.le_of_ble_eq_true rfl)) (fun _ h => lvl_als h rfl) (fun _ σ _ => j11_about N v0 v1 v2 σ)
abbrev rm11_isDelta : Room := { frames := 1, cells := 0, slots := 0, locals := 25 }
set_option maxRecDepth 20000 in
set_option maxHeartbeats 4000000 in
theorem j11_isDelta {Γ : jX} {tg : Bool × rS} (v0 : Nat) (v1 : Int32) (σ : rS) : J Γ rm11_isDelta eZ cX11_isDelta RX11 2 (some .boolean) tg 0 0 0 [(0, aR 29 v0), (1, aI v1)] [] σ (f11_isDelta v0 v1 σ) := by
  unfold f11_isDelta
  refine j_iload_n (pc := 0) 1 dX11_isDelta_0 rfl rfl ?_
  refine j_i2l (pc := 1) dX11_isDelta_1 ?_
  refine j_lconst (pc := 2) (v := 0) (by decide) dX11_isDelta_2 ?_
  refine j_aload_n (pc := 3) 0 dX11_isDelta_3 rfl rfl ?_
  refine j_getI (pc := 4) fd_29_30 tw_4_96 dX11_isDelta_4 ?_
  refine j_iconst (pc := 7) (v := 1) (by decide) dX11_isDelta_7 ?_
  refine j_isub (pc := 8) dX11_isDelta_8 ?_
  refine j_i2l (pc := 9) dX11_isDelta_9 ?_
  refine j_callSZ (pc := 10) (As := [aL (Int32.toInt64 v1), aL 0, aL (Int32.toInt64 ((gI σ 29 v0 30) - 1))]) (st := []) (fun l => c11_in l (Int32.toInt64 v1) 0 (Int32.toInt64 ((gI σ 29 v0 30) - 1))) cs_RX11_140 rfl rfl (Nat.le_of_ble_eq_true rfl) ⟨(Nat.le_of_ble_eq_true rfl), (Nat.le_of_ble_eq_true rfl)⟩ ⟨(Nat.le_of_ble_eq_true rfl), (Nat.le_of_ble_eq_true rfl)⟩ dX11_isDelta_10 (fun r1 σ2 => ?_)
  exact j_zretB (pc := 13) rfl (Nat.le_of_ble_eq_true rfl) (Nat.le_of_ble_eq_true rfl) dX11_isDelta_13
theorem c11_isDelta (l : Launch) (v0 : Nat) (v1 : Int32) : Ctr l yX11_isDelta cX11_isDelta 2 (some .boolean) rm11_isDelta eZ [aR 29 v0, aI v1] (f11_isDelta v0 v1) := ctr_of (lv := [(0, aR 29 v0), (1, aI v1)]) (by decide +kernel) (fun _ => rfl) (fun _ => (Nat.le_of_ble_eq_true rfl)) (fun _ h => lvl_als h rfl) (fun _ σ _ => j11_isDelta v0 v1 σ)
abbrev rm11_meets : Room := { frames := 0, cells := 0, slots := 0, locals := 0 }
set_option maxRecDepth 20000 in
set_option maxHeartbeats 4000000 in
theorem j11_meets {Γ : jX} {tg : Int32 × rS} (v0 : Nat) (v1 : Int32) (σ : rS) : J Γ rm11_meets eI cX11_meets RX11 2 (some .int) tg 0 0 0 [(0, aR 29 v0), (1, aI v1)] [] σ (f11_meets v0 v1 σ) := by
  unfold f11_meets
  refine j_aload_n (pc := 0) 0 dX11_meets_0 rfl rfl ?_
  refine j_iload_n (pc := 1) 1 dX11_meets_1 rfl rfl ?_
  refine j_putI (pc := 2) fd_29_0 rfl rfl tw_4_66 dX11_meets_2 ?_
  refine j_lets (fun σ1 => ?_)
  refine j_aload_n (pc := 5) 0 dX11_meets_5 rfl rfl ?_
  refine j_getF (pc := 6) fd_29_1 tw_4_67 dX11_meets_6 ?_
  refine j_iload_n (pc := 9) 1 dX11_meets_9 rfl rfl ?_
  refine j_dup2 (pc := 10) dX11_meets_10 rfl rfl ?_
  refine j_iald (pc := 11) rfl rfl rfl dX11_meets_11 (fun j2 => ?_)
  refine j_iconst (pc := 12) (v := 1) (by decide) dX11_meets_12 ?_
  refine j_iadd (pc := 13) dX11_meets_13 ?_
  refine j_iast (pc := 14) rfl rfl rfl dX11_meets_14 (fun j3 => ?_)
  refine j_lets (fun σ4 => ?_)
  refine j_bipush (pc := 15) (v := (-10)) (by decide) dX11_meets_15 ?_
  refine j_iload_n (pc := 17) 1 dX11_meets_17 rfl rfl ?_
  refine j_isub (pc := 18) dX11_meets_18 ?_
  exact j_ireturn (pc := 19) rfl (Nat.le_of_ble_eq_true rfl) (Nat.le_of_ble_eq_true rfl) dX11_meets_19
theorem c11_meets (l : Launch) (v0 : Nat) (v1 : Int32) : Ctr l yX11_meets cX11_meets 2 (some .int) rm11_meets eI [aR 29 v0, aI v1] (f11_meets v0 v1) := ctr_of (lv := [(0, aR 29 v0), (1, aI v1)]) (by decide +kernel) (fun _ => rfl) (fun _ => (Nat.le_of_ble_eq_true rfl)) (fun _ h => lvl_als h rfl) (fun _ σ _ => j11_meets v0 v1 σ)
abbrev rm11_total : Room := { frames := 0, cells := 0, slots := 0, locals := 0 }
set_option maxRecDepth 20000 in
set_option maxHeartbeats 4000000 in
theorem jb11_total_60 {Γ : jX} {tg : Int32 × rS} (N : Nat) (K5 : Nat → Int32 → Bool → Int32 → Int32 → rS → Option (Int32 × rS)) (hK5 : ∀ (v0 : Nat) (v1 : Int32) (v2 : Bool) (v3 : Int32) (v4 : Int32) (σ : rS), J Γ rm11_total eI cX11_total RX11 5 (some .int) tg 0 0 5 [(0, aR 29 v0), (1, aI v1), (2, aI (bi v2)), (3, aI v3), (4, aI v4)] [] σ (K5 v0 v1 v2 v3 v4 σ)) (v0 : Nat) (v1 : Int32) (v2 : Bool) (v4 : Int32) (s0 : Int32) (s1 : Int32) (σ : rS) : J Γ rm11_total eI cX11_total RX11 5 (some .int) tg 0 0 60 [(0, aR 29 v0), (1, aI v1), (2, aI (bi v2)), (4, aI v4)] [aI s1, aI s0] σ (B11_total_60 N K5 v0 v1 v2 v4 s0 s1 σ) := by
  unfold B11_total_60
  refine j_iadd (pc := 60) dX11_total_60 ?_
  refine j_leti (fun x1 => ?_)
  refine j_istore_n (pc := 61) (lv' := [(3, aI x1), (0, aR 29 v0), (1, aI v1), (2, aI (bi v2)), (4, aI v4)]) dX11_total_61 rfl (Nat.le_of_ble_eq_true rfl) rfl ?_
  refine j_iinc (pc := 62) (w := 1) (lv' := [(4, aI (v4 + 1)), (3, aI x1), (0, aR 29 v0), (1, aI v1), (2, aI (bi v2))]) 4 dX11_total_62 rfl (by decide) (Nat.le_of_ble_eq_true rfl) rfl ?_
  refine j_goto (pc := 65) (tgt := 5) dX11_total_65 rfl ?_
  refine j_sub [2, 3, 4, 1, 0] (lv' := [(0, aR 29 v0), (1, aI v1), (2, aI (bi v2)), (3, aI x1), (4, aI (v4 + 1))]) rfl ?_
  exact hK5 v0 v1 v2 x1 (v4 + 1) σ
set_option maxRecDepth 20000 in
set_option maxHeartbeats 4000000 in
theorem jb11_total_39 {Γ : jX} {tg : Int32 × rS} (N : Nat) (K5 : Nat → Int32 → Bool → Int32 → Int32 → rS → Option (Int32 × rS)) (hK5 : ∀ (v0 : Nat) (v1 : Int32) (v2 : Bool) (v3 : Int32) (v4 : Int32) (σ : rS), J Γ rm11_total eI cX11_total RX11 5 (some .int) tg 0 0 5 [(0, aR 29 v0), (1, aI v1), (2, aI (bi v2)), (3, aI v3), (4, aI v4)] [] σ (K5 v0 v1 v2 v3 v4 σ)) (v0 : Nat) (v1 : Int32) (v2 : Bool) (v4 : Int32) (s0 : Int32) (s1 : Bool) (σ : rS) : J Γ rm11_total eI cX11_total RX11 5 (some .int) tg 0 0 39 [(0, aR 29 v0), (1, aI v1), (2, aI (bi v2)), (4, aI v4)] [aI (bi s1), aI s0] σ (B11_total_39 N K5 v0 v1 v2 v4 s0 s1 σ) := by
  unfold B11_total_39
  refine j_iload_n (pc := 39) 2 dX11_total_39 rfl rfl ?_
  refine j_icmpne (pc := 40) (tgt := 59) dX11_total_40 rfl (fun _ => ?_) (fun _ => ?_)
  · refine j_iconst (pc := 59) (v := 0) (by decide) dX11_total_59 ?_
    exact jb11_total_60 N K5 hK5 v0 v1 v2 v4 s0 0 σ
  · refine j_aload_n (pc := 43) 0 dX11_total_43 rfl rfl ?_
    refine j_getF (pc := 44) fd_29_35 tw_4_101 dX11_total_44 ?_
    refine j_sipush (pc := 47) (v := 400) (by decide) dX11_total_47 ?_
    refine j_iload_n (pc := 50) 1 dX11_total_50 rfl rfl ?_
    refine j_imul (pc := 51) dX11_total_51 ?_
    refine j_iload (pc := 52) 3 dX11_total_52 rfl ?_
    refine j_iadd (pc := 54) dX11_total_54 ?_
    refine j_iald (pc := 55) rfl rfl rfl dX11_total_55 (fun j1 => ?_)
    refine j_goto (pc := 56) (tgt := 60) dX11_total_56 rfl ?_
    exact jb11_total_60 N K5 hK5 v0 v1 v2 v4 s0 (gI σ 65 v0 j1) σ
set_option maxRecDepth 20000 in
set_option maxHeartbeats 4000000 in
theorem jb11_total_5 {Γ : jX} {tg : Int32 × rS} (N : Nat) (K5 : Nat → Int32 → Bool → Int32 → Int32 → rS → Option (Int32 × rS)) (hK5 : ∀ (v0 : Nat) (v1 : Int32) (v2 : Bool) (v3 : Int32) (v4 : Int32) (σ : rS), J Γ rm11_total eI cX11_total RX11 5 (some .int) tg 0 0 5 [(0, aR 29 v0), (1, aI v1), (2, aI (bi v2)), (3, aI v3), (4, aI v4)] [] σ (K5 v0 v1 v2 v3 v4 σ)) (v0 : Nat) (v1 : Int32) (v2 : Bool) (v3 : Int32) (v4 : Int32) (σ : rS) : J Γ rm11_total eI cX11_total RX11 5 (some .int) tg 0 0 5 [(0, aR 29 v0), (1, aI v1), (2, aI (bi v2)), (3, aI v3), (4, aI v4)] [] σ (B11_total_5 N K5 v0 v1 v2 v3 v4 σ) := by
  unfold B11_total_5
  refine j_iload (pc := 5) 4 dX11_total_5 rfl ?_
  refine j_aload_n (pc := 7) 0 dX11_total_7 rfl rfl ?_
  refine j_getF (pc := 8) fd_29_33 tw_4_99 dX11_total_8 ?_
  refine j_iload_n (pc := 11) 1 dX11_total_11 rfl rfl ?_
  refine j_iald (pc := 12) rfl rfl rfl dX11_total_12 (fun j1 => ?_)
  refine j_icmpge (pc := 13) (tgt := 68) dX11_total_13 rfl (fun _ => ?_) (fun _ => ?_)
  · refine j_iload_n (pc := 68) 3 dX11_total_68 rfl rfl ?_
    exact j_ireturn (pc := 69) rfl (Nat.le_of_ble_eq_true rfl) (Nat.le_of_ble_eq_true rfl) dX11_total_69
  · refine j_iload_n (pc := 16) 3 dX11_total_16 rfl rfl ?_
    refine j_aload_n (pc := 17) 0 dX11_total_17 rfl rfl ?_
    refine j_getF (pc := 18) fd_29_34 tw_4_100 dX11_total_18 ?_
    refine j_sipush (pc := 21) (v := 400) (by decide) dX11_total_21 ?_
    refine j_iload_n (pc := 24) 1 dX11_total_24 rfl rfl ?_
    refine j_imul (pc := 25) dX11_total_25 ?_
    refine j_iload (pc := 26) 4 dX11_total_26 rfl ?_
    refine j_iadd (pc := 28) dX11_total_28 ?_
    refine j_iald (pc := 29) rfl rfl rfl dX11_total_29 (fun j2 => ?_)
    refine j_iconst (pc := 30) (v := (-1)) (by decide) dX11_total_30 ?_
    refine j_icmpeq (pc := 31) (tgt := 38) dX11_total_31 rfl (fun _ => ?_) (fun _ => ?_)
    · refine j_iconst (pc := 38) (v := 0) (by decide) dX11_total_38 ?_
      refine j_sub [0, 1, 2, 4] (lv' := [(0, aR 29 v0), (1, aI v1), (2, aI (bi v2)), (4, aI v4)]) rfl ?_
      exact jb11_total_39 N K5 hK5 v0 v1 v2 v4 v3 false σ
    · refine j_iconst (pc := 34) (v := 1) (by decide) dX11_total_34 ?_
      refine j_goto (pc := 35) (tgt := 39) dX11_total_35 rfl ?_
      refine j_sub [0, 1, 2, 4] (lv' := [(0, aR 29 v0), (1, aI v1), (2, aI (bi v2)), (4, aI v4)]) rfl ?_
      exact jb11_total_39 N K5 hK5 v0 v1 v2 v4 v3 true σ
theorem jl11_total_5 {Γ : jX} {tg : Int32 × rS} (N : Nat) : ∀ (n : Nat) (v0 : Nat) (v1 : Int32) (v2 : Bool) (v3 : Int32) (v4 : Int32) (σ : rS), J Γ rm11_total eI cX11_total RX11 5 (some .int) tg 0 0 5 [(0, aR 29 v0), (1, aI v1), (2, aI (bi v2)), (3, aI v3), (4, aI v4)] [] σ (L11_total_5 N n v0 v1 v2 v3 v4 σ) := by
  intro n
  induction n with
  | zero => intro v0 v1 v2 v3 v4 σ; exact j_none
  | succ n ih => intro v0 v1 v2 v3 v4 σ; exact jb11_total_5 N (L11_total_5 N n) ih v0 v1 v2 v3 v4 σ
set_option maxRecDepth 20000 in
set_option maxHeartbeats 4000000 in
theorem j11_total {Γ : jX} {tg : Int32 × rS} (N : Nat) (v0 : Nat) (v1 : Int32) (v2 : Bool) (σ : rS) : J Γ rm11_total eI cX11_total RX11 5 (some .int) tg 0 0 0 [(0, aR 29 v0), (1, aI v1), (2, aI (bi v2))] [] σ (f11_total N v0 v1 v2 σ) := by
  unfold f11_total
  refine j_iconst (pc := 0) (v := 0) (by decide) dX11_total_0 ?_
  refine j_istore_n (pc := 1) (lv' := [(3, aI 0), (0, aR 29 v0), (1, aI v1), (2, aI (bi v2))]) dX11_total_1 rfl (Nat.le_of_ble_eq_true rfl) rfl ?_
  refine j_iconst (pc := 2) (v := 0) (by decide) dX11_total_2 ?_
  refine j_istore (pc := 3) (lv' := [(4, aI 0), (3, aI 0), (0, aR 29 v0), (1, aI v1), (2, aI (bi v2))]) dX11_total_3 (Nat.le_of_ble_eq_true rfl) rfl ?_
  refine j_sub [2, 3, 4, 1, 0] (lv' := [(0, aR 29 v0), (1, aI v1), (2, aI (bi v2)), (3, aI 0), (4, aI 0)]) rfl ?_
  exact jl11_total_5 N  N v0 v1 v2 0 0 σ
theorem c11_total (l : Launch) (N : Nat) (v0 : Nat) (v1 : Int32) (v2 : Bool) : Ctr l yX11_total cX11_total 5 (some .int) rm11_total eI [aR 29 v0, aI v1, aI (bi v2)] (f11_total N v0 v1 v2) := ctr_of (lv := [(0, aR 29 v0), (1, aI v1), (2, aI (bi v2))]) (by decide +kernel) (fun _ => rfl) (fun _ => (Nat.le_of_ble_eq_true rfl)) (fun _ h => lvl_als h rfl) (fun _ σ _ => j11_total N v0 v1 v2 σ)
theorem cs_RX11_313 : CaV RX11 RX11 313 yX11_isDelta cX11_isDelta 2 (some .boolean) 1 := ⟨tw_6_9, tw_6_11, tw_p44, tw_1_5, tw_6_12, rfl, by decide +kernel, by decide +kernel, by decide +kernel⟩
theorem cs_RX11_146 : CaV RX11 RX11 146 yX11_meets cX11_meets 2 (some .int) 1 := ⟨tw_4_187, tw_4_189, tw_p21, tw_1_5, tw_4_190, rfl, by decide +kernel, by decide +kernel, by decide +kernel⟩
theorem cs_RX11_316 : CaV RX11 RX11 316 yX11_total cX11_total 5 (some .int) 2 := ⟨tw_6_13, tw_6_15, tw_p45, tw_1_5, tw_6_16, rfl, by decide +kernel, by decide +kernel, by decide +kernel⟩
abbrev rm11_act : Room := { frames := 2, cells := 0, slots := 0, locals := 46 }
set_option maxRecDepth 20000 in
set_option maxHeartbeats 4000000 in
theorem j11_act {Γ : jX} {tg : Int32 × rS} (N : Nat) (v0 : Nat) (v1 : Int32) (v2 : Int32) (v3 : Int32) (σ : rS) : J Γ rm11_act eI cX11_act RX11 5 (some .int) tg 0 0 0 [(0, aR 29 v0), (1, aI v1), (2, aI v2), (3, aI v3)] [] σ (f11_act N v0 v1 v2 v3 σ) := by
  unfold f11_act
  refine j_aload_n (pc := 0) 0 dX11_act_0 rfl rfl ?_
  refine j_iload_n (pc := 1) 1 dX11_act_1 rfl rfl ?_
  refine j_callVZ (pc := 2) (As := [aI v1]) (st := []) (fun l => c11_isDelta l v0 v1) cs_RX11_313 rfl rfl rfl rfl (Nat.le_of_ble_eq_true rfl) ⟨(Nat.le_of_ble_eq_true rfl), (Nat.le_of_ble_eq_true rfl)⟩ ⟨(Nat.le_of_ble_eq_true rfl), (Nat.le_of_ble_eq_true rfl)⟩ dX11_act_2 (fun r1 σ2 => ?_)
  refine j_ifneB (pc := 5) (tgt := 11) dX11_act_5 rfl (fun _ => ?_) (fun _ => ?_)
  · refine j_iload_n (pc := 11) 3 dX11_act_11 rfl rfl ?_
    refine j_i2l (pc := 12) dX11_act_12 ?_
    refine j_lconst (pc := 13) (v := 0) (by decide) dX11_act_13 ?_
    refine j_ldc2 (pc := 14) tw_5_75 dX11_act_14 ?_
    refine j_callSZ (pc := 17) (As := [aL (Int32.toInt64 v3), aL 0, aL 2]) (st := []) (fun l => c11_in l (Int32.toInt64 v3) 0 2) cs_RX11_140 rfl rfl (Nat.le_of_ble_eq_true rfl) ⟨(Nat.le_of_ble_eq_true rfl), (Nat.le_of_ble_eq_true rfl)⟩ ⟨(Nat.le_of_ble_eq_true rfl), (Nat.le_of_ble_eq_true rfl)⟩ dX11_act_17 (fun r3 σ4 => ?_)
    refine j_ifneB (pc := 20) (tgt := 26) dX11_act_20 rfl (fun _ => ?_) (fun _ => ?_)
    · refine j_iload_n (pc := 26) 2 dX11_act_26 rfl rfl ?_
      refine j_iconst (pc := 27) (v := (-1)) (by decide) dX11_act_27 ?_
      refine j_icmpne (pc := 28) (tgt := 60) dX11_act_28 rfl (fun _ => ?_) (fun _ => ?_)
      · refine j_iload_n (pc := 60) 2 dX11_act_60 rfl rfl ?_
        refine j_i2l (pc := 61) dX11_act_61 ?_
        refine j_lconst (pc := 62) (v := 0) (by decide) dX11_act_62 ?_
        refine j_aload_n (pc := 63) 0 dX11_act_63 rfl rfl ?_
        refine j_getF (pc := 64) fd_29_33 tw_4_99 dX11_act_64 ?_
        refine j_iload_n (pc := 67) 1 dX11_act_67 rfl rfl ?_
        refine j_iald (pc := 68) rfl rfl rfl dX11_act_68 (fun j5 => ?_)
        refine j_iconst (pc := 69) (v := 1) (by decide) dX11_act_69 ?_
        refine j_isub (pc := 70) dX11_act_70 ?_
        refine j_i2l (pc := 71) dX11_act_71 ?_
        refine j_callSZ (pc := 72) (As := [aL (Int32.toInt64 v2), aL 0, aL (Int32.toInt64 ((gI σ4 63 v0 j5) - 1))]) (st := []) (fun l => c11_in l (Int32.toInt64 v2) 0 (Int32.toInt64 ((gI σ4 63 v0 j5) - 1))) cs_RX11_140 rfl rfl (Nat.le_of_ble_eq_true rfl) ⟨(Nat.le_of_ble_eq_true rfl), (Nat.le_of_ble_eq_true rfl)⟩ ⟨(Nat.le_of_ble_eq_true rfl), (Nat.le_of_ble_eq_true rfl)⟩ dX11_act_72 (fun r6 σ7 => ?_)
        refine j_ifneB (pc := 75) (tgt := 84) dX11_act_75 rfl (fun _ => ?_) (fun _ => ?_)
        · refine j_aload_n (pc := 84) 0 dX11_act_84 rfl rfl ?_
          refine j_getF (pc := 85) fd_29_34 tw_4_100 dX11_act_85 ?_
          refine j_sipush (pc := 88) (v := 400) (by decide) dX11_act_88 ?_
          refine j_iload_n (pc := 91) 1 dX11_act_91 rfl rfl ?_
          refine j_imul (pc := 92) dX11_act_92 ?_
          refine j_iload_n (pc := 93) 2 dX11_act_93 rfl rfl ?_
          refine j_iadd (pc := 94) dX11_act_94 ?_
          refine j_iald (pc := 95) rfl rfl rfl dX11_act_95 (fun j8 => ?_)
          refine j_leti (fun x9 => ?_)
          refine j_istore (pc := 96) (lv' := [(4, aI x9), (0, aR 29 v0), (1, aI v1), (2, aI v2), (3, aI v3)]) dX11_act_96 (Nat.le_of_ble_eq_true rfl) rfl ?_
          refine j_iload_n (pc := 98) 4 dX11_act_98 rfl rfl ?_
          refine j_ifne (pc := 99) (tgt := 116) dX11_act_99 rfl (fun _ => ?_) (fun _ => ?_)
          · refine j_iload_n (pc := 116) 4 dX11_act_116 rfl rfl ?_
            refine j_iconst (pc := 117) (v := 1) (by decide) dX11_act_117 ?_
            refine j_icmpne (pc := 118) (tgt := 126) dX11_act_118 rfl (fun _ => ?_) (fun _ => ?_)
            · refine j_aload_n (pc := 126) 1 dX11_act_126 rfl rfl ?_
              refine j_getF (pc := 127) fd_29_35 tw_4_101 dX11_act_127 ?_
              refine j_sipush (pc := 130) (v := 400) (by decide) dX11_act_130 ?_
              refine j_iload_n (pc := 133) 2 dX11_act_133 rfl rfl ?_
              refine j_imul (pc := 134) dX11_act_134 ?_
              refine j_iload_n (pc := 135) 3 dX11_act_135 rfl rfl ?_
              refine j_iadd (pc := 136) dX11_act_136 ?_
              refine j_iald (pc := 137) rfl rfl rfl dX11_act_137 (fun j10 => ?_)
              exact j_ireturn (pc := 138) rfl (Nat.le_of_ble_eq_true rfl) (Nat.le_of_ble_eq_true rfl) dX11_act_138
            · refine j_iload (pc := 121) 0 dX11_act_121 rfl ?_
              refine j_goto (pc := 123) (tgt := 138) dX11_act_123 rfl ?_
              exact j_ireturn (pc := 138) rfl (Nat.le_of_ble_eq_true rfl) (Nat.le_of_ble_eq_true rfl) dX11_act_138
          · refine j_iload (pc := 102) 0 dX11_act_102 rfl ?_
            refine j_iconst (pc := 104) (v := (-1)) (by decide) dX11_act_104 ?_
            refine j_icmpne (pc := 105) (tgt := 112) dX11_act_105 rfl (fun _ => ?_) (fun _ => ?_)
            · refine j_iconst (pc := 112) (v := 0) (by decide) dX11_act_112 ?_
              refine j_goto (pc := 113) (tgt := 138) dX11_act_113 rfl ?_
              exact j_ireturn (pc := 138) rfl (Nat.le_of_ble_eq_true rfl) (Nat.le_of_ble_eq_true rfl) dX11_act_138
            · refine j_iconst (pc := 108) (v := 1) (by decide) dX11_act_108 ?_
              refine j_goto (pc := 109) (tgt := 138) dX11_act_109 rfl ?_
              exact j_ireturn (pc := 138) rfl (Nat.le_of_ble_eq_true rfl) (Nat.le_of_ble_eq_true rfl) dX11_act_138
        · refine j_aload_n (pc := 78) 0 dX11_act_78 rfl rfl ?_
          refine j_iconst (pc := 79) (v := 2) (by decide) dX11_act_79 ?_
          refine j_callVI (pc := 80) (As := [aI 2]) (st := []) (fun l => c11_meets l v0 2) cs_RX11_146 rfl rfl rfl rfl (Nat.le_of_ble_eq_true rfl) ⟨(Nat.le_of_ble_eq_true rfl), (Nat.le_of_ble_eq_true rfl)⟩ ⟨(Nat.le_of_ble_eq_true rfl), (Nat.le_of_ble_eq_true rfl)⟩ dX11_act_80 (fun r11 σ12 => ?_)
          exact j_ireturn (pc := 83) rfl (Nat.le_of_ble_eq_true rfl) (Nat.le_of_ble_eq_true rfl) dX11_act_83
      · refine j_iload_n (pc := 31) 3 dX11_act_31 rfl rfl ?_
        refine j_ifne (pc := 32) (tgt := 44) dX11_act_32 rfl (fun _ => ?_) (fun _ => ?_)
        · refine j_aload_n (pc := 44) 0 dX11_act_44 rfl rfl ?_
          refine j_iload_n (pc := 45) 1 dX11_act_45 rfl rfl ?_
          refine j_iload_n (pc := 46) 3 dX11_act_46 rfl rfl ?_
          refine j_iconst (pc := 47) (v := 1) (by decide) dX11_act_47 ?_
          refine j_icmpne (pc := 48) (tgt := 55) dX11_act_48 rfl (fun _ => ?_) (fun _ => ?_)
          · refine j_iconst (pc := 55) (v := 0) (by decide) dX11_act_55 ?_
            refine j_callVI (pc := 56) (As := [aI v1, aI (bi false)]) (st := []) (fun l => c11_total l N v0 v1 false) cs_RX11_316 rfl rfl rfl rfl (Nat.le_of_ble_eq_true rfl) ⟨(Nat.le_of_ble_eq_true rfl), (Nat.le_of_ble_eq_true rfl)⟩ ⟨(Nat.le_of_ble_eq_true rfl), (Nat.le_of_ble_eq_true rfl)⟩ dX11_act_56 (fun r13 σ14 => ?_)
            exact j_ireturn (pc := 59) rfl (Nat.le_of_ble_eq_true rfl) (Nat.le_of_ble_eq_true rfl) dX11_act_59
          · refine j_iconst (pc := 51) (v := 1) (by decide) dX11_act_51 ?_
            refine j_goto (pc := 52) (tgt := 56) dX11_act_52 rfl ?_
            refine j_callVI (pc := 56) (As := [aI v1, aI (bi true)]) (st := []) (fun l => c11_total l N v0 v1 true) cs_RX11_316 rfl rfl rfl rfl (Nat.le_of_ble_eq_true rfl) ⟨(Nat.le_of_ble_eq_true rfl), (Nat.le_of_ble_eq_true rfl)⟩ ⟨(Nat.le_of_ble_eq_true rfl), (Nat.le_of_ble_eq_true rfl)⟩ dX11_act_56 (fun r15 σ16 => ?_)
            exact j_ireturn (pc := 59) rfl (Nat.le_of_ble_eq_true rfl) (Nat.le_of_ble_eq_true rfl) dX11_act_59
        · refine j_aload_n (pc := 35) 0 dX11_act_35 rfl rfl ?_
          refine j_getF (pc := 36) fd_29_33 tw_4_99 dX11_act_36 ?_
          refine j_iload_n (pc := 39) 1 dX11_act_39 rfl rfl ?_
          refine j_iald (pc := 40) rfl rfl rfl dX11_act_40 (fun j17 => ?_)
          refine j_goto (pc := 41) (tgt := 59) dX11_act_41 rfl ?_
          exact j_ireturn (pc := 59) rfl (Nat.le_of_ble_eq_true rfl) (Nat.le_of_ble_eq_true rfl) dX11_act_59
    · refine j_bipush (pc := 23) (v := (-102)) (by decide) dX11_act_23 ?_
      exact j_ireturn (pc := 25) rfl (Nat.le_of_ble_eq_true rfl) (Nat.le_of_ble_eq_true rfl) dX11_act_25
  · refine j_bipush (pc := 8) (v := (-101)) (by decide) dX11_act_8 ?_
    exact j_ireturn (pc := 10) rfl (Nat.le_of_ble_eq_true rfl) (Nat.le_of_ble_eq_true rfl) dX11_act_10
theorem c11_act (l : Launch) (N : Nat) (v0 : Nat) (v1 : Int32) (v2 : Int32) (v3 : Int32) : Ctr l yX11_act cX11_act 5 (some .int) rm11_act eI [aR 29 v0, aI v1, aI v2, aI v3] (f11_act N v0 v1 v2 v3) := ctr_of (lv := [(0, aR 29 v0), (1, aI v1), (2, aI v2), (3, aI v3)]) (by decide +kernel) (fun _ => rfl) (fun _ => (Nat.le_of_ble_eq_true rfl)) (fun _ h => lvl_als h rfl) (fun _ σ _ => j11_act N v0 v1 v2 v3 σ)
abbrev rm11_lay : Room := { frames := 0, cells := 0, slots := 0, locals := 0 }
set_option maxRecDepth 20000 in
set_option maxHeartbeats 4000000 in
theorem j11_lay {Γ : jX} {tg : Unit × rS} (v0 : Nat) (v1 : Int32) (v2 : Int32) (σ : rS) : J Γ rm11_lay eV cX11_lay RX11 3 none tg 0 0 0 [(0, aR 29 v0), (1, aI v1), (2, aI v2)] [] σ (f11_lay v0 v1 v2 σ) := by
  unfold f11_lay
  refine j_aload_n (pc := 0) 0 dX11_lay_0 rfl rfl ?_
  refine j_getF (pc := 1) fd_29_14 tw_4_80 dX11_lay_1 ?_
  refine j_sipush (pc := 4) (v := 400) (by decide) dX11_lay_4 ?_
  refine j_iload_n (pc := 7) 1 dX11_lay_7 rfl rfl ?_
  refine j_imul (pc := 8) dX11_lay_8 ?_
  refine j_aload_n (pc := 9) 0 dX11_lay_9 rfl rfl ?_
  refine j_getF (pc := 10) fd_29_15 tw_4_81 dX11_lay_10 ?_
  refine j_iload_n (pc := 13) 1 dX11_lay_13 rfl rfl ?_
  refine j_iald (pc := 14) rfl rfl rfl dX11_lay_14 (fun j1 => ?_)
  refine j_iadd (pc := 15) dX11_lay_15 ?_
  refine j_iload_n (pc := 16) 2 dX11_lay_16 rfl rfl ?_
  refine j_iast (pc := 17) rfl rfl rfl dX11_lay_17 (fun j2 => ?_)
  refine j_lets (fun σ3 => ?_)
  refine j_aload_n (pc := 18) 0 dX11_lay_18 rfl rfl ?_
  refine j_getF (pc := 19) fd_29_15 tw_4_81 dX11_lay_19 ?_
  refine j_iload_n (pc := 22) 1 dX11_lay_22 rfl rfl ?_
  refine j_dup2 (pc := 23) dX11_lay_23 rfl rfl ?_
  refine j_iald (pc := 24) rfl rfl rfl dX11_lay_24 (fun j4 => ?_)
  refine j_iconst (pc := 25) (v := 1) (by decide) dX11_lay_25 ?_
  refine j_iadd (pc := 26) dX11_lay_26 ?_
  refine j_iast (pc := 27) rfl rfl rfl dX11_lay_27 (fun j5 => ?_)
  refine j_lets (fun σ6 => ?_)
  exact j_return (pc := 28) rfl (Nat.le_of_ble_eq_true rfl) (Nat.le_of_ble_eq_true rfl) dX11_lay_28
theorem c11_lay (l : Launch) (v0 : Nat) (v1 : Int32) (v2 : Int32) : Ctr l yX11_lay cX11_lay 3 none rm11_lay eV [aR 29 v0, aI v1, aI v2] (f11_lay v0 v1 v2) := ctr_of (lv := [(0, aR 29 v0), (1, aI v1), (2, aI v2)]) (by decide +kernel) (fun _ => rfl) (fun _ => (Nat.le_of_ble_eq_true rfl)) (fun _ h => lvl_als h rfl) (fun _ σ _ => j11_lay v0 v1 v2 σ)
theorem cs_RX11_256 : CaV RX11 RX11 256 yX11_lay cX11_lay 3 none 2 := ⟨tw_5_127, tw_5_129, tw_p33, tw_1_5, tw_5_130, rfl, by decide +kernel, by decide +kernel, by decide +kernel⟩
abbrev rm11_add : Room := { frames := 2, cells := 0, slots := 0, locals := 46 }
set_option maxRecDepth 20000 in
set_option maxHeartbeats 4000000 in
theorem j11_add {Γ : jX} {tg : Int32 × rS} (v0 : Nat) (v1 : Int32) (v2 : Int32) (σ : rS) : J Γ rm11_add eI cX11_add RX11 3 (some .int) tg 0 0 0 [(0, aR 29 v0), (1, aI v1), (2, aI v2)] [] σ (f11_add v0 v1 v2 σ) := by
  unfold f11_add
  refine j_aload_n (pc := 0) 0 dX11_add_0 rfl rfl ?_
  refine j_iload_n (pc := 1) 1 dX11_add_1 rfl rfl ?_
  refine j_callVZ (pc := 2) (As := [aI v1]) (st := []) (fun l => c11_isStream l v0 v1) cs_RX11_247 rfl rfl rfl rfl (Nat.le_of_ble_eq_true rfl) ⟨(Nat.le_of_ble_eq_true rfl), (Nat.le_of_ble_eq_true rfl)⟩ ⟨(Nat.le_of_ble_eq_true rfl), (Nat.le_of_ble_eq_true rfl)⟩ dX11_add_2 (fun r1 σ2 => ?_)
  refine j_ifneB (pc := 5) (tgt := 11) dX11_add_5 rfl (fun _ => ?_) (fun _ => ?_)
  · refine j_aload_n (pc := 11) 0 dX11_add_11 rfl rfl ?_
    refine j_getF (pc := 12) fd_29_17 tw_4_83 dX11_add_12 ?_
    refine j_iload_n (pc := 15) 1 dX11_add_15 rfl rfl ?_
    refine j_zald (pc := 16) rfl rfl rfl dX11_add_16 (fun j3 => ?_)
    refine j_ifeq (pc := 17) (tgt := 23) dX11_add_17 rfl (fun _ => ?_) (fun _ => ?_)
    · refine j_aload_n (pc := 23) 0 dX11_add_23 rfl rfl ?_
      refine j_getF (pc := 24) fd_29_15 tw_4_81 dX11_add_24 ?_
      refine j_iload_n (pc := 27) 1 dX11_add_27 rfl rfl ?_
      refine j_iald (pc := 28) rfl rfl rfl dX11_add_28 (fun j4 => ?_)
      refine j_sipush (pc := 29) (v := 400) (by decide) dX11_add_29 ?_
      refine j_icmpne (pc := 32) (tgt := 38) dX11_add_32 rfl (fun _ => ?_) (fun _ => ?_)
      · refine j_aload_n (pc := 38) 0 dX11_add_38 rfl rfl ?_
        refine j_iload_n (pc := 39) 1 dX11_add_39 rfl rfl ?_
        refine j_iload_n (pc := 40) 2 dX11_add_40 rfl rfl ?_
        refine j_sipush (pc := 41) (v := 255) (by decide) dX11_add_41 ?_
        refine j_iand (pc := 44) dX11_add_44 ?_
        refine j_callVV (pc := 45) (As := [aI v1, aI (v2 &&& 255)]) (st := []) (fun l => c11_lay l v0 v1 (v2 &&& 255)) cs_RX11_256 rfl rfl rfl rfl (Nat.le_of_ble_eq_true rfl) ⟨(Nat.le_of_ble_eq_true rfl), (Nat.le_of_ble_eq_true rfl)⟩ ⟨(Nat.le_of_ble_eq_true rfl), (Nat.le_of_ble_eq_true rfl)⟩ dX11_add_45 (fun r5 σ6 => ?_)
        refine j_aload_n (pc := 48) 0 dX11_add_48 rfl rfl ?_
        refine j_getF (pc := 49) fd_29_15 tw_4_81 dX11_add_49 ?_
        refine j_iload_n (pc := 52) 1 dX11_add_52 rfl rfl ?_
        refine j_iald (pc := 53) rfl rfl rfl dX11_add_53 (fun j7 => ?_)
        exact j_ireturn (pc := 54) rfl (Nat.le_of_ble_eq_true rfl) (Nat.le_of_ble_eq_true rfl) dX11_add_54
      · refine j_bipush (pc := 35) (v := (-104)) (by decide) dX11_add_35 ?_
        exact j_ireturn (pc := 37) rfl (Nat.le_of_ble_eq_true rfl) (Nat.le_of_ble_eq_true rfl) dX11_add_37
    · refine j_bipush (pc := 20) (v := (-103)) (by decide) dX11_add_20 ?_
      exact j_ireturn (pc := 22) rfl (Nat.le_of_ble_eq_true rfl) (Nat.le_of_ble_eq_true rfl) dX11_add_22
  · refine j_bipush (pc := 8) (v := (-101)) (by decide) dX11_add_8 ?_
    exact j_ireturn (pc := 10) rfl (Nat.le_of_ble_eq_true rfl) (Nat.le_of_ble_eq_true rfl) dX11_add_10
theorem c11_add (l : Launch) (v0 : Nat) (v1 : Int32) (v2 : Int32) : Ctr l yX11_add cX11_add 3 (some .int) rm11_add eI [aR 29 v0, aI v1, aI v2] (f11_add v0 v1 v2) := ctr_of (lv := [(0, aR 29 v0), (1, aI v1), (2, aI v2)]) (by decide +kernel) (fun _ => rfl) (fun _ => (Nat.le_of_ble_eq_true rfl)) (fun _ h => lvl_als h rfl) (fun _ σ _ => j11_add v0 v1 v2 σ)
abbrev rm11_isRow : Room := { frames := 1, cells := 0, slots := 0, locals := 25 }
set_option maxRecDepth 20000 in
set_option maxHeartbeats 4000000 in
theorem j11_isRow {Γ : jX} {tg : Bool × rS} (v0 : Nat) (v1 : Int32) (σ : rS) : J Γ rm11_isRow eZ cX11_isRow RX11 2 (some .boolean) tg 0 0 0 [(0, aR 29 v0), (1, aI v1)] [] σ (f11_isRow v0 v1 σ) := by
  unfold f11_isRow
  refine j_iload_n (pc := 0) 1 dX11_isRow_0 rfl rfl ?_
  refine j_i2l (pc := 1) dX11_isRow_1 ?_
  refine j_lconst (pc := 2) (v := 0) (by decide) dX11_isRow_2 ?_
  refine j_aload_n (pc := 3) 0 dX11_isRow_3 rfl rfl ?_
  refine j_getI (pc := 4) fd_29_3 tw_4_69 dX11_isRow_4 ?_
  refine j_iconst (pc := 7) (v := 1) (by decide) dX11_isRow_7 ?_
  refine j_isub (pc := 8) dX11_isRow_8 ?_
  refine j_i2l (pc := 9) dX11_isRow_9 ?_
  refine j_callSZ (pc := 10) (As := [aL (Int32.toInt64 v1), aL 0, aL (Int32.toInt64 ((gI σ 29 v0 3) - 1))]) (st := []) (fun l => c11_in l (Int32.toInt64 v1) 0 (Int32.toInt64 ((gI σ 29 v0 3) - 1))) cs_RX11_140 rfl rfl (Nat.le_of_ble_eq_true rfl) ⟨(Nat.le_of_ble_eq_true rfl), (Nat.le_of_ble_eq_true rfl)⟩ ⟨(Nat.le_of_ble_eq_true rfl), (Nat.le_of_ble_eq_true rfl)⟩ dX11_isRow_10 (fun r1 σ2 => ?_)
  exact j_zretB (pc := 13) rfl (Nat.le_of_ble_eq_true rfl) (Nat.le_of_ble_eq_true rfl) dX11_isRow_13
theorem c11_isRow (l : Launch) (v0 : Nat) (v1 : Int32) : Ctr l yX11_isRow cX11_isRow 2 (some .boolean) rm11_isRow eZ [aR 29 v0, aI v1] (f11_isRow v0 v1) := ctr_of (lv := [(0, aR 29 v0), (1, aI v1)]) (by decide +kernel) (fun _ => rfl) (fun _ => (Nat.le_of_ble_eq_true rfl)) (fun _ h => lvl_als h rfl) (fun _ σ _ => j11_isRow v0 v1 σ)
theorem cs_RX11_154 : CaV RX11 RX11 154 yX11_isRow cX11_isRow 2 (some .boolean) 1 := ⟨tw_4_199, tw_4_201, tw_p23, tw_1_5, tw_4_202, rfl, by decide +kernel, by decide +kernel, by decide +kernel⟩
abbrev rm11_against : Room := { frames := 2, cells := 0, slots := 0, locals := 46 }
set_option maxRecDepth 20000 in
set_option maxHeartbeats 4000000 in
theorem j11_against {Γ : jX} {tg : Int32 × rS} (v0 : Nat) (v1 : Int32) (v2 : Int32) (σ : rS) : J Γ rm11_against eI cX11_against RX11 3 (some .int) tg 0 0 0 [(0, aR 29 v0), (1, aI v1), (2, aI v2)] [] σ (f11_against v0 v1 v2 σ) := by
  unfold f11_against
  refine j_aload_n (pc := 0) 0 dX11_against_0 rfl rfl ?_
  refine j_iload_n (pc := 1) 1 dX11_against_1 rfl rfl ?_
  refine j_callVZ (pc := 2) (As := [aI v1]) (st := []) (fun l => c11_isRow l v0 v1) cs_RX11_154 rfl rfl rfl rfl (Nat.le_of_ble_eq_true rfl) ⟨(Nat.le_of_ble_eq_true rfl), (Nat.le_of_ble_eq_true rfl)⟩ ⟨(Nat.le_of_ble_eq_true rfl), (Nat.le_of_ble_eq_true rfl)⟩ dX11_against_2 (fun r1 σ2 => ?_)
  refine j_ifneB (pc := 5) (tgt := 13) dX11_against_5 rfl (fun _ => ?_) (fun _ => ?_)
  · refine j_aload_n (pc := 13) 0 dX11_against_13 rfl rfl ?_
    refine j_getF (pc := 14) fd_29_6 tw_4_72 dX11_against_14 ?_
    refine j_iload_n (pc := 17) 1 dX11_against_17 rfl rfl ?_
    refine j_zald (pc := 18) rfl rfl rfl dX11_against_18 (fun j3 => ?_)
    refine j_ifeq (pc := 19) (tgt := 30) dX11_against_19 rfl (fun _ => ?_) (fun _ => ?_)
    · refine j_iload_n (pc := 30) 2 dX11_against_30 rfl rfl ?_
      refine j_i2l (pc := 31) dX11_against_31 ?_
      refine j_lconst (pc := 32) (v := 0) (by decide) dX11_against_32 ?_
      refine j_aload_n (pc := 33) 0 dX11_against_33 rfl rfl ?_
      refine j_getF (pc := 34) fd_29_5 tw_4_71 dX11_against_34 ?_
      refine j_iload_n (pc := 37) 1 dX11_against_37 rfl rfl ?_
      refine j_iald (pc := 38) rfl rfl rfl dX11_against_38 (fun j4 => ?_)
      refine j_iconst (pc := 39) (v := 1) (by decide) dX11_against_39 ?_
      refine j_isub (pc := 40) dX11_against_40 ?_
      refine j_i2l (pc := 41) dX11_against_41 ?_
      refine j_callSZ (pc := 42) (As := [aL (Int32.toInt64 v2), aL 0, aL (Int32.toInt64 ((gI σ2 35 v0 j4) - 1))]) (st := []) (fun l => c11_in l (Int32.toInt64 v2) 0 (Int32.toInt64 ((gI σ2 35 v0 j4) - 1))) cs_RX11_140 rfl rfl (Nat.le_of_ble_eq_true rfl) ⟨(Nat.le_of_ble_eq_true rfl), (Nat.le_of_ble_eq_true rfl)⟩ ⟨(Nat.le_of_ble_eq_true rfl), (Nat.le_of_ble_eq_true rfl)⟩ dX11_against_42 (fun r5 σ6 => ?_)
      refine j_ifneB (pc := 45) (tgt := 56) dX11_against_45 rfl (fun _ => ?_) (fun _ => ?_)
      · refine j_iconst (pc := 56) (v := 0) (by decide) dX11_against_56 ?_
        exact j_ireturn (pc := 57) rfl (Nat.le_of_ble_eq_true rfl) (Nat.le_of_ble_eq_true rfl) dX11_against_57
      · refine j_aload_n (pc := 48) 0 dX11_against_48 rfl rfl ?_
        refine j_iconst (pc := 49) (v := 2) (by decide) dX11_against_49 ?_
        refine j_callVI (pc := 50) (As := [aI 2]) (st := []) (fun l => c11_meets l v0 2) cs_RX11_146 rfl rfl rfl rfl (Nat.le_of_ble_eq_true rfl) ⟨(Nat.le_of_ble_eq_true rfl), (Nat.le_of_ble_eq_true rfl)⟩ ⟨(Nat.le_of_ble_eq_true rfl), (Nat.le_of_ble_eq_true rfl)⟩ dX11_against_50 (fun r7 σ8 => ?_)
        refine j_goto (pc := 53) (tgt := 57) dX11_against_53 rfl ?_
        exact j_ireturn (pc := 57) rfl (Nat.le_of_ble_eq_true rfl) (Nat.le_of_ble_eq_true rfl) dX11_against_57
    · refine j_aload_n (pc := 22) 0 dX11_against_22 rfl rfl ?_
      refine j_iconst (pc := 23) (v := 1) (by decide) dX11_against_23 ?_
      refine j_callVI (pc := 24) (As := [aI 1]) (st := []) (fun l => c11_meets l v0 1) cs_RX11_146 rfl rfl rfl rfl (Nat.le_of_ble_eq_true rfl) ⟨(Nat.le_of_ble_eq_true rfl), (Nat.le_of_ble_eq_true rfl)⟩ ⟨(Nat.le_of_ble_eq_true rfl), (Nat.le_of_ble_eq_true rfl)⟩ dX11_against_24 (fun r9 σ10 => ?_)
      refine j_goto (pc := 27) (tgt := 57) dX11_against_27 rfl ?_
      exact j_ireturn (pc := 57) rfl (Nat.le_of_ble_eq_true rfl) (Nat.le_of_ble_eq_true rfl) dX11_against_57
  · refine j_bipush (pc := 8) (v := (-101)) (by decide) dX11_against_8 ?_
    refine j_goto (pc := 10) (tgt := 57) dX11_against_10 rfl ?_
    exact j_ireturn (pc := 57) rfl (Nat.le_of_ble_eq_true rfl) (Nat.le_of_ble_eq_true rfl) dX11_against_57
theorem c11_against (l : Launch) (v0 : Nat) (v1 : Int32) (v2 : Int32) : Ctr l yX11_against cX11_against 3 (some .int) rm11_against eI [aR 29 v0, aI v1, aI v2] (f11_against v0 v1 v2) := ctr_of (lv := [(0, aR 29 v0), (1, aI v1), (2, aI v2)]) (by decide +kernel) (fun _ => rfl) (fun _ => (Nat.le_of_ble_eq_true rfl)) (fun _ h => lvl_als h rfl) (fun _ σ _ => j11_against v0 v1 v2 σ)
abbrev rm11_newStream : Room := { frames := 0, cells := 0, slots := 0, locals := 0 }
set_option maxRecDepth 20000 in
set_option maxHeartbeats 4000000 in
theorem j11_newStream {Γ : jX} {tg : Int32 × rS} (v0 : Nat) (σ : rS) : J Γ rm11_newStream eI cX11_newStream RX11 1 (some .int) tg 0 0 0 [(0, aR 29 v0)] [] σ (f11_newStream v0 σ) := by
  unfold f11_newStream
  refine j_aload_n (pc := 0) 0 dX11_newStream_0 rfl rfl ?_
  refine j_getF (pc := 1) fd_29_15 tw_4_81 dX11_newStream_1 ?_
  refine j_aload_n (pc := 4) 0 dX11_newStream_4 rfl rfl ?_
  refine j_getI (pc := 5) fd_29_13 tw_4_79 dX11_newStream_5 ?_
  refine j_iconst (pc := 8) (v := 0) (by decide) dX11_newStream_8 ?_
  refine j_iast (pc := 9) rfl rfl rfl dX11_newStream_9 (fun j1 => ?_)
  refine j_lets (fun σ2 => ?_)
  refine j_aload_n (pc := 10) 0 dX11_newStream_10 rfl rfl ?_
  refine j_getF (pc := 11) fd_29_16 tw_4_82 dX11_newStream_11 ?_
  refine j_aload_n (pc := 14) 0 dX11_newStream_14 rfl rfl ?_
  refine j_getI (pc := 15) fd_29_13 tw_4_79 dX11_newStream_15 ?_
  refine j_iconst (pc := 18) (v := 0) (by decide) dX11_newStream_18 ?_
  refine j_iast (pc := 19) rfl rfl rfl dX11_newStream_19 (fun j3 => ?_)
  refine j_lets (fun σ4 => ?_)
  refine j_aload_n (pc := 20) 0 dX11_newStream_20 rfl rfl ?_
  refine j_getF (pc := 21) fd_29_17 tw_4_83 dX11_newStream_21 ?_
  refine j_aload_n (pc := 24) 0 dX11_newStream_24 rfl rfl ?_
  refine j_getI (pc := 25) fd_29_13 tw_4_79 dX11_newStream_25 ?_
  refine j_iconst (pc := 28) (v := 0) (by decide) dX11_newStream_28 ?_
  refine j_zast (pc := 29) rfl rfl rfl dX11_newStream_29 (fun j5 => ?_)
  refine j_lets (fun σ6 => ?_)
  refine j_aload_n (pc := 30) 0 dX11_newStream_30 rfl rfl ?_
  refine j_dup (pc := 31) dX11_newStream_31 rfl ?_
  refine j_getI (pc := 32) fd_29_13 tw_4_79 dX11_newStream_32 ?_
  refine j_iconst (pc := 35) (v := 1) (by decide) dX11_newStream_35 ?_
  refine j_iadd (pc := 36) dX11_newStream_36 ?_
  refine j_putI (pc := 37) fd_29_13 rfl rfl tw_4_79 dX11_newStream_37 ?_
  refine j_lets (fun σ7 => ?_)
  refine j_aload_n (pc := 40) 0 dX11_newStream_40 rfl rfl ?_
  refine j_getI (pc := 41) fd_29_13 tw_4_79 dX11_newStream_41 ?_
  refine j_iconst (pc := 44) (v := 1) (by decide) dX11_newStream_44 ?_
  refine j_isub (pc := 45) dX11_newStream_45 ?_
  exact j_ireturn (pc := 46) rfl (Nat.le_of_ble_eq_true rfl) (Nat.le_of_ble_eq_true rfl) dX11_newStream_46
theorem c11_newStream (l : Launch) (v0 : Nat) : Ctr l yX11_newStream cX11_newStream 1 (some .int) rm11_newStream eI [aR 29 v0] (f11_newStream v0) := ctr_of (lv := [(0, aR 29 v0)]) (by decide +kernel) (fun _ => rfl) (fun _ => (Nat.le_of_ble_eq_true rfl)) (fun _ h => lvl_als h rfl) (fun _ σ _ => j11_newStream v0 σ)
theorem cs_RX11_243 : CaV RX11 RX11 243 yX11_newStream cX11_newStream 1 (some .int) 0 := ⟨tw_5_88, tw_5_90, tw_p25, tw_1_5, tw_5_91, rfl, by decide +kernel, by decide +kernel, by decide +kernel⟩
abbrev rm11_apply : Room := { frames := 2, cells := 0, slots := 0, locals := 46 }
set_option maxRecDepth 20000 in
set_option maxHeartbeats 4000000 in
theorem jb11_apply_183 {Γ : jX} {tg : Int32 × rS} (N : Nat) (K85 : Nat → Int32 → Int32 → Int32 → Int32 → Int32 → rS → Option (Int32 × rS)) (K114 : Nat → Int32 → Int32 → Int32 → Int32 → Int32 → Int32 → Int32 → rS → Option (Int32 × rS)) (hK85 : ∀ (v0 : Nat) (v1 : Int32) (v2 : Int32) (v3 : Int32) (v4 : Int32) (v5 : Int32) (σ : rS), J Γ rm11_apply eI cX11_apply RX11 8 (some .int) tg 0 0 85 [(0, aR 29 v0), (1, aI v1), (2, aI v2), (3, aI v3), (4, aI v4), (5, aI v5)] [] σ (K85 v0 v1 v2 v3 v4 v5 σ)) (hK114 : ∀ (v0 : Nat) (v1 : Int32) (v2 : Int32) (v3 : Int32) (v4 : Int32) (v5 : Int32) (v6 : Int32) (v7 : Int32) (σ : rS), J Γ rm11_apply eI cX11_apply RX11 8 (some .int) tg 0 0 114 [(0, aR 29 v0), (1, aI v1), (2, aI v2), (3, aI v3), (4, aI v4), (5, aI v5), (6, aI v6), (7, aI v7)] [] σ (K114 v0 v1 v2 v3 v4 v5 v6 v7 σ)) (v0 : Nat) (v1 : Int32) (v2 : Int32) (v3 : Int32) (v4 : Int32) (v5 : Int32) (v6 : Int32) (v7 : Int32) (σ : rS) : J Γ rm11_apply eI cX11_apply RX11 8 (some .int) tg 0 0 183 [(0, aR 29 v0), (1, aI v1), (2, aI v2), (3, aI v3), (4, aI v4), (5, aI v5), (6, aI v6), (7, aI v7)] [] σ (B11_apply_183 N K85 K114 v0 v1 v2 v3 v4 v5 v6 v7 σ) := by
  unfold B11_apply_183
  refine j_iinc (pc := 183) (w := 1) (lv' := [(7, aI (v7 + 1)), (0, aR 29 v0), (1, aI v1), (2, aI v2), (3, aI v3), (4, aI v4), (5, aI v5), (6, aI v6)]) 7 dX11_apply_183 rfl (by decide) (Nat.le_of_ble_eq_true rfl) rfl ?_
  refine j_goto (pc := 186) (tgt := 114) dX11_apply_186 rfl ?_
  refine j_sub [1, 2, 3, 4, 5, 6, 7, 0] (lv' := [(0, aR 29 v0), (1, aI v1), (2, aI v2), (3, aI v3), (4, aI v4), (5, aI v5), (6, aI v6), (7, aI (v7 + 1))]) rfl ?_
  exact hK114 v0 v1 v2 v3 v4 v5 v6 (v7 + 1) σ
set_option maxRecDepth 20000 in
set_option maxHeartbeats 4000000 in
theorem jb11_apply_114 {Γ : jX} {tg : Int32 × rS} (N : Nat) (K85 : Nat → Int32 → Int32 → Int32 → Int32 → Int32 → rS → Option (Int32 × rS)) (K114 : Nat → Int32 → Int32 → Int32 → Int32 → Int32 → Int32 → Int32 → rS → Option (Int32 × rS)) (hK85 : ∀ (v0 : Nat) (v1 : Int32) (v2 : Int32) (v3 : Int32) (v4 : Int32) (v5 : Int32) (σ : rS), J Γ rm11_apply eI cX11_apply RX11 8 (some .int) tg 0 0 85 [(0, aR 29 v0), (1, aI v1), (2, aI v2), (3, aI v3), (4, aI v4), (5, aI v5)] [] σ (K85 v0 v1 v2 v3 v4 v5 σ)) (hK114 : ∀ (v0 : Nat) (v1 : Int32) (v2 : Int32) (v3 : Int32) (v4 : Int32) (v5 : Int32) (v6 : Int32) (v7 : Int32) (σ : rS), J Γ rm11_apply eI cX11_apply RX11 8 (some .int) tg 0 0 114 [(0, aR 29 v0), (1, aI v1), (2, aI v2), (3, aI v3), (4, aI v4), (5, aI v5), (6, aI v6), (7, aI v7)] [] σ (K114 v0 v1 v2 v3 v4 v5 v6 v7 σ)) (v0 : Nat) (v1 : Int32) (v2 : Int32) (v3 : Int32) (v4 : Int32) (v5 : Int32) (v6 : Int32) (v7 : Int32) (σ : rS) : J Γ rm11_apply eI cX11_apply RX11 8 (some .int) tg 0 0 114 [(0, aR 29 v0), (1, aI v1), (2, aI v2), (3, aI v3), (4, aI v4), (5, aI v5), (6, aI v6), (7, aI v7)] [] σ (B11_apply_114 N K85 K114 v0 v1 v2 v3 v4 v5 v6 v7 σ) := by
  unfold B11_apply_114
  refine j_iload (pc := 114) 7 dX11_apply_114 rfl ?_
  refine j_aload_n (pc := 116) 0 dX11_apply_116 rfl rfl ?_
  refine j_getF (pc := 117) fd_29_35 tw_4_101 dX11_apply_117 ?_
  refine j_sipush (pc := 120) (v := 400) (by decide) dX11_apply_120 ?_
  refine j_iload_n (pc := 123) 1 dX11_apply_123 rfl rfl ?_
  refine j_imul (pc := 124) dX11_apply_124 ?_
  refine j_iload (pc := 125) 5 dX11_apply_125 rfl ?_
  refine j_iadd (pc := 127) dX11_apply_127 ?_
  refine j_iald (pc := 128) rfl rfl rfl dX11_apply_128 (fun j1 => ?_)
  refine j_icmpge (pc := 129) (tgt := 189) dX11_apply_129 rfl (fun _ => ?_) (fun _ => ?_)
  · refine j_iinc (pc := 189) (w := 1) (lv' := [(5, aI (v5 + 1)), (0, aR 29 v0), (1, aI v1), (2, aI v2), (3, aI v3), (4, aI v4), (6, aI v6), (7, aI v7)]) 5 dX11_apply_189 rfl (by decide) (Nat.le_of_ble_eq_true rfl) rfl ?_
    refine j_goto (pc := 192) (tgt := 85) dX11_apply_192 rfl ?_
    refine j_sub [1, 2, 3, 4, 5, 0] (lv' := [(0, aR 29 v0), (1, aI v1), (2, aI v2), (3, aI v3), (4, aI v4), (5, aI (v5 + 1))]) rfl ?_
    exact hK85 v0 v1 v2 v3 v4 (v5 + 1) σ
  · refine j_iload (pc := 132) 6 dX11_apply_132 rfl ?_
    refine j_iconst (pc := 134) (v := (-1)) (by decide) dX11_apply_134 ?_
    refine j_icmpne (pc := 135) (tgt := 162) dX11_apply_135 rfl (fun _ => ?_) (fun _ => ?_)
    · refine j_aload_n (pc := 162) 0 dX11_apply_162 rfl rfl ?_
      refine j_iload_n (pc := 163) 3 dX11_apply_163 rfl rfl ?_
      refine j_aload_n (pc := 164) 0 dX11_apply_164 rfl rfl ?_
      refine j_getF (pc := 165) fd_29_14 tw_4_80 dX11_apply_165 ?_
      refine j_sipush (pc := 168) (v := 400) (by decide) dX11_apply_168 ?_
      refine j_iload_n (pc := 171) 2 dX11_apply_171 rfl rfl ?_
      refine j_imul (pc := 172) dX11_apply_172 ?_
      refine j_iload (pc := 173) 6 dX11_apply_173 rfl ?_
      refine j_iadd (pc := 175) dX11_apply_175 ?_
      refine j_iload (pc := 176) 7 dX11_apply_176 rfl ?_
      refine j_iadd (pc := 178) dX11_apply_178 ?_
      refine j_iald (pc := 179) rfl rfl rfl dX11_apply_179 (fun j2 => ?_)
      refine j_callVV (pc := 180) (As := [aI v3, aI (gI σ 44 v0 j2)]) (st := []) (fun l => c11_lay l v0 v3 (gI σ 44 v0 j2)) cs_RX11_256 rfl rfl rfl rfl (Nat.le_of_ble_eq_true rfl) ⟨(Nat.le_of_ble_eq_true rfl), (Nat.le_of_ble_eq_true rfl)⟩ ⟨(Nat.le_of_ble_eq_true rfl), (Nat.le_of_ble_eq_true rfl)⟩ dX11_apply_180 (fun r3 σ4 => ?_)
      exact jb11_apply_183 N K85 K114 hK85 hK114 v0 v1 v2 v3 v4 v5 v6 v7 σ4
    · refine j_aload_n (pc := 138) 0 dX11_apply_138 rfl rfl ?_
      refine j_iload_n (pc := 139) 3 dX11_apply_139 rfl rfl ?_
      refine j_aload_n (pc := 140) 0 dX11_apply_140 rfl rfl ?_
      refine j_getF (pc := 141) fd_29_36 tw_4_102 dX11_apply_141 ?_
      refine j_sipush (pc := 144) (v := 400) (by decide) dX11_apply_144 ?_
      refine j_iload_n (pc := 147) 1 dX11_apply_147 rfl rfl ?_
      refine j_imul (pc := 148) dX11_apply_148 ?_
      refine j_iload (pc := 149) 4 dX11_apply_149 rfl ?_
      refine j_iadd (pc := 151) dX11_apply_151 ?_
      refine j_iald (pc := 152) rfl rfl rfl dX11_apply_152 (fun j5 => ?_)
      refine j_callVV (pc := 153) (As := [aI v3, aI (gI σ 66 v0 j5)]) (st := []) (fun l => c11_lay l v0 v3 (gI σ 66 v0 j5)) cs_RX11_256 rfl rfl rfl rfl (Nat.le_of_ble_eq_true rfl) ⟨(Nat.le_of_ble_eq_true rfl), (Nat.le_of_ble_eq_true rfl)⟩ ⟨(Nat.le_of_ble_eq_true rfl), (Nat.le_of_ble_eq_true rfl)⟩ dX11_apply_153 (fun r6 σ7 => ?_)
      refine j_iinc (pc := 156) (w := 1) (lv' := [(4, aI (v4 + 1)), (0, aR 29 v0), (1, aI v1), (2, aI v2), (3, aI v3), (5, aI v5), (6, aI v6), (7, aI v7)]) 4 dX11_apply_156 rfl (by decide) (Nat.le_of_ble_eq_true rfl) rfl ?_
      refine j_goto (pc := 159) (tgt := 183) dX11_apply_159 rfl ?_
      refine j_sub [1, 2, 3, 4, 0, 5, 6, 7] (lv' := [(0, aR 29 v0), (1, aI v1), (2, aI v2), (3, aI v3), (4, aI (v4 + 1)), (5, aI v5), (6, aI v6), (7, aI v7)]) rfl ?_
      exact jb11_apply_183 N K85 K114 hK85 hK114 v0 v1 v2 v3 (v4 + 1) v5 v6 v7 σ7
theorem jl11_apply_114 {Γ : jX} {tg : Int32 × rS} (N : Nat) (K85 : Nat → Int32 → Int32 → Int32 → Int32 → Int32 → rS → Option (Int32 × rS)) (hK85 : ∀ (v0 : Nat) (v1 : Int32) (v2 : Int32) (v3 : Int32) (v4 : Int32) (v5 : Int32) (σ : rS), J Γ rm11_apply eI cX11_apply RX11 8 (some .int) tg 0 0 85 [(0, aR 29 v0), (1, aI v1), (2, aI v2), (3, aI v3), (4, aI v4), (5, aI v5)] [] σ (K85 v0 v1 v2 v3 v4 v5 σ)) : ∀ (n : Nat) (v0 : Nat) (v1 : Int32) (v2 : Int32) (v3 : Int32) (v4 : Int32) (v5 : Int32) (v6 : Int32) (v7 : Int32) (σ : rS), J Γ rm11_apply eI cX11_apply RX11 8 (some .int) tg 0 0 114 [(0, aR 29 v0), (1, aI v1), (2, aI v2), (3, aI v3), (4, aI v4), (5, aI v5), (6, aI v6), (7, aI v7)] [] σ (L11_apply_114 N K85 n v0 v1 v2 v3 v4 v5 v6 v7 σ) := by
  intro n
  induction n with
  | zero => intro v0 v1 v2 v3 v4 v5 v6 v7 σ; exact j_none
  | succ n ih => intro v0 v1 v2 v3 v4 v5 v6 v7 σ; exact jb11_apply_114 N K85 (L11_apply_114 N K85 n) hK85 ih v0 v1 v2 v3 v4 v5 v6 v7 σ
set_option maxRecDepth 20000 in
set_option maxHeartbeats 4000000 in
theorem jb11_apply_85 {Γ : jX} {tg : Int32 × rS} (N : Nat) (K85 : Nat → Int32 → Int32 → Int32 → Int32 → Int32 → rS → Option (Int32 × rS)) (hK85 : ∀ (v0 : Nat) (v1 : Int32) (v2 : Int32) (v3 : Int32) (v4 : Int32) (v5 : Int32) (σ : rS), J Γ rm11_apply eI cX11_apply RX11 8 (some .int) tg 0 0 85 [(0, aR 29 v0), (1, aI v1), (2, aI v2), (3, aI v3), (4, aI v4), (5, aI v5)] [] σ (K85 v0 v1 v2 v3 v4 v5 σ)) (v0 : Nat) (v1 : Int32) (v2 : Int32) (v3 : Int32) (v4 : Int32) (v5 : Int32) (σ : rS) : J Γ rm11_apply eI cX11_apply RX11 8 (some .int) tg 0 0 85 [(0, aR 29 v0), (1, aI v1), (2, aI v2), (3, aI v3), (4, aI v4), (5, aI v5)] [] σ (B11_apply_85 N K85 v0 v1 v2 v3 v4 v5 σ) := by
  unfold B11_apply_85
  refine j_iload (pc := 85) 5 dX11_apply_85 rfl ?_
  refine j_aload_n (pc := 87) 0 dX11_apply_87 rfl rfl ?_
  refine j_getF (pc := 88) fd_29_33 tw_4_99 dX11_apply_88 ?_
  refine j_iload_n (pc := 91) 1 dX11_apply_91 rfl rfl ?_
  refine j_iald (pc := 92) rfl rfl rfl dX11_apply_92 (fun j1 => ?_)
  refine j_icmpge (pc := 93) (tgt := 195) dX11_apply_93 rfl (fun _ => ?_) (fun _ => ?_)
  · refine j_iload_n (pc := 195) 3 dX11_apply_195 rfl rfl ?_
    exact j_ireturn (pc := 196) rfl (Nat.le_of_ble_eq_true rfl) (Nat.le_of_ble_eq_true rfl) dX11_apply_196
  · refine j_aload_n (pc := 96) 0 dX11_apply_96 rfl rfl ?_
    refine j_getF (pc := 97) fd_29_34 tw_4_100 dX11_apply_97 ?_
    refine j_sipush (pc := 100) (v := 400) (by decide) dX11_apply_100 ?_
    refine j_iload_n (pc := 103) 1 dX11_apply_103 rfl rfl ?_
    refine j_imul (pc := 104) dX11_apply_104 ?_
    refine j_iload (pc := 105) 5 dX11_apply_105 rfl ?_
    refine j_iadd (pc := 107) dX11_apply_107 ?_
    refine j_iald (pc := 108) rfl rfl rfl dX11_apply_108 (fun j2 => ?_)
    refine j_leti (fun x3 => ?_)
    refine j_istore (pc := 109) (lv' := [(6, aI x3), (0, aR 29 v0), (1, aI v1), (2, aI v2), (3, aI v3), (4, aI v4), (5, aI v5)]) dX11_apply_109 (Nat.le_of_ble_eq_true rfl) rfl ?_
    refine j_iconst (pc := 111) (v := 0) (by decide) dX11_apply_111 ?_
    refine j_istore (pc := 112) (lv' := [(7, aI 0), (6, aI x3), (0, aR 29 v0), (1, aI v1), (2, aI v2), (3, aI v3), (4, aI v4), (5, aI v5)]) dX11_apply_112 (Nat.le_of_ble_eq_true rfl) rfl ?_
    refine j_sub [2, 3, 4, 5, 6, 7, 1, 0] (lv' := [(0, aR 29 v0), (1, aI v1), (2, aI v2), (3, aI v3), (4, aI v4), (5, aI v5), (6, aI x3), (7, aI 0)]) rfl ?_
    exact jl11_apply_114 N K85 hK85 N v0 v1 v2 v3 v4 v5 x3 0 σ
theorem jl11_apply_85 {Γ : jX} {tg : Int32 × rS} (N : Nat) : ∀ (n : Nat) (v0 : Nat) (v1 : Int32) (v2 : Int32) (v3 : Int32) (v4 : Int32) (v5 : Int32) (σ : rS), J Γ rm11_apply eI cX11_apply RX11 8 (some .int) tg 0 0 85 [(0, aR 29 v0), (1, aI v1), (2, aI v2), (3, aI v3), (4, aI v4), (5, aI v5)] [] σ (L11_apply_85 N n v0 v1 v2 v3 v4 v5 σ) := by
  intro n
  induction n with
  | zero => intro v0 v1 v2 v3 v4 v5 σ; exact j_none
  | succ n ih => intro v0 v1 v2 v3 v4 v5 σ; exact jb11_apply_85 N (L11_apply_85 N n) ih v0 v1 v2 v3 v4 v5 σ
set_option maxRecDepth 20000 in
set_option maxHeartbeats 4000000 in
theorem j11_apply {Γ : jX} {tg : Int32 × rS} (N : Nat) (v0 : Nat) (v1 : Int32) (v2 : Int32) (σ : rS) : J Γ rm11_apply eI cX11_apply RX11 8 (some .int) tg 0 0 0 [(0, aR 29 v0), (1, aI v1), (2, aI v2)] [] σ (f11_apply N v0 v1 v2 σ) := by
  unfold f11_apply
  refine j_aload_n (pc := 0) 0 dX11_apply_0 rfl rfl ?_
  refine j_iload_n (pc := 1) 1 dX11_apply_1 rfl rfl ?_
  refine j_callVZ (pc := 2) (As := [aI v1]) (st := []) (fun l => c11_isDelta l v0 v1) cs_RX11_313 rfl rfl rfl rfl (Nat.le_of_ble_eq_true rfl) ⟨(Nat.le_of_ble_eq_true rfl), (Nat.le_of_ble_eq_true rfl)⟩ ⟨(Nat.le_of_ble_eq_true rfl), (Nat.le_of_ble_eq_true rfl)⟩ dX11_apply_2 (fun r1 σ2 => ?_)
  refine j_ifeqB (pc := 5) (tgt := 16) dX11_apply_5 rfl (fun _ => ?_) (fun _ => ?_)
  · refine j_bipush (pc := 16) (v := (-101)) (by decide) dX11_apply_16 ?_
    exact j_ireturn (pc := 18) rfl (Nat.le_of_ble_eq_true rfl) (Nat.le_of_ble_eq_true rfl) dX11_apply_18
  · refine j_aload_n (pc := 8) 0 dX11_apply_8 rfl rfl ?_
    refine j_iload_n (pc := 9) 2 dX11_apply_9 rfl rfl ?_
    refine j_callVZ (pc := 10) (As := [aI v2]) (st := []) (fun l => c11_isStream l v0 v2) cs_RX11_247 rfl rfl rfl rfl (Nat.le_of_ble_eq_true rfl) ⟨(Nat.le_of_ble_eq_true rfl), (Nat.le_of_ble_eq_true rfl)⟩ ⟨(Nat.le_of_ble_eq_true rfl), (Nat.le_of_ble_eq_true rfl)⟩ dX11_apply_10 (fun r3 σ4 => ?_)
    refine j_ifneB (pc := 13) (tgt := 19) dX11_apply_13 rfl (fun _ => ?_) (fun _ => ?_)
    · refine j_aload_n (pc := 19) 0 dX11_apply_19 rfl rfl ?_
      refine j_getF (pc := 20) fd_29_15 tw_4_81 dX11_apply_20 ?_
      refine j_iload_n (pc := 23) 2 dX11_apply_23 rfl rfl ?_
      refine j_iald (pc := 24) rfl rfl rfl dX11_apply_24 (fun j5 => ?_)
      refine j_aload_n (pc := 25) 0 dX11_apply_25 rfl rfl ?_
      refine j_getF (pc := 26) fd_29_31 tw_4_97 dX11_apply_26 ?_
      refine j_iload_n (pc := 29) 1 dX11_apply_29 rfl rfl ?_
      refine j_iald (pc := 30) rfl rfl rfl dX11_apply_30 (fun j6 => ?_)
      refine j_icmpne (pc := 31) (tgt := 55) dX11_apply_31 rfl (fun _ => ?_) (fun _ => ?_)
      · refine j_aload_n (pc := 55) 0 dX11_apply_55 rfl rfl ?_
        refine j_bipush (pc := 56) (v := 9) (by decide) dX11_apply_56 ?_
        refine j_callVI (pc := 58) (As := [aI 9]) (st := []) (fun l => c11_meets l v0 9) cs_RX11_146 rfl rfl rfl rfl (Nat.le_of_ble_eq_true rfl) ⟨(Nat.le_of_ble_eq_true rfl), (Nat.le_of_ble_eq_true rfl)⟩ ⟨(Nat.le_of_ble_eq_true rfl), (Nat.le_of_ble_eq_true rfl)⟩ dX11_apply_58 (fun r7 σ8 => ?_)
        exact j_ireturn (pc := 61) rfl (Nat.le_of_ble_eq_true rfl) (Nat.le_of_ble_eq_true rfl) dX11_apply_61
      · refine j_aload_n (pc := 34) 0 dX11_apply_34 rfl rfl ?_
        refine j_iload_n (pc := 35) 2 dX11_apply_35 rfl rfl ?_
        refine j_iconst (pc := 36) (v := 0) (by decide) dX11_apply_36 ?_
        refine j_aload_n (pc := 37) 0 dX11_apply_37 rfl rfl ?_
        refine j_getF (pc := 38) fd_29_15 tw_4_81 dX11_apply_38 ?_
        refine j_iload_n (pc := 41) 2 dX11_apply_41 rfl rfl ?_
        refine j_iald (pc := 42) rfl rfl rfl dX11_apply_42 (fun j9 => ?_)
        refine j_callVI (pc := 43) (As := [aI v2, aI 0, aI (gI σ4 45 v0 j9)]) (st := []) (fun l => c11_sumOf l N v0 v2 0 (gI σ4 45 v0 j9)) cs_RX11_259 rfl rfl rfl rfl (Nat.le_of_ble_eq_true rfl) ⟨(Nat.le_of_ble_eq_true rfl), (Nat.le_of_ble_eq_true rfl)⟩ ⟨(Nat.le_of_ble_eq_true rfl), (Nat.le_of_ble_eq_true rfl)⟩ dX11_apply_43 (fun r10 σ11 => ?_)
        refine j_aload_n (pc := 46) 0 dX11_apply_46 rfl rfl ?_
        refine j_getF (pc := 47) fd_29_32 tw_4_98 dX11_apply_47 ?_
        refine j_iload_n (pc := 50) 1 dX11_apply_50 rfl rfl ?_
        refine j_iald (pc := 51) rfl rfl rfl dX11_apply_51 (fun j12 => ?_)
        refine j_icmpeq (pc := 52) (tgt := 62) dX11_apply_52 rfl (fun _ => ?_) (fun _ => ?_)
        · refine j_aload_n (pc := 62) 0 dX11_apply_62 rfl rfl ?_
          refine j_getI (pc := 63) fd_29_13 tw_4_79 dX11_apply_63 ?_
          refine j_bipush (pc := 66) (v := 24) (by decide) dX11_apply_66 ?_
          refine j_icmpne (pc := 68) (tgt := 74) dX11_apply_68 rfl (fun _ => ?_) (fun _ => ?_)
          · refine j_aload_n (pc := 74) 0 dX11_apply_74 rfl rfl ?_
            refine j_callVI (pc := 75) (As := []) (st := []) (fun l => c11_newStream l v0) cs_RX11_243 rfl rfl rfl rfl (Nat.le_of_ble_eq_true rfl) ⟨(Nat.le_of_ble_eq_true rfl), (Nat.le_of_ble_eq_true rfl)⟩ ⟨(Nat.le_of_ble_eq_true rfl), (Nat.le_of_ble_eq_true rfl)⟩ dX11_apply_75 (fun r13 σ14 => ?_)
            refine j_istore_n (pc := 78) (lv' := [(3, aI r13), (0, aR 29 v0), (1, aI v1), (2, aI v2)]) dX11_apply_78 rfl (Nat.le_of_ble_eq_true rfl) rfl ?_
            refine j_iconst (pc := 79) (v := 0) (by decide) dX11_apply_79 ?_
            refine j_istore (pc := 80) (lv' := [(4, aI 0), (3, aI r13), (0, aR 29 v0), (1, aI v1), (2, aI v2)]) dX11_apply_80 (Nat.le_of_ble_eq_true rfl) rfl ?_
            refine j_iconst (pc := 82) (v := 0) (by decide) dX11_apply_82 ?_
            refine j_istore (pc := 83) (lv' := [(5, aI 0), (4, aI 0), (3, aI r13), (0, aR 29 v0), (1, aI v1), (2, aI v2)]) dX11_apply_83 (Nat.le_of_ble_eq_true rfl) rfl ?_
            refine j_sub [3, 4, 5, 2, 1, 0] (lv' := [(0, aR 29 v0), (1, aI v1), (2, aI v2), (3, aI r13), (4, aI 0), (5, aI 0)]) rfl ?_
            exact jl11_apply_85 N  N v0 v1 v2 r13 0 0 σ14
          · refine j_bipush (pc := 71) (v := (-104)) (by decide) dX11_apply_71 ?_
            exact j_ireturn (pc := 73) rfl (Nat.le_of_ble_eq_true rfl) (Nat.le_of_ble_eq_true rfl) dX11_apply_73
        · refine j_aload_n (pc := 55) 0 dX11_apply_55 rfl rfl ?_
          refine j_bipush (pc := 56) (v := 9) (by decide) dX11_apply_56 ?_
          refine j_callVI (pc := 58) (As := [aI 9]) (st := []) (fun l => c11_meets l v0 9) cs_RX11_146 rfl rfl rfl rfl (Nat.le_of_ble_eq_true rfl) ⟨(Nat.le_of_ble_eq_true rfl), (Nat.le_of_ble_eq_true rfl)⟩ ⟨(Nat.le_of_ble_eq_true rfl), (Nat.le_of_ble_eq_true rfl)⟩ dX11_apply_58 (fun r15 σ16 => ?_)
          exact j_ireturn (pc := 61) rfl (Nat.le_of_ble_eq_true rfl) (Nat.le_of_ble_eq_true rfl) dX11_apply_61
    · refine j_bipush (pc := 16) (v := (-101)) (by decide) dX11_apply_16 ?_
      exact j_ireturn (pc := 18) rfl (Nat.le_of_ble_eq_true rfl) (Nat.le_of_ble_eq_true rfl) dX11_apply_18
theorem c11_apply (l : Launch) (N : Nat) (v0 : Nat) (v1 : Int32) (v2 : Int32) : Ctr l yX11_apply cX11_apply 8 (some .int) rm11_apply eI [aR 29 v0, aI v1, aI v2] (f11_apply N v0 v1 v2) := ctr_of (lv := [(0, aR 29 v0), (1, aI v1), (2, aI v2)]) (by decide +kernel) (fun _ => rfl) (fun _ => (Nat.le_of_ble_eq_true rfl)) (fun _ h => lvl_als h rfl) (fun _ σ _ => j11_apply N v0 v1 v2 σ)
abbrev rm11_at : Room := { frames := 2, cells := 0, slots := 0, locals := 46 }
set_option maxRecDepth 20000 in
set_option maxHeartbeats 4000000 in
theorem j11_at {Γ : jX} {tg : Int32 × rS} (v0 : Nat) (v1 : Int32) (v2 : Int32) (σ : rS) : J Γ rm11_at eI cX11_at RX11 3 (some .int) tg 0 0 0 [(0, aR 29 v0), (1, aI v1), (2, aI v2)] [] σ (f11_at v0 v1 v2 σ) := by
  unfold f11_at
  refine j_aload_n (pc := 0) 0 dX11_at_0 rfl rfl ?_
  refine j_iload_n (pc := 1) 1 dX11_at_1 rfl rfl ?_
  refine j_callVZ (pc := 2) (As := [aI v1]) (st := []) (fun l => c11_isStream l v0 v1) cs_RX11_247 rfl rfl rfl rfl (Nat.le_of_ble_eq_true rfl) ⟨(Nat.le_of_ble_eq_true rfl), (Nat.le_of_ble_eq_true rfl)⟩ ⟨(Nat.le_of_ble_eq_true rfl), (Nat.le_of_ble_eq_true rfl)⟩ dX11_at_2 (fun r1 σ2 => ?_)
  refine j_ifneB (pc := 5) (tgt := 11) dX11_at_5 rfl (fun _ => ?_) (fun _ => ?_)
  · refine j_iload_n (pc := 11) 2 dX11_at_11 rfl rfl ?_
    refine j_i2l (pc := 12) dX11_at_12 ?_
    refine j_lconst (pc := 13) (v := 0) (by decide) dX11_at_13 ?_
    refine j_aload_n (pc := 14) 0 dX11_at_14 rfl rfl ?_
    refine j_getF (pc := 15) fd_29_15 tw_4_81 dX11_at_15 ?_
    refine j_iload_n (pc := 18) 1 dX11_at_18 rfl rfl ?_
    refine j_iald (pc := 19) rfl rfl rfl dX11_at_19 (fun j3 => ?_)
    refine j_iconst (pc := 20) (v := 1) (by decide) dX11_at_20 ?_
    refine j_isub (pc := 21) dX11_at_21 ?_
    refine j_i2l (pc := 22) dX11_at_22 ?_
    refine j_callSZ (pc := 23) (As := [aL (Int32.toInt64 v2), aL 0, aL (Int32.toInt64 ((gI σ2 45 v0 j3) - 1))]) (st := []) (fun l => c11_in l (Int32.toInt64 v2) 0 (Int32.toInt64 ((gI σ2 45 v0 j3) - 1))) cs_RX11_140 rfl rfl (Nat.le_of_ble_eq_true rfl) ⟨(Nat.le_of_ble_eq_true rfl), (Nat.le_of_ble_eq_true rfl)⟩ ⟨(Nat.le_of_ble_eq_true rfl), (Nat.le_of_ble_eq_true rfl)⟩ dX11_at_23 (fun r4 σ5 => ?_)
    refine j_ifeqB (pc := 26) (tgt := 44) dX11_at_26 rfl (fun _ => ?_) (fun _ => ?_)
    · refine j_aload_n (pc := 44) 0 dX11_at_44 rfl rfl ?_
      refine j_iconst (pc := 45) (v := 2) (by decide) dX11_at_45 ?_
      refine j_callVI (pc := 46) (As := [aI 2]) (st := []) (fun l => c11_meets l v0 2) cs_RX11_146 rfl rfl rfl rfl (Nat.le_of_ble_eq_true rfl) ⟨(Nat.le_of_ble_eq_true rfl), (Nat.le_of_ble_eq_true rfl)⟩ ⟨(Nat.le_of_ble_eq_true rfl), (Nat.le_of_ble_eq_true rfl)⟩ dX11_at_46 (fun r6 σ7 => ?_)
      exact j_ireturn (pc := 49) rfl (Nat.le_of_ble_eq_true rfl) (Nat.le_of_ble_eq_true rfl) dX11_at_49
    · refine j_aload_n (pc := 29) 0 dX11_at_29 rfl rfl ?_
      refine j_getF (pc := 30) fd_29_14 tw_4_80 dX11_at_30 ?_
      refine j_sipush (pc := 33) (v := 400) (by decide) dX11_at_33 ?_
      refine j_iload_n (pc := 36) 1 dX11_at_36 rfl rfl ?_
      refine j_imul (pc := 37) dX11_at_37 ?_
      refine j_iload_n (pc := 38) 2 dX11_at_38 rfl rfl ?_
      refine j_iadd (pc := 39) dX11_at_39 ?_
      refine j_iald (pc := 40) rfl rfl rfl dX11_at_40 (fun j8 => ?_)
      refine j_goto (pc := 41) (tgt := 49) dX11_at_41 rfl ?_
      exact j_ireturn (pc := 49) rfl (Nat.le_of_ble_eq_true rfl) (Nat.le_of_ble_eq_true rfl) dX11_at_49
  · refine j_bipush (pc := 8) (v := (-101)) (by decide) dX11_at_8 ?_
    exact j_ireturn (pc := 10) rfl (Nat.le_of_ble_eq_true rfl) (Nat.le_of_ble_eq_true rfl) dX11_at_10
theorem c11_at (l : Launch) (v0 : Nat) (v1 : Int32) (v2 : Int32) : Ctr l yX11_at cX11_at 3 (some .int) rm11_at eI [aR 29 v0, aI v1, aI v2] (f11_at v0 v1 v2) := ctr_of (lv := [(0, aR 29 v0), (1, aI v1), (2, aI v2)]) (by decide +kernel) (fun _ => rfl) (fun _ => (Nat.le_of_ble_eq_true rfl)) (fun _ h => lvl_als h rfl) (fun _ σ _ => j11_at v0 v1 v2 σ)
abbrev rm11_differences : Room := { frames := 0, cells := 0, slots := 0, locals := 0 }
set_option maxRecDepth 20000 in
set_option maxHeartbeats 4000000 in
theorem jb11_differences_7 {Γ : jX} {tg : Unit × rS} (N : Nat) (K7 : Nat → Int32 → rS → Option (Unit × rS)) (hK7 : ∀ (v0 : Nat) (v1 : Int32) (σ : rS), J Γ rm11_differences eV cX11_differences RX11 2 none tg 0 0 7 [(0, aR 29 v0), (1, aI v1)] [] σ (K7 v0 v1 σ)) (v0 : Nat) (v1 : Int32) (σ : rS) : J Γ rm11_differences eV cX11_differences RX11 2 none tg 0 0 7 [(0, aR 29 v0), (1, aI v1)] [] σ (B11_differences_7 N K7 v0 v1 σ) := by
  unfold B11_differences_7
  refine j_iload_n (pc := 7) 1 dX11_differences_7 rfl rfl ?_
  refine j_ifle (pc := 8) (tgt := 34) dX11_differences_8 rfl (fun _ => ?_) (fun _ => ?_)
  · exact j_return (pc := 34) rfl (Nat.le_of_ble_eq_true rfl) (Nat.le_of_ble_eq_true rfl) dX11_differences_34
  · refine j_aload_n (pc := 11) 0 dX11_differences_11 rfl rfl ?_
    refine j_getF (pc := 12) fd_29_9 tw_4_75 dX11_differences_12 ?_
    refine j_iload_n (pc := 15) 1 dX11_differences_15 rfl rfl ?_
    refine j_dup2 (pc := 16) dX11_differences_16 rfl rfl ?_
    refine j_lald (pc := 17) rfl rfl rfl dX11_differences_17 (fun j1 => ?_)
    refine j_aload_n (pc := 18) 0 dX11_differences_18 rfl rfl ?_
    refine j_getF (pc := 19) fd_29_9 tw_4_75 dX11_differences_19 ?_
    refine j_iload_n (pc := 22) 1 dX11_differences_22 rfl rfl ?_
    refine j_iconst (pc := 23) (v := 1) (by decide) dX11_differences_23 ?_
    refine j_isub (pc := 24) dX11_differences_24 ?_
    refine j_lald (pc := 25) rfl rfl rfl dX11_differences_25 (fun j2 => ?_)
    refine j_lsub (pc := 26) dX11_differences_26 ?_
    refine j_last (pc := 27) rfl rfl rfl dX11_differences_27 (fun j3 => ?_)
    refine j_lets (fun σ4 => ?_)
    refine j_iinc (pc := 28) (w := (-1)) (lv' := [(1, aI (v1 + (-1))), (0, aR 29 v0)]) 1 dX11_differences_28 rfl (by decide) (Nat.le_of_ble_eq_true rfl) rfl ?_
    refine j_goto (pc := 31) (tgt := 7) dX11_differences_31 rfl ?_
    refine j_sub [1, 0] (lv' := [(0, aR 29 v0), (1, aI (v1 + (-1)))]) rfl ?_
    exact hK7 v0 (v1 + (-1)) σ4
theorem jl11_differences_7 {Γ : jX} {tg : Unit × rS} (N : Nat) : ∀ (n : Nat) (v0 : Nat) (v1 : Int32) (σ : rS), J Γ rm11_differences eV cX11_differences RX11 2 none tg 0 0 7 [(0, aR 29 v0), (1, aI v1)] [] σ (L11_differences_7 N n v0 v1 σ) := by
  intro n
  induction n with
  | zero => intro v0 v1 σ; exact j_none
  | succ n ih => intro v0 v1 σ; exact jb11_differences_7 N (L11_differences_7 N n) ih v0 v1 σ
set_option maxRecDepth 20000 in
set_option maxHeartbeats 4000000 in
theorem j11_differences {Γ : jX} {tg : Unit × rS} (N : Nat) (v0 : Nat) (σ : rS) : J Γ rm11_differences eV cX11_differences RX11 2 none tg 0 0 0 [(0, aR 29 v0)] [] σ (f11_differences N v0 σ) := by
  unfold f11_differences
  refine j_aload_n (pc := 0) 0 dX11_differences_0 rfl rfl ?_
  refine j_getI (pc := 1) fd_29_10 tw_4_76 dX11_differences_1 ?_
  refine j_iconst (pc := 4) (v := 1) (by decide) dX11_differences_4 ?_
  refine j_isub (pc := 5) dX11_differences_5 ?_
  refine j_leti (fun x1 => ?_)
  refine j_istore_n (pc := 6) (lv' := [(1, aI x1), (0, aR 29 v0)]) dX11_differences_6 rfl (Nat.le_of_ble_eq_true rfl) rfl ?_
  refine j_sub [1, 0] (lv' := [(0, aR 29 v0), (1, aI x1)]) rfl ?_
  exact jl11_differences_7 N  N v0 x1 σ
theorem c11_differences (l : Launch) (N : Nat) (v0 : Nat) : Ctr l yX11_differences cX11_differences 2 none rm11_differences eV [aR 29 v0] (f11_differences N v0) := ctr_of (lv := [(0, aR 29 v0)]) (by decide +kernel) (fun _ => rfl) (fun _ => (Nat.le_of_ble_eq_true rfl)) (fun _ h => lvl_als h rfl) (fun _ σ _ => j11_differences N v0 σ)
abbrev rm11_plain : Room := { frames := 0, cells := 0, slots := 0, locals := 0 }
set_option maxRecDepth 20000 in
set_option maxHeartbeats 4000000 in
theorem jb11_plain_9 {Γ : jX} {tg : Unit × rS} (N : Nat) (K9 : Nat → Int64 → rS → Option (Unit × rS)) (hK9 : ∀ (v0 : Nat) (v3 : Int64) (σ : rS), J Γ rm11_plain eV cX11_plain RX11 5 none tg 0 0 9 [(0, aR 29 v0), (3, aL v3)] [] σ (K9 v0 v3 σ)) (v0 : Nat) (v3 : Int64) (σ : rS) : J Γ rm11_plain eV cX11_plain RX11 5 none tg 0 0 9 [(0, aR 29 v0), (3, aL v3)] [] σ (B11_plain_9 N K9 v0 v3 σ) := by
  unfold B11_plain_9
  refine j_lload_n (pc := 9) 1 dX11_plain_9 rfl rfl ?_
  refine j_ldc2 (pc := 10) tw_5_113 dX11_plain_10 ?_
  refine j_land (pc := 13) dX11_plain_13 ?_
  refine j_lconst (pc := 14) (v := 0) (by decide) dX11_plain_14 ?_
  refine j_lcmpeq (pc := 15) (tgt := 56) dX11_plain_15 dX11_plain_16 rfl (fun _ => ?_) (fun _ => ?_)
  · refine j_aload_n (pc := 56) 0 dX11_plain_56 rfl rfl ?_
    refine j_getF (pc := 57) fd_29_11 tw_4_77 dX11_plain_57 ?_
    refine j_aload_n (pc := 60) 0 dX11_plain_60 rfl rfl ?_
    refine j_getI (pc := 61) fd_29_12 tw_4_78 dX11_plain_61 ?_
    refine j_lload_n (pc := 64) 1 dX11_plain_64 rfl rfl ?_
    refine j_l2i (pc := 65) dX11_plain_65 ?_
    refine j_iast (pc := 66) rfl rfl rfl dX11_plain_66 (fun j1 => ?_)
    refine j_lets (fun σ2 => ?_)
    refine j_aload_n (pc := 67) 0 dX11_plain_67 rfl rfl ?_
    refine j_dup (pc := 68) dX11_plain_68 rfl ?_
    refine j_getI (pc := 69) fd_29_12 tw_4_78 dX11_plain_69 ?_
    refine j_iconst (pc := 72) (v := 1) (by decide) dX11_plain_72 ?_
    refine j_iadd (pc := 73) dX11_plain_73 ?_
    refine j_putI (pc := 74) fd_29_12 rfl rfl tw_4_78 dX11_plain_74 ?_
    refine j_lets (fun σ3 => ?_)
    exact j_return (pc := 77) rfl (Nat.le_of_ble_eq_true rfl) (Nat.le_of_ble_eq_true rfl) dX11_plain_77
  · refine j_aload_n (pc := 19) 0 dX11_plain_19 rfl rfl ?_
    refine j_getF (pc := 20) fd_29_11 tw_4_77 dX11_plain_20 ?_
    refine j_aload_n (pc := 23) 0 dX11_plain_23 rfl rfl ?_
    refine j_getI (pc := 24) fd_29_12 tw_4_78 dX11_plain_24 ?_
    refine j_lload_n (pc := 27) 1 dX11_plain_27 rfl rfl ?_
    refine j_ldc2 (pc := 28) tw_5_114 dX11_plain_28 ?_
    refine j_land (pc := 31) dX11_plain_31 ?_
    refine j_l2i (pc := 32) dX11_plain_32 ?_
    refine j_sipush (pc := 33) (v := 128) (by decide) dX11_plain_33 ?_
    refine j_ior (pc := 36) dX11_plain_36 ?_
    refine j_iast (pc := 37) rfl rfl rfl dX11_plain_37 (fun j4 => ?_)
    refine j_lets (fun σ5 => ?_)
    refine j_aload_n (pc := 38) 0 dX11_plain_38 rfl rfl ?_
    refine j_dup (pc := 39) dX11_plain_39 rfl ?_
    refine j_getI (pc := 40) fd_29_12 tw_4_78 dX11_plain_40 ?_
    refine j_iconst (pc := 43) (v := 1) (by decide) dX11_plain_43 ?_
    refine j_iadd (pc := 44) dX11_plain_44 ?_
    refine j_putI (pc := 45) fd_29_12 rfl rfl tw_4_78 dX11_plain_45 ?_
    refine j_lets (fun σ6 => ?_)
    refine j_lload_n (pc := 48) 1 dX11_plain_48 rfl rfl ?_
    refine j_bipush (pc := 49) (v := 7) (by decide) dX11_plain_49 ?_
    refine j_lushr (pc := 51) dX11_plain_51 ?_
    refine j_letl (fun x7 => ?_)
    refine j_lstore_n (pc := 52) (lv' := [(3, aL x7), (0, aR 29 v0)]) dX11_plain_52 rfl (Nat.le_of_ble_eq_true rfl) rfl ?_
    refine j_goto (pc := 53) (tgt := 9) dX11_plain_53 rfl ?_
    refine j_sub [1, 0] (lv' := [(0, aR 29 v0), (3, aL x7)]) rfl ?_
    exact hK9 v0 x7 σ6
theorem jl11_plain_9 {Γ : jX} {tg : Unit × rS} (N : Nat) : ∀ (n : Nat) (v0 : Nat) (v3 : Int64) (σ : rS), J Γ rm11_plain eV cX11_plain RX11 5 none tg 0 0 9 [(0, aR 29 v0), (3, aL v3)] [] σ (L11_plain_9 N n v0 v3 σ) := by
  intro n
  induction n with
  | zero => intro v0 v3 σ; exact j_none
  | succ n ih => intro v0 v3 σ; exact jb11_plain_9 N (L11_plain_9 N n) ih v0 v3 σ
set_option maxRecDepth 20000 in
set_option maxHeartbeats 4000000 in
theorem j11_plain {Γ : jX} {tg : Unit × rS} (N : Nat) (v0 : Nat) (v1 : Int64) (σ : rS) : J Γ rm11_plain eV cX11_plain RX11 5 none tg 0 0 0 [(0, aR 29 v0), (1, aL v1)] [] σ (f11_plain N v0 v1 σ) := by
  unfold f11_plain
  refine j_lload_n (pc := 0) 1 dX11_plain_0 rfl rfl ?_
  refine j_iconst (pc := 1) (v := 1) (by decide) dX11_plain_1 ?_
  refine j_lshl (pc := 2) dX11_plain_2 ?_
  refine j_lload_n (pc := 3) 1 dX11_plain_3 rfl rfl ?_
  refine j_bipush (pc := 4) (v := 63) (by decide) dX11_plain_4 ?_
  refine j_lshr (pc := 6) dX11_plain_6 ?_
  refine j_lxor (pc := 7) dX11_plain_7 ?_
  refine j_letl (fun x1 => ?_)
  refine j_lstore_n (pc := 8) (lv' := [(3, aL x1), (0, aR 29 v0), (1, aL v1)]) dX11_plain_8 rfl (Nat.le_of_ble_eq_true rfl) rfl ?_
  refine j_sub [0, 1] (lv' := [(3, aL x1), (0, aR 29 v0)]) rfl ?_
  refine j_sub [1, 0] (lv' := [(0, aR 29 v0), (3, aL x1)]) rfl ?_
  exact jl11_plain_9 N  N v0 x1 σ
theorem c11_plain (l : Launch) (N : Nat) (v0 : Nat) (v1 : Int64) : Ctr l yX11_plain cX11_plain 5 none rm11_plain eV [aR 29 v0, aL v1] (f11_plain N v0 v1) := ctr_of (lv := [(0, aR 29 v0), (1, aL v1)]) (by decide +kernel) (fun _ => rfl) (fun _ => (Nat.le_of_ble_eq_true rfl)) (fun _ h => lvl_als h rfl) (fun _ σ _ => j11_plain N v0 v1 σ)
abbrev rm11_sums : Room := { frames := 0, cells := 0, slots := 0, locals := 0 }
set_option maxRecDepth 20000 in
set_option maxHeartbeats 4000000 in
theorem jb11_sums_2 {Γ : jX} {tg : Unit × rS} (N : Nat) (K2 : Nat → Int32 → rS → Option (Unit × rS)) (hK2 : ∀ (v0 : Nat) (v1 : Int32) (σ : rS), J Γ rm11_sums eV cX11_sums RX11 2 none tg 0 0 2 [(0, aR 29 v0), (1, aI v1)] [] σ (K2 v0 v1 σ)) (v0 : Nat) (v1 : Int32) (σ : rS) : J Γ rm11_sums eV cX11_sums RX11 2 none tg 0 0 2 [(0, aR 29 v0), (1, aI v1)] [] σ (B11_sums_2 N K2 v0 v1 σ) := by
  unfold B11_sums_2
  refine j_iload_n (pc := 2) 1 dX11_sums_2 rfl rfl ?_
  refine j_aload_n (pc := 3) 0 dX11_sums_3 rfl rfl ?_
  refine j_getI (pc := 4) fd_29_10 tw_4_76 dX11_sums_4 ?_
  refine j_icmpge (pc := 7) (tgt := 33) dX11_sums_7 rfl (fun _ => ?_) (fun _ => ?_)
  · exact j_return (pc := 33) rfl (Nat.le_of_ble_eq_true rfl) (Nat.le_of_ble_eq_true rfl) dX11_sums_33
  · refine j_aload_n (pc := 10) 0 dX11_sums_10 rfl rfl ?_
    refine j_getF (pc := 11) fd_29_9 tw_4_75 dX11_sums_11 ?_
    refine j_iload_n (pc := 14) 1 dX11_sums_14 rfl rfl ?_
    refine j_dup2 (pc := 15) dX11_sums_15 rfl rfl ?_
    refine j_lald (pc := 16) rfl rfl rfl dX11_sums_16 (fun j1 => ?_)
    refine j_aload_n (pc := 17) 0 dX11_sums_17 rfl rfl ?_
    refine j_getF (pc := 18) fd_29_9 tw_4_75 dX11_sums_18 ?_
    refine j_iload_n (pc := 21) 1 dX11_sums_21 rfl rfl ?_
    refine j_iconst (pc := 22) (v := 1) (by decide) dX11_sums_22 ?_
    refine j_isub (pc := 23) dX11_sums_23 ?_
    refine j_lald (pc := 24) rfl rfl rfl dX11_sums_24 (fun j2 => ?_)
    refine j_ladd (pc := 25) dX11_sums_25 ?_
    refine j_last (pc := 26) rfl rfl rfl dX11_sums_26 (fun j3 => ?_)
    refine j_lets (fun σ4 => ?_)
    refine j_iinc (pc := 27) (w := 1) (lv' := [(1, aI (v1 + 1)), (0, aR 29 v0)]) 1 dX11_sums_27 rfl (by decide) (Nat.le_of_ble_eq_true rfl) rfl ?_
    refine j_goto (pc := 30) (tgt := 2) dX11_sums_30 rfl ?_
    refine j_sub [1, 0] (lv' := [(0, aR 29 v0), (1, aI (v1 + 1))]) rfl ?_
    exact hK2 v0 (v1 + 1) σ4
theorem jl11_sums_2 {Γ : jX} {tg : Unit × rS} (N : Nat) : ∀ (n : Nat) (v0 : Nat) (v1 : Int32) (σ : rS), J Γ rm11_sums eV cX11_sums RX11 2 none tg 0 0 2 [(0, aR 29 v0), (1, aI v1)] [] σ (L11_sums_2 N n v0 v1 σ) := by
  intro n
  induction n with
  | zero => intro v0 v1 σ; exact j_none
  | succ n ih => intro v0 v1 σ; exact jb11_sums_2 N (L11_sums_2 N n) ih v0 v1 σ
set_option maxRecDepth 20000 in
set_option maxHeartbeats 4000000 in
theorem j11_sums {Γ : jX} {tg : Unit × rS} (N : Nat) (v0 : Nat) (σ : rS) : J Γ rm11_sums eV cX11_sums RX11 2 none tg 0 0 0 [(0, aR 29 v0)] [] σ (f11_sums N v0 σ) := by
  unfold f11_sums
  refine j_iconst (pc := 0) (v := 1) (by decide) dX11_sums_0 ?_
  refine j_istore_n (pc := 1) (lv' := [(1, aI 1), (0, aR 29 v0)]) dX11_sums_1 rfl (Nat.le_of_ble_eq_true rfl) rfl ?_
  refine j_sub [1, 0] (lv' := [(0, aR 29 v0), (1, aI 1)]) rfl ?_
  exact jl11_sums_2 N  N v0 1 σ
theorem c11_sums (l : Launch) (N : Nat) (v0 : Nat) : Ctr l yX11_sums cX11_sums 2 none rm11_sums eV [aR 29 v0] (f11_sums N v0) := ctr_of (lv := [(0, aR 29 v0)]) (by decide +kernel) (fun _ => rfl) (fun _ => (Nat.le_of_ble_eq_true rfl)) (fun _ h => lvl_als h rfl) (fun _ σ _ => j11_sums N v0 σ)
abbrev rm11_wide : Room := { frames := 0, cells := 0, slots := 0, locals := 0 }
set_option maxRecDepth 20000 in
set_option maxHeartbeats 4000000 in
theorem jb11_wide_86 {Γ : jX} {tg : Unit × rS} (N : Nat) (K76 : Nat → Int32 → Int32 → rS → Option (Unit × rS)) (K86 : Nat → Int32 → Int32 → Int32 → rS → Option (Unit × rS)) (hK76 : ∀ (v0 : Nat) (v1 : Int32) (v2 : Int32) (σ : rS), J Γ rm11_wide eV cX11_wide RX11 4 none tg 0 0 76 [(0, aR 29 v0), (1, aI v1), (2, aI v2)] [] σ (K76 v0 v1 v2 σ)) (hK86 : ∀ (v0 : Nat) (v1 : Int32) (v2 : Int32) (v3 : Int32) (σ : rS), J Γ rm11_wide eV cX11_wide RX11 4 none tg 0 0 86 [(0, aR 29 v0), (1, aI v1), (2, aI v2), (3, aI v3)] [] σ (K86 v0 v1 v2 v3 σ)) (v0 : Nat) (v1 : Int32) (v2 : Int32) (v3 : Int32) (σ : rS) : J Γ rm11_wide eV cX11_wide RX11 4 none tg 0 0 86 [(0, aR 29 v0), (1, aI v1), (2, aI v2), (3, aI v3)] [] σ (B11_wide_86 N K76 K86 v0 v1 v2 v3 σ) := by
  unfold B11_wide_86
  refine j_iload_n (pc := 86) 3 dX11_wide_86 rfl rfl ?_
  refine j_iload_n (pc := 87) 1 dX11_wide_87 rfl rfl ?_
  refine j_icmpge (pc := 88) (tgt := 132) dX11_wide_88 rfl (fun _ => ?_) (fun _ => ?_)
  · refine j_iinc (pc := 132) (w := 1) (lv' := [(2, aI (v2 + 1)), (0, aR 29 v0), (1, aI v1), (3, aI v3)]) 2 dX11_wide_132 rfl (by decide) (Nat.le_of_ble_eq_true rfl) rfl ?_
    refine j_goto (pc := 135) (tgt := 76) dX11_wide_135 rfl ?_
    refine j_sub [1, 2, 0] (lv' := [(0, aR 29 v0), (1, aI v1), (2, aI (v2 + 1))]) rfl ?_
    exact hK76 v0 v1 (v2 + 1) σ
  · refine j_aload_n (pc := 91) 0 dX11_wide_91 rfl rfl ?_
    refine j_getF (pc := 92) fd_29_11 tw_4_77 dX11_wide_92 ?_
    refine j_aload_n (pc := 95) 0 dX11_wide_95 rfl rfl ?_
    refine j_getI (pc := 96) fd_29_12 tw_4_78 dX11_wide_96 ?_
    refine j_aload_n (pc := 99) 0 dX11_wide_99 rfl rfl ?_
    refine j_getF (pc := 100) fd_29_9 tw_4_75 dX11_wide_100 ?_
    refine j_iload_n (pc := 103) 2 dX11_wide_103 rfl rfl ?_
    refine j_lald (pc := 104) rfl rfl rfl dX11_wide_104 (fun j1 => ?_)
    refine j_bipush (pc := 105) (v := 8) (by decide) dX11_wide_105 ?_
    refine j_iload_n (pc := 107) 3 dX11_wide_107 rfl rfl ?_
    refine j_imul (pc := 108) dX11_wide_108 ?_
    refine j_lshr (pc := 109) dX11_wide_109 ?_
    refine j_l2i (pc := 110) dX11_wide_110 ?_
    refine j_sipush (pc := 111) (v := 255) (by decide) dX11_wide_111 ?_
    refine j_iand (pc := 114) dX11_wide_114 ?_
    refine j_iast (pc := 115) rfl rfl rfl dX11_wide_115 (fun j2 => ?_)
    refine j_lets (fun σ3 => ?_)
    refine j_aload_n (pc := 116) 0 dX11_wide_116 rfl rfl ?_
    refine j_dup (pc := 117) dX11_wide_117 rfl ?_
    refine j_getI (pc := 118) fd_29_12 tw_4_78 dX11_wide_118 ?_
    refine j_iconst (pc := 121) (v := 1) (by decide) dX11_wide_121 ?_
    refine j_iadd (pc := 122) dX11_wide_122 ?_
    refine j_putI (pc := 123) fd_29_12 rfl rfl tw_4_78 dX11_wide_123 ?_
    refine j_lets (fun σ4 => ?_)
    refine j_iinc (pc := 126) (w := 1) (lv' := [(3, aI (v3 + 1)), (0, aR 29 v0), (1, aI v1), (2, aI v2)]) 3 dX11_wide_126 rfl (by decide) (Nat.le_of_ble_eq_true rfl) rfl ?_
    refine j_goto (pc := 129) (tgt := 86) dX11_wide_129 rfl ?_
    refine j_sub [1, 2, 3, 0] (lv' := [(0, aR 29 v0), (1, aI v1), (2, aI v2), (3, aI (v3 + 1))]) rfl ?_
    exact hK86 v0 v1 v2 (v3 + 1) σ4
theorem jl11_wide_86 {Γ : jX} {tg : Unit × rS} (N : Nat) (K76 : Nat → Int32 → Int32 → rS → Option (Unit × rS)) (hK76 : ∀ (v0 : Nat) (v1 : Int32) (v2 : Int32) (σ : rS), J Γ rm11_wide eV cX11_wide RX11 4 none tg 0 0 76 [(0, aR 29 v0), (1, aI v1), (2, aI v2)] [] σ (K76 v0 v1 v2 σ)) : ∀ (n : Nat) (v0 : Nat) (v1 : Int32) (v2 : Int32) (v3 : Int32) (σ : rS), J Γ rm11_wide eV cX11_wide RX11 4 none tg 0 0 86 [(0, aR 29 v0), (1, aI v1), (2, aI v2), (3, aI v3)] [] σ (L11_wide_86 N K76 n v0 v1 v2 v3 σ) := by
  intro n
  induction n with
  | zero => intro v0 v1 v2 v3 σ; exact j_none
  | succ n ih => intro v0 v1 v2 v3 σ; exact jb11_wide_86 N K76 (L11_wide_86 N K76 n) hK76 ih v0 v1 v2 v3 σ
set_option maxRecDepth 20000 in
set_option maxHeartbeats 4000000 in
theorem jb11_wide_76 {Γ : jX} {tg : Unit × rS} (N : Nat) (K76 : Nat → Int32 → Int32 → rS → Option (Unit × rS)) (hK76 : ∀ (v0 : Nat) (v1 : Int32) (v2 : Int32) (σ : rS), J Γ rm11_wide eV cX11_wide RX11 4 none tg 0 0 76 [(0, aR 29 v0), (1, aI v1), (2, aI v2)] [] σ (K76 v0 v1 v2 σ)) (v0 : Nat) (v1 : Int32) (v2 : Int32) (σ : rS) : J Γ rm11_wide eV cX11_wide RX11 4 none tg 0 0 76 [(0, aR 29 v0), (1, aI v1), (2, aI v2)] [] σ (B11_wide_76 N K76 v0 v1 v2 σ) := by
  unfold B11_wide_76
  refine j_iload_n (pc := 76) 2 dX11_wide_76 rfl rfl ?_
  refine j_aload_n (pc := 77) 0 dX11_wide_77 rfl rfl ?_
  refine j_getI (pc := 78) fd_29_10 tw_4_76 dX11_wide_78 ?_
  refine j_icmpge (pc := 81) (tgt := 138) dX11_wide_81 rfl (fun _ => ?_) (fun _ => ?_)
  · exact j_return (pc := 138) rfl (Nat.le_of_ble_eq_true rfl) (Nat.le_of_ble_eq_true rfl) dX11_wide_138
  · refine j_iconst (pc := 84) (v := 0) (by decide) dX11_wide_84 ?_
    refine j_istore_n (pc := 85) (lv' := [(3, aI 0), (0, aR 29 v0), (1, aI v1), (2, aI v2)]) dX11_wide_85 rfl (Nat.le_of_ble_eq_true rfl) rfl ?_
    refine j_sub [1, 2, 3, 0] (lv' := [(0, aR 29 v0), (1, aI v1), (2, aI v2), (3, aI 0)]) rfl ?_
    exact jl11_wide_86 N K76 hK76 N v0 v1 v2 0 σ
theorem jl11_wide_76 {Γ : jX} {tg : Unit × rS} (N : Nat) : ∀ (n : Nat) (v0 : Nat) (v1 : Int32) (v2 : Int32) (σ : rS), J Γ rm11_wide eV cX11_wide RX11 4 none tg 0 0 76 [(0, aR 29 v0), (1, aI v1), (2, aI v2)] [] σ (L11_wide_76 N n v0 v1 v2 σ) := by
  intro n
  induction n with
  | zero => intro v0 v1 v2 σ; exact j_none
  | succ n ih => intro v0 v1 v2 σ; exact jb11_wide_76 N (L11_wide_76 N n) ih v0 v1 v2 σ
set_option maxRecDepth 20000 in
set_option maxHeartbeats 4000000 in
theorem jb11_wide_56 {Γ : jX} {tg : Unit × rS} (N : Nat) (K4 : Nat → Int32 → Int32 → rS → Option (Unit × rS)) (hK4 : ∀ (v0 : Nat) (v1 : Int32) (v2 : Int32) (σ : rS), J Γ rm11_wide eV cX11_wide RX11 4 none tg 0 0 4 [(0, aR 29 v0), (1, aI v1), (2, aI v2)] [] σ (K4 v0 v1 v2 σ)) (v0 : Nat) (v1 : Int32) (v2 : Int32) (σ : rS) : J Γ rm11_wide eV cX11_wide RX11 4 none tg 0 0 56 [(0, aR 29 v0), (1, aI v1), (2, aI v2)] [] σ (B11_wide_56 N K4 v0 v1 v2 σ) := by
  unfold B11_wide_56
  refine j_iinc (pc := 56) (w := 1) (lv' := [(2, aI (v2 + 1)), (0, aR 29 v0), (1, aI v1)]) 2 dX11_wide_56 rfl (by decide) (Nat.le_of_ble_eq_true rfl) rfl ?_
  refine j_goto (pc := 59) (tgt := 4) dX11_wide_59 rfl ?_
  refine j_sub [1, 2, 0] (lv' := [(0, aR 29 v0), (1, aI v1), (2, aI (v2 + 1))]) rfl ?_
  exact hK4 v0 v1 (v2 + 1) σ
set_option maxRecDepth 20000 in
set_option maxHeartbeats 4000000 in
theorem jb11_wide_12 {Γ : jX} {tg : Unit × rS} (N : Nat) (K4 : Nat → Int32 → Int32 → rS → Option (Unit × rS)) (K12 : Nat → Int32 → Int32 → rS → Option (Unit × rS)) (hK4 : ∀ (v0 : Nat) (v1 : Int32) (v2 : Int32) (σ : rS), J Γ rm11_wide eV cX11_wide RX11 4 none tg 0 0 4 [(0, aR 29 v0), (1, aI v1), (2, aI v2)] [] σ (K4 v0 v1 v2 σ)) (hK12 : ∀ (v0 : Nat) (v1 : Int32) (v2 : Int32) (σ : rS), J Γ rm11_wide eV cX11_wide RX11 4 none tg 0 0 12 [(0, aR 29 v0), (1, aI v1), (2, aI v2)] [] σ (K12 v0 v1 v2 σ)) (v0 : Nat) (v1 : Int32) (v2 : Int32) (σ : rS) : J Γ rm11_wide eV cX11_wide RX11 4 none tg 0 0 12 [(0, aR 29 v0), (1, aI v1), (2, aI v2)] [] σ (B11_wide_12 N K4 K12 v0 v1 v2 σ) := by
  unfold B11_wide_12
  refine j_iload_n (pc := 12) 1 dX11_wide_12 rfl rfl ?_
  refine j_bipush (pc := 13) (v := 8) (by decide) dX11_wide_13 ?_
  refine j_icmpge (pc := 15) (tgt := 56) dX11_wide_15 rfl (fun _ => ?_) (fun _ => ?_)
  · exact jb11_wide_56 N K4 hK4 v0 v1 v2 σ
  · refine j_aload_n (pc := 18) 0 dX11_wide_18 rfl rfl ?_
    refine j_getF (pc := 19) fd_29_9 tw_4_75 dX11_wide_19 ?_
    refine j_iload_n (pc := 22) 2 dX11_wide_22 rfl rfl ?_
    refine j_lald (pc := 23) rfl rfl rfl dX11_wide_23 (fun j1 => ?_)
    refine j_bipush (pc := 24) (v := 64) (by decide) dX11_wide_24 ?_
    refine j_bipush (pc := 26) (v := 8) (by decide) dX11_wide_26 ?_
    refine j_iload_n (pc := 28) 1 dX11_wide_28 rfl rfl ?_
    refine j_imul (pc := 29) dX11_wide_29 ?_
    refine j_isub (pc := 30) dX11_wide_30 ?_
    refine j_lshl (pc := 31) dX11_wide_31 ?_
    refine j_bipush (pc := 32) (v := 64) (by decide) dX11_wide_32 ?_
    refine j_bipush (pc := 34) (v := 8) (by decide) dX11_wide_34 ?_
    refine j_iload_n (pc := 36) 1 dX11_wide_36 rfl rfl ?_
    refine j_imul (pc := 37) dX11_wide_37 ?_
    refine j_isub (pc := 38) dX11_wide_38 ?_
    refine j_lshr (pc := 39) dX11_wide_39 ?_
    refine j_aload_n (pc := 40) 0 dX11_wide_40 rfl rfl ?_
    refine j_getF (pc := 41) fd_29_9 tw_4_75 dX11_wide_41 ?_
    refine j_iload_n (pc := 44) 2 dX11_wide_44 rfl rfl ?_
    refine j_lald (pc := 45) rfl rfl rfl dX11_wide_45 (fun j2 => ?_)
    refine j_lcmpeq (pc := 46) (tgt := 56) dX11_wide_46 dX11_wide_47 rfl (fun _ => ?_) (fun _ => ?_)
    · exact jb11_wide_56 N K4 hK4 v0 v1 v2 σ
    · refine j_iinc (pc := 50) (w := 1) (lv' := [(1, aI (v1 + 1)), (0, aR 29 v0), (2, aI v2)]) 1 dX11_wide_50 rfl (by decide) (Nat.le_of_ble_eq_true rfl) rfl ?_
      refine j_goto (pc := 53) (tgt := 12) dX11_wide_53 rfl ?_
      refine j_sub [1, 0, 2] (lv' := [(0, aR 29 v0), (1, aI (v1 + 1)), (2, aI v2)]) rfl ?_
      exact hK12 v0 (v1 + 1) v2 σ
theorem jl11_wide_12 {Γ : jX} {tg : Unit × rS} (N : Nat) (K4 : Nat → Int32 → Int32 → rS → Option (Unit × rS)) (hK4 : ∀ (v0 : Nat) (v1 : Int32) (v2 : Int32) (σ : rS), J Γ rm11_wide eV cX11_wide RX11 4 none tg 0 0 4 [(0, aR 29 v0), (1, aI v1), (2, aI v2)] [] σ (K4 v0 v1 v2 σ)) : ∀ (n : Nat) (v0 : Nat) (v1 : Int32) (v2 : Int32) (σ : rS), J Γ rm11_wide eV cX11_wide RX11 4 none tg 0 0 12 [(0, aR 29 v0), (1, aI v1), (2, aI v2)] [] σ (L11_wide_12 N K4 n v0 v1 v2 σ) := by
  intro n
  induction n with
  | zero => intro v0 v1 v2 σ; exact j_none
  | succ n ih => intro v0 v1 v2 σ; exact jb11_wide_12 N K4 (L11_wide_12 N K4 n) hK4 ih v0 v1 v2 σ
set_option maxRecDepth 20000 in
set_option maxHeartbeats 4000000 in
theorem jb11_wide_4 {Γ : jX} {tg : Unit × rS} (N : Nat) (K4 : Nat → Int32 → Int32 → rS → Option (Unit × rS)) (hK4 : ∀ (v0 : Nat) (v1 : Int32) (v2 : Int32) (σ : rS), J Γ rm11_wide eV cX11_wide RX11 4 none tg 0 0 4 [(0, aR 29 v0), (1, aI v1), (2, aI v2)] [] σ (K4 v0 v1 v2 σ)) (v0 : Nat) (v1 : Int32) (v2 : Int32) (σ : rS) : J Γ rm11_wide eV cX11_wide RX11 4 none tg 0 0 4 [(0, aR 29 v0), (1, aI v1), (2, aI v2)] [] σ (B11_wide_4 N K4 v0 v1 v2 σ) := by
  unfold B11_wide_4
  refine j_iload_n (pc := 4) 2 dX11_wide_4 rfl rfl ?_
  refine j_aload_n (pc := 5) 0 dX11_wide_5 rfl rfl ?_
  refine j_getI (pc := 6) fd_29_10 tw_4_76 dX11_wide_6 ?_
  refine j_icmpge (pc := 9) (tgt := 62) dX11_wide_9 rfl (fun _ => ?_) (fun _ => ?_)
  · refine j_aload_n (pc := 62) 0 dX11_wide_62 rfl rfl ?_
    refine j_getF (pc := 63) fd_29_11 tw_4_77 dX11_wide_63 ?_
    refine j_iconst (pc := 66) (v := 0) (by decide) dX11_wide_66 ?_
    refine j_iload_n (pc := 67) 1 dX11_wide_67 rfl rfl ?_
    refine j_iast (pc := 68) rfl rfl rfl dX11_wide_68 (fun j1 => ?_)
    refine j_lets (fun σ2 => ?_)
    refine j_aload_n (pc := 69) 0 dX11_wide_69 rfl rfl ?_
    refine j_iconst (pc := 70) (v := 1) (by decide) dX11_wide_70 ?_
    refine j_putI (pc := 71) fd_29_12 rfl rfl tw_4_78 dX11_wide_71 ?_
    refine j_lets (fun σ3 => ?_)
    refine j_iconst (pc := 74) (v := 0) (by decide) dX11_wide_74 ?_
    refine j_istore_n (pc := 75) (lv' := [(2, aI 0), (0, aR 29 v0), (1, aI v1)]) dX11_wide_75 rfl (Nat.le_of_ble_eq_true rfl) rfl ?_
    refine j_sub [1, 2, 0] (lv' := [(0, aR 29 v0), (1, aI v1), (2, aI 0)]) rfl ?_
    exact jl11_wide_76 N  N v0 v1 0 σ3
  · exact jl11_wide_12 N K4 hK4 N v0 v1 v2 σ
theorem jl11_wide_4 {Γ : jX} {tg : Unit × rS} (N : Nat) : ∀ (n : Nat) (v0 : Nat) (v1 : Int32) (v2 : Int32) (σ : rS), J Γ rm11_wide eV cX11_wide RX11 4 none tg 0 0 4 [(0, aR 29 v0), (1, aI v1), (2, aI v2)] [] σ (L11_wide_4 N n v0 v1 v2 σ) := by
  intro n
  induction n with
  | zero => intro v0 v1 v2 σ; exact j_none
  | succ n ih => intro v0 v1 v2 σ; exact jb11_wide_4 N (L11_wide_4 N n) ih v0 v1 v2 σ
set_option maxRecDepth 20000 in
set_option maxHeartbeats 4000000 in
theorem j11_wide {Γ : jX} {tg : Unit × rS} (N : Nat) (v0 : Nat) (σ : rS) : J Γ rm11_wide eV cX11_wide RX11 4 none tg 0 0 0 [(0, aR 29 v0)] [] σ (f11_wide N v0 σ) := by
  unfold f11_wide
  refine j_iconst (pc := 0) (v := 1) (by decide) dX11_wide_0 ?_
  refine j_istore_n (pc := 1) (lv' := [(1, aI 1), (0, aR 29 v0)]) dX11_wide_1 rfl (Nat.le_of_ble_eq_true rfl) rfl ?_
  refine j_iconst (pc := 2) (v := 0) (by decide) dX11_wide_2 ?_
  refine j_istore_n (pc := 3) (lv' := [(2, aI 0), (1, aI 1), (0, aR 29 v0)]) dX11_wide_3 rfl (Nat.le_of_ble_eq_true rfl) rfl ?_
  refine j_sub [2, 1, 0] (lv' := [(0, aR 29 v0), (1, aI 1), (2, aI 0)]) rfl ?_
  exact jl11_wide_4 N  N v0 1 0 σ
theorem c11_wide (l : Launch) (N : Nat) (v0 : Nat) : Ctr l yX11_wide cX11_wide 4 none rm11_wide eV [aR 29 v0] (f11_wide N v0) := ctr_of (lv := [(0, aR 29 v0)]) (by decide +kernel) (fun _ => rfl) (fun _ => (Nat.le_of_ble_eq_true rfl)) (fun _ h => lvl_als h rfl) (fun _ σ _ => j11_wide N v0 σ)
theorem cs_RX11_229 : CaV RX11 RX11 229 yX11_wide cX11_wide 4 none 0 := ⟨tw_5_119, tw_5_121, tw_p31, tw_1_5, tw_5_122, rfl, by decide +kernel, by decide +kernel, by decide +kernel⟩
theorem cs_RX11_232 : CaV RX11 RX11 232 yX11_sums cX11_sums 2 none 0 := ⟨tw_5_123, tw_5_125, tw_p32, tw_1_5, tw_5_126, rfl, by decide +kernel, by decide +kernel, by decide +kernel⟩
theorem cs_RX11_222 : CaV RX11 RX11 222 yX11_plain cX11_plain 5 none 1 := ⟨tw_5_109, tw_5_111, tw_p29, tw_1_5, tw_5_112, rfl, by decide +kernel, by decide +kernel, by decide +kernel⟩
theorem cs_RX11_226 : CaV RX11 RX11 226 yX11_differences cX11_differences 2 none 0 := ⟨tw_5_115, tw_5_117, tw_p30, tw_1_5, tw_5_118, rfl, by decide +kernel, by decide +kernel, by decide +kernel⟩
abbrev rm11_code : Room := { frames := 1, cells := 0, slots := 0, locals := 24 }
set_option maxRecDepth 20000 in
set_option maxHeartbeats 4000000 in
theorem jb11_code_146 {Γ : jX} {tg : Unit × rS} (N : Nat) (v0 : Nat) (v1 : Int32) (σ : rS) : J Γ rm11_code eV cX11_code RX11 4 none tg 0 0 146 [(0, aR 29 v0), (1, aI v1)] [] σ (B11_code_146 N v0 v1 σ) := by
  unfold B11_code_146
  refine j_iload_n (pc := 146) 1 dX11_code_146 rfl rfl ?_
  refine j_ifle (pc := 147) (tgt := 154) dX11_code_147 rfl (fun _ => ?_) (fun _ => ?_)
  · exact j_return (pc := 154) rfl (Nat.le_of_ble_eq_true rfl) (Nat.le_of_ble_eq_true rfl) dX11_code_154
  · refine j_aload_n (pc := 150) 0 dX11_code_150 rfl rfl ?_
    refine j_callVV (pc := 151) (As := []) (st := []) (fun l => c11_sums l N v0) cs_RX11_232 rfl rfl rfl rfl (Nat.le_of_ble_eq_true rfl) ⟨(Nat.le_of_ble_eq_true rfl), (Nat.le_of_ble_eq_true rfl)⟩ ⟨(Nat.le_of_ble_eq_true rfl), (Nat.le_of_ble_eq_true rfl)⟩ dX11_code_151 (fun r1 σ2 => ?_)
    exact j_return (pc := 154) rfl (Nat.le_of_ble_eq_true rfl) (Nat.le_of_ble_eq_true rfl) dX11_code_154
set_option maxRecDepth 20000 in
set_option maxHeartbeats 4000000 in
theorem jb11_code_137 {Γ : jX} {tg : Unit × rS} (N : Nat) (v0 : Nat) (v1 : Int32) (σ : rS) : J Γ rm11_code eV cX11_code RX11 4 none tg 0 0 137 [(0, aR 29 v0), (1, aI v1)] [] σ (B11_code_137 N v0 v1 σ) := by
  unfold B11_code_137
  refine j_iload_n (pc := 137) 1 dX11_code_137 rfl rfl ?_
  refine j_iconst (pc := 138) (v := 2) (by decide) dX11_code_138 ?_
  refine j_icmpne (pc := 139) (tgt := 146) dX11_code_139 rfl (fun _ => ?_) (fun _ => ?_)
  · exact jb11_code_146 N  v0 v1 σ
  · refine j_aload_n (pc := 142) 0 dX11_code_142 rfl rfl ?_
    refine j_callVV (pc := 143) (As := []) (st := []) (fun l => c11_sums l N v0) cs_RX11_232 rfl rfl rfl rfl (Nat.le_of_ble_eq_true rfl) ⟨(Nat.le_of_ble_eq_true rfl), (Nat.le_of_ble_eq_true rfl)⟩ ⟨(Nat.le_of_ble_eq_true rfl), (Nat.le_of_ble_eq_true rfl)⟩ dX11_code_143 (fun r1 σ2 => ?_)
    exact jb11_code_146 N  v0 v1 σ2
set_option maxRecDepth 20000 in
set_option maxHeartbeats 4000000 in
theorem jb11_code_106 {Γ : jX} {tg : Unit × rS} (N : Nat) (K106 : Nat → Int32 → Int32 → rS → Option (Unit × rS)) (hK106 : ∀ (v0 : Nat) (v1 : Int32) (v2 : Int32) (σ : rS), J Γ rm11_code eV cX11_code RX11 4 none tg 0 0 106 [(0, aR 29 v0), (1, aI v1), (2, aI v2)] [] σ (K106 v0 v1 v2 σ)) (v0 : Nat) (v1 : Int32) (v2 : Int32) (σ : rS) : J Γ rm11_code eV cX11_code RX11 4 none tg 0 0 106 [(0, aR 29 v0), (1, aI v1), (2, aI v2)] [] σ (B11_code_106 N K106 v0 v1 v2 σ) := by
  unfold B11_code_106
  refine j_iload_n (pc := 106) 2 dX11_code_106 rfl rfl ?_
  refine j_aload_n (pc := 107) 0 dX11_code_107 rfl rfl ?_
  refine j_getI (pc := 108) fd_29_10 tw_4_76 dX11_code_108 ?_
  refine j_icmpge (pc := 111) (tgt := 130) dX11_code_111 rfl (fun _ => ?_) (fun _ => ?_)
  · refine j_goto (pc := 130) (tgt := 137) dX11_code_130 rfl ?_
    refine j_sub [0, 1] (lv' := [(0, aR 29 v0), (1, aI v1)]) rfl ?_
    exact jb11_code_137 N  v0 v1 σ
  · refine j_aload_n (pc := 114) 0 dX11_code_114 rfl rfl ?_
    refine j_aload_n (pc := 115) 0 dX11_code_115 rfl rfl ?_
    refine j_getF (pc := 116) fd_29_9 tw_4_75 dX11_code_116 ?_
    refine j_iload_n (pc := 119) 2 dX11_code_119 rfl rfl ?_
    refine j_lald (pc := 120) rfl rfl rfl dX11_code_120 (fun j1 => ?_)
    refine j_callVV (pc := 121) (As := [aL (gL σ 39 v0 j1)]) (st := []) (fun l => c11_plain l N v0 (gL σ 39 v0 j1)) cs_RX11_222 rfl rfl rfl rfl (Nat.le_of_ble_eq_true rfl) ⟨(Nat.le_of_ble_eq_true rfl), (Nat.le_of_ble_eq_true rfl)⟩ ⟨(Nat.le_of_ble_eq_true rfl), (Nat.le_of_ble_eq_true rfl)⟩ dX11_code_121 (fun r2 σ3 => ?_)
    refine j_iinc (pc := 124) (w := 1) (lv' := [(2, aI (v2 + 1)), (0, aR 29 v0), (1, aI v1)]) 2 dX11_code_124 rfl (by decide) (Nat.le_of_ble_eq_true rfl) rfl ?_
    refine j_goto (pc := 127) (tgt := 106) dX11_code_127 rfl ?_
    refine j_sub [1, 2, 0] (lv' := [(0, aR 29 v0), (1, aI v1), (2, aI (v2 + 1))]) rfl ?_
    exact hK106 v0 v1 (v2 + 1) σ3
theorem jl11_code_106 {Γ : jX} {tg : Unit × rS} (N : Nat) : ∀ (n : Nat) (v0 : Nat) (v1 : Int32) (v2 : Int32) (σ : rS), J Γ rm11_code eV cX11_code RX11 4 none tg 0 0 106 [(0, aR 29 v0), (1, aI v1), (2, aI v2)] [] σ (L11_code_106 N n v0 v1 v2 σ) := by
  intro n
  induction n with
  | zero => intro v0 v1 v2 σ; exact j_none
  | succ n ih => intro v0 v1 v2 σ; exact jb11_code_106 N (L11_code_106 N n) ih v0 v1 v2 σ
set_option maxRecDepth 20000 in
set_option maxHeartbeats 4000000 in
theorem jb11_code_99 {Γ : jX} {tg : Unit × rS} (N : Nat) (v0 : Nat) (v1 : Int32) (σ : rS) : J Γ rm11_code eV cX11_code RX11 4 none tg 0 0 99 [(0, aR 29 v0), (1, aI v1)] [] σ (B11_code_99 N v0 v1 σ) := by
  unfold B11_code_99
  refine j_iload_n (pc := 99) 1 dX11_code_99 rfl rfl ?_
  refine j_iconst (pc := 100) (v := 4) (by decide) dX11_code_100 ?_
  refine j_icmpge (pc := 101) (tgt := 133) dX11_code_101 rfl (fun _ => ?_) (fun _ => ?_)
  · refine j_aload_n (pc := 133) 0 dX11_code_133 rfl rfl ?_
    refine j_callVV (pc := 134) (As := []) (st := []) (fun l => c11_wide l N v0) cs_RX11_229 rfl rfl rfl rfl (Nat.le_of_ble_eq_true rfl) ⟨(Nat.le_of_ble_eq_true rfl), (Nat.le_of_ble_eq_true rfl)⟩ ⟨(Nat.le_of_ble_eq_true rfl), (Nat.le_of_ble_eq_true rfl)⟩ dX11_code_134 (fun r1 σ2 => ?_)
    exact jb11_code_137 N  v0 v1 σ2
  · refine j_iconst (pc := 104) (v := 0) (by decide) dX11_code_104 ?_
    refine j_istore_n (pc := 105) (lv' := [(2, aI 0), (0, aR 29 v0), (1, aI v1)]) dX11_code_105 rfl (Nat.le_of_ble_eq_true rfl) rfl ?_
    refine j_sub [1, 2, 0] (lv' := [(0, aR 29 v0), (1, aI v1), (2, aI 0)]) rfl ?_
    exact jl11_code_106 N  N v0 v1 0 σ
set_option maxRecDepth 20000 in
set_option maxHeartbeats 4000000 in
theorem jb11_code_90 {Γ : jX} {tg : Unit × rS} (N : Nat) (v0 : Nat) (v1 : Int32) (σ : rS) : J Γ rm11_code eV cX11_code RX11 4 none tg 0 0 90 [(0, aR 29 v0), (1, aI v1)] [] σ (B11_code_90 N v0 v1 σ) := by
  unfold B11_code_90
  refine j_iload_n (pc := 90) 1 dX11_code_90 rfl rfl ?_
  refine j_iconst (pc := 91) (v := 2) (by decide) dX11_code_91 ?_
  refine j_icmpne (pc := 92) (tgt := 99) dX11_code_92 rfl (fun _ => ?_) (fun _ => ?_)
  · exact jb11_code_99 N  v0 v1 σ
  · refine j_aload_n (pc := 95) 0 dX11_code_95 rfl rfl ?_
    refine j_callVV (pc := 96) (As := []) (st := []) (fun l => c11_differences l N v0) cs_RX11_226 rfl rfl rfl rfl (Nat.le_of_ble_eq_true rfl) ⟨(Nat.le_of_ble_eq_true rfl), (Nat.le_of_ble_eq_true rfl)⟩ ⟨(Nat.le_of_ble_eq_true rfl), (Nat.le_of_ble_eq_true rfl)⟩ dX11_code_96 (fun r1 σ2 => ?_)
    exact jb11_code_99 N  v0 v1 σ2
set_option maxRecDepth 20000 in
set_option maxHeartbeats 4000000 in
theorem jb11_code_56 {Γ : jX} {tg : Unit × rS} (N : Nat) (K12 : Nat → Int32 → rS → Option (Unit × rS)) (hK12 : ∀ (v0 : Nat) (v2 : Int32) (σ : rS), J Γ rm11_code eV cX11_code RX11 4 none tg 0 0 12 [(0, aR 29 v0), (2, aI v2)] [] σ (K12 v0 v2 σ)) (v0 : Nat) (v2 : Int32) (v3 : Int32) (σ : rS) : J Γ rm11_code eV cX11_code RX11 4 none tg 0 0 56 [(0, aR 29 v0), (2, aI v2), (3, aI v3)] [] σ (B11_code_56 N K12 v0 v2 v3 σ) := by
  unfold B11_code_56
  refine j_aload_n (pc := 56) 0 dX11_code_56 rfl rfl ?_
  refine j_aload_n (pc := 57) 0 dX11_code_57 rfl rfl ?_
  refine j_getF (pc := 58) fd_29_9 tw_4_75 dX11_code_58 ?_
  refine j_iload_n (pc := 61) 1 dX11_code_61 rfl rfl ?_
  refine j_lald (pc := 62) rfl rfl rfl dX11_code_62 (fun j1 => ?_)
  refine j_callVV (pc := 63) (As := [aL (gL σ 39 v0 j1)]) (st := []) (fun l => c11_plain l N v0 (gL σ 39 v0 j1)) cs_RX11_222 rfl rfl rfl rfl (Nat.le_of_ble_eq_true rfl) ⟨(Nat.le_of_ble_eq_true rfl), (Nat.le_of_ble_eq_true rfl)⟩ ⟨(Nat.le_of_ble_eq_true rfl), (Nat.le_of_ble_eq_true rfl)⟩ dX11_code_63 (fun r2 σ3 => ?_)
  refine j_aload_n (pc := 66) 0 dX11_code_66 rfl rfl ?_
  refine j_iload_n (pc := 67) 2 dX11_code_67 rfl rfl ?_
  refine j_iconst (pc := 68) (v := 1) (by decide) dX11_code_68 ?_
  refine j_isub (pc := 69) dX11_code_69 ?_
  refine j_i2l (pc := 70) dX11_code_70 ?_
  refine j_callVV (pc := 71) (As := [aL (Int32.toInt64 (v3 - 1))]) (st := []) (fun l => c11_plain l N v0 (Int32.toInt64 (v3 - 1))) cs_RX11_222 rfl rfl rfl rfl (Nat.le_of_ble_eq_true rfl) ⟨(Nat.le_of_ble_eq_true rfl), (Nat.le_of_ble_eq_true rfl)⟩ ⟨(Nat.le_of_ble_eq_true rfl), (Nat.le_of_ble_eq_true rfl)⟩ dX11_code_71 (fun r4 σ5 => ?_)
  refine j_iload_n (pc := 74) 1 dX11_code_74 rfl rfl ?_
  refine j_iload_n (pc := 75) 2 dX11_code_75 rfl rfl ?_
  refine j_iadd (pc := 76) dX11_code_76 ?_
  refine j_leti (fun x6 => ?_)
  refine j_istore_n (pc := 77) (lv' := [(2, aI x6), (0, aR 29 v0), (3, aI v3)]) dX11_code_77 rfl (Nat.le_of_ble_eq_true rfl) rfl ?_
  refine j_sub [0, 1] (lv' := [(2, aI x6), (0, aR 29 v0)]) rfl ?_
  refine j_goto (pc := 78) (tgt := 12) dX11_code_78 rfl ?_
  refine j_sub [1, 0] (lv' := [(0, aR 29 v0), (2, aI x6)]) rfl ?_
  exact hK12 v0 x6 σ5
set_option maxRecDepth 20000 in
set_option maxHeartbeats 4000000 in
theorem jb11_code_22 {Γ : jX} {tg : Unit × rS} (N : Nat) (K12 : Nat → Int32 → rS → Option (Unit × rS)) (K22 : Nat → Int32 → Int32 → rS → Option (Unit × rS)) (hK12 : ∀ (v0 : Nat) (v2 : Int32) (σ : rS), J Γ rm11_code eV cX11_code RX11 4 none tg 0 0 12 [(0, aR 29 v0), (2, aI v2)] [] σ (K12 v0 v2 σ)) (hK22 : ∀ (v0 : Nat) (v2 : Int32) (v3 : Int32) (σ : rS), J Γ rm11_code eV cX11_code RX11 4 none tg 0 0 22 [(0, aR 29 v0), (2, aI v2), (3, aI v3)] [] σ (K22 v0 v2 v3 σ)) (v0 : Nat) (v2 : Int32) (v3 : Int32) (σ : rS) : J Γ rm11_code eV cX11_code RX11 4 none tg 0 0 22 [(0, aR 29 v0), (2, aI v2), (3, aI v3)] [] σ (B11_code_22 N K12 K22 v0 v2 v3 σ) := by
  unfold B11_code_22
  refine j_iload_n (pc := 22) 1 dX11_code_22 rfl rfl ?_
  refine j_iload_n (pc := 23) 2 dX11_code_23 rfl rfl ?_
  refine j_iadd (pc := 24) dX11_code_24 ?_
  refine j_aload_n (pc := 25) 0 dX11_code_25 rfl rfl ?_
  refine j_getI (pc := 26) fd_29_10 tw_4_76 dX11_code_26 ?_
  refine j_icmpge (pc := 29) (tgt := 56) dX11_code_29 rfl (fun _ => ?_) (fun _ => ?_)
  · exact jb11_code_56 N K12 hK12 v0 v2 v3 σ
  · refine j_aload_n (pc := 32) 0 dX11_code_32 rfl rfl ?_
    refine j_getF (pc := 33) fd_29_9 tw_4_75 dX11_code_33 ?_
    refine j_iload_n (pc := 36) 1 dX11_code_36 rfl rfl ?_
    refine j_iload_n (pc := 37) 2 dX11_code_37 rfl rfl ?_
    refine j_iadd (pc := 38) dX11_code_38 ?_
    refine j_lald (pc := 39) rfl rfl rfl dX11_code_39 (fun j1 => ?_)
    refine j_aload_n (pc := 40) 0 dX11_code_40 rfl rfl ?_
    refine j_getF (pc := 41) fd_29_9 tw_4_75 dX11_code_41 ?_
    refine j_iload_n (pc := 44) 1 dX11_code_44 rfl rfl ?_
    refine j_lald (pc := 45) rfl rfl rfl dX11_code_45 (fun j2 => ?_)
    refine j_lcmpne (pc := 46) (tgt := 56) dX11_code_46 dX11_code_47 rfl (fun _ => ?_) (fun _ => ?_)
    · exact jb11_code_56 N K12 hK12 v0 v2 v3 σ
    · refine j_iinc (pc := 50) (w := 1) (lv' := [(3, aI (v3 + 1)), (0, aR 29 v0), (2, aI v2)]) 2 dX11_code_50 rfl (by decide) (Nat.le_of_ble_eq_true rfl) rfl ?_
      refine j_goto (pc := 53) (tgt := 22) dX11_code_53 rfl ?_
      refine j_sub [1, 2, 0] (lv' := [(0, aR 29 v0), (2, aI v2), (3, aI (v3 + 1))]) rfl ?_
      exact hK22 v0 v2 (v3 + 1) σ
theorem jl11_code_22 {Γ : jX} {tg : Unit × rS} (N : Nat) (K12 : Nat → Int32 → rS → Option (Unit × rS)) (hK12 : ∀ (v0 : Nat) (v2 : Int32) (σ : rS), J Γ rm11_code eV cX11_code RX11 4 none tg 0 0 12 [(0, aR 29 v0), (2, aI v2)] [] σ (K12 v0 v2 σ)) : ∀ (n : Nat) (v0 : Nat) (v2 : Int32) (v3 : Int32) (σ : rS), J Γ rm11_code eV cX11_code RX11 4 none tg 0 0 22 [(0, aR 29 v0), (2, aI v2), (3, aI v3)] [] σ (L11_code_22 N K12 n v0 v2 v3 σ) := by
  intro n
  induction n with
  | zero => intro v0 v2 v3 σ; exact j_none
  | succ n ih => intro v0 v2 v3 σ; exact jb11_code_22 N K12 (L11_code_22 N K12 n) hK12 ih v0 v2 v3 σ
set_option maxRecDepth 20000 in
set_option maxHeartbeats 4000000 in
theorem jb11_code_12 {Γ : jX} {tg : Unit × rS} (N : Nat) (K12 : Nat → Int32 → rS → Option (Unit × rS)) (hK12 : ∀ (v0 : Nat) (v2 : Int32) (σ : rS), J Γ rm11_code eV cX11_code RX11 4 none tg 0 0 12 [(0, aR 29 v0), (2, aI v2)] [] σ (K12 v0 v2 σ)) (v0 : Nat) (v2 : Int32) (σ : rS) : J Γ rm11_code eV cX11_code RX11 4 none tg 0 0 12 [(0, aR 29 v0), (2, aI v2)] [] σ (B11_code_12 N K12 v0 v2 σ) := by
  unfold B11_code_12
  refine j_iload_n (pc := 12) 1 dX11_code_12 rfl rfl ?_
  refine j_aload_n (pc := 13) 0 dX11_code_13 rfl rfl ?_
  refine j_getI (pc := 14) fd_29_10 tw_4_76 dX11_code_14 ?_
  refine j_icmpge (pc := 17) (tgt := 81) dX11_code_17 rfl (fun _ => ?_) (fun _ => ?_)
  · exact j_return (pc := 81) rfl (Nat.le_of_ble_eq_true rfl) (Nat.le_of_ble_eq_true rfl) dX11_code_81
  · refine j_iconst (pc := 20) (v := 1) (by decide) dX11_code_20 ?_
    refine j_istore_n (pc := 21) (lv' := [(3, aI 1), (0, aR 29 v0), (2, aI v2)]) dX11_code_21 rfl (Nat.le_of_ble_eq_true rfl) rfl ?_
    refine j_sub [1, 2, 0] (lv' := [(0, aR 29 v0), (2, aI v2), (3, aI 1)]) rfl ?_
    exact jl11_code_22 N K12 hK12 N v0 v2 1 σ
theorem jl11_code_12 {Γ : jX} {tg : Unit × rS} (N : Nat) : ∀ (n : Nat) (v0 : Nat) (v2 : Int32) (σ : rS), J Γ rm11_code eV cX11_code RX11 4 none tg 0 0 12 [(0, aR 29 v0), (2, aI v2)] [] σ (L11_code_12 N n v0 v2 σ) := by
  intro n
  induction n with
  | zero => intro v0 v2 σ; exact j_none
  | succ n ih => intro v0 v2 σ; exact jb11_code_12 N (L11_code_12 N n) ih v0 v2 σ
set_option maxRecDepth 20000 in
set_option maxHeartbeats 4000000 in
theorem j11_code {Γ : jX} {tg : Unit × rS} (N : Nat) (v0 : Nat) (v1 : Int32) (σ : rS) : J Γ rm11_code eV cX11_code RX11 4 none tg 0 0 0 [(0, aR 29 v0), (1, aI v1)] [] σ (f11_code N v0 v1 σ) := by
  unfold f11_code
  refine j_aload_n (pc := 0) 0 dX11_code_0 rfl rfl ?_
  refine j_iconst (pc := 1) (v := 0) (by decide) dX11_code_1 ?_
  refine j_putI (pc := 2) fd_29_12 rfl rfl tw_4_78 dX11_code_2 ?_
  refine j_lets (fun σ1 => ?_)
  refine j_iload_n (pc := 5) 1 dX11_code_5 rfl rfl ?_
  refine j_iconst (pc := 6) (v := 3) (by decide) dX11_code_6 ?_
  refine j_icmpne (pc := 7) (tgt := 82) dX11_code_7 rfl (fun _ => ?_) (fun _ => ?_)
  · refine j_iload_n (pc := 82) 1 dX11_code_82 rfl rfl ?_
    refine j_ifle (pc := 83) (tgt := 90) dX11_code_83 rfl (fun _ => ?_) (fun _ => ?_)
    · exact jb11_code_90 N  v0 v1 σ1
    · refine j_aload_n (pc := 86) 0 dX11_code_86 rfl rfl ?_
      refine j_callVV (pc := 87) (As := []) (st := []) (fun l => c11_differences l N v0) cs_RX11_226 rfl rfl rfl rfl (Nat.le_of_ble_eq_true rfl) ⟨(Nat.le_of_ble_eq_true rfl), (Nat.le_of_ble_eq_true rfl)⟩ ⟨(Nat.le_of_ble_eq_true rfl), (Nat.le_of_ble_eq_true rfl)⟩ dX11_code_87 (fun r2 σ3 => ?_)
      exact jb11_code_90 N  v0 v1 σ3
  · refine j_iconst (pc := 10) (v := 0) (by decide) dX11_code_10 ?_
    refine j_istore_n (pc := 11) (lv' := [(2, aI 0), (0, aR 29 v0), (1, aI v1)]) dX11_code_11 rfl (Nat.le_of_ble_eq_true rfl) rfl ?_
    refine j_sub [0, 1] (lv' := [(2, aI 0), (0, aR 29 v0)]) rfl ?_
    refine j_sub [1, 0] (lv' := [(0, aR 29 v0), (2, aI 0)]) rfl ?_
    exact jl11_code_12 N  N v0 0 σ1
theorem c11_code (l : Launch) (N : Nat) (v0 : Nat) (v1 : Int32) : Ctr l yX11_code cX11_code 4 none rm11_code eV [aR 29 v0, aI v1] (f11_code N v0 v1) := ctr_of (lv := [(0, aR 29 v0), (1, aI v1)]) (by decide +kernel) (fun _ => rfl) (fun _ => (Nat.le_of_ble_eq_true rfl)) (fun _ h => lvl_als h rfl) (fun _ σ _ => j11_code N v0 v1 σ)
theorem cs_RX11_235 : CaV RX11 RX11 235 yX11_code cX11_code 4 none 1 := ⟨tw_5_105, tw_5_107, tw_p28, tw_1_5, tw_5_108, rfl, by decide +kernel, by decide +kernel, by decide +kernel⟩
abbrev rm11_codeRow : Room := { frames := 2, cells := 0, slots := 0, locals := 47 }
set_option maxRecDepth 20000 in
set_option maxHeartbeats 4000000 in
theorem jb11_codeRow_12 {Γ : jX} {tg : Unit × rS} (N : Nat) (K12 : Nat → Int32 → Int32 → Int32 → rS → Option (Unit × rS)) (hK12 : ∀ (v0 : Nat) (v1 : Int32) (v2 : Int32) (v3 : Int32) (σ : rS), J Γ rm11_codeRow eV cX11_codeRow RX11 4 none tg 0 0 12 [(0, aR 29 v0), (1, aI v1), (2, aI v2), (3, aI v3)] [] σ (K12 v0 v1 v2 v3 σ)) (v0 : Nat) (v1 : Int32) (v2 : Int32) (v3 : Int32) (σ : rS) : J Γ rm11_codeRow eV cX11_codeRow RX11 4 none tg 0 0 12 [(0, aR 29 v0), (1, aI v1), (2, aI v2), (3, aI v3)] [] σ (B11_codeRow_12 N K12 v0 v1 v2 v3 σ) := by
  unfold B11_codeRow_12
  refine j_iload_n (pc := 12) 3 dX11_codeRow_12 rfl rfl ?_
  refine j_aload_n (pc := 13) 0 dX11_codeRow_13 rfl rfl ?_
  refine j_getI (pc := 14) fd_29_10 tw_4_76 dX11_codeRow_14 ?_
  refine j_icmpge (pc := 17) (tgt := 43) dX11_codeRow_17 rfl (fun _ => ?_) (fun _ => ?_)
  · refine j_aload_n (pc := 43) 0 dX11_codeRow_43 rfl rfl ?_
    refine j_iload_n (pc := 44) 2 dX11_codeRow_44 rfl rfl ?_
    refine j_callVV (pc := 45) (As := [aI v2]) (st := []) (fun l => c11_code l N v0 v2) cs_RX11_235 rfl rfl rfl rfl (Nat.le_of_ble_eq_true rfl) ⟨(Nat.le_of_ble_eq_true rfl), (Nat.le_of_ble_eq_true rfl)⟩ ⟨(Nat.le_of_ble_eq_true rfl), (Nat.le_of_ble_eq_true rfl)⟩ dX11_codeRow_45 (fun r1 σ2 => ?_)
    exact j_return (pc := 48) rfl (Nat.le_of_ble_eq_true rfl) (Nat.le_of_ble_eq_true rfl) dX11_codeRow_48
  · refine j_aload_n (pc := 20) 0 dX11_codeRow_20 rfl rfl ?_
    refine j_getF (pc := 21) fd_29_9 tw_4_75 dX11_codeRow_21 ?_
    refine j_iload_n (pc := 24) 3 dX11_codeRow_24 rfl rfl ?_
    refine j_aload_n (pc := 25) 0 dX11_codeRow_25 rfl rfl ?_
    refine j_getF (pc := 26) fd_29_7 tw_4_73 dX11_codeRow_26 ?_
    refine j_bipush (pc := 29) (v := 24) (by decide) dX11_codeRow_29 ?_
    refine j_iload_n (pc := 31) 1 dX11_codeRow_31 rfl rfl ?_
    refine j_imul (pc := 32) dX11_codeRow_32 ?_
    refine j_iload_n (pc := 33) 3 dX11_codeRow_33 rfl rfl ?_
    refine j_iadd (pc := 34) dX11_codeRow_34 ?_
    refine j_lald (pc := 35) rfl rfl rfl dX11_codeRow_35 (fun j3 => ?_)
    refine j_last (pc := 36) rfl rfl rfl dX11_codeRow_36 (fun j4 => ?_)
    refine j_lets (fun σ5 => ?_)
    refine j_iinc (pc := 37) (w := 1) (lv' := [(3, aI (v3 + 1)), (0, aR 29 v0), (1, aI v1), (2, aI v2)]) 3 dX11_codeRow_37 rfl (by decide) (Nat.le_of_ble_eq_true rfl) rfl ?_
    refine j_goto (pc := 40) (tgt := 12) dX11_codeRow_40 rfl ?_
    refine j_sub [1, 2, 3, 0] (lv' := [(0, aR 29 v0), (1, aI v1), (2, aI v2), (3, aI (v3 + 1))]) rfl ?_
    exact hK12 v0 v1 v2 (v3 + 1) σ5
theorem jl11_codeRow_12 {Γ : jX} {tg : Unit × rS} (N : Nat) : ∀ (n : Nat) (v0 : Nat) (v1 : Int32) (v2 : Int32) (v3 : Int32) (σ : rS), J Γ rm11_codeRow eV cX11_codeRow RX11 4 none tg 0 0 12 [(0, aR 29 v0), (1, aI v1), (2, aI v2), (3, aI v3)] [] σ (L11_codeRow_12 N n v0 v1 v2 v3 σ) := by
  intro n
  induction n with
  | zero => intro v0 v1 v2 v3 σ; exact j_none
  | succ n ih => intro v0 v1 v2 v3 σ; exact jb11_codeRow_12 N (L11_codeRow_12 N n) ih v0 v1 v2 v3 σ
set_option maxRecDepth 20000 in
set_option maxHeartbeats 4000000 in
theorem j11_codeRow {Γ : jX} {tg : Unit × rS} (N : Nat) (v0 : Nat) (v1 : Int32) (v2 : Int32) (σ : rS) : J Γ rm11_codeRow eV cX11_codeRow RX11 4 none tg 0 0 0 [(0, aR 29 v0), (1, aI v1), (2, aI v2)] [] σ (f11_codeRow N v0 v1 v2 σ) := by
  unfold f11_codeRow
  refine j_aload_n (pc := 0) 0 dX11_codeRow_0 rfl rfl ?_
  refine j_aload_n (pc := 1) 0 dX11_codeRow_1 rfl rfl ?_
  refine j_getF (pc := 2) fd_29_5 tw_4_71 dX11_codeRow_2 ?_
  refine j_iload_n (pc := 5) 1 dX11_codeRow_5 rfl rfl ?_
  refine j_iald (pc := 6) rfl rfl rfl dX11_codeRow_6 (fun j1 => ?_)
  refine j_putI (pc := 7) fd_29_10 rfl rfl tw_4_76 dX11_codeRow_7 ?_
  refine j_lets (fun σ2 => ?_)
  refine j_iconst (pc := 10) (v := 0) (by decide) dX11_codeRow_10 ?_
  refine j_istore_n (pc := 11) (lv' := [(3, aI 0), (0, aR 29 v0), (1, aI v1), (2, aI v2)]) dX11_codeRow_11 rfl (Nat.le_of_ble_eq_true rfl) rfl ?_
  refine j_sub [1, 2, 3, 0] (lv' := [(0, aR 29 v0), (1, aI v1), (2, aI v2), (3, aI 0)]) rfl ?_
  exact jl11_codeRow_12 N  N v0 v1 v2 0 σ2
theorem c11_codeRow (l : Launch) (N : Nat) (v0 : Nat) (v1 : Int32) (v2 : Int32) : Ctr l yX11_codeRow cX11_codeRow 4 none rm11_codeRow eV [aR 29 v0, aI v1, aI v2] (f11_codeRow N v0 v1 v2) := ctr_of (lv := [(0, aR 29 v0), (1, aI v1), (2, aI v2)]) (by decide +kernel) (fun _ => rfl) (fun _ => (Nat.le_of_ble_eq_true rfl)) (fun _ h => lvl_als h rfl) (fun _ σ _ => j11_codeRow N v0 v1 v2 σ)
theorem cs_RX11_252 : CaV RX11 RX11 252 yX11_codeRow cX11_codeRow 4 none 2 := ⟨tw_5_101, tw_5_103, tw_p27, tw_1_5, tw_5_104, rfl, by decide +kernel, by decide +kernel, by decide +kernel⟩
abbrev rm11_best : Room := { frames := 3, cells := 0, slots := 0, locals := 70 }
set_option maxRecDepth 20000 in
set_option maxHeartbeats 4000000 in
theorem jb11_best_64 {Γ : jX} {tg : Int32 × rS} (N : Nat) (K35 : Nat → Int32 → Int32 → Int32 → Int32 → rS → Option (Int32 × rS)) (hK35 : ∀ (v0 : Nat) (v1 : Int32) (v2 : Int32) (v3 : Int32) (v4 : Int32) (σ : rS), J Γ rm11_best eI cX11_best RX11 5 (some .int) tg 0 0 35 [(0, aR 29 v0), (1, aI v1), (2, aI v2), (3, aI v3), (4, aI v4)] [] σ (K35 v0 v1 v2 v3 v4 σ)) (v0 : Nat) (v1 : Int32) (v2 : Int32) (v3 : Int32) (v4 : Int32) (σ : rS) : J Γ rm11_best eI cX11_best RX11 5 (some .int) tg 0 0 64 [(0, aR 29 v0), (1, aI v1), (2, aI v2), (3, aI v3), (4, aI v4)] [] σ (B11_best_64 N K35 v0 v1 v2 v3 v4 σ) := by
  unfold B11_best_64
  refine j_iinc (pc := 64) (w := 1) (lv' := [(4, aI (v4 + 1)), (0, aR 29 v0), (1, aI v1), (2, aI v2), (3, aI v3)]) 4 dX11_best_64 rfl (by decide) (Nat.le_of_ble_eq_true rfl) rfl ?_
  refine j_goto (pc := 67) (tgt := 35) dX11_best_67 rfl ?_
  refine j_sub [1, 2, 3, 4, 0] (lv' := [(0, aR 29 v0), (1, aI v1), (2, aI v2), (3, aI v3), (4, aI (v4 + 1))]) rfl ?_
  exact hK35 v0 v1 v2 v3 (v4 + 1) σ
set_option maxRecDepth 20000 in
set_option maxHeartbeats 4000000 in
theorem jb11_best_35 {Γ : jX} {tg : Int32 × rS} (N : Nat) (K35 : Nat → Int32 → Int32 → Int32 → Int32 → rS → Option (Int32 × rS)) (hK35 : ∀ (v0 : Nat) (v1 : Int32) (v2 : Int32) (v3 : Int32) (v4 : Int32) (σ : rS), J Γ rm11_best eI cX11_best RX11 5 (some .int) tg 0 0 35 [(0, aR 29 v0), (1, aI v1), (2, aI v2), (3, aI v3), (4, aI v4)] [] σ (K35 v0 v1 v2 v3 v4 σ)) (v0 : Nat) (v1 : Int32) (v2 : Int32) (v3 : Int32) (v4 : Int32) (σ : rS) : J Γ rm11_best eI cX11_best RX11 5 (some .int) tg 0 0 35 [(0, aR 29 v0), (1, aI v1), (2, aI v2), (3, aI v3), (4, aI v4)] [] σ (B11_best_35 N K35 v0 v1 v2 v3 v4 σ) := by
  unfold B11_best_35
  refine j_iload (pc := 35) 4 dX11_best_35 rfl ?_
  refine j_iconst (pc := 37) (v := 5) (by decide) dX11_best_37 ?_
  refine j_icmpge (pc := 38) (tgt := 70) dX11_best_38 rfl (fun _ => ?_) (fun _ => ?_)
  · refine j_iload_n (pc := 70) 2 dX11_best_70 rfl rfl ?_
    exact j_ireturn (pc := 71) rfl (Nat.le_of_ble_eq_true rfl) (Nat.le_of_ble_eq_true rfl) dX11_best_71
  · refine j_aload_n (pc := 41) 0 dX11_best_41 rfl rfl ?_
    refine j_iload_n (pc := 42) 1 dX11_best_42 rfl rfl ?_
    refine j_iload (pc := 43) 4 dX11_best_43 rfl ?_
    refine j_callVV (pc := 45) (As := [aI v1, aI v4]) (st := []) (fun l => c11_codeRow l N v0 v1 v4) cs_RX11_252 rfl rfl rfl rfl (Nat.le_of_ble_eq_true rfl) ⟨(Nat.le_of_ble_eq_true rfl), (Nat.le_of_ble_eq_true rfl)⟩ ⟨(Nat.le_of_ble_eq_true rfl), (Nat.le_of_ble_eq_true rfl)⟩ dX11_best_45 (fun r1 σ2 => ?_)
    refine j_aload_n (pc := 48) 0 dX11_best_48 rfl rfl ?_
    refine j_getI (pc := 49) fd_29_12 tw_4_78 dX11_best_49 ?_
    refine j_iload_n (pc := 52) 3 dX11_best_52 rfl rfl ?_
    refine j_icmpge (pc := 53) (tgt := 64) dX11_best_53 rfl (fun _ => ?_) (fun _ => ?_)
    · exact jb11_best_64 N K35 hK35 v0 v1 v2 v3 v4 σ2
    · refine j_aload_n (pc := 56) 0 dX11_best_56 rfl rfl ?_
      refine j_getI (pc := 57) fd_29_12 tw_4_78 dX11_best_57 ?_
      refine j_leti (fun x3 => ?_)
      refine j_istore_n (pc := 60) (lv' := [(3, aI x3), (0, aR 29 v0), (1, aI v1), (2, aI v2), (4, aI v4)]) dX11_best_60 rfl (Nat.le_of_ble_eq_true rfl) rfl ?_
      refine j_sub [0, 1, 2, 4] (lv' := [(3, aI x3), (0, aR 29 v0), (1, aI v1), (4, aI v4)]) rfl ?_
      refine j_iload (pc := 61) 3 dX11_best_61 rfl ?_
      refine j_istore_n (pc := 63) (lv' := [(2, aI v4), (3, aI x3), (0, aR 29 v0), (1, aI v1), (4, aI v4)]) dX11_best_63 rfl (Nat.le_of_ble_eq_true rfl) rfl ?_
      refine j_sub [2, 3, 0, 1, 4] (lv' := [(0, aR 29 v0), (1, aI v1), (2, aI v4), (3, aI x3), (4, aI v4)]) rfl ?_
      exact jb11_best_64 N K35 hK35 v0 v1 v4 x3 v4 σ2
theorem jl11_best_35 {Γ : jX} {tg : Int32 × rS} (N : Nat) : ∀ (n : Nat) (v0 : Nat) (v1 : Int32) (v2 : Int32) (v3 : Int32) (v4 : Int32) (σ : rS), J Γ rm11_best eI cX11_best RX11 5 (some .int) tg 0 0 35 [(0, aR 29 v0), (1, aI v1), (2, aI v2), (3, aI v3), (4, aI v4)] [] σ (L11_best_35 N n v0 v1 v2 v3 v4 σ) := by
  intro n
  induction n with
  | zero => intro v0 v1 v2 v3 v4 σ; exact j_none
  | succ n ih => intro v0 v1 v2 v3 v4 σ; exact jb11_best_35 N (L11_best_35 N n) ih v0 v1 v2 v3 v4 σ
set_option maxRecDepth 20000 in
set_option maxHeartbeats 4000000 in
theorem j11_best {Γ : jX} {tg : Int32 × rS} (N : Nat) (v0 : Nat) (v1 : Int32) (σ : rS) : J Γ rm11_best eI cX11_best RX11 5 (some .int) tg 0 0 0 [(0, aR 29 v0), (1, aI v1)] [] σ (f11_best N v0 v1 σ) := by
  unfold f11_best
  refine j_aload_n (pc := 0) 0 dX11_best_0 rfl rfl ?_
  refine j_iload_n (pc := 1) 1 dX11_best_1 rfl rfl ?_
  refine j_callVZ (pc := 2) (As := [aI v1]) (st := []) (fun l => c11_isRow l v0 v1) cs_RX11_154 rfl rfl rfl rfl (Nat.le_of_ble_eq_true rfl) ⟨(Nat.le_of_ble_eq_true rfl), (Nat.le_of_ble_eq_true rfl)⟩ ⟨(Nat.le_of_ble_eq_true rfl), (Nat.le_of_ble_eq_true rfl)⟩ dX11_best_2 (fun r1 σ2 => ?_)
  refine j_ifneB (pc := 5) (tgt := 11) dX11_best_5 rfl (fun _ => ?_) (fun _ => ?_)
  · refine j_aload_n (pc := 11) 0 dX11_best_11 rfl rfl ?_
    refine j_getF (pc := 12) fd_29_6 tw_4_72 dX11_best_12 ?_
    refine j_iload_n (pc := 15) 1 dX11_best_15 rfl rfl ?_
    refine j_zald (pc := 16) rfl rfl rfl dX11_best_16 (fun j3 => ?_)
    refine j_ifeq (pc := 17) (tgt := 26) dX11_best_17 rfl (fun _ => ?_) (fun _ => ?_)
    · refine j_iconst (pc := 26) (v := 0) (by decide) dX11_best_26 ?_
      refine j_istore_n (pc := 27) (lv' := [(2, aI 0), (0, aR 29 v0), (1, aI v1)]) dX11_best_27 rfl (Nat.le_of_ble_eq_true rfl) rfl ?_
      refine j_sipush (pc := 28) (v := 1000) (by decide) dX11_best_28 ?_
      refine j_istore_n (pc := 31) (lv' := [(3, aI 1000), (2, aI 0), (0, aR 29 v0), (1, aI v1)]) dX11_best_31 rfl (Nat.le_of_ble_eq_true rfl) rfl ?_
      refine j_iconst (pc := 32) (v := 0) (by decide) dX11_best_32 ?_
      refine j_istore (pc := 33) (lv' := [(4, aI 0), (3, aI 1000), (2, aI 0), (0, aR 29 v0), (1, aI v1)]) dX11_best_33 (Nat.le_of_ble_eq_true rfl) rfl ?_
      refine j_sub [3, 4, 2, 1, 0] (lv' := [(0, aR 29 v0), (1, aI v1), (2, aI 0), (3, aI 1000), (4, aI 0)]) rfl ?_
      exact jl11_best_35 N  N v0 v1 0 1000 0 σ2
    · refine j_aload_n (pc := 20) 0 dX11_best_20 rfl rfl ?_
      refine j_iconst (pc := 21) (v := 1) (by decide) dX11_best_21 ?_
      refine j_callVI (pc := 22) (As := [aI 1]) (st := []) (fun l => c11_meets l v0 1) cs_RX11_146 rfl rfl rfl rfl (Nat.le_of_ble_eq_true rfl) ⟨(Nat.le_of_ble_eq_true rfl), (Nat.le_of_ble_eq_true rfl)⟩ ⟨(Nat.le_of_ble_eq_true rfl), (Nat.le_of_ble_eq_true rfl)⟩ dX11_best_22 (fun r4 σ5 => ?_)
      exact j_ireturn (pc := 25) rfl (Nat.le_of_ble_eq_true rfl) (Nat.le_of_ble_eq_true rfl) dX11_best_25
  · refine j_bipush (pc := 8) (v := (-101)) (by decide) dX11_best_8 ?_
    exact j_ireturn (pc := 10) rfl (Nat.le_of_ble_eq_true rfl) (Nat.le_of_ble_eq_true rfl) dX11_best_10
theorem c11_best (l : Launch) (N : Nat) (v0 : Nat) (v1 : Int32) : Ctr l yX11_best cX11_best 5 (some .int) rm11_best eI [aR 29 v0, aI v1] (f11_best N v0 v1) := ctr_of (lv := [(0, aR 29 v0), (1, aI v1)]) (by decide +kernel) (fun _ => rfl) (fun _ => (Nat.le_of_ble_eq_true rfl)) (fun _ h => lvl_als h rfl) (fun _ σ _ => j11_best N v0 v1 σ)
abbrev rm11_bodiesNow : Room := { frames := 0, cells := 0, slots := 0, locals := 0 }
set_option maxRecDepth 20000 in
set_option maxHeartbeats 4000000 in
theorem jb11_bodiesNow_26 {Γ : jX} {tg : Int32 × rS} (N : Nat) (K4 : Nat → Int32 → Int32 → rS → Option (Int32 × rS)) (hK4 : ∀ (v0 : Nat) (v1 : Int32) (v2 : Int32) (σ : rS), J Γ rm11_bodiesNow eI cX11_bodiesNow RX11 3 (some .int) tg 0 0 4 [(0, aR 29 v0), (1, aI v1), (2, aI v2)] [] σ (K4 v0 v1 v2 σ)) (v0 : Nat) (v2 : Int32) (s0 : Int32) (s1 : Bool) (σ : rS) : J Γ rm11_bodiesNow eI cX11_bodiesNow RX11 3 (some .int) tg 0 0 26 [(0, aR 29 v0), (2, aI v2)] [aI (bi s1), aI s0] σ (B11_bodiesNow_26 N K4 v0 v2 s0 s1 σ) := by
  unfold B11_bodiesNow_26
  refine j_iadd (pc := 26) dX11_bodiesNow_26 ?_
  refine j_leti (fun x1 => ?_)
  refine j_istore_n (pc := 27) (lv' := [(1, aI x1), (0, aR 29 v0), (2, aI v2)]) dX11_bodiesNow_27 rfl (Nat.le_of_ble_eq_true rfl) rfl ?_
  refine j_iinc (pc := 28) (w := 1) (lv' := [(2, aI (v2 + 1)), (1, aI x1), (0, aR 29 v0)]) 2 dX11_bodiesNow_28 rfl (by decide) (Nat.le_of_ble_eq_true rfl) rfl ?_
  refine j_goto (pc := 31) (tgt := 4) dX11_bodiesNow_31 rfl ?_
  refine j_sub [2, 1, 0] (lv' := [(0, aR 29 v0), (1, aI x1), (2, aI (v2 + 1))]) rfl ?_
  exact hK4 v0 x1 (v2 + 1) σ
set_option maxRecDepth 20000 in
set_option maxHeartbeats 4000000 in
theorem jb11_bodiesNow_4 {Γ : jX} {tg : Int32 × rS} (N : Nat) (K4 : Nat → Int32 → Int32 → rS → Option (Int32 × rS)) (hK4 : ∀ (v0 : Nat) (v1 : Int32) (v2 : Int32) (σ : rS), J Γ rm11_bodiesNow eI cX11_bodiesNow RX11 3 (some .int) tg 0 0 4 [(0, aR 29 v0), (1, aI v1), (2, aI v2)] [] σ (K4 v0 v1 v2 σ)) (v0 : Nat) (v1 : Int32) (v2 : Int32) (σ : rS) : J Γ rm11_bodiesNow eI cX11_bodiesNow RX11 3 (some .int) tg 0 0 4 [(0, aR 29 v0), (1, aI v1), (2, aI v2)] [] σ (B11_bodiesNow_4 N K4 v0 v1 v2 σ) := by
  unfold B11_bodiesNow_4
  refine j_iload_n (pc := 4) 2 dX11_bodiesNow_4 rfl rfl ?_
  refine j_bipush (pc := 5) (v := 30) (by decide) dX11_bodiesNow_5 ?_
  refine j_icmpge (pc := 7) (tgt := 34) dX11_bodiesNow_7 rfl (fun _ => ?_) (fun _ => ?_)
  · refine j_iload_n (pc := 34) 1 dX11_bodiesNow_34 rfl rfl ?_
    exact j_ireturn (pc := 35) rfl (Nat.le_of_ble_eq_true rfl) (Nat.le_of_ble_eq_true rfl) dX11_bodiesNow_35
  · refine j_iload_n (pc := 10) 1 dX11_bodiesNow_10 rfl rfl ?_
    refine j_aload_n (pc := 11) 0 dX11_bodiesNow_11 rfl rfl ?_
    refine j_getF (pc := 12) fd_29_21 tw_4_87 dX11_bodiesNow_12 ?_
    refine j_iload_n (pc := 15) 2 dX11_bodiesNow_15 rfl rfl ?_
    refine j_iald (pc := 16) rfl rfl rfl dX11_bodiesNow_16 (fun j1 => ?_)
    refine j_iconst (pc := 17) (v := (-1)) (by decide) dX11_bodiesNow_17 ?_
    refine j_icmpeq (pc := 18) (tgt := 25) dX11_bodiesNow_18 rfl (fun _ => ?_) (fun _ => ?_)
    · refine j_iconst (pc := 25) (v := 0) (by decide) dX11_bodiesNow_25 ?_
      refine j_sub [0, 2] (lv' := [(0, aR 29 v0), (2, aI v2)]) rfl ?_
      exact jb11_bodiesNow_26 N K4 hK4 v0 v2 v1 false σ
    · refine j_iconst (pc := 21) (v := 1) (by decide) dX11_bodiesNow_21 ?_
      refine j_goto (pc := 22) (tgt := 26) dX11_bodiesNow_22 rfl ?_
      refine j_sub [0, 2] (lv' := [(0, aR 29 v0), (2, aI v2)]) rfl ?_
      exact jb11_bodiesNow_26 N K4 hK4 v0 v2 v1 true σ
theorem jl11_bodiesNow_4 {Γ : jX} {tg : Int32 × rS} (N : Nat) : ∀ (n : Nat) (v0 : Nat) (v1 : Int32) (v2 : Int32) (σ : rS), J Γ rm11_bodiesNow eI cX11_bodiesNow RX11 3 (some .int) tg 0 0 4 [(0, aR 29 v0), (1, aI v1), (2, aI v2)] [] σ (L11_bodiesNow_4 N n v0 v1 v2 σ) := by
  intro n
  induction n with
  | zero => intro v0 v1 v2 σ; exact j_none
  | succ n ih => intro v0 v1 v2 σ; exact jb11_bodiesNow_4 N (L11_bodiesNow_4 N n) ih v0 v1 v2 σ
set_option maxRecDepth 20000 in
set_option maxHeartbeats 4000000 in
theorem j11_bodiesNow {Γ : jX} {tg : Int32 × rS} (N : Nat) (v0 : Nat) (σ : rS) : J Γ rm11_bodiesNow eI cX11_bodiesNow RX11 3 (some .int) tg 0 0 0 [(0, aR 29 v0)] [] σ (f11_bodiesNow N v0 σ) := by
  unfold f11_bodiesNow
  refine j_iconst (pc := 0) (v := 0) (by decide) dX11_bodiesNow_0 ?_
  refine j_istore_n (pc := 1) (lv' := [(1, aI 0), (0, aR 29 v0)]) dX11_bodiesNow_1 rfl (Nat.le_of_ble_eq_true rfl) rfl ?_
  refine j_iconst (pc := 2) (v := 0) (by decide) dX11_bodiesNow_2 ?_
  refine j_istore_n (pc := 3) (lv' := [(2, aI 0), (1, aI 0), (0, aR 29 v0)]) dX11_bodiesNow_3 rfl (Nat.le_of_ble_eq_true rfl) rfl ?_
  refine j_sub [2, 1, 0] (lv' := [(0, aR 29 v0), (1, aI 0), (2, aI 0)]) rfl ?_
  exact jl11_bodiesNow_4 N  N v0 0 0 σ
theorem c11_bodiesNow (l : Launch) (N : Nat) (v0 : Nat) : Ctr l yX11_bodiesNow cX11_bodiesNow 3 (some .int) rm11_bodiesNow eI [aR 29 v0] (f11_bodiesNow N v0) := ctr_of (lv := [(0, aR 29 v0)]) (by decide +kernel) (fun _ => rfl) (fun _ => (Nat.le_of_ble_eq_true rfl)) (fun _ h => lvl_als h rfl) (fun _ σ _ => j11_bodiesNow N v0 σ)
