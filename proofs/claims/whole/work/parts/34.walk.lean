theorem cs_RX10_58 : CaS RX10 58 yX10_isKind cX10_isKind 1 (some .boolean) 1 := ⟨tw_1_157, tw_1_158, tw_1_1, tw_1_159, by decide +kernel, by decide +kernel, by decide +kernel⟩
abbrev rm10_row : Room := { frames := 3, cells := 2, slots := 27, locals := 72 }
set_option maxRecDepth 20000 in
set_option maxHeartbeats 4000000 in
theorem j10_row {Γ : jX} {tg : Int32 × rS} (v0 : Nat) (v1 : Int32) (v2 : Int32) (σ : rS) : J Γ rm10_row eI cX10_row RX10 3 (some .int) tg 0 0 0 [(0, aR 0 v0), (1, aI v1), (2, aI v2)] [] σ (f10_row v0 v1 v2 σ) := by
  unfold f10_row
  refine j_iload_n (pc := 0) 1 dX10_row_0 rfl rfl ?_
  refine j_callSZ (pc := 1) (As := [aI v1]) (st := []) (fun l => c10_isKind l v1) cs_RX10_58 rfl rfl (Nat.le_of_ble_eq_true rfl) ⟨(Nat.le_of_ble_eq_true rfl), (Nat.le_of_ble_eq_true rfl)⟩ ⟨(Nat.le_of_ble_eq_true rfl), (Nat.le_of_ble_eq_true rfl)⟩ dX10_row_1 (fun r1 σ2 => ?_)
  refine j_ifeqB (pc := 4) (tgt := 13) dX10_row_4 rfl (fun _ => ?_) (fun _ => ?_)
  · refine j_bipush (pc := 13) (v := (-102)) (by decide) dX10_row_13 ?_
    exact j_ireturn (pc := 15) rfl (Nat.le_of_ble_eq_true rfl) (Nat.le_of_ble_eq_true rfl) dX10_row_15
  · refine j_iload_n (pc := 7) 2 dX10_row_7 rfl rfl ?_
    refine j_bipush (pc := 8) (v := 24) (by decide) dX10_row_8 ?_
    refine j_icmple (pc := 10) (tgt := 16) dX10_row_10 rfl (fun _ => ?_) (fun _ => ?_)
    · refine j_aload_n (pc := 16) 0 dX10_row_16 rfl rfl ?_
      refine j_getI (pc := 17) fd_0_8 tw_1_117 dX10_row_17 ?_
      refine j_bipush (pc := 20) (v := 60) (by decide) dX10_row_20 ?_
      refine j_icmplt (pc := 22) (tgt := 28) dX10_row_22 rfl (fun _ => ?_) (fun _ => ?_)
      · refine j_iload_n (pc := 28) 2 dX10_row_28 rfl rfl ?_
        refine j_ifge (pc := 29) (tgt := 38) dX10_row_29 rfl (fun _ => ?_) (fun _ => ?_)
        · refine j_aload_n (pc := 38) 0 dX10_row_38 rfl rfl ?_
          refine j_iload_n (pc := 39) 1 dX10_row_39 rfl rfl ?_
          refine j_iload_n (pc := 40) 2 dX10_row_40 rfl rfl ?_
          refine j_callVI (pc := 41) (As := [aI v1, aI v2]) (st := []) (fun l => c10_newRow l v0 v1 v2) cs_RX10_70 rfl rfl rfl rfl (Nat.le_of_ble_eq_true rfl) ⟨(Nat.le_of_ble_eq_true rfl), (Nat.le_of_ble_eq_true rfl)⟩ ⟨(Nat.le_of_ble_eq_true rfl), (Nat.le_of_ble_eq_true rfl)⟩ dX10_row_41 (fun r3 σ4 => ?_)
          exact j_ireturn (pc := 44) rfl (Nat.le_of_ble_eq_true rfl) (Nat.le_of_ble_eq_true rfl) dX10_row_44
        · refine j_aload_n (pc := 32) 0 dX10_row_32 rfl rfl ?_
          refine j_iconst (pc := 33) (v := 4) (by decide) dX10_row_33 ?_
          refine j_callVI (pc := 34) (As := [aI 4]) (st := []) (fun l => c10_found l v0 4) cs_RX10_66 rfl rfl rfl rfl (Nat.le_of_ble_eq_true rfl) ⟨(Nat.le_of_ble_eq_true rfl), (Nat.le_of_ble_eq_true rfl)⟩ ⟨(Nat.le_of_ble_eq_true rfl), (Nat.le_of_ble_eq_true rfl)⟩ dX10_row_34 (fun r5 σ6 => ?_)
          exact j_ireturn (pc := 37) rfl (Nat.le_of_ble_eq_true rfl) (Nat.le_of_ble_eq_true rfl) dX10_row_37
      · refine j_bipush (pc := 25) (v := (-104)) (by decide) dX10_row_25 ?_
        exact j_ireturn (pc := 27) rfl (Nat.le_of_ble_eq_true rfl) (Nat.le_of_ble_eq_true rfl) dX10_row_27
    · refine j_bipush (pc := 13) (v := (-102)) (by decide) dX10_row_13 ?_
      exact j_ireturn (pc := 15) rfl (Nat.le_of_ble_eq_true rfl) (Nat.le_of_ble_eq_true rfl) dX10_row_15
theorem c10_row (l : Launch) (v0 : Nat) (v1 : Int32) (v2 : Int32) : Ctr l yX10_row cX10_row 3 (some .int) rm10_row eI [aR 0 v0, aI v1, aI v2] (f10_row v0 v1 v2) := ctr_of (lv := [(0, aR 0 v0), (1, aI v1), (2, aI v2)]) (by decide +kernel) (fun _ => rfl) (fun _ => (Nat.le_of_ble_eq_true rfl)) (fun _ h => lvl_als h rfl) (fun _ σ _ => j10_row v0 v1 v2 σ)
abbrev rm10_seek : Room := { frames := 1, cells := 0, slots := 0, locals := 21 }
set_option maxRecDepth 20000 in
set_option maxHeartbeats 4000000 in
theorem j10_seek {Γ : jX} {tg : Int32 × rS} (v0 : Nat) (v1 : Int32) (v2 : Int32) (σ : rS) : J Γ rm10_seek eI cX10_seek RX10 5 (some .int) tg 0 0 0 [(0, aR 0 v0), (1, aI v1), (2, aI v2)] [] σ (f10_seek v0 v1 v2 σ) := by
  unfold f10_seek
  refine j_aload_n (pc := 0) 0 dX10_seek_0 rfl rfl ?_
  refine j_iload_n (pc := 1) 1 dX10_seek_1 rfl rfl ?_
  refine j_callVR (pc := 2) (As := [aI v1]) (st := []) (fun l => c10_streamNumbered l v0 v1) cs_RX10_145 rfl rfl rfl rfl (Nat.le_of_ble_eq_true rfl) ⟨(Nat.le_of_ble_eq_true rfl), (Nat.le_of_ble_eq_true rfl)⟩ ⟨(Nat.le_of_ble_eq_true rfl), (Nat.le_of_ble_eq_true rfl)⟩ dX10_seek_2 (fun r1 σ2 => ?_)
  refine j_astore_n (pc := 5) (lv' := [(3, aO 15 r1), (0, aR 0 v0), (1, aI v1), (2, aI v2)]) dX10_seek_5 rfl (Nat.le_of_ble_eq_true rfl) rfl ?_
  refine j_sub [0, 1, 3] (lv' := [(3, aO 15 r1), (0, aR 0 v0), (2, aI v2)]) rfl ?_
  refine j_aload_n (pc := 6) 0 dX10_seek_6 rfl rfl ?_
  refine j_ifnonnull (pc := 7) (tgt := 13) dX10_seek_7 rfl (fun hm => ?_) (fun i3 hm => ?_)
  · subst hm
    refine j_bipush (pc := 10) (v := (-101)) (by decide) dX10_seek_10 ?_
    exact j_ireturn (pc := 12) rfl (Nat.le_of_ble_eq_true rfl) (Nat.le_of_ble_eq_true rfl) dX10_seek_12
  · subst hm
    refine j_iload_n (pc := 13) 2 dX10_seek_13 rfl rfl ?_
    refine j_iflt (pc := 14) (tgt := 25) dX10_seek_14 rfl (fun _ => ?_) (fun _ => ?_)
    · refine j_aload_n (pc := 25) 1 dX10_seek_25 rfl rfl ?_
      refine j_iconst (pc := 26) (v := 2) (by decide) dX10_seek_26 ?_
      refine j_callVI (pc := 27) (As := [aI 2]) (st := []) (fun l => c10_found l v0 2) cs_RX10_66 rfl rfl rfl rfl (Nat.le_of_ble_eq_true rfl) ⟨(Nat.le_of_ble_eq_true rfl), (Nat.le_of_ble_eq_true rfl)⟩ ⟨(Nat.le_of_ble_eq_true rfl), (Nat.le_of_ble_eq_true rfl)⟩ dX10_seek_27 (fun r4 σ5 => ?_)
      exact j_ireturn (pc := 30) rfl (Nat.le_of_ble_eq_true rfl) (Nat.le_of_ble_eq_true rfl) dX10_seek_30
    · refine j_iload_n (pc := 17) 2 dX10_seek_17 rfl rfl ?_
      refine j_aload_n (pc := 18) 0 dX10_seek_18 rfl rfl ?_
      refine j_getI (pc := 19) fd_15_1 tw_2_142 dX10_seek_19 ?_
      refine j_icmple (pc := 22) (tgt := 31) dX10_seek_22 rfl (fun _ => ?_) (fun _ => ?_)
      · refine j_aload_n (pc := 31) 0 dX10_seek_31 rfl rfl ?_
        refine j_getI (pc := 32) fd_15_2 tw_2_143 dX10_seek_32 ?_
        refine j_leti (fun x6 => ?_)
        refine j_istore (pc := 35) (lv' := [(4, aI x6), (3, aR 15 i3), (0, aR 0 v0), (2, aI v2)]) dX10_seek_35 (Nat.le_of_ble_eq_true rfl) rfl ?_
        refine j_sub [0, 1, 3] (lv' := [(4, aI x6), (3, aR 15 i3), (2, aI v2)]) rfl ?_
        refine j_aload_n (pc := 37) 1 dX10_seek_37 rfl rfl ?_
        refine j_iload_n (pc := 38) 2 dX10_seek_38 rfl rfl ?_
        refine j_putI (pc := 39) fd_15_2 rfl rfl tw_2_143 dX10_seek_39 ?_
        refine j_lets (fun σ7 => ?_)
        refine j_iload (pc := 42) 0 dX10_seek_42 rfl ?_
        exact j_ireturn (pc := 44) rfl (Nat.le_of_ble_eq_true rfl) (Nat.le_of_ble_eq_true rfl) dX10_seek_44
      · refine j_aload_n (pc := 25) 1 dX10_seek_25 rfl rfl ?_
        refine j_iconst (pc := 26) (v := 2) (by decide) dX10_seek_26 ?_
        refine j_callVI (pc := 27) (As := [aI 2]) (st := []) (fun l => c10_found l v0 2) cs_RX10_66 rfl rfl rfl rfl (Nat.le_of_ble_eq_true rfl) ⟨(Nat.le_of_ble_eq_true rfl), (Nat.le_of_ble_eq_true rfl)⟩ ⟨(Nat.le_of_ble_eq_true rfl), (Nat.le_of_ble_eq_true rfl)⟩ dX10_seek_27 (fun r8 σ9 => ?_)
        exact j_ireturn (pc := 30) rfl (Nat.le_of_ble_eq_true rfl) (Nat.le_of_ble_eq_true rfl) dX10_seek_30
theorem c10_seek (l : Launch) (v0 : Nat) (v1 : Int32) (v2 : Int32) : Ctr l yX10_seek cX10_seek 5 (some .int) rm10_seek eI [aR 0 v0, aI v1, aI v2] (f10_seek v0 v1 v2) := ctr_of (lv := [(0, aR 0 v0), (1, aI v1), (2, aI v2)]) (by decide +kernel) (fun _ => rfl) (fun _ => (Nat.le_of_ble_eq_true rfl)) (fun _ h => lvl_als h rfl) (fun _ σ _ => j10_seek v0 v1 v2 σ)
abbrev rm10_seen : Room := { frames := 0, cells := 0, slots := 0, locals := 0 }
set_option maxRecDepth 20000 in
set_option maxHeartbeats 4000000 in
theorem j10_seen {Γ : jX} {tg : Int64 × rS} (v0 : Nat) (σ : rS) : J Γ rm10_seen eL cX10_seen RX10 1 (some .long) tg 0 0 0 [(0, aR 0 v0)] [] σ (f10_seen v0 σ) := by
  unfold f10_seen
  refine j_aload_n (pc := 0) 0 dX10_seen_0 rfl rfl ?_
  refine j_getL (pc := 1) fd_0_13 tw_1_122 dX10_seen_1 ?_
  exact j_lreturn (pc := 4) rfl (Nat.le_of_ble_eq_true rfl) (Nat.le_of_ble_eq_true rfl) dX10_seen_4
theorem c10_seen (l : Launch) (v0 : Nat) : Ctr l yX10_seen cX10_seen 1 (some .long) rm10_seen eL [aR 0 v0] (f10_seen v0) := ctr_of (lv := [(0, aR 0 v0)]) (by decide +kernel) (fun _ => rfl) (fun _ => (Nat.le_of_ble_eq_true rfl)) (fun _ h => lvl_als h rfl) (fun _ σ _ => j10_seen v0 σ)
abbrev rm2_bias : Room := { frames := 0, cells := 0, slots := 0, locals := 0 }
set_option maxRecDepth 20000 in
set_option maxHeartbeats 4000000 in
theorem j2_bias {Γ : jX} {tg : Int32 × rS} (v0 : Int32) (σ : rS) : J Γ rm2_bias eI cX2_bias RX2 1 (some .int) tg 0 0 0 [(0, aI v0)] [] σ (f2_bias v0 σ) := by
  unfold f2_bias
  refine j_iload_n (pc := 0) 0 dX2_bias_0 rfl rfl ?_
  refine j_bipush (pc := 1) (v := 6) (by decide) dX2_bias_1 ?_
  refine j_icmpne (pc := 3) (tgt := 11) dX2_bias_3 rfl (fun _ => ?_) (fun _ => ?_)
  · refine j_sipush (pc := 11) (v := 1023) (by decide) dX2_bias_11 ?_
    exact j_ireturn (pc := 14) rfl (Nat.le_of_ble_eq_true rfl) (Nat.le_of_ble_eq_true rfl) dX2_bias_14
  · refine j_bipush (pc := 6) (v := 127) (by decide) dX2_bias_6 ?_
    refine j_goto (pc := 8) (tgt := 14) dX2_bias_8 rfl ?_
    exact j_ireturn (pc := 14) rfl (Nat.le_of_ble_eq_true rfl) (Nat.le_of_ble_eq_true rfl) dX2_bias_14
theorem c2_bias (l : Launch) (v0 : Int32) : Ctr l yX2_bias cX2_bias 1 (some .int) rm2_bias eI [aI v0] (f2_bias v0) := ctr_of (lv := [(0, aI v0)]) (by decide +kernel) (fun _ => rfl) (fun _ => (Nat.le_of_ble_eq_true rfl)) (fun _ h => lvl_als h rfl) (fun _ σ _ => j2_bias v0 σ)
abbrev rm2_goesUp : Room := { frames := 0, cells := 0, slots := 0, locals := 0 }
set_option maxRecDepth 20000 in
set_option maxHeartbeats 4000000 in
theorem j2_goesUp {Γ : jX} {tg : Bool × rS} (v0 : Int32) (v1 : Bool) (v2 : Int32) (v3 : Bool) (σ : rS) : J Γ rm2_goesUp eZ cX2_goesUp RX2 4 (some .boolean) tg 0 0 0 [(0, aI v0), (1, aI (bi v1)), (2, aI v2), (3, aI (bi v3))] [] σ (f2_goesUp v0 v1 v2 v3 σ) := by
  unfold f2_goesUp
  refine j_iload_n (pc := 0) 0 dX2_goesUp_0 rfl rfl ?_
  refine j_iconst (pc := 1) (v := 1) (by decide) dX2_goesUp_1 ?_
  refine j_icmpne (pc := 2) (tgt := 7) dX2_goesUp_2 rfl (fun _ => ?_) (fun _ => ?_)
  · refine j_iload_n (pc := 7) 0 dX2_goesUp_7 rfl rfl ?_
    refine j_iconst (pc := 8) (v := 2) (by decide) dX2_goesUp_8 ?_
    refine j_icmpne (pc := 9) (tgt := 22) dX2_goesUp_9 rfl (fun _ => ?_) (fun _ => ?_)
    · refine j_iload_n (pc := 22) 2 dX2_goesUp_22 rfl rfl ?_
      refine j_ifgt (pc := 23) (tgt := 34) dX2_goesUp_23 rfl (fun _ => ?_) (fun _ => ?_)
      · refine j_iconst (pc := 34) (v := 1) (by decide) dX2_goesUp_34 ?_
        refine j_goto (pc := 35) (tgt := 39) dX2_goesUp_35 rfl ?_
        exact j_zret1 (pc := 39) rfl (Nat.le_of_ble_eq_true rfl) (Nat.le_of_ble_eq_true rfl) dX2_goesUp_39
      · refine j_iload_n (pc := 26) 2 dX2_goesUp_26 rfl rfl ?_
        refine j_ifne (pc := 27) (tgt := 38) dX2_goesUp_27 rfl (fun _ => ?_) (fun _ => ?_)
        · refine j_iconst (pc := 38) (v := 0) (by decide) dX2_goesUp_38 ?_
          exact j_zret0 (pc := 39) rfl (Nat.le_of_ble_eq_true rfl) (Nat.le_of_ble_eq_true rfl) dX2_goesUp_39
        · refine j_iload_n (pc := 30) 3 dX2_goesUp_30 rfl rfl ?_
          refine j_ifeqB (pc := 31) (tgt := 38) dX2_goesUp_31 rfl (fun _ => ?_) (fun _ => ?_)
          · refine j_iconst (pc := 38) (v := 0) (by decide) dX2_goesUp_38 ?_
            exact j_zret0 (pc := 39) rfl (Nat.le_of_ble_eq_true rfl) (Nat.le_of_ble_eq_true rfl) dX2_goesUp_39
          · refine j_iconst (pc := 34) (v := 1) (by decide) dX2_goesUp_34 ?_
            refine j_goto (pc := 35) (tgt := 39) dX2_goesUp_35 rfl ?_
            exact j_zret1 (pc := 39) rfl (Nat.le_of_ble_eq_true rfl) (Nat.le_of_ble_eq_true rfl) dX2_goesUp_39
    · refine j_iload_n (pc := 12) 1 dX2_goesUp_12 rfl rfl ?_
      refine j_ifneB (pc := 13) (tgt := 20) dX2_goesUp_13 rfl (fun _ => ?_) (fun _ => ?_)
      · refine j_iconst (pc := 20) (v := 0) (by decide) dX2_goesUp_20 ?_
        exact j_zret0 (pc := 21) rfl (Nat.le_of_ble_eq_true rfl) (Nat.le_of_ble_eq_true rfl) dX2_goesUp_21
      · refine j_iconst (pc := 16) (v := 1) (by decide) dX2_goesUp_16 ?_
        refine j_goto (pc := 17) (tgt := 21) dX2_goesUp_17 rfl ?_
        exact j_zret1 (pc := 21) rfl (Nat.le_of_ble_eq_true rfl) (Nat.le_of_ble_eq_true rfl) dX2_goesUp_21
  · refine j_iload_n (pc := 5) 1 dX2_goesUp_5 rfl rfl ?_
    exact j_zretB (pc := 6) rfl (Nat.le_of_ble_eq_true rfl) (Nat.le_of_ble_eq_true rfl) dX2_goesUp_6
theorem c2_goesUp (l : Launch) (v0 : Int32) (v1 : Bool) (v2 : Int32) (v3 : Bool) : Ctr l yX2_goesUp cX2_goesUp 4 (some .boolean) rm2_goesUp eZ [aI v0, aI (bi v1), aI v2, aI (bi v3)] (f2_goesUp v0 v1 v2 v3) := ctr_of (lv := [(0, aI v0), (1, aI (bi v1)), (2, aI v2), (3, aI (bi v3))]) (by decide +kernel) (fun _ => rfl) (fun _ => (Nat.le_of_ble_eq_true rfl)) (fun _ h => lvl_als h rfl) (fun _ σ _ => j2_goesUp v0 v1 v2 v3 σ)
theorem cs_RX2_17 : CaS RX2 17 yX2_bias cX2_bias 1 (some .int) 1 := ⟨tw_2_51, tw_2_52, tw_1_8, tw_2_53, by decide +kernel, by decide +kernel, by decide +kernel⟩
abbrev rm2_halfOf : Room := { frames := 1, cells := 0, slots := 0, locals := 20 }
set_option maxRecDepth 20000 in
set_option maxHeartbeats 4000000 in
theorem j2_halfOf {Γ : jX} {tg : Int64 × rS} (v0 : Int32) (σ : rS) : J Γ rm2_halfOf eL cX2_halfOf RX2 1 (some .long) tg 0 0 0 [(0, aI v0)] [] σ (f2_halfOf v0 σ) := by
  unfold f2_halfOf
  refine j_iload_n (pc := 0) 0 dX2_halfOf_0 rfl rfl ?_
  refine j_callSI (pc := 1) (As := [aI v0]) (st := []) (fun l => c2_bias l v0) cs_RX2_17 rfl rfl (Nat.le_of_ble_eq_true rfl) ⟨(Nat.le_of_ble_eq_true rfl), (Nat.le_of_ble_eq_true rfl)⟩ ⟨(Nat.le_of_ble_eq_true rfl), (Nat.le_of_ble_eq_true rfl)⟩ dX2_halfOf_1 (fun r1 σ2 => ?_)
  refine j_iconst (pc := 4) (v := 1) (by decide) dX2_halfOf_4 ?_
  refine j_isub (pc := 5) dX2_halfOf_5 ?_
  refine j_i2l (pc := 6) dX2_halfOf_6 ?_
  refine j_iload_n (pc := 7) 0 dX2_halfOf_7 rfl rfl ?_
  refine j_callSI (pc := 8) (As := [aI v0]) (st := [aL (Int32.toInt64 (r1 - 1))]) (fun l => c2_fractionBits l v0) cs_RX2_23 rfl rfl (Nat.le_of_ble_eq_true rfl) ⟨(Nat.le_of_ble_eq_true rfl), (Nat.le_of_ble_eq_true rfl)⟩ ⟨(Nat.le_of_ble_eq_true rfl), (Nat.le_of_ble_eq_true rfl)⟩ dX2_halfOf_8 (fun r3 σ4 => ?_)
  refine j_lshl (pc := 11) dX2_halfOf_11 ?_
  exact j_lreturn (pc := 12) rfl (Nat.le_of_ble_eq_true rfl) (Nat.le_of_ble_eq_true rfl) dX2_halfOf_12
theorem c2_halfOf (l : Launch) (v0 : Int32) : Ctr l yX2_halfOf cX2_halfOf 1 (some .long) rm2_halfOf eL [aI v0] (f2_halfOf v0) := ctr_of (lv := [(0, aI v0)]) (by decide +kernel) (fun _ => rfl) (fun _ => (Nat.le_of_ble_eq_true rfl)) (fun _ h => lvl_als h rfl) (fun _ σ _ => j2_halfOf v0 σ)
abbrev rm2_oneOf : Room := { frames := 1, cells := 0, slots := 0, locals := 20 }
set_option maxRecDepth 20000 in
set_option maxHeartbeats 4000000 in
theorem j2_oneOf {Γ : jX} {tg : Int64 × rS} (v0 : Int32) (σ : rS) : J Γ rm2_oneOf eL cX2_oneOf RX2 1 (some .long) tg 0 0 0 [(0, aI v0)] [] σ (f2_oneOf v0 σ) := by
  unfold f2_oneOf
  refine j_iload_n (pc := 0) 0 dX2_oneOf_0 rfl rfl ?_
  refine j_callSI (pc := 1) (As := [aI v0]) (st := []) (fun l => c2_bias l v0) cs_RX2_17 rfl rfl (Nat.le_of_ble_eq_true rfl) ⟨(Nat.le_of_ble_eq_true rfl), (Nat.le_of_ble_eq_true rfl)⟩ ⟨(Nat.le_of_ble_eq_true rfl), (Nat.le_of_ble_eq_true rfl)⟩ dX2_oneOf_1 (fun r1 σ2 => ?_)
  refine j_i2l (pc := 4) dX2_oneOf_4 ?_
  refine j_iload_n (pc := 5) 0 dX2_oneOf_5 rfl rfl ?_
  refine j_callSI (pc := 6) (As := [aI v0]) (st := [aL (Int32.toInt64 r1)]) (fun l => c2_fractionBits l v0) cs_RX2_23 rfl rfl (Nat.le_of_ble_eq_true rfl) ⟨(Nat.le_of_ble_eq_true rfl), (Nat.le_of_ble_eq_true rfl)⟩ ⟨(Nat.le_of_ble_eq_true rfl), (Nat.le_of_ble_eq_true rfl)⟩ dX2_oneOf_6 (fun r3 σ4 => ?_)
  refine j_lshl (pc := 9) dX2_oneOf_9 ?_
  exact j_lreturn (pc := 10) rfl (Nat.le_of_ble_eq_true rfl) (Nat.le_of_ble_eq_true rfl) dX2_oneOf_10
theorem c2_oneOf (l : Launch) (v0 : Int32) : Ctr l yX2_oneOf cX2_oneOf 1 (some .long) rm2_oneOf eL [aI v0] (f2_oneOf v0) := ctr_of (lv := [(0, aI v0)]) (by decide +kernel) (fun _ => rfl) (fun _ => (Nat.le_of_ble_eq_true rfl)) (fun _ h => lvl_als h rfl) (fun _ σ _ => j2_oneOf v0 σ)
theorem cs_RX2_55 : CaS RX2 55 yJ13_compare_74951 cJ13_compare_74951 4 (some .int) 2 := ⟨tw_2_67, tw_2_31, tw_1_10, tw_2_32, by decide +kernel, by decide +kernel, by decide +kernel⟩
theorem cs_RX2_61 : CaS RX2 61 yX2_goesUp cX2_goesUp 4 (some .boolean) 4 := ⟨tw_2_68, tw_2_69, tw_1_8, tw_2_70, by decide +kernel, by decide +kernel, by decide +kernel⟩
theorem cs_RX2_52 : CaS RX2 52 yX2_halfOf cX2_halfOf 1 (some .long) 1 := ⟨tw_2_64, tw_2_65, tw_1_8, tw_2_66, by decide +kernel, by decide +kernel, by decide +kernel⟩
theorem cs_RX2_45 : CaS RX2 45 yX2_oneOf cX2_oneOf 1 (some .long) 1 := ⟨tw_2_48, tw_2_49, tw_1_8, tw_2_50, by decide +kernel, by decide +kernel, by decide +kernel⟩
abbrev rm2_rounded : Room := { frames := 2, cells := 0, slots := 0, locals := 43 }
set_option maxRecDepth 20000 in
set_option maxHeartbeats 4000000 in
theorem jb2_rounded_144 {Γ : jX} {tg : Int64 × rS} (v0 : Int32) (v3 : Int32) (v4 : Int64) (v6 : Bool) (v9 : Int64) (v11 : Int64) (s0 : Bool) (σ : rS) : J Γ rm2_rounded eL cX2_rounded RX2 15 (some .long) tg 0 0 144 [(0, aI v0), (3, aI v3), (4, aL v4), (6, aI (bi v6)), (9, aL v9), (11, aL v11)] [aI (bi s0)] σ (B2_rounded_144 v0 v3 v4 v6 v9 v11 s0 σ) := by
  unfold B2_rounded_144
  refine j_istore (pc := 144) (lv' := [(13, aI (bi s0)), (0, aI v0), (3, aI v3), (4, aL v4), (6, aI (bi v6)), (9, aL v9), (11, aL v11)]) dX2_rounded_144 (Nat.le_of_ble_eq_true rfl) rfl ?_
  refine j_iload_n (pc := 146) 2 dX2_rounded_146 rfl rfl ?_
  refine j_iload (pc := 147) 4 dX2_rounded_147 rfl ?_
  refine j_lload (pc := 149) 6 dX2_rounded_149 rfl ?_
  refine j_lload (pc := 151) 5 dX2_rounded_151 rfl ?_
  refine j_iconst (pc := 153) (v := 1) (by decide) dX2_rounded_153 ?_
  refine j_lshr (pc := 154) dX2_rounded_154 ?_
  refine j_callSI (pc := 155) (As := [aL v11, aL (v9 >>> (Int32.toInt64 1 &&& 63))]) (st := [aI (bi v6), aI v3]) (fun l => cJ_cmp l v11 (v9 >>> (Int32.toInt64 1 &&& 63))) cs_RX2_55 rfl rfl (Nat.le_of_ble_eq_true rfl) ⟨(Nat.le_of_ble_eq_true rfl), (Nat.le_of_ble_eq_true rfl)⟩ ⟨(Nat.le_of_ble_eq_true rfl), (Nat.le_of_ble_eq_true rfl)⟩ dX2_rounded_155 (fun r1 σ2 => ?_)
  refine j_iload (pc := 158) 0 dX2_rounded_158 rfl ?_
  refine j_callSZ (pc := 160) (As := [aI v3, aI (bi v6), aI r1, aI (bi s0)]) (st := []) (fun l => c2_goesUp l v3 v6 r1 s0) cs_RX2_61 rfl rfl (Nat.le_of_ble_eq_true rfl) ⟨(Nat.le_of_ble_eq_true rfl), (Nat.le_of_ble_eq_true rfl)⟩ ⟨(Nat.le_of_ble_eq_true rfl), (Nat.le_of_ble_eq_true rfl)⟩ dX2_rounded_160 (fun r3 σ4 => ?_)
  refine j_istore (pc := 163) (lv' := [(14, aI (bi r3)), (13, aI (bi s0)), (0, aI v0), (3, aI v3), (4, aL v4), (6, aI (bi v6)), (9, aL v9), (11, aL v11)]) dX2_rounded_163 (Nat.le_of_ble_eq_true rfl) rfl ?_
  refine j_sub [0, 2, 4, 5, 6, 7] (lv' := [(14, aI (bi r3)), (0, aI v0), (4, aL v4), (6, aI (bi v6)), (9, aL v9), (11, aL v11)]) rfl ?_
  refine j_iload_n (pc := 165) 1 dX2_rounded_165 rfl rfl ?_
  refine j_lload (pc := 166) 2 dX2_rounded_166 rfl ?_
  refine j_lload (pc := 168) 5 dX2_rounded_168 rfl ?_
  refine j_lsub (pc := 170) dX2_rounded_170 ?_
  refine j_iload (pc := 171) 0 dX2_rounded_171 rfl ?_
  refine j_ifeqB (pc := 173) (tgt := 181) dX2_rounded_173 rfl (fun _ => ?_) (fun _ => ?_)
  · refine j_lconst (pc := 181) (v := 0) (by decide) dX2_rounded_181 ?_
    refine j_ladd (pc := 182) dX2_rounded_182 ?_
    refine j_iload (pc := 183) 3 dX2_rounded_183 rfl ?_
    refine j_callSL (pc := 185) (As := [aI v0, aL ((v4 - v11) + 0), aI (bi v6)]) (st := []) (fun l => c2_withSign l v0 ((v4 - v11) + 0) v6) cs_RX2_48 rfl rfl (Nat.le_of_ble_eq_true rfl) ⟨(Nat.le_of_ble_eq_true rfl), (Nat.le_of_ble_eq_true rfl)⟩ ⟨(Nat.le_of_ble_eq_true rfl), (Nat.le_of_ble_eq_true rfl)⟩ dX2_rounded_185 (fun r5 σ6 => ?_)
    exact j_lreturn (pc := 188) rfl (Nat.le_of_ble_eq_true rfl) (Nat.le_of_ble_eq_true rfl) dX2_rounded_188
  · refine j_lload (pc := 176) 4 dX2_rounded_176 rfl ?_
    refine j_goto (pc := 178) (tgt := 182) dX2_rounded_178 rfl ?_
    refine j_ladd (pc := 182) dX2_rounded_182 ?_
    refine j_iload (pc := 183) 3 dX2_rounded_183 rfl ?_
    refine j_callSL (pc := 185) (As := [aI v0, aL ((v4 - v11) + v9), aI (bi v6)]) (st := []) (fun l => c2_withSign l v0 ((v4 - v11) + v9) v6) cs_RX2_48 rfl rfl (Nat.le_of_ble_eq_true rfl) ⟨(Nat.le_of_ble_eq_true rfl), (Nat.le_of_ble_eq_true rfl)⟩ ⟨(Nat.le_of_ble_eq_true rfl), (Nat.le_of_ble_eq_true rfl)⟩ dX2_rounded_185 (fun r7 σ8 => ?_)
    exact j_lreturn (pc := 188) rfl (Nat.le_of_ble_eq_true rfl) (Nat.le_of_ble_eq_true rfl) dX2_rounded_188
set_option maxRecDepth 20000 in
set_option maxHeartbeats 4000000 in
theorem jb2_rounded_18 {Γ : jX} {tg : Int64 × rS} (v0 : Int32) (v1 : Int64) (v3 : Int32) (v4 : Int64) (s0 : Bool) (σ : rS) : J Γ rm2_rounded eL cX2_rounded RX2 15 (some .long) tg 0 0 18 [(0, aI v0), (1, aL v1), (3, aI v3), (4, aL v4)] [aI (bi s0)] σ (B2_rounded_18 v0 v1 v3 v4 s0 σ) := by
  unfold B2_rounded_18
  refine j_istore (pc := 18) (lv' := [(6, aI (bi s0)), (0, aI v0), (1, aL v1), (3, aI v3), (4, aL v4)]) dX2_rounded_18 (Nat.le_of_ble_eq_true rfl) rfl ?_
  refine j_lload (pc := 20) 4 dX2_rounded_20 rfl ?_
  refine j_iload_n (pc := 22) 1 dX2_rounded_22 rfl rfl ?_
  refine j_callSI (pc := 23) (As := [aI v0]) (st := [aL v4]) (fun l => c2_fractionBits l v0) cs_RX2_23 rfl rfl (Nat.le_of_ble_eq_true rfl) ⟨(Nat.le_of_ble_eq_true rfl), (Nat.le_of_ble_eq_true rfl)⟩ ⟨(Nat.le_of_ble_eq_true rfl), (Nat.le_of_ble_eq_true rfl)⟩ dX2_rounded_23 (fun r1 σ2 => ?_)
  refine j_lshr (pc := 26) dX2_rounded_26 ?_
  refine j_l2i (pc := 27) dX2_rounded_27 ?_
  refine j_iload_n (pc := 28) 1 dX2_rounded_28 rfl rfl ?_
  refine j_callSI (pc := 29) (As := [aI v0]) (st := [aI (Int64.toInt32 (v4 >>> (Int32.toInt64 r1 &&& 63)))]) (fun l => c2_bias l v0) cs_RX2_17 rfl rfl (Nat.le_of_ble_eq_true rfl) ⟨(Nat.le_of_ble_eq_true rfl), (Nat.le_of_ble_eq_true rfl)⟩ ⟨(Nat.le_of_ble_eq_true rfl), (Nat.le_of_ble_eq_true rfl)⟩ dX2_rounded_29 (fun r3 σ4 => ?_)
  refine j_isub (pc := 32) dX2_rounded_32 ?_
  refine j_leti (fun x5 => ?_)
  refine j_istore (pc := 33) (lv' := [(7, aI x5), (6, aI (bi s0)), (0, aI v0), (1, aL v1), (3, aI v3), (4, aL v4)]) dX2_rounded_33 (Nat.le_of_ble_eq_true rfl) rfl ?_
  refine j_lload (pc := 35) 5 dX2_rounded_35 rfl ?_
  refine j_lconst (pc := 37) (v := 0) (by decide) dX2_rounded_37 ?_
  refine j_lcmpeq (pc := 38) (tgt := 51) dX2_rounded_38 dX2_rounded_39 rfl (fun _ => ?_) (fun _ => ?_)
  · refine j_lload_n (pc := 51) 3 dX2_rounded_51 rfl rfl ?_
    exact j_lreturn (pc := 52) rfl (Nat.le_of_ble_eq_true rfl) (Nat.le_of_ble_eq_true rfl) dX2_rounded_52
  · refine j_iload (pc := 42) 0 dX2_rounded_42 rfl ?_
    refine j_iload_n (pc := 44) 2 dX2_rounded_44 rfl rfl ?_
    refine j_callSI (pc := 45) (As := [aI v0]) (st := [aI x5]) (fun l => c2_fractionBits l v0) cs_RX2_23 rfl rfl (Nat.le_of_ble_eq_true rfl) ⟨(Nat.le_of_ble_eq_true rfl), (Nat.le_of_ble_eq_true rfl)⟩ ⟨(Nat.le_of_ble_eq_true rfl), (Nat.le_of_ble_eq_true rfl)⟩ dX2_rounded_45 (fun r6 σ7 => ?_)
    refine j_icmplt (pc := 48) (tgt := 53) dX2_rounded_48 rfl (fun _ => ?_) (fun _ => ?_)
    · refine j_iload (pc := 53) 0 dX2_rounded_53 rfl ?_
      refine j_ifge (pc := 55) (tgt := 96) dX2_rounded_55 rfl (fun _ => ?_) (fun _ => ?_)
      · refine j_iload_n (pc := 96) 2 dX2_rounded_96 rfl rfl ?_
        refine j_callSI (pc := 97) (As := [aI v0]) (st := []) (fun l => c2_fractionBits l v0) cs_RX2_23 rfl rfl (Nat.le_of_ble_eq_true rfl) ⟨(Nat.le_of_ble_eq_true rfl), (Nat.le_of_ble_eq_true rfl)⟩ ⟨(Nat.le_of_ble_eq_true rfl), (Nat.le_of_ble_eq_true rfl)⟩ dX2_rounded_97 (fun r8 σ9 => ?_)
        refine j_iload (pc := 100) 0 dX2_rounded_100 rfl ?_
        refine j_isub (pc := 102) dX2_rounded_102 ?_
        refine j_leti (fun x10 => ?_)
        refine j_istore (pc := 103) (lv' := [(8, aI x10), (7, aI x5), (6, aI (bi s0)), (0, aI v0), (1, aL v1), (3, aI v3), (4, aL v4)]) dX2_rounded_103 (Nat.le_of_ble_eq_true rfl) rfl ?_
        refine j_sub [0, 2, 3, 4, 5, 6] (lv' := [(8, aI x10), (6, aI (bi s0)), (0, aI v0), (1, aL v1), (3, aI v3), (4, aL v4)]) rfl ?_
        refine j_lconst (pc := 105) (v := 1) (by decide) dX2_rounded_105 ?_
        refine j_iload (pc := 106) 0 dX2_rounded_106 rfl ?_
        refine j_lshl (pc := 108) dX2_rounded_108 ?_
        refine j_letl (fun x11 => ?_)
        refine j_lstore (pc := 109) (lv' := [(9, aL x11), (8, aI x10), (6, aI (bi s0)), (0, aI v0), (1, aL v1), (3, aI v3), (4, aL v4)]) dX2_rounded_109 (Nat.le_of_ble_eq_true rfl) rfl ?_
        refine j_sub [0, 2, 3, 4, 5, 6] (lv' := [(9, aL x11), (6, aI (bi s0)), (0, aI v0), (1, aL v1), (3, aI v3), (4, aL v4)]) rfl ?_
        refine j_lload (pc := 111) 5 dX2_rounded_111 rfl ?_
        refine j_lload (pc := 113) 0 dX2_rounded_113 rfl ?_
        refine j_lconst (pc := 115) (v := 1) (by decide) dX2_rounded_115 ?_
        refine j_lsub (pc := 116) dX2_rounded_116 ?_
        refine j_land (pc := 117) dX2_rounded_117 ?_
        refine j_letl (fun x12 => ?_)
        refine j_lstore (pc := 118) (lv' := [(11, aL x12), (9, aL x11), (6, aI (bi s0)), (0, aI v0), (1, aL v1), (3, aI v3), (4, aL v4)]) dX2_rounded_118 (Nat.le_of_ble_eq_true rfl) rfl ?_
        refine j_lload (pc := 120) 0 dX2_rounded_120 rfl ?_
        refine j_lconst (pc := 122) (v := 0) (by decide) dX2_rounded_122 ?_
        refine j_lcmpne (pc := 123) (tgt := 129) dX2_rounded_123 dX2_rounded_124 rfl (fun _ => ?_) (fun _ => ?_)
        · refine j_lload (pc := 129) 6 dX2_rounded_129 rfl ?_
          refine j_lload (pc := 131) 1 dX2_rounded_131 rfl ?_
          refine j_land (pc := 133) dX2_rounded_133 ?_
          refine j_lconst (pc := 134) (v := 0) (by decide) dX2_rounded_134 ?_
          refine j_lcmpeq (pc := 135) (tgt := 143) dX2_rounded_135 dX2_rounded_136 rfl (fun _ => ?_) (fun _ => ?_)
          · refine j_iconst (pc := 143) (v := 0) (by decide) dX2_rounded_143 ?_
            refine j_sub [3, 5, 6, 2, 1, 0] (lv' := [(0, aI v0), (3, aI v3), (4, aL v4), (6, aI (bi s0)), (9, aL x11), (11, aL x12)]) rfl ?_
            exact jb2_rounded_144   v0 v3 v4 s0 x11 x12 false σ9
          · refine j_iconst (pc := 139) (v := 1) (by decide) dX2_rounded_139 ?_
            refine j_goto (pc := 140) (tgt := 144) dX2_rounded_140 rfl ?_
            refine j_sub [3, 5, 6, 2, 1, 0] (lv' := [(0, aI v0), (3, aI v3), (4, aL v4), (6, aI (bi s0)), (9, aL x11), (11, aL x12)]) rfl ?_
            exact jb2_rounded_144   v0 v3 v4 s0 x11 x12 true σ9
        · refine j_lload_n (pc := 127) 4 dX2_rounded_127 rfl rfl ?_
          exact j_lreturn (pc := 128) rfl (Nat.le_of_ble_eq_true rfl) (Nat.le_of_ble_eq_true rfl) dX2_rounded_128
      · refine j_iload_n (pc := 58) 4 dX2_rounded_58 rfl rfl ?_
        refine j_iload (pc := 59) 1 dX2_rounded_59 rfl ?_
        refine j_lload (pc := 61) 5 dX2_rounded_61 rfl ?_
        refine j_iload_n (pc := 63) 2 dX2_rounded_63 rfl rfl ?_
        refine j_callSL (pc := 64) (As := [aI v0]) (st := [aL v4, aI (bi s0), aI v3]) (fun l => c2_halfOf l v0) cs_RX2_52 rfl rfl (Nat.le_of_ble_eq_true rfl) ⟨(Nat.le_of_ble_eq_true rfl), (Nat.le_of_ble_eq_true rfl)⟩ ⟨(Nat.le_of_ble_eq_true rfl), (Nat.le_of_ble_eq_true rfl)⟩ dX2_rounded_64 (fun r13 σ14 => ?_)
        refine j_callSI (pc := 67) (As := [aL v4, aL r13]) (st := [aI (bi s0), aI v3]) (fun l => cJ_cmp l v4 r13) cs_RX2_55 rfl rfl (Nat.le_of_ble_eq_true rfl) ⟨(Nat.le_of_ble_eq_true rfl), (Nat.le_of_ble_eq_true rfl)⟩ ⟨(Nat.le_of_ble_eq_true rfl), (Nat.le_of_ble_eq_true rfl)⟩ dX2_rounded_67 (fun r15 σ16 => ?_)
        refine j_iconst (pc := 70) (v := 0) (by decide) dX2_rounded_70 ?_
        refine j_callSZ (pc := 71) (As := [aI v3, aI (bi s0), aI r15, aI (bi false)]) (st := []) (fun l => c2_goesUp l v3 s0 r15 false) cs_RX2_61 rfl rfl (Nat.le_of_ble_eq_true rfl) ⟨(Nat.le_of_ble_eq_true rfl), (Nat.le_of_ble_eq_true rfl)⟩ ⟨(Nat.le_of_ble_eq_true rfl), (Nat.le_of_ble_eq_true rfl)⟩ dX2_rounded_71 (fun r17 σ18 => ?_)
        refine j_istore (pc := 74) (lv' := [(8, aI (bi r17)), (7, aI x5), (6, aI (bi s0)), (0, aI v0), (1, aL v1), (3, aI v3), (4, aL v4)]) dX2_rounded_74 (Nat.le_of_ble_eq_true rfl) rfl ?_
        refine j_sub [0, 2, 3] (lv' := [(8, aI (bi r17)), (6, aI (bi s0)), (0, aI v0)]) rfl ?_
        refine j_iload_n (pc := 76) 2 dX2_rounded_76 rfl rfl ?_
        refine j_iload (pc := 77) 0 dX2_rounded_77 rfl ?_
        refine j_ifeqB (pc := 79) (tgt := 89) dX2_rounded_79 rfl (fun _ => ?_) (fun _ => ?_)
        · refine j_lconst (pc := 89) (v := 0) (by decide) dX2_rounded_89 ?_
          refine j_iload (pc := 90) 1 dX2_rounded_90 rfl ?_
          refine j_callSL (pc := 92) (As := [aI v0, aL 0, aI (bi s0)]) (st := []) (fun l => c2_withSign l v0 0 s0) cs_RX2_48 rfl rfl (Nat.le_of_ble_eq_true rfl) ⟨(Nat.le_of_ble_eq_true rfl), (Nat.le_of_ble_eq_true rfl)⟩ ⟨(Nat.le_of_ble_eq_true rfl), (Nat.le_of_ble_eq_true rfl)⟩ dX2_rounded_92 (fun r19 σ20 => ?_)
          exact j_lreturn (pc := 95) rfl (Nat.le_of_ble_eq_true rfl) (Nat.le_of_ble_eq_true rfl) dX2_rounded_95
        · refine j_iload_n (pc := 82) 2 dX2_rounded_82 rfl rfl ?_
          refine j_callSL (pc := 83) (As := [aI v0]) (st := [aI v0]) (fun l => c2_oneOf l v0) cs_RX2_45 rfl rfl (Nat.le_of_ble_eq_true rfl) ⟨(Nat.le_of_ble_eq_true rfl), (Nat.le_of_ble_eq_true rfl)⟩ ⟨(Nat.le_of_ble_eq_true rfl), (Nat.le_of_ble_eq_true rfl)⟩ dX2_rounded_83 (fun r21 σ22 => ?_)
          refine j_goto (pc := 86) (tgt := 90) dX2_rounded_86 rfl ?_
          refine j_iload (pc := 90) 1 dX2_rounded_90 rfl ?_
          refine j_callSL (pc := 92) (As := [aI v0, aL r21, aI (bi s0)]) (st := []) (fun l => c2_withSign l v0 r21 s0) cs_RX2_48 rfl rfl (Nat.le_of_ble_eq_true rfl) ⟨(Nat.le_of_ble_eq_true rfl), (Nat.le_of_ble_eq_true rfl)⟩ ⟨(Nat.le_of_ble_eq_true rfl), (Nat.le_of_ble_eq_true rfl)⟩ dX2_rounded_92 (fun r23 σ24 => ?_)
          exact j_lreturn (pc := 95) rfl (Nat.le_of_ble_eq_true rfl) (Nat.le_of_ble_eq_true rfl) dX2_rounded_95
    · refine j_lload_n (pc := 51) 3 dX2_rounded_51 rfl rfl ?_
      exact j_lreturn (pc := 52) rfl (Nat.le_of_ble_eq_true rfl) (Nat.le_of_ble_eq_true rfl) dX2_rounded_52
set_option maxRecDepth 20000 in
set_option maxHeartbeats 4000000 in
theorem j2_rounded {Γ : jX} {tg : Int64 × rS} (v0 : Int32) (v1 : Int64) (v3 : Int32) (σ : rS) : J Γ rm2_rounded eL cX2_rounded RX2 15 (some .long) tg 0 0 0 [(0, aI v0), (1, aL v1), (3, aI v3)] [] σ (f2_rounded v0 v1 v3 σ) := by
  unfold f2_rounded
  refine j_iload_n (pc := 0) 0 dX2_rounded_0 rfl rfl ?_
  refine j_lload_n (pc := 1) 1 dX2_rounded_1 rfl rfl ?_
  refine j_callSL (pc := 2) (As := [aI v0, aL v1]) (st := []) (fun l => c2_sizeOf l v0 v1) cs_RX2_34 rfl rfl (Nat.le_of_ble_eq_true rfl) ⟨(Nat.le_of_ble_eq_true rfl), (Nat.le_of_ble_eq_true rfl)⟩ ⟨(Nat.le_of_ble_eq_true rfl), (Nat.le_of_ble_eq_true rfl)⟩ dX2_rounded_2 (fun r1 σ2 => ?_)
  refine j_lstore (pc := 5) (lv' := [(4, aL r1), (0, aI v0), (1, aL v1), (3, aI v3)]) dX2_rounded_5 (Nat.le_of_ble_eq_true rfl) rfl ?_
  refine j_lload_n (pc := 7) 2 dX2_rounded_7 rfl rfl ?_
  refine j_lconst (pc := 8) (v := 0) (by decide) dX2_rounded_8 ?_
  refine j_lcmpge (pc := 9) (tgt := 17) dX2_rounded_9 dX2_rounded_10 rfl (fun _ => ?_) (fun _ => ?_)
  · refine j_iconst (pc := 17) (v := 0) (by decide) dX2_rounded_17 ?_
    refine j_sub [1, 2, 3, 0] (lv' := [(0, aI v0), (1, aL v1), (3, aI v3), (4, aL r1)]) rfl ?_
    exact jb2_rounded_18   v0 v1 v3 r1 false σ2
  · refine j_iconst (pc := 13) (v := 1) (by decide) dX2_rounded_13 ?_
    refine j_goto (pc := 14) (tgt := 18) dX2_rounded_14 rfl ?_
    refine j_sub [1, 2, 3, 0] (lv' := [(0, aI v0), (1, aL v1), (3, aI v3), (4, aL r1)]) rfl ?_
    exact jb2_rounded_18   v0 v1 v3 r1 true σ2
theorem c2_rounded (l : Launch) (v0 : Int32) (v1 : Int64) (v3 : Int32) : Ctr l yX2_rounded cX2_rounded 15 (some .long) rm2_rounded eL [aI v0, aL v1, aI v3] (f2_rounded v0 v1 v3) := ctr_of (lv := [(0, aI v0), (1, aL v1), (3, aI v3)]) (by decide +kernel) (fun _ => rfl) (fun _ => (Nat.le_of_ble_eq_true rfl)) (fun _ h => lvl_als h rfl) (fun _ σ _ => j2_rounded v0 v1 v3 σ)
abbrev rm2_signOf : Room := { frames := 2, cells := 0, slots := 0, locals := 43 }
set_option maxRecDepth 20000 in
set_option maxHeartbeats 4000000 in
theorem j2_signOf {Γ : jX} {tg : Int64 × rS} (v0 : Int32) (v1 : Int64) (σ : rS) : J Γ rm2_signOf eL cX2_signOf RX2 3 (some .long) tg 0 0 0 [(0, aI v0), (1, aL v1)] [] σ (f2_signOf v0 v1 σ) := by
  unfold f2_signOf
  refine j_iload_n (pc := 0) 0 dX2_signOf_0 rfl rfl ?_
  refine j_lload_n (pc := 1) 1 dX2_signOf_1 rfl rfl ?_
  refine j_callSL (pc := 2) (As := [aI v0, aL v1]) (st := []) (fun l => c2_sizeOf l v0 v1) cs_RX2_34 rfl rfl (Nat.le_of_ble_eq_true rfl) ⟨(Nat.le_of_ble_eq_true rfl), (Nat.le_of_ble_eq_true rfl)⟩ ⟨(Nat.le_of_ble_eq_true rfl), (Nat.le_of_ble_eq_true rfl)⟩ dX2_signOf_2 (fun r1 σ2 => ?_)
  refine j_lconst (pc := 5) (v := 0) (by decide) dX2_signOf_5 ?_
  refine j_lcmpne (pc := 6) (tgt := 14) dX2_signOf_6 dX2_signOf_7 rfl (fun _ => ?_) (fun _ => ?_)
  · refine j_iload_n (pc := 14) 0 dX2_signOf_14 rfl rfl ?_
    refine j_iload_n (pc := 15) 0 dX2_signOf_15 rfl rfl ?_
    refine j_callSL (pc := 16) (As := [aI v0]) (st := [aI v0]) (fun l => c2_oneOf l v0) cs_RX2_45 rfl rfl (Nat.le_of_ble_eq_true rfl) ⟨(Nat.le_of_ble_eq_true rfl), (Nat.le_of_ble_eq_true rfl)⟩ ⟨(Nat.le_of_ble_eq_true rfl), (Nat.le_of_ble_eq_true rfl)⟩ dX2_signOf_16 (fun r3 σ4 => ?_)
    refine j_lload_n (pc := 19) 1 dX2_signOf_19 rfl rfl ?_
    refine j_lconst (pc := 20) (v := 0) (by decide) dX2_signOf_20 ?_
    refine j_lcmpge (pc := 21) (tgt := 29) dX2_signOf_21 dX2_signOf_22 rfl (fun _ => ?_) (fun _ => ?_)
    · refine j_iconst (pc := 29) (v := 0) (by decide) dX2_signOf_29 ?_
      refine j_callSL (pc := 30) (As := [aI v0, aL r3, aI (bi false)]) (st := []) (fun l => c2_withSign l v0 r3 false) cs_RX2_48 rfl rfl (Nat.le_of_ble_eq_true rfl) ⟨(Nat.le_of_ble_eq_true rfl), (Nat.le_of_ble_eq_true rfl)⟩ ⟨(Nat.le_of_ble_eq_true rfl), (Nat.le_of_ble_eq_true rfl)⟩ dX2_signOf_30 (fun r5 σ6 => ?_)
      exact j_lreturn (pc := 33) rfl (Nat.le_of_ble_eq_true rfl) (Nat.le_of_ble_eq_true rfl) dX2_signOf_33
    · refine j_iconst (pc := 25) (v := 1) (by decide) dX2_signOf_25 ?_
      refine j_goto (pc := 26) (tgt := 30) dX2_signOf_26 rfl ?_
      refine j_callSL (pc := 30) (As := [aI v0, aL r3, aI (bi true)]) (st := []) (fun l => c2_withSign l v0 r3 true) cs_RX2_48 rfl rfl (Nat.le_of_ble_eq_true rfl) ⟨(Nat.le_of_ble_eq_true rfl), (Nat.le_of_ble_eq_true rfl)⟩ ⟨(Nat.le_of_ble_eq_true rfl), (Nat.le_of_ble_eq_true rfl)⟩ dX2_signOf_30 (fun r7 σ8 => ?_)
      exact j_lreturn (pc := 33) rfl (Nat.le_of_ble_eq_true rfl) (Nat.le_of_ble_eq_true rfl) dX2_signOf_33
  · refine j_lload_n (pc := 10) 1 dX2_signOf_10 rfl rfl ?_
    refine j_goto (pc := 11) (tgt := 33) dX2_signOf_11 rfl ?_
    exact j_lreturn (pc := 33) rfl (Nat.le_of_ble_eq_true rfl) (Nat.le_of_ble_eq_true rfl) dX2_signOf_33
theorem c2_signOf (l : Launch) (v0 : Int32) (v1 : Int64) : Ctr l yX2_signOf cX2_signOf 3 (some .long) rm2_signOf eL [aI v0, aL v1] (f2_signOf v0 v1) := ctr_of (lv := [(0, aI v0), (1, aL v1)]) (by decide +kernel) (fun _ => rfl) (fun _ => (Nat.le_of_ble_eq_true rfl)) (fun _ h => lvl_als h rfl) (fun _ σ _ => j2_signOf v0 v1 σ)
theorem cs_RX4_56 : CaS RX4 56 yX4_told cX4_told 3 (some .long) 2 := ⟨tw_2_44, tw_1_210, tw_1_7, tw_1_211, by decide +kernel, by decide +kernel, by decide +kernel⟩
abbrev rm4_turned : Room := { frames := 3, cells := 0, slots := 0, locals := 66 }
set_option maxRecDepth 20000 in
set_option maxHeartbeats 4000000 in
theorem j4_turned {Γ : jX} {tg : Int64 × rS} (v0 : Int32) (v1 : Int64) (σ : rS) : J Γ rm4_turned eL cX4_turned RX4 3 (some .long) tg 0 0 0 [(0, aI v0), (1, aL v1)] [] σ (f4_turned v0 v1 σ) := by
  unfold f4_turned
  refine j_iload_n (pc := 0) 0 dX4_turned_0 rfl rfl ?_
  refine j_ifne (pc := 1) (tgt := 8) dX4_turned_1 rfl (fun _ => ?_) (fun _ => ?_)
  · refine j_iload_n (pc := 8) 0 dX4_turned_8 rfl rfl ?_
    refine j_callSZ (pc := 9) (As := [aI v0]) (st := []) (fun l => c4_areFloating l v0) cs_RX4_15 rfl rfl (Nat.le_of_ble_eq_true rfl) ⟨(Nat.le_of_ble_eq_true rfl), (Nat.le_of_ble_eq_true rfl)⟩ ⟨(Nat.le_of_ble_eq_true rfl), (Nat.le_of_ble_eq_true rfl)⟩ dX4_turned_9 (fun r1 σ2 => ?_)
    refine j_ifeqB (pc := 12) (tgt := 24) dX4_turned_12 rfl (fun _ => ?_) (fun _ => ?_)
    · refine j_iload_n (pc := 24) 0 dX4_turned_24 rfl rfl ?_
      refine j_lload_n (pc := 25) 1 dX4_turned_25 rfl rfl ?_
      refine j_lneg (pc := 26) dX4_turned_26 ?_
      refine j_callSL (pc := 27) (As := [aI v0, aL (-v1)]) (st := []) (fun l => c4_told l v0 (-v1)) cs_RX4_56 rfl rfl (Nat.le_of_ble_eq_true rfl) ⟨(Nat.le_of_ble_eq_true rfl), (Nat.le_of_ble_eq_true rfl)⟩ ⟨(Nat.le_of_ble_eq_true rfl), (Nat.le_of_ble_eq_true rfl)⟩ dX4_turned_27 (fun r3 σ4 => ?_)
      exact j_lreturn (pc := 30) rfl (Nat.le_of_ble_eq_true rfl) (Nat.le_of_ble_eq_true rfl) dX4_turned_30
    · refine j_lload_n (pc := 15) 1 dX4_turned_15 rfl rfl ?_
      refine j_iload_n (pc := 16) 0 dX4_turned_16 rfl rfl ?_
      refine j_callSL (pc := 17) (As := [aI v0]) (st := [aL v1]) (fun l => c2_signBit l v0) cs_RX4_42 rfl rfl (Nat.le_of_ble_eq_true rfl) ⟨(Nat.le_of_ble_eq_true rfl), (Nat.le_of_ble_eq_true rfl)⟩ ⟨(Nat.le_of_ble_eq_true rfl), (Nat.le_of_ble_eq_true rfl)⟩ dX4_turned_17 (fun r5 σ6 => ?_)
      refine j_lxor (pc := 20) dX4_turned_20 ?_
      refine j_goto (pc := 21) (tgt := 30) dX4_turned_21 rfl ?_
      exact j_lreturn (pc := 30) rfl (Nat.le_of_ble_eq_true rfl) (Nat.le_of_ble_eq_true rfl) dX4_turned_30
  · refine j_lconst (pc := 4) (v := 1) (by decide) dX4_turned_4 ?_
    refine j_lload_n (pc := 5) 1 dX4_turned_5 rfl rfl ?_
    refine j_lsub (pc := 6) dX4_turned_6 ?_
    exact j_lreturn (pc := 7) rfl (Nat.le_of_ble_eq_true rfl) (Nat.le_of_ble_eq_true rfl) dX4_turned_7
theorem c4_turned (l : Launch) (v0 : Int32) (v1 : Int64) : Ctr l yX4_turned cX4_turned 3 (some .long) rm4_turned eL [aI v0, aL v1] (f4_turned v0 v1) := ctr_of (lv := [(0, aI v0), (1, aL v1)]) (by decide +kernel) (fun _ => rfl) (fun _ => (Nat.le_of_ble_eq_true rfl)) (fun _ h => lvl_als h rfl) (fun _ σ _ => j4_turned v0 v1 σ)
theorem cs_RX4_46 : CaS RX4 46 yX4_turned cX4_turned 3 (some .long) 2 := ⟨tw_2_41, tw_2_42, tw_1_7, tw_2_43, by decide +kernel, by decide +kernel, by decide +kernel⟩
theorem cs_RX4_49 : CaS RX4 49 yX2_signOf cX2_signOf 3 (some .long) 2 := ⟨tw_2_45, tw_2_46, tw_1_8, tw_2_47, by decide +kernel, by decide +kernel, by decide +kernel⟩
theorem cs_RX4_52 : CaS RX4 52 yX2_rounded cX2_rounded 15 (some .long) 3 := ⟨tw_2_61, tw_2_62, tw_1_8, tw_2_63, by decide +kernel, by decide +kernel, by decide +kernel⟩
abbrev rm4_shaped : Room := { frames := 4, cells := 0, slots := 0, locals := 88 }
set_option maxRecDepth 20000 in
set_option maxHeartbeats 4000000 in
theorem j4_shaped {Γ : jX} {tg : Int64 × rS} (v0 : Int32) (v1 : Int64) (v3 : Int32) (σ : rS) : J Γ rm4_shaped eL cX4_shaped RX4 4 (some .long) tg 0 0 0 [(0, aI v0), (1, aL v1), (3, aI v3)] [] σ (f4_shaped v0 v1 v3 σ) := by
  unfold f4_shaped
  refine j_iload_n (pc := 0) 0 dX4_shaped_0 rfl rfl ?_
  refine j_lload_n (pc := 1) 1 dX4_shaped_1 rfl rfl ?_
  refine j_callSZ (pc := 2) (As := [aI v0, aL v1]) (st := []) (fun l => c4_isGap l v0 v1) cs_RX4_27 rfl rfl (Nat.le_of_ble_eq_true rfl) ⟨(Nat.le_of_ble_eq_true rfl), (Nat.le_of_ble_eq_true rfl)⟩ ⟨(Nat.le_of_ble_eq_true rfl), (Nat.le_of_ble_eq_true rfl)⟩ dX4_shaped_2 (fun r1 σ2 => ?_)
  refine j_ifeqB (pc := 5) (tgt := 10) dX4_shaped_5 rfl (fun _ => ?_) (fun _ => ?_)
  · refine j_iload_n (pc := 10) 2 dX4_shaped_10 rfl rfl ?_
    refine j_case 0 (fun h0 => ?_) (fun h0 => ?_)
    · refine j_lookup (pc := 11) (off := 33) (tgt := 44) dX4_shaped_11 (by decide) (by rw [h0]; decide) rfl ?_
      refine j_lload_n (pc := 44) 1 dX4_shaped_44 rfl rfl ?_
      refine j_lconst (pc := 45) (v := 0) (by decide) dX4_shaped_45 ?_
      refine j_lcmpge (pc := 46) (tgt := 58) dX4_shaped_46 dX4_shaped_47 rfl (fun _ => ?_) (fun _ => ?_)
      · refine j_lload_n (pc := 58) 1 dX4_shaped_58 rfl rfl ?_
        exact j_lreturn (pc := 59) rfl (Nat.le_of_ble_eq_true rfl) (Nat.le_of_ble_eq_true rfl) dX4_shaped_59
      · refine j_iload_n (pc := 50) 0 dX4_shaped_50 rfl rfl ?_
        refine j_lload_n (pc := 51) 1 dX4_shaped_51 rfl rfl ?_
        refine j_callSL (pc := 52) (As := [aI v0, aL v1]) (st := []) (fun l => c4_turned l v0 v1) cs_RX4_46 rfl rfl (Nat.le_of_ble_eq_true rfl) ⟨(Nat.le_of_ble_eq_true rfl), (Nat.le_of_ble_eq_true rfl)⟩ ⟨(Nat.le_of_ble_eq_true rfl), (Nat.le_of_ble_eq_true rfl)⟩ dX4_shaped_52 (fun r3 σ4 => ?_)
        refine j_goto (pc := 55) (tgt := 59) dX4_shaped_55 rfl ?_
        exact j_lreturn (pc := 59) rfl (Nat.le_of_ble_eq_true rfl) (Nat.le_of_ble_eq_true rfl) dX4_shaped_59
    · refine j_case 4 (fun h1 => ?_) (fun h1 => ?_)
      · refine j_lookup (pc := 11) (off := 49) (tgt := 60) dX4_shaped_11 (by decide) (by rw [h1]; decide) rfl ?_
        refine j_iload_n (pc := 60) 0 dX4_shaped_60 rfl rfl ?_
        refine j_lload_n (pc := 61) 1 dX4_shaped_61 rfl rfl ?_
        refine j_callSL (pc := 62) (As := [aI v0, aL v1]) (st := []) (fun l => c2_signOf l v0 v1) cs_RX4_49 rfl rfl (Nat.le_of_ble_eq_true rfl) ⟨(Nat.le_of_ble_eq_true rfl), (Nat.le_of_ble_eq_true rfl)⟩ ⟨(Nat.le_of_ble_eq_true rfl), (Nat.le_of_ble_eq_true rfl)⟩ dX4_shaped_62 (fun r5 σ6 => ?_)
        exact j_lreturn (pc := 65) rfl (Nat.le_of_ble_eq_true rfl) (Nat.le_of_ble_eq_true rfl) dX4_shaped_65
      · refine j_case 5 (fun h2 => ?_) (fun h2 => ?_)
        · refine j_lookup (pc := 11) (off := 55) (tgt := 66) dX4_shaped_11 (by decide) (by rw [h2]; decide) rfl ?_
          refine j_iload_n (pc := 66) 0 dX4_shaped_66 rfl rfl ?_
          refine j_lload_n (pc := 67) 1 dX4_shaped_67 rfl rfl ?_
          refine j_callSL (pc := 68) (As := [aI v0, aL v1]) (st := []) (fun l => c4_turned l v0 v1) cs_RX4_46 rfl rfl (Nat.le_of_ble_eq_true rfl) ⟨(Nat.le_of_ble_eq_true rfl), (Nat.le_of_ble_eq_true rfl)⟩ ⟨(Nat.le_of_ble_eq_true rfl), (Nat.le_of_ble_eq_true rfl)⟩ dX4_shaped_68 (fun r7 σ8 => ?_)
          exact j_lreturn (pc := 71) rfl (Nat.le_of_ble_eq_true rfl) (Nat.le_of_ble_eq_true rfl) dX4_shaped_71
        · refine j_lookup (pc := 11) (off := 61) (tgt := 72) dX4_shaped_11 (by decide) (by show Op.lookupswitch.offset [(0, 33), (4, 49), (5, 55)] 61 v3.toInt = 61; rw [lv_osw h0 (show ((0 : Int32)).toInt = 0 by decide), lv_osw h1 (show ((4 : Int32)).toInt = 4 by decide), lv_osw h2 (show ((5 : Int32)).toInt = 5 by decide)]; rfl) rfl ?_
          refine j_iload_n (pc := 72) 0 dX4_shaped_72 rfl rfl ?_
          refine j_lload_n (pc := 73) 1 dX4_shaped_73 rfl rfl ?_
          refine j_iload_n (pc := 74) 2 dX4_shaped_74 rfl rfl ?_
          refine j_callSL (pc := 75) (As := [aI v0, aL v1, aI v3]) (st := []) (fun l => c2_rounded l v0 v1 v3) cs_RX4_52 rfl rfl (Nat.le_of_ble_eq_true rfl) ⟨(Nat.le_of_ble_eq_true rfl), (Nat.le_of_ble_eq_true rfl)⟩ ⟨(Nat.le_of_ble_eq_true rfl), (Nat.le_of_ble_eq_true rfl)⟩ dX4_shaped_75 (fun r9 σ10 => ?_)
          exact j_lreturn (pc := 78) rfl (Nat.le_of_ble_eq_true rfl) (Nat.le_of_ble_eq_true rfl) dX4_shaped_78
  · refine j_lload_n (pc := 8) 1 dX4_shaped_8 rfl rfl ?_
    exact j_lreturn (pc := 9) rfl (Nat.le_of_ble_eq_true rfl) (Nat.le_of_ble_eq_true rfl) dX4_shaped_9
theorem c4_shaped (l : Launch) (v0 : Int32) (v1 : Int64) (v3 : Int32) : Ctr l yX4_shaped cX4_shaped 4 (some .long) rm4_shaped eL [aI v0, aL v1, aI v3] (f4_shaped v0 v1 v3) := ctr_of (lv := [(0, aI v0), (1, aL v1), (3, aI v3)]) (by decide +kernel) (fun _ => rfl) (fun _ => (Nat.le_of_ble_eq_true rfl)) (fun _ h => lvl_als h rfl) (fun _ σ _ => j4_shaped v0 v1 v3 σ)
theorem cs_RX10_119 : CaS RX10 119 yX4_shaped cX4_shaped 4 (some .long) 3 := ⟨tw_2_38, tw_2_39, tw_1_7, tw_2_40, by decide +kernel, by decide +kernel, by decide +kernel⟩
theorem cs_RX10_116 : CaS RX10 116 yX4_areFloating cX4_areFloating 1 (some .boolean) 1 := ⟨tw_2_37, tw_2_13, tw_1_7, tw_2_14, by decide +kernel, by decide +kernel, by decide +kernel⟩
abbrev rm10_shape : Room := { frames := 5, cells := 0, slots := 0, locals := 111 }
set_option maxRecDepth 20000 in
set_option maxHeartbeats 4000000 in
theorem jb10_shape_50 {Γ : jX} {tg : Int32 × rS} (v0 : Nat) (v2 : Int32) (v3 : Int32) (v4 : Nat) (σ : rS) : J Γ rm10_shape eI cX10_shape RX10 5 (some .int) tg 0 0 50 [(0, aR 0 v0), (2, aI v2), (3, aI v3), (4, aR 13 v4)] [] σ (B10_shape_50 v0 v2 v3 v4 σ) := by
  unfold B10_shape_50
  refine j_aload (pc := 50) 3 dX10_shape_50 rfl ?_
  refine j_getI (pc := 52) fd_13_2 tw_1_177 dX10_shape_52 ?_
  refine j_ifeq (pc := 55) (tgt := 64) dX10_shape_55 rfl (fun _ => ?_) (fun _ => ?_)
  · refine j_aload (pc := 64) 3 dX10_shape_64 rfl ?_
    refine j_iload_n (pc := 66) 1 dX10_shape_66 rfl rfl ?_
    refine j_callVZ (pc := 67) (As := [aI v2]) (st := []) (fun l => c7_has l v4 v2) cs_RX10_89 rfl rfl rfl rfl (Nat.le_of_ble_eq_true rfl) ⟨(Nat.le_of_ble_eq_true rfl), (Nat.le_of_ble_eq_true rfl)⟩ ⟨(Nat.le_of_ble_eq_true rfl), (Nat.le_of_ble_eq_true rfl)⟩ dX10_shape_67 (fun r1 σ2 => ?_)
    refine j_ifneB (pc := 70) (tgt := 79) dX10_shape_70 rfl (fun _ => ?_) (fun _ => ?_)
    · refine j_aload_n (pc := 79) 0 dX10_shape_79 rfl rfl ?_
      refine j_aload (pc := 80) 3 dX10_shape_80 rfl ?_
      refine j_getI (pc := 82) fd_13_0 tw_1_174 dX10_shape_82 ?_
      refine j_aload (pc := 85) 3 dX10_shape_85 rfl ?_
      refine j_getF (pc := 87) fd_13_1 tw_1_176 dX10_shape_87 ?_
      refine j_iload_n (pc := 90) 1 dX10_shape_90 rfl rfl ?_
      refine j_lald (pc := 91) rfl rfl rfl dX10_shape_91 (fun j3 => ?_)
      refine j_iload_n (pc := 92) 2 dX10_shape_92 rfl rfl ?_
      refine j_callSL (pc := 93) (As := [aI (gI σ2 13 v4 0), aL (gL σ2 14 v4 j3), aI v3]) (st := [aR 0 v0]) (fun l => c4_shaped l (gI σ2 13 v4 0) (gL σ2 14 v4 j3) v3) cs_RX10_119 rfl rfl (Nat.le_of_ble_eq_true rfl) ⟨(Nat.le_of_ble_eq_true rfl), (Nat.le_of_ble_eq_true rfl)⟩ ⟨(Nat.le_of_ble_eq_true rfl), (Nat.le_of_ble_eq_true rfl)⟩ dX10_shape_93 (fun r4 σ5 => ?_)
      refine j_putL (pc := 96) fd_0_13 tw_1_122 dX10_shape_96 ?_
      refine j_lets (fun σ6 => ?_)
      refine j_iconst (pc := 99) (v := 0) (by decide) dX10_shape_99 ?_
      exact j_ireturn (pc := 100) rfl (Nat.le_of_ble_eq_true rfl) (Nat.le_of_ble_eq_true rfl) dX10_shape_100
    · refine j_aload_n (pc := 73) 0 dX10_shape_73 rfl rfl ?_
      refine j_iconst (pc := 74) (v := 2) (by decide) dX10_shape_74 ?_
      refine j_callVI (pc := 75) (As := [aI 2]) (st := []) (fun l => c10_found l v0 2) cs_RX10_66 rfl rfl rfl rfl (Nat.le_of_ble_eq_true rfl) ⟨(Nat.le_of_ble_eq_true rfl), (Nat.le_of_ble_eq_true rfl)⟩ ⟨(Nat.le_of_ble_eq_true rfl), (Nat.le_of_ble_eq_true rfl)⟩ dX10_shape_75 (fun r7 σ8 => ?_)
      exact j_ireturn (pc := 78) rfl (Nat.le_of_ble_eq_true rfl) (Nat.le_of_ble_eq_true rfl) dX10_shape_78
  · refine j_aload_n (pc := 58) 0 dX10_shape_58 rfl rfl ?_
    refine j_iconst (pc := 59) (v := 1) (by decide) dX10_shape_59 ?_
    refine j_callVI (pc := 60) (As := [aI 1]) (st := []) (fun l => c10_found l v0 1) cs_RX10_66 rfl rfl rfl rfl (Nat.le_of_ble_eq_true rfl) ⟨(Nat.le_of_ble_eq_true rfl), (Nat.le_of_ble_eq_true rfl)⟩ ⟨(Nat.le_of_ble_eq_true rfl), (Nat.le_of_ble_eq_true rfl)⟩ dX10_shape_60 (fun r9 σ10 => ?_)
    exact j_ireturn (pc := 63) rfl (Nat.le_of_ble_eq_true rfl) (Nat.le_of_ble_eq_true rfl) dX10_shape_63
set_option maxRecDepth 20000 in
set_option maxHeartbeats 4000000 in
theorem j10_shape {Γ : jX} {tg : Int32 × rS} (v0 : Nat) (v1 : Int32) (v2 : Int32) (v3 : Int32) (σ : rS) : J Γ rm10_shape eI cX10_shape RX10 5 (some .int) tg 0 0 0 [(0, aR 0 v0), (1, aI v1), (2, aI v2), (3, aI v3)] [] σ (f10_shape v0 v1 v2 v3 σ) := by
  unfold f10_shape
  refine j_aload_n (pc := 0) 0 dX10_shape_0 rfl rfl ?_
  refine j_iload_n (pc := 1) 1 dX10_shape_1 rfl rfl ?_
  refine j_callVR (pc := 2) (As := [aI v1]) (st := []) (fun l => c10_rowNumbered l v0 v1) cs_RX10_74 rfl rfl rfl rfl (Nat.le_of_ble_eq_true rfl) ⟨(Nat.le_of_ble_eq_true rfl), (Nat.le_of_ble_eq_true rfl)⟩ ⟨(Nat.le_of_ble_eq_true rfl), (Nat.le_of_ble_eq_true rfl)⟩ dX10_shape_2 (fun r1 σ2 => ?_)
  refine j_astore (pc := 5) (lv' := [(4, aO 13 r1), (0, aR 0 v0), (1, aI v1), (2, aI v2), (3, aI v3)]) dX10_shape_5 (Nat.le_of_ble_eq_true rfl) rfl ?_
  refine j_sub [0, 1, 3, 4] (lv' := [(4, aO 13 r1), (0, aR 0 v0), (2, aI v2), (3, aI v3)]) rfl ?_
  refine j_aload (pc := 7) 0 dX10_shape_7 rfl ?_
  refine j_ifnonnull (pc := 9) (tgt := 15) dX10_shape_9 rfl (fun hm => ?_) (fun i3 hm => ?_)
  · subst hm
    refine j_bipush (pc := 12) (v := (-101)) (by decide) dX10_shape_12 ?_
    exact j_ireturn (pc := 14) rfl (Nat.le_of_ble_eq_true rfl) (Nat.le_of_ble_eq_true rfl) dX10_shape_14
  · subst hm
    refine j_iload_n (pc := 15) 3 dX10_shape_15 rfl rfl ?_
    refine j_iflt (pc := 16) (tgt := 24) dX10_shape_16 rfl (fun _ => ?_) (fun _ => ?_)
    · refine j_bipush (pc := 24) (v := (-102)) (by decide) dX10_shape_24 ?_
      exact j_ireturn (pc := 26) rfl (Nat.le_of_ble_eq_true rfl) (Nat.le_of_ble_eq_true rfl) dX10_shape_26
    · refine j_iload_n (pc := 19) 3 dX10_shape_19 rfl rfl ?_
      refine j_iconst (pc := 20) (v := 5) (by decide) dX10_shape_20 ?_
      refine j_icmple (pc := 21) (tgt := 27) dX10_shape_21 rfl (fun _ => ?_) (fun _ => ?_)
      · refine j_iload_n (pc := 27) 3 dX10_shape_27 rfl rfl ?_
        refine j_ifeq (pc := 28) (tgt := 50) dX10_shape_28 rfl (fun _ => ?_) (fun _ => ?_)
        · refine j_sub [1, 2, 3, 0] (lv' := [(0, aR 0 v0), (2, aI v2), (3, aI v3), (4, aR 13 i3)]) rfl ?_
          exact jb10_shape_50   v0 v2 v3 i3 σ2
        · refine j_iload_n (pc := 31) 3 dX10_shape_31 rfl rfl ?_
          refine j_iconst (pc := 32) (v := 5) (by decide) dX10_shape_32 ?_
          refine j_icmpeq (pc := 33) (tgt := 50) dX10_shape_33 rfl (fun _ => ?_) (fun _ => ?_)
          · refine j_sub [1, 2, 3, 0] (lv' := [(0, aR 0 v0), (2, aI v2), (3, aI v3), (4, aR 13 i3)]) rfl ?_
            exact jb10_shape_50   v0 v2 v3 i3 σ2
          · refine j_aload (pc := 36) 0 dX10_shape_36 rfl ?_
            refine j_getI (pc := 38) fd_13_0 tw_1_174 dX10_shape_38 ?_
            refine j_callSZ (pc := 41) (As := [aI (gI σ2 13 i3 0)]) (st := []) (fun l => c4_areFloating l (gI σ2 13 i3 0)) cs_RX10_116 rfl rfl (Nat.le_of_ble_eq_true rfl) ⟨(Nat.le_of_ble_eq_true rfl), (Nat.le_of_ble_eq_true rfl)⟩ ⟨(Nat.le_of_ble_eq_true rfl), (Nat.le_of_ble_eq_true rfl)⟩ dX10_shape_41 (fun r4 σ5 => ?_)
            refine j_ifneB (pc := 44) (tgt := 50) dX10_shape_44 rfl (fun _ => ?_) (fun _ => ?_)
            · refine j_sub [1, 2, 3, 0] (lv' := [(0, aR 0 v0), (2, aI v2), (3, aI v3), (4, aR 13 i3)]) rfl ?_
              exact jb10_shape_50   v0 v2 v3 i3 σ5
            · refine j_bipush (pc := 47) (v := (-103)) (by decide) dX10_shape_47 ?_
              exact j_ireturn (pc := 49) rfl (Nat.le_of_ble_eq_true rfl) (Nat.le_of_ble_eq_true rfl) dX10_shape_49
      · refine j_bipush (pc := 24) (v := (-102)) (by decide) dX10_shape_24 ?_
        exact j_ireturn (pc := 26) rfl (Nat.le_of_ble_eq_true rfl) (Nat.le_of_ble_eq_true rfl) dX10_shape_26
theorem c10_shape (l : Launch) (v0 : Nat) (v1 : Int32) (v2 : Int32) (v3 : Int32) : Ctr l yX10_shape cX10_shape 5 (some .int) rm10_shape eI [aR 0 v0, aI v1, aI v2, aI v3] (f10_shape v0 v1 v2 v3) := ctr_of (lv := [(0, aR 0 v0), (1, aI v1), (2, aI v2), (3, aI v3)]) (by decide +kernel) (fun _ => rfl) (fun _ => (Nat.le_of_ble_eq_true rfl)) (fun _ h => lvl_als h rfl) (fun _ σ _ => j10_shape v0 v1 v2 v3 σ)
abbrev rm10_stream : Room := { frames := 3, cells := 2, slots := 404, locals := 70 }
set_option maxRecDepth 20000 in
set_option maxHeartbeats 4000000 in
theorem j10_stream {Γ : jX} {tg : Int32 × rS} (v0 : Nat) (σ : rS) : J Γ rm10_stream eI cX10_stream RX10 1 (some .int) tg 0 0 0 [(0, aR 0 v0)] [] σ (f10_stream v0 σ) := by
  unfold f10_stream
  refine j_aload_n (pc := 0) 0 dX10_stream_0 rfl rfl ?_
  refine j_getI (pc := 1) fd_0_9 tw_1_118 dX10_stream_1 ?_
  refine j_bipush (pc := 4) (v := 24) (by decide) dX10_stream_4 ?_
  refine j_icmplt (pc := 6) (tgt := 12) dX10_stream_6 rfl (fun _ => ?_) (fun _ => ?_)
  · refine j_aload_n (pc := 12) 0 dX10_stream_12 rfl rfl ?_
    refine j_callVI (pc := 13) (As := []) (st := []) (fun l => c10_newStream l v0) cs_RX10_142 rfl rfl rfl rfl (Nat.le_of_ble_eq_true rfl) ⟨(Nat.le_of_ble_eq_true rfl), (Nat.le_of_ble_eq_true rfl)⟩ ⟨(Nat.le_of_ble_eq_true rfl), (Nat.le_of_ble_eq_true rfl)⟩ dX10_stream_13 (fun r1 σ2 => ?_)
    exact j_ireturn (pc := 16) rfl (Nat.le_of_ble_eq_true rfl) (Nat.le_of_ble_eq_true rfl) dX10_stream_16
  · refine j_bipush (pc := 9) (v := (-104)) (by decide) dX10_stream_9 ?_
    exact j_ireturn (pc := 11) rfl (Nat.le_of_ble_eq_true rfl) (Nat.le_of_ble_eq_true rfl) dX10_stream_11
theorem c10_stream (l : Launch) (v0 : Nat) : Ctr l yX10_stream cX10_stream 1 (some .int) rm10_stream eI [aR 0 v0] (f10_stream v0) := ctr_of (lv := [(0, aR 0 v0)]) (by decide +kernel) (fun _ => rfl) (fun _ => (Nat.le_of_ble_eq_true rfl)) (fun _ h => lvl_als h rfl) (fun _ σ _ => j10_stream v0 σ)
abbrev rm10_take : Room := { frames := 3, cells := 2, slots := 404, locals := 70 }
set_option maxRecDepth 20000 in
set_option maxHeartbeats 4000000 in
theorem j10_take {Γ : jX} {tg : Int32 × rS} (N : Nat) (v0 : Nat) (v1 : Int32) (v2 : Int64) (σ : rS) : J Γ rm10_take eI cX10_take RX10 8 (some .int) tg 0 0 0 [(0, aR 0 v0), (1, aI v1), (2, aL v2)] [] σ (f10_take N v0 v1 v2 σ) := by
  unfold f10_take
  refine j_aload_n (pc := 0) 0 dX10_take_0 rfl rfl ?_
  refine j_iload_n (pc := 1) 1 dX10_take_1 rfl rfl ?_
  refine j_callVR (pc := 2) (As := [aI v1]) (st := []) (fun l => c10_houseNumbered l v0 v1) cs_RX10_203 rfl rfl rfl rfl (Nat.le_of_ble_eq_true rfl) ⟨(Nat.le_of_ble_eq_true rfl), (Nat.le_of_ble_eq_true rfl)⟩ ⟨(Nat.le_of_ble_eq_true rfl), (Nat.le_of_ble_eq_true rfl)⟩ dX10_take_2 (fun r1 σ2 => ?_)
  refine j_astore (pc := 5) (lv' := [(4, aO 17 r1), (0, aR 0 v0), (1, aI v1), (2, aL v2)]) dX10_take_5 (Nat.le_of_ble_eq_true rfl) rfl ?_
  refine j_sub [0, 1, 3] (lv' := [(4, aO 17 r1), (0, aR 0 v0), (2, aL v2)]) rfl ?_
  refine j_aload (pc := 7) 0 dX10_take_7 rfl ?_
  refine j_ifnonnull (pc := 9) (tgt := 15) dX10_take_9 rfl (fun hm => ?_) (fun i3 hm => ?_)
  · subst hm
    refine j_bipush (pc := 12) (v := (-101)) (by decide) dX10_take_12 ?_
    exact j_ireturn (pc := 14) rfl (Nat.le_of_ble_eq_true rfl) (Nat.le_of_ble_eq_true rfl) dX10_take_14
  · subst hm
    refine j_lload_n (pc := 15) 2 dX10_take_15 rfl rfl ?_
    refine j_lconst (pc := 16) (v := 0) (by decide) dX10_take_16 ?_
    refine j_lcmpge (pc := 17) (tgt := 24) dX10_take_17 dX10_take_18 rfl (fun _ => ?_) (fun _ => ?_)
    · refine j_aload (pc := 24) 0 dX10_take_24 rfl ?_
      refine j_lload_n (pc := 26) 2 dX10_take_26 rfl rfl ?_
      refine j_callVI (pc := 27) (As := [aL v2]) (st := []) (fun l => c3_entryOf l N i3 v2) cs_RX10_207 rfl rfl rfl rfl (Nat.le_of_ble_eq_true rfl) ⟨(Nat.le_of_ble_eq_true rfl), (Nat.le_of_ble_eq_true rfl)⟩ ⟨(Nat.le_of_ble_eq_true rfl), (Nat.le_of_ble_eq_true rfl)⟩ dX10_take_27 (fun r4 σ5 => ?_)
      refine j_istore (pc := 30) (lv' := [(5, aI r4), (4, aR 17 i3), (0, aR 0 v0), (2, aL v2)]) dX10_take_30 (Nat.le_of_ble_eq_true rfl) rfl ?_
      refine j_sub [0, 1, 2] (lv' := [(5, aI r4), (4, aR 17 i3), (0, aR 0 v0)]) rfl ?_
      refine j_iload (pc := 32) 0 dX10_take_32 rfl ?_
      refine j_iconst (pc := 34) (v := (-1)) (by decide) dX10_take_34 ?_
      refine j_icmpne (pc := 35) (tgt := 41) dX10_take_35 rfl (fun _ => ?_) (fun _ => ?_)
      · refine j_aload_n (pc := 41) 2 dX10_take_41 rfl rfl ?_
        refine j_getI (pc := 42) fd_0_9 tw_1_118 dX10_take_42 ?_
        refine j_bipush (pc := 45) (v := 24) (by decide) dX10_take_45 ?_
        refine j_icmplt (pc := 47) (tgt := 53) dX10_take_47 rfl (fun _ => ?_) (fun _ => ?_)
        · refine j_aload (pc := 53) 1 dX10_take_53 rfl ?_
          refine j_getF (pc := 55) fd_17_1 tw_3_90 dX10_take_55 ?_
          refine j_iload (pc := 58) 0 dX10_take_58 rfl ?_
          refine j_aald (pc := 60) rfl rfl rfl dX10_take_60 (fun j6 o7 => ?_)
          refine j_astore (pc := 61) (lv' := [(6, aO 20 o7), (5, aI r4), (4, aR 17 i3), (0, aR 0 v0)]) dX10_take_61 (Nat.le_of_ble_eq_true rfl) rfl ?_
          refine j_sub [0, 3] (lv' := [(6, aO 20 o7), (0, aR 0 v0)]) rfl ?_
          refine j_aload_n (pc := 63) 1 dX10_take_63 rfl rfl ?_
          refine j_callVI (pc := 64) (As := []) (st := []) (fun l => c10_newStream l v0) cs_RX10_142 rfl rfl rfl rfl (Nat.le_of_ble_eq_true rfl) ⟨(Nat.le_of_ble_eq_true rfl), (Nat.le_of_ble_eq_true rfl)⟩ ⟨(Nat.le_of_ble_eq_true rfl), (Nat.le_of_ble_eq_true rfl)⟩ dX10_take_64 (fun r8 σ9 => ?_)
          refine j_istore (pc := 67) (lv' := [(7, aI r8), (6, aO 20 o7), (0, aR 0 v0)]) dX10_take_67 (Nat.le_of_ble_eq_true rfl) rfl ?_
          refine j_aload_n (pc := 69) 2 dX10_take_69 rfl rfl ?_
          refine j_getF (pc := 70) fd_0_1 tw_1_110 dX10_take_70 ?_
          refine j_iload (pc := 73) 0 dX10_take_73 rfl ?_
          refine j_aald (pc := 75) rfl rfl rfl dX10_take_75 (fun j10 o11 => ?_)
          refine j_aload (pc := 76) 1 dX10_take_76 rfl ?_
          refine j_must (fun i12 hm => ?_)
          subst hm
          refine j_getF (pc := 78) fd_20_0 tw_3_128 dX10_take_78 ?_
          refine j_iconst (pc := 81) (v := 0) (by decide) dX10_take_81 ?_
          refine j_aload (pc := 82) 1 dX10_take_82 rfl ?_
          refine j_getI (pc := 84) fd_20_1 tw_3_130 dX10_take_84 ?_
          refine j_must (fun i13 hm => ?_)
          subst hm
          refine j_callVV (pc := 87) (As := [aR 21 i12, aI 0, aI (gI σ9 20 i12 1)]) (st := []) (fun l => c9_appendAll l N 21 ⟨rfl, rfl, rfl⟩ i13 i12 0 (gI σ9 20 i12 1)) cs_RX10_249 rfl rfl rfl rfl (Nat.le_of_ble_eq_true rfl) ⟨(Nat.le_of_ble_eq_true rfl), (Nat.le_of_ble_eq_true rfl)⟩ ⟨(Nat.le_of_ble_eq_true rfl), (Nat.le_of_ble_eq_true rfl)⟩ dX10_take_87 (fun r14 σ15 => ?_)
          refine j_aload_n (pc := 90) 2 dX10_take_90 rfl rfl ?_
          refine j_getF (pc := 91) fd_0_1 tw_1_110 dX10_take_91 ?_
          refine j_iload (pc := 94) 0 dX10_take_94 rfl ?_
          refine j_aald (pc := 96) rfl rfl rfl dX10_take_96 (fun j16 o17 => ?_)
          refine j_iconst (pc := 97) (v := 1) (by decide) dX10_take_97 ?_
          refine j_must (fun i18 hm => ?_)
          subst hm
          refine j_putI (pc := 98) fd_15_3 rfl rfl tw_2_144 dX10_take_98 ?_
          refine j_lets (fun σ19 => ?_)
          refine j_iload (pc := 101) 0 dX10_take_101 rfl ?_
          exact j_ireturn (pc := 103) rfl (Nat.le_of_ble_eq_true rfl) (Nat.le_of_ble_eq_true rfl) dX10_take_103
        · refine j_bipush (pc := 50) (v := (-104)) (by decide) dX10_take_50 ?_
          exact j_ireturn (pc := 52) rfl (Nat.le_of_ble_eq_true rfl) (Nat.le_of_ble_eq_true rfl) dX10_take_52
      · refine j_bipush (pc := 38) (v := (-103)) (by decide) dX10_take_38 ?_
        exact j_ireturn (pc := 40) rfl (Nat.le_of_ble_eq_true rfl) (Nat.le_of_ble_eq_true rfl) dX10_take_40
    · refine j_bipush (pc := 21) (v := (-102)) (by decide) dX10_take_21 ?_
      exact j_ireturn (pc := 23) rfl (Nat.le_of_ble_eq_true rfl) (Nat.le_of_ble_eq_true rfl) dX10_take_23
theorem c10_take (l : Launch) (N : Nat) (v0 : Nat) (v1 : Int32) (v2 : Int64) : Ctr l yX10_take cX10_take 8 (some .int) rm10_take eI [aR 0 v0, aI v1, aL v2] (f10_take N v0 v1 v2) := ctr_of (lv := [(0, aR 0 v0), (1, aI v1), (2, aL v2)]) (by decide +kernel) (fun _ => rfl) (fun _ => (Nat.le_of_ble_eq_true rfl)) (fun _ h => lvl_als h rfl) (fun _ σ _ => j10_take N v0 v1 v2 σ)
abbrev rm8_usersOf : Room := { frames := 0, cells := 0, slots := 0, locals := 0 }
set_option maxRecDepth 20000 in
set_option maxHeartbeats 4000000 in
theorem jb8_usersOf_51 {Γ : jX} {tg : Int32 × rS} (N : Nat) (K11 : Int32 → Nat → Int32 → Int32 → rS → Option (Int32 × rS)) (hK11 : ∀ (v1 : Int32) (v2 : Nat) (v3 : Int32) (v4 : Int32) (σ : rS), J Γ rm8_usersOf eI cX8_usersOf RX8 6 (some .int) tg 0 0 11 [(1, aI v1), (2, aR 7 v2), (3, aI v3), (4, aI v4)] [] σ (K11 v1 v2 v3 v4 σ)) (v1 : Int32) (v2 : Nat) (v3 : Int32) (v4 : Int32) (σ : rS) : J Γ rm8_usersOf eI cX8_usersOf RX8 6 (some .int) tg 0 0 51 [(1, aI v1), (2, aR 7 v2), (3, aI v3), (4, aI v4)] [] σ (B8_usersOf_51 N K11 v1 v2 v3 v4 σ) := by
  unfold B8_usersOf_51
  refine j_iinc (pc := 51) (w := 1) (lv' := [(4, aI (v4 + 1)), (1, aI v1), (2, aR 7 v2), (3, aI v3)]) 3 dX8_usersOf_51 rfl (by decide) (Nat.le_of_ble_eq_true rfl) rfl ?_
  refine j_goto (pc := 54) (tgt := 11) dX8_usersOf_54 rfl ?_
  refine j_sub [1, 2, 3, 0] (lv' := [(1, aI v1), (2, aR 7 v2), (3, aI v3), (4, aI (v4 + 1))]) rfl ?_
  exact hK11 v1 v2 v3 (v4 + 1) σ
set_option maxRecDepth 20000 in
set_option maxHeartbeats 4000000 in
theorem jb8_usersOf_11 {Γ : jX} {tg : Int32 × rS} (N : Nat) (K11 : Int32 → Nat → Int32 → Int32 → rS → Option (Int32 × rS)) (hK11 : ∀ (v1 : Int32) (v2 : Nat) (v3 : Int32) (v4 : Int32) (σ : rS), J Γ rm8_usersOf eI cX8_usersOf RX8 6 (some .int) tg 0 0 11 [(1, aI v1), (2, aR 7 v2), (3, aI v3), (4, aI v4)] [] σ (K11 v1 v2 v3 v4 σ)) (v1 : Int32) (v2 : Nat) (v3 : Int32) (v4 : Int32) (σ : rS) : J Γ rm8_usersOf eI cX8_usersOf RX8 6 (some .int) tg 0 0 11 [(1, aI v1), (2, aR 7 v2), (3, aI v3), (4, aI v4)] [] σ (B8_usersOf_11 N K11 v1 v2 v3 v4 σ) := by
  unfold B8_usersOf_11
  refine j_iload (pc := 11) 3 dX8_usersOf_11 rfl ?_
  refine j_iload_n (pc := 13) 2 dX8_usersOf_13 rfl rfl ?_
  refine j_icmpge (pc := 14) (tgt := 57) dX8_usersOf_14 rfl (fun _ => ?_) (fun _ => ?_)
  · refine j_iconst (pc := 57) (v := 0) (by decide) dX8_usersOf_57 ?_
    exact j_ireturn (pc := 58) rfl (Nat.le_of_ble_eq_true rfl) (Nat.le_of_ble_eq_true rfl) dX8_usersOf_58
  · refine j_aload_n (pc := 17) 1 dX8_usersOf_17 rfl rfl ?_
    refine j_iload (pc := 18) 3 dX8_usersOf_18 rfl ?_
    refine j_aald (pc := 20) rfl rfl rfl dX8_usersOf_20 (fun j1 o2 => ?_)
    refine j_astore (pc := 21) (lv' := [(5, aO 20 o2), (1, aI v1), (2, aR 7 v2), (3, aI v3), (4, aI v4)]) dX8_usersOf_21 (Nat.le_of_ble_eq_true rfl) rfl ?_
    refine j_aload (pc := 23) 0 dX8_usersOf_23 rfl ?_
    refine j_ifnull (pc := 25) (tgt := 51) dX8_usersOf_25 rfl (fun hm => ?_) (fun i3 hm => ?_)
    · subst hm
      refine j_sub [1, 2, 3, 4] (lv' := [(1, aI v1), (2, aR 7 v2), (3, aI v3), (4, aI v4)]) rfl ?_
      exact jb8_usersOf_51 N K11 hK11 v1 v2 v3 v4 σ
    · subst hm
      refine j_aload (pc := 28) 0 dX8_usersOf_28 rfl ?_
      refine j_getI (pc := 30) fd_20_3 tw_3_133 dX8_usersOf_30 ?_
      refine j_ifle (pc := 33) (tgt := 51) dX8_usersOf_33 rfl (fun _ => ?_) (fun _ => ?_)
      · refine j_sub [1, 2, 3, 4] (lv' := [(1, aI v1), (2, aR 7 v2), (3, aI v3), (4, aI v4)]) rfl ?_
        exact jb8_usersOf_51 N K11 hK11 v1 v2 v3 v4 σ
      · refine j_aload (pc := 36) 0 dX8_usersOf_36 rfl ?_
        refine j_getI (pc := 38) fd_20_2 tw_3_131 dX8_usersOf_38 ?_
        refine j_iload_n (pc := 41) 1 dX8_usersOf_41 rfl rfl ?_
        refine j_icmpne (pc := 42) (tgt := 51) dX8_usersOf_42 rfl (fun _ => ?_) (fun _ => ?_)
        · refine j_sub [1, 2, 3, 4] (lv' := [(1, aI v1), (2, aR 7 v2), (3, aI v3), (4, aI v4)]) rfl ?_
          exact jb8_usersOf_51 N K11 hK11 v1 v2 v3 v4 σ
        · refine j_aload (pc := 45) 0 dX8_usersOf_45 rfl ?_
          refine j_getI (pc := 47) fd_20_3 tw_3_133 dX8_usersOf_47 ?_
          exact j_ireturn (pc := 50) rfl (Nat.le_of_ble_eq_true rfl) (Nat.le_of_ble_eq_true rfl) dX8_usersOf_50
theorem jl8_usersOf_11 {Γ : jX} {tg : Int32 × rS} (N : Nat) : ∀ (n : Nat) (v1 : Int32) (v2 : Nat) (v3 : Int32) (v4 : Int32) (σ : rS), J Γ rm8_usersOf eI cX8_usersOf RX8 6 (some .int) tg 0 0 11 [(1, aI v1), (2, aR 7 v2), (3, aI v3), (4, aI v4)] [] σ (L8_usersOf_11 N n v1 v2 v3 v4 σ) := by
  intro n
  induction n with
  | zero => intro v1 v2 v3 v4 σ; exact j_none
  | succ n ih => intro v1 v2 v3 v4 σ; exact jb8_usersOf_11 N (L8_usersOf_11 N n) ih v1 v2 v3 v4 σ
set_option maxRecDepth 20000 in
set_option maxHeartbeats 4000000 in
theorem j8_usersOf {Γ : jX} {tg : Int32 × rS} (N : Nat) (v0 : Nat) (v1 : Int32) (σ : rS) : J Γ rm8_usersOf eI cX8_usersOf RX8 6 (some .int) tg 0 0 0 [(0, aR 6 v0), (1, aI v1)] [] σ (f8_usersOf N v0 v1 σ) := by
  unfold f8_usersOf
  refine j_aload_n (pc := 0) 0 dX8_usersOf_0 rfl rfl ?_
  refine j_getF (pc := 1) fd_6_0 tw_1_42 dX8_usersOf_1 ?_
  refine j_astore_n (pc := 4) (lv' := [(2, aR 7 v0), (0, aR 6 v0), (1, aI v1)]) dX8_usersOf_4 rfl (Nat.le_of_ble_eq_true rfl) rfl ?_
  refine j_sub [0, 2] (lv' := [(2, aR 7 v0), (1, aI v1)]) rfl ?_
  refine j_aload_n (pc := 5) 0 dX8_usersOf_5 rfl rfl ?_
  refine j_alen (pc := 6) rfl (by decide) dX8_usersOf_6 ?_
  refine j_leti (fun x1 => ?_)
  refine j_istore_n (pc := 7) (lv' := [(3, aI x1), (2, aR 7 v0), (1, aI v1)]) dX8_usersOf_7 rfl (Nat.le_of_ble_eq_true rfl) rfl ?_
  refine j_iconst (pc := 8) (v := 0) (by decide) dX8_usersOf_8 ?_
  refine j_istore (pc := 9) (lv' := [(4, aI 0), (3, aI x1), (2, aR 7 v0), (1, aI v1)]) dX8_usersOf_9 (Nat.le_of_ble_eq_true rfl) rfl ?_
  refine j_sub [3, 2, 1, 0] (lv' := [(1, aI v1), (2, aR 7 v0), (3, aI x1), (4, aI 0)]) rfl ?_
  exact jl8_usersOf_11 N  N v1 v0 x1 0 σ
theorem c8_usersOf (l : Launch) (N : Nat) (v0 : Nat) (v1 : Int32) : Ctr l yX8_usersOf cX8_usersOf 6 (some .int) rm8_usersOf eI [aR 6 v0, aI v1] (f8_usersOf N v0 v1) := ctr_of (lv := [(0, aR 6 v0), (1, aI v1)]) (by decide +kernel) (fun _ => rfl) (fun _ => (Nat.le_of_ble_eq_true rfl)) (fun _ h => lvl_als h rfl) (fun _ σ _ => j8_usersOf N v0 v1 σ)
theorem cs_RX10_253 : CaV RX10 RX8 253 yX8_usersOf cX8_usersOf 6 (some .int) 1 := ⟨tw_3_177, tw_3_178, tw_3_179, tw_1_2, tw_3_180, rfl, by decide +kernel, by decide +kernel, by decide +kernel⟩
abbrev rm10_uses : Room := { frames := 1, cells := 0, slots := 0, locals := 25 }
set_option maxRecDepth 20000 in
set_option maxHeartbeats 4000000 in
theorem j10_uses {Γ : jX} {tg : Int32 × rS} (N : Nat) (v0 : Nat) (v1 : Int32) (σ : rS) : J Γ rm10_uses eI cX10_uses RX10 2 (some .int) tg 0 0 0 [(0, aR 0 v0), (1, aI v1)] [] σ (f10_uses N v0 v1 σ) := by
  unfold f10_uses
  refine j_aload_n (pc := 0) 0 dX10_uses_0 rfl rfl ?_
  refine j_getF (pc := 1) fd_0_4 tw_1_113 dX10_uses_1 ?_
  refine j_iload_n (pc := 4) 1 dX10_uses_4 rfl rfl ?_
  refine j_callVI (pc := 5) (As := [aI v1]) (st := []) (fun l => c8_usersOf l N v0 v1) cs_RX10_253 rfl rfl rfl rfl (Nat.le_of_ble_eq_true rfl) ⟨(Nat.le_of_ble_eq_true rfl), (Nat.le_of_ble_eq_true rfl)⟩ ⟨(Nat.le_of_ble_eq_true rfl), (Nat.le_of_ble_eq_true rfl)⟩ dX10_uses_5 (fun r1 σ2 => ?_)
  exact j_ireturn (pc := 8) rfl (Nat.le_of_ble_eq_true rfl) (Nat.le_of_ble_eq_true rfl) dX10_uses_8
theorem c10_uses (l : Launch) (N : Nat) (v0 : Nat) (v1 : Int32) : Ctr l yX10_uses cX10_uses 2 (some .int) rm10_uses eI [aR 0 v0, aI v1] (f10_uses N v0 v1) := ctr_of (lv := [(0, aR 0 v0), (1, aI v1)]) (by decide +kernel) (fun _ => rfl) (fun _ => (Nat.le_of_ble_eq_true rfl)) (fun _ h => lvl_als h rfl) (fun _ σ _ => j10_uses N v0 v1 σ)
theorem cs_RX10_163 : CaV RX10 RX10 163 yX10_appendPiece cX10_appendPiece 5 none 3 := ⟨tw_2_197, tw_2_199, tw_p10, tw_1_1, tw_2_200, rfl, by decide +kernel, by decide +kernel, by decide +kernel⟩
abbrev rm10_write : Room := { frames := 4, cells := 0, slots := 0, locals := 94 }
set_option maxRecDepth 20000 in
set_option maxHeartbeats 4000000 in
theorem j10_write {Γ : jX} {tg : Int32 × rS} (N : Nat) (v0 : Nat) (v1 : Int32) (v2 : Int32) (v3 : Int32) (σ : rS) : J Γ rm10_write eI cX10_write RX10 6 (some .int) tg 0 0 0 [(0, aR 0 v0), (1, aI v1), (2, aI v2), (3, aI v3)] [] σ (f10_write N v0 v1 v2 v3 σ) := by
  unfold f10_write
  refine j_aload_n (pc := 0) 0 dX10_write_0 rfl rfl ?_
  refine j_iload_n (pc := 1) 1 dX10_write_1 rfl rfl ?_
  refine j_callVR (pc := 2) (As := [aI v1]) (st := []) (fun l => c10_streamNumbered l v0 v1) cs_RX10_145 rfl rfl rfl rfl (Nat.le_of_ble_eq_true rfl) ⟨(Nat.le_of_ble_eq_true rfl), (Nat.le_of_ble_eq_true rfl)⟩ ⟨(Nat.le_of_ble_eq_true rfl), (Nat.le_of_ble_eq_true rfl)⟩ dX10_write_2 (fun r1 σ2 => ?_)
  refine j_astore (pc := 5) (lv' := [(4, aO 15 r1), (0, aR 0 v0), (1, aI v1), (2, aI v2), (3, aI v3)]) dX10_write_5 (Nat.le_of_ble_eq_true rfl) rfl ?_
  refine j_sub [0, 1, 3, 4] (lv' := [(4, aO 15 r1), (0, aR 0 v0), (2, aI v2), (3, aI v3)]) rfl ?_
  refine j_aload_n (pc := 7) 1 dX10_write_7 rfl rfl ?_
  refine j_iload_n (pc := 8) 2 dX10_write_8 rfl rfl ?_
  refine j_callVR (pc := 9) (As := [aI v2]) (st := []) (fun l => c10_rowNumbered l v0 v2) cs_RX10_74 rfl rfl rfl rfl (Nat.le_of_ble_eq_true rfl) ⟨(Nat.le_of_ble_eq_true rfl), (Nat.le_of_ble_eq_true rfl)⟩ ⟨(Nat.le_of_ble_eq_true rfl), (Nat.le_of_ble_eq_true rfl)⟩ dX10_write_9 (fun r3 σ4 => ?_)
  refine j_astore (pc := 12) (lv' := [(5, aO 13 r3), (4, aO 15 r1), (0, aR 0 v0), (2, aI v2), (3, aI v3)]) dX10_write_12 (Nat.le_of_ble_eq_true rfl) rfl ?_
  refine j_sub [0, 1, 2, 4] (lv' := [(5, aO 13 r3), (4, aO 15 r1), (0, aR 0 v0), (3, aI v3)]) rfl ?_
  refine j_aload (pc := 14) 1 dX10_write_14 rfl ?_
  refine j_ifnull (pc := 16) (tgt := 24) dX10_write_16 rfl (fun hm => ?_) (fun i5 hm => ?_)
  · subst hm
    refine j_bipush (pc := 24) (v := (-101)) (by decide) dX10_write_24 ?_
    exact j_ireturn (pc := 26) rfl (Nat.le_of_ble_eq_true rfl) (Nat.le_of_ble_eq_true rfl) dX10_write_26
  · subst hm
    refine j_aload (pc := 19) 0 dX10_write_19 rfl ?_
    refine j_ifnonnull (pc := 21) (tgt := 27) dX10_write_21 rfl (fun hm => ?_) (fun i6 hm => ?_)
    · subst hm
      refine j_bipush (pc := 24) (v := (-101)) (by decide) dX10_write_24 ?_
      exact j_ireturn (pc := 26) rfl (Nat.le_of_ble_eq_true rfl) (Nat.le_of_ble_eq_true rfl) dX10_write_26
    · subst hm
      refine j_iload_n (pc := 27) 3 dX10_write_27 rfl rfl ?_
      refine j_callSZ (pc := 28) (As := [aI v3]) (st := []) (fun l => c10_isCoder l v3) cs_RX10_149 rfl rfl (Nat.le_of_ble_eq_true rfl) ⟨(Nat.le_of_ble_eq_true rfl), (Nat.le_of_ble_eq_true rfl)⟩ ⟨(Nat.le_of_ble_eq_true rfl), (Nat.le_of_ble_eq_true rfl)⟩ dX10_write_28 (fun r7 σ8 => ?_)
      refine j_ifneB (pc := 31) (tgt := 37) dX10_write_31 rfl (fun _ => ?_) (fun _ => ?_)
      · refine j_aload (pc := 37) 1 dX10_write_37 rfl ?_
        refine j_getI (pc := 39) fd_15_3 tw_2_144 dX10_write_39 ?_
        refine j_ifeq (pc := 42) (tgt := 48) dX10_write_42 rfl (fun _ => ?_) (fun _ => ?_)
        · refine j_aload (pc := 48) 0 dX10_write_48 rfl ?_
          refine j_getI (pc := 50) fd_13_2 tw_1_177 dX10_write_50 ?_
          refine j_ifeq (pc := 53) (tgt := 62) dX10_write_53 rfl (fun _ => ?_) (fun _ => ?_)
          · refine j_aload_n (pc := 62) 2 dX10_write_62 rfl rfl ?_
            refine j_getF (pc := 63) fd_0_5 tw_1_114 dX10_write_63 ?_
            refine j_iload_n (pc := 66) 3 dX10_write_66 rfl rfl ?_
            refine j_aload (pc := 67) 0 dX10_write_67 rfl ?_
            refine j_getF (pc := 69) fd_13_1 tw_1_176 dX10_write_69 ?_
            refine j_aload (pc := 72) 0 dX10_write_72 rfl ?_
            refine j_getF (pc := 74) fd_13_1 tw_1_176 dX10_write_74 ?_
            refine j_alen (pc := 77) rfl (by decide) dX10_write_77 ?_
            refine j_callVV (pc := 78) (As := [aI v3, aR 14 i6, aI (nI (gN σ8 14 i6))]) (st := []) (fun l => c5_pack l N 14 ⟨rfl, rfl, rfl⟩ v0 v3 i6 (nI (gN σ8 14 i6))) cs_RX10_155 rfl rfl rfl rfl (Nat.le_of_ble_eq_true rfl) ⟨(Nat.le_of_ble_eq_true rfl), (Nat.le_of_ble_eq_true rfl)⟩ ⟨(Nat.le_of_ble_eq_true rfl), (Nat.le_of_ble_eq_true rfl)⟩ dX10_write_78 (fun r9 σ10 => ?_)
            refine j_aload (pc := 81) 1 dX10_write_81 rfl ?_
            refine j_getI (pc := 83) fd_15_1 tw_2_142 dX10_write_83 ?_
            refine j_bipush (pc := 86) (v := 7) (by decide) dX10_write_86 ?_
            refine j_iadd (pc := 88) dX10_write_88 ?_
            refine j_aload_n (pc := 89) 2 dX10_write_89 rfl rfl ?_
            refine j_getF (pc := 90) fd_0_5 tw_1_114 dX10_write_90 ?_
            refine j_getI (pc := 93) fd_8_1 tw_1_63 dX10_write_93 ?_
            refine j_iadd (pc := 96) dX10_write_96 ?_
            refine j_sipush (pc := 97) (v := 400) (by decide) dX10_write_97 ?_
            refine j_icmple (pc := 100) (tgt := 106) dX10_write_100 rfl (fun _ => ?_) (fun _ => ?_)
            · refine j_aload_n (pc := 106) 2 dX10_write_106 rfl rfl ?_
              refine j_aload (pc := 107) 1 dX10_write_107 rfl ?_
              refine j_iload_n (pc := 109) 3 dX10_write_109 rfl rfl ?_
              refine j_aload (pc := 110) 0 dX10_write_110 rfl ?_
              refine j_callVV (pc := 112) (As := [aR 15 i5, aI v3, aR 13 i6]) (st := []) (fun l => c10_appendPiece l N v0 i5 v3 i6) cs_RX10_163 rfl rfl rfl rfl (Nat.le_of_ble_eq_true rfl) ⟨(Nat.le_of_ble_eq_true rfl), (Nat.le_of_ble_eq_true rfl)⟩ ⟨(Nat.le_of_ble_eq_true rfl), (Nat.le_of_ble_eq_true rfl)⟩ dX10_write_112 (fun r11 σ12 => ?_)
              refine j_aload (pc := 115) 1 dX10_write_115 rfl ?_
              refine j_getI (pc := 117) fd_15_1 tw_2_142 dX10_write_117 ?_
              exact j_ireturn (pc := 120) rfl (Nat.le_of_ble_eq_true rfl) (Nat.le_of_ble_eq_true rfl) dX10_write_120
            · refine j_bipush (pc := 103) (v := (-104)) (by decide) dX10_write_103 ?_
              exact j_ireturn (pc := 105) rfl (Nat.le_of_ble_eq_true rfl) (Nat.le_of_ble_eq_true rfl) dX10_write_105
          · refine j_aload_n (pc := 56) 2 dX10_write_56 rfl rfl ?_
            refine j_iconst (pc := 57) (v := 1) (by decide) dX10_write_57 ?_
            refine j_callVI (pc := 58) (As := [aI 1]) (st := []) (fun l => c10_found l v0 1) cs_RX10_66 rfl rfl rfl rfl (Nat.le_of_ble_eq_true rfl) ⟨(Nat.le_of_ble_eq_true rfl), (Nat.le_of_ble_eq_true rfl)⟩ ⟨(Nat.le_of_ble_eq_true rfl), (Nat.le_of_ble_eq_true rfl)⟩ dX10_write_58 (fun r13 σ14 => ?_)
            exact j_ireturn (pc := 61) rfl (Nat.le_of_ble_eq_true rfl) (Nat.le_of_ble_eq_true rfl) dX10_write_61
        · refine j_bipush (pc := 45) (v := (-103)) (by decide) dX10_write_45 ?_
          exact j_ireturn (pc := 47) rfl (Nat.le_of_ble_eq_true rfl) (Nat.le_of_ble_eq_true rfl) dX10_write_47
      · refine j_bipush (pc := 34) (v := (-102)) (by decide) dX10_write_34 ?_
        exact j_ireturn (pc := 36) rfl (Nat.le_of_ble_eq_true rfl) (Nat.le_of_ble_eq_true rfl) dX10_write_36
theorem c10_write (l : Launch) (N : Nat) (v0 : Nat) (v1 : Int32) (v2 : Int32) (v3 : Int32) : Ctr l yX10_write cX10_write 6 (some .int) rm10_write eI [aR 0 v0, aI v1, aI v2, aI v3] (f10_write N v0 v1 v2 v3) := ctr_of (lv := [(0, aR 0 v0), (1, aI v1), (2, aI v2), (3, aI v3)]) (by decide +kernel) (fun _ => rfl) (fun _ => (Nat.le_of_ble_eq_true rfl)) (fun _ h => lvl_als h rfl) (fun _ σ _ => j10_write N v0 v1 v2 v3 σ)
abbrev rm11_in : Room := { frames := 0, cells := 0, slots := 0, locals := 0 }
set_option maxRecDepth 20000 in
set_option maxHeartbeats 4000000 in
theorem j11_in {Γ : jX} {tg : Bool × rS} (v0 : Int64) (v2 : Int64) (v4 : Int64) (σ : rS) : J Γ rm11_in eZ cX11_in RX11 6 (some .boolean) tg 0 0 0 [(0, aL v0), (2, aL v2), (4, aL v4)] [] σ (f11_in v0 v2 v4 σ) := by
  unfold f11_in
  refine j_lload_n (pc := 0) 0 dX11_in_0 rfl rfl ?_
  refine j_lload_n (pc := 1) 1 dX11_in_1 rfl rfl ?_
  refine j_lcmplt (pc := 2) (tgt := 17) dX11_in_2 dX11_in_3 rfl (fun _ => ?_) (fun _ => ?_)
  · refine j_iconst (pc := 17) (v := 0) (by decide) dX11_in_17 ?_
    exact j_zret0 (pc := 18) rfl (Nat.le_of_ble_eq_true rfl) (Nat.le_of_ble_eq_true rfl) dX11_in_18
  · refine j_lload_n (pc := 6) 0 dX11_in_6 rfl rfl ?_
    refine j_lload (pc := 7) 2 dX11_in_7 rfl ?_
    refine j_lcmpgt (pc := 9) (tgt := 17) dX11_in_9 dX11_in_10 rfl (fun _ => ?_) (fun _ => ?_)
    · refine j_iconst (pc := 17) (v := 0) (by decide) dX11_in_17 ?_
      exact j_zret0 (pc := 18) rfl (Nat.le_of_ble_eq_true rfl) (Nat.le_of_ble_eq_true rfl) dX11_in_18
    · refine j_iconst (pc := 13) (v := 1) (by decide) dX11_in_13 ?_
      refine j_goto (pc := 14) (tgt := 18) dX11_in_14 rfl ?_
      exact j_zret1 (pc := 18) rfl (Nat.le_of_ble_eq_true rfl) (Nat.le_of_ble_eq_true rfl) dX11_in_18
theorem c11_in (l : Launch) (v0 : Int64) (v2 : Int64) (v4 : Int64) : Ctr l yX11_in cX11_in 6 (some .boolean) rm11_in eZ [aL v0, aL v2, aL v4] (f11_in v0 v2 v4) := ctr_of (lv := [(0, aL v0), (2, aL v2), (4, aL v4)]) (by decide +kernel) (fun _ => rfl) (fun _ => (Nat.le_of_ble_eq_true rfl)) (fun _ h => lvl_als h rfl) (fun _ σ _ => j11_in v0 v2 v4 σ)
theorem cs_RX11_140 : CaS RX11 140 yX11_in cX11_in 6 (some .boolean) 3 := ⟨tw_4_181, tw_4_182, tw_1_5, tw_4_183, by decide +kernel, by decide +kernel, by decide +kernel⟩
abbrev rm11_isStream : Room := { frames := 1, cells := 0, slots := 0, locals := 25 }
set_option maxRecDepth 20000 in
set_option maxHeartbeats 4000000 in
theorem j11_isStream {Γ : jX} {tg : Bool × rS} (v0 : Nat) (v1 : Int32) (σ : rS) : J Γ rm11_isStream eZ cX11_isStream RX11 2 (some .boolean) tg 0 0 0 [(0, aR 29 v0), (1, aI v1)] [] σ (f11_isStream v0 v1 σ) := by
  unfold f11_isStream
  refine j_iload_n (pc := 0) 1 dX11_isStream_0 rfl rfl ?_
  refine j_i2l (pc := 1) dX11_isStream_1 ?_
  refine j_lconst (pc := 2) (v := 0) (by decide) dX11_isStream_2 ?_
  refine j_aload_n (pc := 3) 0 dX11_isStream_3 rfl rfl ?_
  refine j_getI (pc := 4) fd_29_13 tw_4_76 dX11_isStream_4 ?_
  refine j_iconst (pc := 7) (v := 1) (by decide) dX11_isStream_7 ?_
  refine j_isub (pc := 8) dX11_isStream_8 ?_
  refine j_i2l (pc := 9) dX11_isStream_9 ?_
  refine j_callSZ (pc := 10) (As := [aL (Int32.toInt64 v1), aL 0, aL (Int32.toInt64 ((gI σ 29 v0 13) - 1))]) (st := []) (fun l => c11_in l (Int32.toInt64 v1) 0 (Int32.toInt64 ((gI σ 29 v0 13) - 1))) cs_RX11_140 rfl rfl (Nat.le_of_ble_eq_true rfl) ⟨(Nat.le_of_ble_eq_true rfl), (Nat.le_of_ble_eq_true rfl)⟩ ⟨(Nat.le_of_ble_eq_true rfl), (Nat.le_of_ble_eq_true rfl)⟩ dX11_isStream_10 (fun r1 σ2 => ?_)
  exact j_zretB (pc := 13) rfl (Nat.le_of_ble_eq_true rfl) (Nat.le_of_ble_eq_true rfl) dX11_isStream_13
theorem c11_isStream (l : Launch) (v0 : Nat) (v1 : Int32) : Ctr l yX11_isStream cX11_isStream 2 (some .boolean) rm11_isStream eZ [aR 29 v0, aI v1] (f11_isStream v0 v1) := ctr_of (lv := [(0, aR 29 v0), (1, aI v1)]) (by decide +kernel) (fun _ => rfl) (fun _ => (Nat.le_of_ble_eq_true rfl)) (fun _ h => lvl_als h rfl) (fun _ σ _ => j11_isStream v0 v1 σ)
abbrev rm11_sumOf : Room := { frames := 0, cells := 0, slots := 0, locals := 0 }
set_option maxRecDepth 20000 in
set_option maxHeartbeats 4000000 in
theorem jb11_sumOf_6 {Γ : jX} {tg : Int32 × rS} (N : Nat) (K6 : Nat → Int32 → Int32 → Int32 → Int32 → rS → Option (Int32 × rS)) (hK6 : ∀ (v0 : Nat) (v1 : Int32) (v3 : Int32) (v4 : Int32) (v5 : Int32) (σ : rS), J Γ rm11_sumOf eI cX11_sumOf RX11 6 (some .int) tg 0 0 6 [(0, aR 29 v0), (1, aI v1), (3, aI v3), (4, aI v4), (5, aI v5)] [] σ (K6 v0 v1 v3 v4 v5 σ)) (v0 : Nat) (v1 : Int32) (v3 : Int32) (v4 : Int32) (v5 : Int32) (σ : rS) : J Γ rm11_sumOf eI cX11_sumOf RX11 6 (some .int) tg 0 0 6 [(0, aR 29 v0), (1, aI v1), (3, aI v3), (4, aI v4), (5, aI v5)] [] σ (B11_sumOf_6 N K6 v0 v1 v3 v4 v5 σ) := by
  unfold B11_sumOf_6
  refine j_iload (pc := 6) 4 dX11_sumOf_6 rfl ?_
  refine j_iload_n (pc := 8) 2 dX11_sumOf_8 rfl rfl ?_
  refine j_icmpge (pc := 9) (tgt := 42) dX11_sumOf_9 rfl (fun _ => ?_) (fun _ => ?_)
  · refine j_iload (pc := 42) 3 dX11_sumOf_42 rfl ?_
    exact j_ireturn (pc := 44) rfl (Nat.le_of_ble_eq_true rfl) (Nat.le_of_ble_eq_true rfl) dX11_sumOf_44
  · refine j_bipush (pc := 12) (v := 31) (by decide) dX11_sumOf_12 ?_
    refine j_iload (pc := 14) 3 dX11_sumOf_14 rfl ?_
    refine j_imul (pc := 16) dX11_sumOf_16 ?_
    refine j_aload_n (pc := 17) 0 dX11_sumOf_17 rfl rfl ?_
    refine j_getF (pc := 18) fd_29_14 tw_4_77 dX11_sumOf_18 ?_
    refine j_sipush (pc := 21) (v := 400) (by decide) dX11_sumOf_21 ?_
    refine j_iload_n (pc := 24) 1 dX11_sumOf_24 rfl rfl ?_
    refine j_imul (pc := 25) dX11_sumOf_25 ?_
    refine j_iload (pc := 26) 4 dX11_sumOf_26 rfl ?_
    refine j_iadd (pc := 28) dX11_sumOf_28 ?_
    refine j_iald (pc := 29) rfl rfl rfl dX11_sumOf_29 (fun j1 => ?_)
    refine j_iadd (pc := 30) dX11_sumOf_30 ?_
    refine j_ldc (pc := 31) tw_5_132 dX11_sumOf_31 ?_
    refine j_iand (pc := 33) dX11_sumOf_33 ?_
    refine j_leti (fun x2 => ?_)
    refine j_istore (pc := 34) (lv' := [(4, aI x2), (0, aR 29 v0), (1, aI v1), (3, aI v3), (5, aI v5)]) dX11_sumOf_34 (Nat.le_of_ble_eq_true rfl) rfl ?_
    refine j_iinc (pc := 36) (w := 1) (lv' := [(5, aI (v5 + 1)), (4, aI x2), (0, aR 29 v0), (1, aI v1), (3, aI v3)]) 4 dX11_sumOf_36 rfl (by decide) (Nat.le_of_ble_eq_true rfl) rfl ?_
    refine j_goto (pc := 39) (tgt := 6) dX11_sumOf_39 rfl ?_
    refine j_sub [2, 3, 4, 1, 0] (lv' := [(0, aR 29 v0), (1, aI v1), (3, aI v3), (4, aI x2), (5, aI (v5 + 1))]) rfl ?_
    exact hK6 v0 v1 v3 x2 (v5 + 1) σ
theorem jl11_sumOf_6 {Γ : jX} {tg : Int32 × rS} (N : Nat) : ∀ (n : Nat) (v0 : Nat) (v1 : Int32) (v3 : Int32) (v4 : Int32) (v5 : Int32) (σ : rS), J Γ rm11_sumOf eI cX11_sumOf RX11 6 (some .int) tg 0 0 6 [(0, aR 29 v0), (1, aI v1), (3, aI v3), (4, aI v4), (5, aI v5)] [] σ (L11_sumOf_6 N n v0 v1 v3 v4 v5 σ) := by
  intro n
  induction n with
  | zero => intro v0 v1 v3 v4 v5 σ; exact j_none
  | succ n ih => intro v0 v1 v3 v4 v5 σ; exact jb11_sumOf_6 N (L11_sumOf_6 N n) ih v0 v1 v3 v4 v5 σ
set_option maxRecDepth 20000 in
set_option maxHeartbeats 4000000 in
theorem j11_sumOf {Γ : jX} {tg : Int32 × rS} (N : Nat) (v0 : Nat) (v1 : Int32) (v2 : Int32) (v3 : Int32) (σ : rS) : J Γ rm11_sumOf eI cX11_sumOf RX11 6 (some .int) tg 0 0 0 [(0, aR 29 v0), (1, aI v1), (2, aI v2), (3, aI v3)] [] σ (f11_sumOf N v0 v1 v2 v3 σ) := by
  unfold f11_sumOf
  refine j_iconst (pc := 0) (v := 0) (by decide) dX11_sumOf_0 ?_
  refine j_istore (pc := 1) (lv' := [(4, aI 0), (0, aR 29 v0), (1, aI v1), (2, aI v2), (3, aI v3)]) dX11_sumOf_1 (Nat.le_of_ble_eq_true rfl) rfl ?_
  refine j_iload_n (pc := 3) 3 dX11_sumOf_3 rfl rfl ?_
  refine j_istore (pc := 4) (lv' := [(5, aI v2), (4, aI 0), (0, aR 29 v0), (1, aI v1), (2, aI v2), (3, aI v3)]) dX11_sumOf_4 (Nat.le_of_ble_eq_true rfl) rfl ?_
  refine j_sub [0, 1, 2, 3, 5] (lv' := [(5, aI v2), (4, aI 0), (0, aR 29 v0), (1, aI v1), (3, aI v3)]) rfl ?_
  refine j_sub [2, 3, 4, 1, 0] (lv' := [(0, aR 29 v0), (1, aI v1), (3, aI v3), (4, aI 0), (5, aI v2)]) rfl ?_
  exact jl11_sumOf_6 N  N v0 v1 v3 0 v2 σ
theorem c11_sumOf (l : Launch) (N : Nat) (v0 : Nat) (v1 : Int32) (v2 : Int32) (v3 : Int32) : Ctr l yX11_sumOf cX11_sumOf 6 (some .int) rm11_sumOf eI [aR 29 v0, aI v1, aI v2, aI v3] (f11_sumOf N v0 v1 v2 v3) := ctr_of (lv := [(0, aR 29 v0), (1, aI v1), (2, aI v2), (3, aI v3)]) (by decide +kernel) (fun _ => rfl) (fun _ => (Nat.le_of_ble_eq_true rfl)) (fun _ h => lvl_als h rfl) (fun _ σ _ => j11_sumOf N v0 v1 v2 v3 σ)
theorem cs_RX11_247 : CaV RX11 RX11 247 yX11_isStream cX11_isStream 2 (some .boolean) 1 := ⟨tw_5_93, tw_5_95, tw_p26, tw_1_5, tw_5_96, rfl, by decide +kernel, by decide +kernel, by decide +kernel⟩
theorem cs_RX11_259 : CaV RX11 RX11 259 yX11_sumOf cX11_sumOf 6 (some .int) 3 := ⟨tw_5_128, tw_5_130, tw_p34, tw_1_5, tw_5_131, rfl, by decide +kernel, by decide +kernel, by decide +kernel⟩
abbrev rm11_about : Room := { frames := 2, cells := 0, slots := 0, locals := 46 }
set_option maxRecDepth 20000 in
set_option maxHeartbeats 4000000 in
theorem j11_about {Γ : jX} {tg : Int32 × rS} (N : Nat) (v0 : Nat) (v1 : Int32) (v2 : Int32) (σ : rS) : J Γ rm11_about eI cX11_about RX11 3 (some .int) tg 0 0 0 [(0, aR 29 v0), (1, aI v1), (2, aI v2)] [] σ (f11_about N v0 v1 v2 σ) := by
  unfold f11_about
  refine j_aload_n (pc := 0) 0 dX11_about_0 rfl rfl ?_
  refine j_iload_n (pc := 1) 1 dX11_about_1 rfl rfl ?_
  refine j_callVZ (pc := 2) (As := [aI v1]) (st := []) (fun l => c11_isStream l v0 v1) cs_RX11_247 rfl rfl rfl rfl (Nat.le_of_ble_eq_true rfl) ⟨(Nat.le_of_ble_eq_true rfl), (Nat.le_of_ble_eq_true rfl)⟩ ⟨(Nat.le_of_ble_eq_true rfl), (Nat.le_of_ble_eq_true rfl)⟩ dX11_about_2 (fun r1 σ2 => ?_)
  refine j_ifneB (pc := 5) (tgt := 11) dX11_about_5 rfl (fun _ => ?_) (fun _ => ?_)
  · refine j_iload_n (pc := 11) 2 dX11_about_11 rfl rfl ?_
    refine j_ifne (pc := 12) (tgt := 24) dX11_about_12 rfl (fun _ => ?_) (fun _ => ?_)
    · refine j_iload_n (pc := 24) 2 dX11_about_24 rfl rfl ?_
      refine j_iconst (pc := 25) (v := 1) (by decide) dX11_about_25 ?_
      refine j_icmpne (pc := 26) (tgt := 38) dX11_about_26 rfl (fun _ => ?_) (fun _ => ?_)
      · refine j_iload_n (pc := 38) 2 dX11_about_38 rfl rfl ?_
        refine j_iconst (pc := 39) (v := 2) (by decide) dX11_about_39 ?_
        refine j_icmpne (pc := 40) (tgt := 60) dX11_about_40 rfl (fun _ => ?_) (fun _ => ?_)
        · refine j_iload_n (pc := 60) 2 dX11_about_60 rfl rfl ?_
          refine j_iconst (pc := 61) (v := 3) (by decide) dX11_about_61 ?_
          refine j_icmpne (pc := 62) (tgt := 80) dX11_about_62 rfl (fun _ => ?_) (fun _ => ?_)
          · refine j_bipush (pc := 80) (v := (-102)) (by decide) dX11_about_80 ?_
            exact j_ireturn (pc := 82) rfl (Nat.le_of_ble_eq_true rfl) (Nat.le_of_ble_eq_true rfl) dX11_about_82
          · refine j_aload_n (pc := 65) 0 dX11_about_65 rfl rfl ?_
            refine j_iload_n (pc := 66) 1 dX11_about_66 rfl rfl ?_
            refine j_iconst (pc := 67) (v := 0) (by decide) dX11_about_67 ?_
            refine j_aload_n (pc := 68) 0 dX11_about_68 rfl rfl ?_
            refine j_getF (pc := 69) fd_29_15 tw_4_78 dX11_about_69 ?_
            refine j_iload_n (pc := 72) 1 dX11_about_72 rfl rfl ?_
            refine j_iald (pc := 73) rfl rfl rfl dX11_about_73 (fun j3 => ?_)
            refine j_callVI (pc := 74) (As := [aI v1, aI 0, aI (gI σ2 45 v0 j3)]) (st := []) (fun l => c11_sumOf l N v0 v1 0 (gI σ2 45 v0 j3)) cs_RX11_259 rfl rfl rfl rfl (Nat.le_of_ble_eq_true rfl) ⟨(Nat.le_of_ble_eq_true rfl), (Nat.le_of_ble_eq_true rfl)⟩ ⟨(Nat.le_of_ble_eq_true rfl), (Nat.le_of_ble_eq_true rfl)⟩ dX11_about_74 (fun r4 σ5 => ?_)
            refine j_goto (pc := 77) (tgt := 82) dX11_about_77 rfl ?_
            exact j_ireturn (pc := 82) rfl (Nat.le_of_ble_eq_true rfl) (Nat.le_of_ble_eq_true rfl) dX11_about_82
        · refine j_aload_n (pc := 43) 0 dX11_about_43 rfl rfl ?_
          refine j_getF (pc := 44) fd_29_17 tw_4_80 dX11_about_44 ?_
          refine j_iload_n (pc := 47) 1 dX11_about_47 rfl rfl ?_
          refine j_zald (pc := 48) rfl rfl rfl dX11_about_48 (fun j6 => ?_)
          refine j_ifeq (pc := 49) (tgt := 56) dX11_about_49 rfl (fun _ => ?_) (fun _ => ?_)
          · refine j_iconst (pc := 56) (v := 0) (by decide) dX11_about_56 ?_
            refine j_goto (pc := 57) (tgt := 82) dX11_about_57 rfl ?_
            exact j_ireturn (pc := 82) rfl (Nat.le_of_ble_eq_true rfl) (Nat.le_of_ble_eq_true rfl) dX11_about_82
          · refine j_iconst (pc := 52) (v := 1) (by decide) dX11_about_52 ?_
            refine j_goto (pc := 53) (tgt := 82) dX11_about_53 rfl ?_
            exact j_ireturn (pc := 82) rfl (Nat.le_of_ble_eq_true rfl) (Nat.le_of_ble_eq_true rfl) dX11_about_82
      · refine j_aload_n (pc := 29) 0 dX11_about_29 rfl rfl ?_
        refine j_getF (pc := 30) fd_29_16 tw_4_79 dX11_about_30 ?_
        refine j_iload_n (pc := 33) 1 dX11_about_33 rfl rfl ?_
        refine j_iald (pc := 34) rfl rfl rfl dX11_about_34 (fun j7 => ?_)
        refine j_goto (pc := 35) (tgt := 82) dX11_about_35 rfl ?_
        exact j_ireturn (pc := 82) rfl (Nat.le_of_ble_eq_true rfl) (Nat.le_of_ble_eq_true rfl) dX11_about_82
    · refine j_aload_n (pc := 15) 0 dX11_about_15 rfl rfl ?_
      refine j_getF (pc := 16) fd_29_15 tw_4_78 dX11_about_16 ?_
      refine j_iload_n (pc := 19) 1 dX11_about_19 rfl rfl ?_
      refine j_iald (pc := 20) rfl rfl rfl dX11_about_20 (fun j8 => ?_)
      refine j_goto (pc := 21) (tgt := 82) dX11_about_21 rfl ?_
      exact j_ireturn (pc := 82) rfl (Nat.le_of_ble_eq_true rfl) (Nat.le_of_ble_eq_true rfl) dX11_about_82
  · refine j_bipush (pc := 8) (v := (-101)) (by decide) dX11_about_8 ?_
    exact j_ireturn (pc := 10) rfl (Nat.le_of_ble_eq_true rfl) (Nat.le_of_ble_eq_true rfl) dX11_about_10
theorem c11_about (l : Launch) (N : Nat) (v0 : Nat) (v1 : Int32) (v2 : Int32) : Ctr l yX11_about cX11_about 3 (some .int) rm11_about eI [aR 29 v0, aI v1, aI v2] (f11_about N v0 v1 v2) := ctr_of (lv := [(0, aR 29 v0), (1, aI v1), (2, aI v2)]) (by decide +kernel) (fun _ => rfl) (fun _ => (Nat.le_of_ble_eq_true rfl)) (fun _ h => lvl_als h rfl) (fun _ σ _ => j11_about N v0 v1 v2 σ)
abbrev rm11_isDelta : Room := { frames := 1, cells := 0, slots := 0, locals := 25 }
set_option maxRecDepth 20000 in
set_option maxHeartbeats 4000000 in
theorem j11_isDelta {Γ : jX} {tg : Bool × rS} (v0 : Nat) (v1 : Int32) (σ : rS) : J Γ rm11_isDelta eZ cX11_isDelta RX11 2 (some .boolean) tg 0 0 0 [(0, aR 29 v0), (1, aI v1)] [] σ (f11_isDelta v0 v1 σ) := by
  unfold f11_isDelta
  refine j_iload_n (pc := 0) 1 dX11_isDelta_0 rfl rfl ?_
  refine j_i2l (pc := 1) dX11_isDelta_1 ?_
  refine j_lconst (pc := 2) (v := 0) (by decide) dX11_isDelta_2 ?_
  refine j_aload_n (pc := 3) 0 dX11_isDelta_3 rfl rfl ?_
  refine j_getI (pc := 4) fd_29_30 tw_4_93 dX11_isDelta_4 ?_
  refine j_iconst (pc := 7) (v := 1) (by decide) dX11_isDelta_7 ?_
  refine j_isub (pc := 8) dX11_isDelta_8 ?_
  refine j_i2l (pc := 9) dX11_isDelta_9 ?_
  refine j_callSZ (pc := 10) (As := [aL (Int32.toInt64 v1), aL 0, aL (Int32.toInt64 ((gI σ 29 v0 30) - 1))]) (st := []) (fun l => c11_in l (Int32.toInt64 v1) 0 (Int32.toInt64 ((gI σ 29 v0 30) - 1))) cs_RX11_140 rfl rfl (Nat.le_of_ble_eq_true rfl) ⟨(Nat.le_of_ble_eq_true rfl), (Nat.le_of_ble_eq_true rfl)⟩ ⟨(Nat.le_of_ble_eq_true rfl), (Nat.le_of_ble_eq_true rfl)⟩ dX11_isDelta_10 (fun r1 σ2 => ?_)
  exact j_zretB (pc := 13) rfl (Nat.le_of_ble_eq_true rfl) (Nat.le_of_ble_eq_true rfl) dX11_isDelta_13
theorem c11_isDelta (l : Launch) (v0 : Nat) (v1 : Int32) : Ctr l yX11_isDelta cX11_isDelta 2 (some .boolean) rm11_isDelta eZ [aR 29 v0, aI v1] (f11_isDelta v0 v1) := ctr_of (lv := [(0, aR 29 v0), (1, aI v1)]) (by decide +kernel) (fun _ => rfl) (fun _ => (Nat.le_of_ble_eq_true rfl)) (fun _ h => lvl_als h rfl) (fun _ σ _ => j11_isDelta v0 v1 σ)
abbrev rm11_meets : Room := { frames := 0, cells := 0, slots := 0, locals := 0 }
set_option maxRecDepth 20000 in
set_option maxHeartbeats 4000000 in
theorem j11_meets {Γ : jX} {tg : Int32 × rS} (v0 : Nat) (v1 : Int32) (σ : rS) : J Γ rm11_meets eI cX11_meets RX11 2 (some .int) tg 0 0 0 [(0, aR 29 v0), (1, aI v1)] [] σ (f11_meets v0 v1 σ) := by
  unfold f11_meets
  refine j_aload_n (pc := 0) 0 dX11_meets_0 rfl rfl ?_
  refine j_iload_n (pc := 1) 1 dX11_meets_1 rfl rfl ?_
  refine j_putI (pc := 2) fd_29_0 rfl rfl tw_4_63 dX11_meets_2 ?_
  refine j_lets (fun σ1 => ?_)
  refine j_aload_n (pc := 5) 0 dX11_meets_5 rfl rfl ?_
  refine j_getF (pc := 6) fd_29_1 tw_4_64 dX11_meets_6 ?_
  refine j_iload_n (pc := 9) 1 dX11_meets_9 rfl rfl ?_
  refine j_dup2 (pc := 10) dX11_meets_10 rfl rfl ?_
  refine j_iald (pc := 11) rfl rfl rfl dX11_meets_11 (fun j2 => ?_)
  refine j_iconst (pc := 12) (v := 1) (by decide) dX11_meets_12 ?_
  refine j_iadd (pc := 13) dX11_meets_13 ?_
  refine j_iast (pc := 14) rfl rfl rfl dX11_meets_14 (fun j3 => ?_)
  refine j_lets (fun σ4 => ?_)
  refine j_bipush (pc := 15) (v := (-10)) (by decide) dX11_meets_15 ?_
  refine j_iload_n (pc := 17) 1 dX11_meets_17 rfl rfl ?_
  refine j_isub (pc := 18) dX11_meets_18 ?_
  exact j_ireturn (pc := 19) rfl (Nat.le_of_ble_eq_true rfl) (Nat.le_of_ble_eq_true rfl) dX11_meets_19
theorem c11_meets (l : Launch) (v0 : Nat) (v1 : Int32) : Ctr l yX11_meets cX11_meets 2 (some .int) rm11_meets eI [aR 29 v0, aI v1] (f11_meets v0 v1) := ctr_of (lv := [(0, aR 29 v0), (1, aI v1)]) (by decide +kernel) (fun _ => rfl) (fun _ => (Nat.le_of_ble_eq_true rfl)) (fun _ h => lvl_als h rfl) (fun _ σ _ => j11_meets v0 v1 σ)
abbrev rm11_total : Room := { frames := 0, cells := 0, slots := 0, locals := 0 }
set_option maxRecDepth 20000 in
set_option maxHeartbeats 4000000 in
theorem jb11_total_60 {Γ : jX} {tg : Int32 × rS} (N : Nat) (K5 : Nat → Int32 → Bool → Int32 → Int32 → rS → Option (Int32 × rS)) (hK5 : ∀ (v0 : Nat) (v1 : Int32) (v2 : Bool) (v3 : Int32) (v4 : Int32) (σ : rS), J Γ rm11_total eI cX11_total RX11 5 (some .int) tg 0 0 5 [(0, aR 29 v0), (1, aI v1), (2, aI (bi v2)), (3, aI v3), (4, aI v4)] [] σ (K5 v0 v1 v2 v3 v4 σ)) (v0 : Nat) (v1 : Int32) (v2 : Bool) (v4 : Int32) (s0 : Int32) (s1 : Int32) (σ : rS) : J Γ rm11_total eI cX11_total RX11 5 (some .int) tg 0 0 60 [(0, aR 29 v0), (1, aI v1), (2, aI (bi v2)), (4, aI v4)] [aI s1, aI s0] σ (B11_total_60 N K5 v0 v1 v2 v4 s0 s1 σ) := by
  unfold B11_total_60
  refine j_iadd (pc := 60) dX11_total_60 ?_
  refine j_leti (fun x1 => ?_)
  refine j_istore_n (pc := 61) (lv' := [(3, aI x1), (0, aR 29 v0), (1, aI v1), (2, aI (bi v2)), (4, aI v4)]) dX11_total_61 rfl (Nat.le_of_ble_eq_true rfl) rfl ?_
  refine j_iinc (pc := 62) (w := 1) (lv' := [(4, aI (v4 + 1)), (3, aI x1), (0, aR 29 v0), (1, aI v1), (2, aI (bi v2))]) 4 dX11_total_62 rfl (by decide) (Nat.le_of_ble_eq_true rfl) rfl ?_
  refine j_goto (pc := 65) (tgt := 5) dX11_total_65 rfl ?_
  refine j_sub [2, 3, 4, 1, 0] (lv' := [(0, aR 29 v0), (1, aI v1), (2, aI (bi v2)), (3, aI x1), (4, aI (v4 + 1))]) rfl ?_
  exact hK5 v0 v1 v2 x1 (v4 + 1) σ
set_option maxRecDepth 20000 in
set_option maxHeartbeats 4000000 in
theorem jb11_total_39 {Γ : jX} {tg : Int32 × rS} (N : Nat) (K5 : Nat → Int32 → Bool → Int32 → Int32 → rS → Option (Int32 × rS)) (hK5 : ∀ (v0 : Nat) (v1 : Int32) (v2 : Bool) (v3 : Int32) (v4 : Int32) (σ : rS), J Γ rm11_total eI cX11_total RX11 5 (some .int) tg 0 0 5 [(0, aR 29 v0), (1, aI v1), (2, aI (bi v2)), (3, aI v3), (4, aI v4)] [] σ (K5 v0 v1 v2 v3 v4 σ)) (v0 : Nat) (v1 : Int32) (v2 : Bool) (v4 : Int32) (s0 : Int32) (s1 : Bool) (σ : rS) : J Γ rm11_total eI cX11_total RX11 5 (some .int) tg 0 0 39 [(0, aR 29 v0), (1, aI v1), (2, aI (bi v2)), (4, aI v4)] [aI (bi s1), aI s0] σ (B11_total_39 N K5 v0 v1 v2 v4 s0 s1 σ) := by
  unfold B11_total_39
  refine j_iload_n (pc := 39) 2 dX11_total_39 rfl rfl ?_
  refine j_icmpne (pc := 40) (tgt := 59) dX11_total_40 rfl (fun _ => ?_) (fun _ => ?_)
  · refine j_iconst (pc := 59) (v := 0) (by decide) dX11_total_59 ?_
    exact jb11_total_60 N K5 hK5 v0 v1 v2 v4 s0 0 σ
  · refine j_aload_n (pc := 43) 0 dX11_total_43 rfl rfl ?_
    refine j_getF (pc := 44) fd_29_35 tw_4_98 dX11_total_44 ?_
    refine j_sipush (pc := 47) (v := 400) (by decide) dX11_total_47 ?_
    refine j_iload_n (pc := 50) 1 dX11_total_50 rfl rfl ?_
    refine j_imul (pc := 51) dX11_total_51 ?_
    refine j_iload (pc := 52) 3 dX11_total_52 rfl ?_
    refine j_iadd (pc := 54) dX11_total_54 ?_
    refine j_iald (pc := 55) rfl rfl rfl dX11_total_55 (fun j1 => ?_)
    refine j_goto (pc := 56) (tgt := 60) dX11_total_56 rfl ?_
    exact jb11_total_60 N K5 hK5 v0 v1 v2 v4 s0 (gI σ 65 v0 j1) σ
set_option maxRecDepth 20000 in
set_option maxHeartbeats 4000000 in
theorem jb11_total_5 {Γ : jX} {tg : Int32 × rS} (N : Nat) (K5 : Nat → Int32 → Bool → Int32 → Int32 → rS → Option (Int32 × rS)) (hK5 : ∀ (v0 : Nat) (v1 : Int32) (v2 : Bool) (v3 : Int32) (v4 : Int32) (σ : rS), J Γ rm11_total eI cX11_total RX11 5 (some .int) tg 0 0 5 [(0, aR 29 v0), (1, aI v1), (2, aI (bi v2)), (3, aI v3), (4, aI v4)] [] σ (K5 v0 v1 v2 v3 v4 σ)) (v0 : Nat) (v1 : Int32) (v2 : Bool) (v3 : Int32) (v4 : Int32) (σ : rS) : J Γ rm11_total eI cX11_total RX11 5 (some .int) tg 0 0 5 [(0, aR 29 v0), (1, aI v1), (2, aI (bi v2)), (3, aI v3), (4, aI v4)] [] σ (B11_total_5 N K5 v0 v1 v2 v3 v4 σ) := by
  unfold B11_total_5
  refine j_iload (pc := 5) 4 dX11_total_5 rfl ?_
  refine j_aload_n (pc := 7) 0 dX11_total_7 rfl rfl ?_
  refine j_getF (pc := 8) fd_29_33 tw_4_96 dX11_total_8 ?_
  refine j_iload_n (pc := 11) 1 dX11_total_11 rfl rfl ?_
  refine j_iald (pc := 12) rfl rfl rfl dX11_total_12 (fun j1 => ?_)
  refine j_icmpge (pc := 13) (tgt := 68) dX11_total_13 rfl (fun _ => ?_) (fun _ => ?_)
  · refine j_iload_n (pc := 68) 3 dX11_total_68 rfl rfl ?_
    exact j_ireturn (pc := 69) rfl (Nat.le_of_ble_eq_true rfl) (Nat.le_of_ble_eq_true rfl) dX11_total_69
  · refine j_iload_n (pc := 16) 3 dX11_total_16 rfl rfl ?_
    refine j_aload_n (pc := 17) 0 dX11_total_17 rfl rfl ?_
    refine j_getF (pc := 18) fd_29_34 tw_4_97 dX11_total_18 ?_
    refine j_sipush (pc := 21) (v := 400) (by decide) dX11_total_21 ?_
    refine j_iload_n (pc := 24) 1 dX11_total_24 rfl rfl ?_
    refine j_imul (pc := 25) dX11_total_25 ?_
    refine j_iload (pc := 26) 4 dX11_total_26 rfl ?_
    refine j_iadd (pc := 28) dX11_total_28 ?_
    refine j_iald (pc := 29) rfl rfl rfl dX11_total_29 (fun j2 => ?_)
    refine j_iconst (pc := 30) (v := (-1)) (by decide) dX11_total_30 ?_
    refine j_icmpeq (pc := 31) (tgt := 38) dX11_total_31 rfl (fun _ => ?_) (fun _ => ?_)
    · refine j_iconst (pc := 38) (v := 0) (by decide) dX11_total_38 ?_
      refine j_sub [0, 1, 2, 4] (lv' := [(0, aR 29 v0), (1, aI v1), (2, aI (bi v2)), (4, aI v4)]) rfl ?_
      exact jb11_total_39 N K5 hK5 v0 v1 v2 v4 v3 false σ
    · refine j_iconst (pc := 34) (v := 1) (by decide) dX11_total_34 ?_
      refine j_goto (pc := 35) (tgt := 39) dX11_total_35 rfl ?_
      refine j_sub [0, 1, 2, 4] (lv' := [(0, aR 29 v0), (1, aI v1), (2, aI (bi v2)), (4, aI v4)]) rfl ?_
      exact jb11_total_39 N K5 hK5 v0 v1 v2 v4 v3 true σ
theorem jl11_total_5 {Γ : jX} {tg : Int32 × rS} (N : Nat) : ∀ (n : Nat) (v0 : Nat) (v1 : Int32) (v2 : Bool) (v3 : Int32) (v4 : Int32) (σ : rS), J Γ rm11_total eI cX11_total RX11 5 (some .int) tg 0 0 5 [(0, aR 29 v0), (1, aI v1), (2, aI (bi v2)), (3, aI v3), (4, aI v4)] [] σ (L11_total_5 N n v0 v1 v2 v3 v4 σ) := by
  intro n
  induction n with
  | zero => intro v0 v1 v2 v3 v4 σ; exact j_none
  | succ n ih => intro v0 v1 v2 v3 v4 σ; exact jb11_total_5 N (L11_total_5 N n) ih v0 v1 v2 v3 v4 σ
set_option maxRecDepth 20000 in
set_option maxHeartbeats 4000000 in
theorem j11_total {Γ : jX} {tg : Int32 × rS} (N : Nat) (v0 : Nat) (v1 : Int32) (v2 : Bool) (σ : rS) : J Γ rm11_total eI cX11_total RX11 5 (some .int) tg 0 0 0 [(0, aR 29 v0), (1, aI v1), (2, aI (bi v2))] [] σ (f11_total N v0 v1 v2 σ) := by
  unfold f11_total
  refine j_iconst (pc := 0) (v := 0) (by decide) dX11_total_0 ?_
  refine j_istore_n (pc := 1) (lv' := [(3, aI 0), (0, aR 29 v0), (1, aI v1), (2, aI (bi v2))]) dX11_total_1 rfl (Nat.le_of_ble_eq_true rfl) rfl ?_
  refine j_iconst (pc := 2) (v := 0) (by decide) dX11_total_2 ?_
  refine j_istore (pc := 3) (lv' := [(4, aI 0), (3, aI 0), (0, aR 29 v0), (1, aI v1), (2, aI (bi v2))]) dX11_total_3 (Nat.le_of_ble_eq_true rfl) rfl ?_
  refine j_sub [2, 3, 4, 1, 0] (lv' := [(0, aR 29 v0), (1, aI v1), (2, aI (bi v2)), (3, aI 0), (4, aI 0)]) rfl ?_
  exact jl11_total_5 N  N v0 v1 v2 0 0 σ
theorem c11_total (l : Launch) (N : Nat) (v0 : Nat) (v1 : Int32) (v2 : Bool) : Ctr l yX11_total cX11_total 5 (some .int) rm11_total eI [aR 29 v0, aI v1, aI (bi v2)] (f11_total N v0 v1 v2) := ctr_of (lv := [(0, aR 29 v0), (1, aI v1), (2, aI (bi v2))]) (by decide +kernel) (fun _ => rfl) (fun _ => (Nat.le_of_ble_eq_true rfl)) (fun _ h => lvl_als h rfl) (fun _ σ _ => j11_total N v0 v1 v2 σ)
theorem cs_RX11_313 : CaV RX11 RX11 313 yX11_isDelta cX11_isDelta 2 (some .boolean) 1 := ⟨tw_6_6, tw_6_8, tw_p44, tw_1_5, tw_6_9, rfl, by decide +kernel, by decide +kernel, by decide +kernel⟩
theorem cs_RX11_146 : CaV RX11 RX11 146 yX11_meets cX11_meets 2 (some .int) 1 := ⟨tw_4_184, tw_4_186, tw_p21, tw_1_5, tw_4_187, rfl, by decide +kernel, by decide +kernel, by decide +kernel⟩
theorem cs_RX11_316 : CaV RX11 RX11 316 yX11_total cX11_total 5 (some .int) 2 := ⟨tw_6_10, tw_6_12, tw_p45, tw_1_5, tw_6_13, rfl, by decide +kernel, by decide +kernel, by decide +kernel⟩
abbrev rm11_act : Room := { frames := 2, cells := 0, slots := 0, locals := 46 }
set_option maxRecDepth 20000 in
set_option maxHeartbeats 4000000 in
theorem j11_act {Γ : jX} {tg : Int32 × rS} (N : Nat) (v0 : Nat) (v1 : Int32) (v2 : Int32) (v3 : Int32) (σ : rS) : J Γ rm11_act eI cX11_act RX11 5 (some .int) tg 0 0 0 [(0, aR 29 v0), (1, aI v1), (2, aI v2), (3, aI v3)] [] σ (f11_act N v0 v1 v2 v3 σ) := by
  unfold f11_act
  refine j_aload_n (pc := 0) 0 dX11_act_0 rfl rfl ?_
  refine j_iload_n (pc := 1) 1 dX11_act_1 rfl rfl ?_
  refine j_callVZ (pc := 2) (As := [aI v1]) (st := []) (fun l => c11_isDelta l v0 v1) cs_RX11_313 rfl rfl rfl rfl (Nat.le_of_ble_eq_true rfl) ⟨(Nat.le_of_ble_eq_true rfl), (Nat.le_of_ble_eq_true rfl)⟩ ⟨(Nat.le_of_ble_eq_true rfl), (Nat.le_of_ble_eq_true rfl)⟩ dX11_act_2 (fun r1 σ2 => ?_)
  refine j_ifneB (pc := 5) (tgt := 11) dX11_act_5 rfl (fun _ => ?_) (fun _ => ?_)
  · refine j_iload_n (pc := 11) 3 dX11_act_11 rfl rfl ?_
    refine j_i2l (pc := 12) dX11_act_12 ?_
    refine j_lconst (pc := 13) (v := 0) (by decide) dX11_act_13 ?_
    refine j_ldc2 (pc := 14) tw_5_72 dX11_act_14 ?_
    refine j_callSZ (pc := 17) (As := [aL (Int32.toInt64 v3), aL 0, aL 2]) (st := []) (fun l => c11_in l (Int32.toInt64 v3) 0 2) cs_RX11_140 rfl rfl (Nat.le_of_ble_eq_true rfl) ⟨(Nat.le_of_ble_eq_true rfl), (Nat.le_of_ble_eq_true rfl)⟩ ⟨(Nat.le_of_ble_eq_true rfl), (Nat.le_of_ble_eq_true rfl)⟩ dX11_act_17 (fun r3 σ4 => ?_)
    refine j_ifneB (pc := 20) (tgt := 26) dX11_act_20 rfl (fun _ => ?_) (fun _ => ?_)
    · refine j_iload_n (pc := 26) 2 dX11_act_26 rfl rfl ?_
      refine j_iconst (pc := 27) (v := (-1)) (by decide) dX11_act_27 ?_
      refine j_icmpne (pc := 28) (tgt := 60) dX11_act_28 rfl (fun _ => ?_) (fun _ => ?_)
      · refine j_iload_n (pc := 60) 2 dX11_act_60 rfl rfl ?_
        refine j_i2l (pc := 61) dX11_act_61 ?_
        refine j_lconst (pc := 62) (v := 0) (by decide) dX11_act_62 ?_
        refine j_aload_n (pc := 63) 0 dX11_act_63 rfl rfl ?_
        refine j_getF (pc := 64) fd_29_33 tw_4_96 dX11_act_64 ?_
        refine j_iload_n (pc := 67) 1 dX11_act_67 rfl rfl ?_
        refine j_iald (pc := 68) rfl rfl rfl dX11_act_68 (fun j5 => ?_)
        refine j_iconst (pc := 69) (v := 1) (by decide) dX11_act_69 ?_
        refine j_isub (pc := 70) dX11_act_70 ?_
        refine j_i2l (pc := 71) dX11_act_71 ?_
        refine j_callSZ (pc := 72) (As := [aL (Int32.toInt64 v2), aL 0, aL (Int32.toInt64 ((gI σ4 63 v0 j5) - 1))]) (st := []) (fun l => c11_in l (Int32.toInt64 v2) 0 (Int32.toInt64 ((gI σ4 63 v0 j5) - 1))) cs_RX11_140 rfl rfl (Nat.le_of_ble_eq_true rfl) ⟨(Nat.le_of_ble_eq_true rfl), (Nat.le_of_ble_eq_true rfl)⟩ ⟨(Nat.le_of_ble_eq_true rfl), (Nat.le_of_ble_eq_true rfl)⟩ dX11_act_72 (fun r6 σ7 => ?_)
        refine j_ifneB (pc := 75) (tgt := 84) dX11_act_75 rfl (fun _ => ?_) (fun _ => ?_)
        · refine j_aload_n (pc := 84) 0 dX11_act_84 rfl rfl ?_
          refine j_getF (pc := 85) fd_29_34 tw_4_97 dX11_act_85 ?_
          refine j_sipush (pc := 88) (v := 400) (by decide) dX11_act_88 ?_
          refine j_iload_n (pc := 91) 1 dX11_act_91 rfl rfl ?_
          refine j_imul (pc := 92) dX11_act_92 ?_
          refine j_iload_n (pc := 93) 2 dX11_act_93 rfl rfl ?_
          refine j_iadd (pc := 94) dX11_act_94 ?_
          refine j_iald (pc := 95) rfl rfl rfl dX11_act_95 (fun j8 => ?_)
          refine j_leti (fun x9 => ?_)
          refine j_istore (pc := 96) (lv' := [(4, aI x9), (0, aR 29 v0), (1, aI v1), (2, aI v2), (3, aI v3)]) dX11_act_96 (Nat.le_of_ble_eq_true rfl) rfl ?_
          refine j_iload_n (pc := 98) 4 dX11_act_98 rfl rfl ?_
          refine j_ifne (pc := 99) (tgt := 116) dX11_act_99 rfl (fun _ => ?_) (fun _ => ?_)
          · refine j_iload_n (pc := 116) 4 dX11_act_116 rfl rfl ?_
            refine j_iconst (pc := 117) (v := 1) (by decide) dX11_act_117 ?_
            refine j_icmpne (pc := 118) (tgt := 126) dX11_act_118 rfl (fun _ => ?_) (fun _ => ?_)
            · refine j_aload_n (pc := 126) 1 dX11_act_126 rfl rfl ?_
              refine j_getF (pc := 127) fd_29_35 tw_4_98 dX11_act_127 ?_
              refine j_sipush (pc := 130) (v := 400) (by decide) dX11_act_130 ?_
              refine j_iload_n (pc := 133) 2 dX11_act_133 rfl rfl ?_
              refine j_imul (pc := 134) dX11_act_134 ?_
              refine j_iload_n (pc := 135) 3 dX11_act_135 rfl rfl ?_
              refine j_iadd (pc := 136) dX11_act_136 ?_
              refine j_iald (pc := 137) rfl rfl rfl dX11_act_137 (fun j10 => ?_)
              exact j_ireturn (pc := 138) rfl (Nat.le_of_ble_eq_true rfl) (Nat.le_of_ble_eq_true rfl) dX11_act_138
            · refine j_iload (pc := 121) 0 dX11_act_121 rfl ?_
              refine j_goto (pc := 123) (tgt := 138) dX11_act_123 rfl ?_
              exact j_ireturn (pc := 138) rfl (Nat.le_of_ble_eq_true rfl) (Nat.le_of_ble_eq_true rfl) dX11_act_138
          · refine j_iload (pc := 102) 0 dX11_act_102 rfl ?_
            refine j_iconst (pc := 104) (v := (-1)) (by decide) dX11_act_104 ?_
            refine j_icmpne (pc := 105) (tgt := 112) dX11_act_105 rfl (fun _ => ?_) (fun _ => ?_)
            · refine j_iconst (pc := 112) (v := 0) (by decide) dX11_act_112 ?_
              refine j_goto (pc := 113) (tgt := 138) dX11_act_113 rfl ?_
              exact j_ireturn (pc := 138) rfl (Nat.le_of_ble_eq_true rfl) (Nat.le_of_ble_eq_true rfl) dX11_act_138
            · refine j_iconst (pc := 108) (v := 1) (by decide) dX11_act_108 ?_
              refine j_goto (pc := 109) (tgt := 138) dX11_act_109 rfl ?_
              exact j_ireturn (pc := 138) rfl (Nat.le_of_ble_eq_true rfl) (Nat.le_of_ble_eq_true rfl) dX11_act_138
        · refine j_aload_n (pc := 78) 0 dX11_act_78 rfl rfl ?_
          refine j_iconst (pc := 79) (v := 2) (by decide) dX11_act_79 ?_
          refine j_callVI (pc := 80) (As := [aI 2]) (st := []) (fun l => c11_meets l v0 2) cs_RX11_146 rfl rfl rfl rfl (Nat.le_of_ble_eq_true rfl) ⟨(Nat.le_of_ble_eq_true rfl), (Nat.le_of_ble_eq_true rfl)⟩ ⟨(Nat.le_of_ble_eq_true rfl), (Nat.le_of_ble_eq_true rfl)⟩ dX11_act_80 (fun r11 σ12 => ?_)
          exact j_ireturn (pc := 83) rfl (Nat.le_of_ble_eq_true rfl) (Nat.le_of_ble_eq_true rfl) dX11_act_83
      · refine j_iload_n (pc := 31) 3 dX11_act_31 rfl rfl ?_
        refine j_ifne (pc := 32) (tgt := 44) dX11_act_32 rfl (fun _ => ?_) (fun _ => ?_)
        · refine j_aload_n (pc := 44) 0 dX11_act_44 rfl rfl ?_
          refine j_iload_n (pc := 45) 1 dX11_act_45 rfl rfl ?_
          refine j_iload_n (pc := 46) 3 dX11_act_46 rfl rfl ?_
          refine j_iconst (pc := 47) (v := 1) (by decide) dX11_act_47 ?_
          refine j_icmpne (pc := 48) (tgt := 55) dX11_act_48 rfl (fun _ => ?_) (fun _ => ?_)
          · refine j_iconst (pc := 55) (v := 0) (by decide) dX11_act_55 ?_
            refine j_callVI (pc := 56) (As := [aI v1, aI (bi false)]) (st := []) (fun l => c11_total l N v0 v1 false) cs_RX11_316 rfl rfl rfl rfl (Nat.le_of_ble_eq_true rfl) ⟨(Nat.le_of_ble_eq_true rfl), (Nat.le_of_ble_eq_true rfl)⟩ ⟨(Nat.le_of_ble_eq_true rfl), (Nat.le_of_ble_eq_true rfl)⟩ dX11_act_56 (fun r13 σ14 => ?_)
            exact j_ireturn (pc := 59) rfl (Nat.le_of_ble_eq_true rfl) (Nat.le_of_ble_eq_true rfl) dX11_act_59
          · refine j_iconst (pc := 51) (v := 1) (by decide) dX11_act_51 ?_
            refine j_goto (pc := 52) (tgt := 56) dX11_act_52 rfl ?_
            refine j_callVI (pc := 56) (As := [aI v1, aI (bi true)]) (st := []) (fun l => c11_total l N v0 v1 true) cs_RX11_316 rfl rfl rfl rfl (Nat.le_of_ble_eq_true rfl) ⟨(Nat.le_of_ble_eq_true rfl), (Nat.le_of_ble_eq_true rfl)⟩ ⟨(Nat.le_of_ble_eq_true rfl), (Nat.le_of_ble_eq_true rfl)⟩ dX11_act_56 (fun r15 σ16 => ?_)
            exact j_ireturn (pc := 59) rfl (Nat.le_of_ble_eq_true rfl) (Nat.le_of_ble_eq_true rfl) dX11_act_59
        · refine j_aload_n (pc := 35) 0 dX11_act_35 rfl rfl ?_
          refine j_getF (pc := 36) fd_29_33 tw_4_96 dX11_act_36 ?_
          refine j_iload_n (pc := 39) 1 dX11_act_39 rfl rfl ?_
          refine j_iald (pc := 40) rfl rfl rfl dX11_act_40 (fun j17 => ?_)
          refine j_goto (pc := 41) (tgt := 59) dX11_act_41 rfl ?_
          exact j_ireturn (pc := 59) rfl (Nat.le_of_ble_eq_true rfl) (Nat.le_of_ble_eq_true rfl) dX11_act_59
    · refine j_bipush (pc := 23) (v := (-102)) (by decide) dX11_act_23 ?_
      exact j_ireturn (pc := 25) rfl (Nat.le_of_ble_eq_true rfl) (Nat.le_of_ble_eq_true rfl) dX11_act_25
  · refine j_bipush (pc := 8) (v := (-101)) (by decide) dX11_act_8 ?_
    exact j_ireturn (pc := 10) rfl (Nat.le_of_ble_eq_true rfl) (Nat.le_of_ble_eq_true rfl) dX11_act_10
theorem c11_act (l : Launch) (N : Nat) (v0 : Nat) (v1 : Int32) (v2 : Int32) (v3 : Int32) : Ctr l yX11_act cX11_act 5 (some .int) rm11_act eI [aR 29 v0, aI v1, aI v2, aI v3] (f11_act N v0 v1 v2 v3) := ctr_of (lv := [(0, aR 29 v0), (1, aI v1), (2, aI v2), (3, aI v3)]) (by decide +kernel) (fun _ => rfl) (fun _ => (Nat.le_of_ble_eq_true rfl)) (fun _ h => lvl_als h rfl) (fun _ σ _ => j11_act N v0 v1 v2 v3 σ)
abbrev rm11_lay : Room := { frames := 0, cells := 0, slots := 0, locals := 0 }
set_option maxRecDepth 20000 in
set_option maxHeartbeats 4000000 in
theorem j11_lay {Γ : jX} {tg : Unit × rS} (v0 : Nat) (v1 : Int32) (v2 : Int32) (σ : rS) : J Γ rm11_lay eV cX11_lay RX11 3 none tg 0 0 0 [(0, aR 29 v0), (1, aI v1), (2, aI v2)] [] σ (f11_lay v0 v1 v2 σ) := by
  unfold f11_lay
  refine j_aload_n (pc := 0) 0 dX11_lay_0 rfl rfl ?_
  refine j_getF (pc := 1) fd_29_14 tw_4_77 dX11_lay_1 ?_
  refine j_sipush (pc := 4) (v := 400) (by decide) dX11_lay_4 ?_
  refine j_iload_n (pc := 7) 1 dX11_lay_7 rfl rfl ?_
  refine j_imul (pc := 8) dX11_lay_8 ?_
  refine j_aload_n (pc := 9) 0 dX11_lay_9 rfl rfl ?_
  refine j_getF (pc := 10) fd_29_15 tw_4_78 dX11_lay_10 ?_
  refine j_iload_n (pc := 13) 1 dX11_lay_13 rfl rfl ?_
  refine j_iald (pc := 14) rfl rfl rfl dX11_lay_14 (fun j1 => ?_)
  refine j_iadd (pc := 15) dX11_lay_15 ?_
  refine j_iload_n (pc := 16) 2 dX11_lay_16 rfl rfl ?_
  refine j_iast (pc := 17) rfl rfl rfl dX11_lay_17 (fun j2 => ?_)
  refine j_lets (fun σ3 => ?_)
  refine j_aload_n (pc := 18) 0 dX11_lay_18 rfl rfl ?_
  refine j_getF (pc := 19) fd_29_15 tw_4_78 dX11_lay_19 ?_
  refine j_iload_n (pc := 22) 1 dX11_lay_22 rfl rfl ?_
  refine j_dup2 (pc := 23) dX11_lay_23 rfl rfl ?_
  refine j_iald (pc := 24) rfl rfl rfl dX11_lay_24 (fun j4 => ?_)
  refine j_iconst (pc := 25) (v := 1) (by decide) dX11_lay_25 ?_
  refine j_iadd (pc := 26) dX11_lay_26 ?_
  refine j_iast (pc := 27) rfl rfl rfl dX11_lay_27 (fun j5 => ?_)
  refine j_lets (fun σ6 => ?_)
  exact j_return (pc := 28) rfl (Nat.le_of_ble_eq_true rfl) (Nat.le_of_ble_eq_true rfl) dX11_lay_28
theorem c11_lay (l : Launch) (v0 : Nat) (v1 : Int32) (v2 : Int32) : Ctr l yX11_lay cX11_lay 3 none rm11_lay eV [aR 29 v0, aI v1, aI v2] (f11_lay v0 v1 v2) := ctr_of (lv := [(0, aR 29 v0), (1, aI v1), (2, aI v2)]) (by decide +kernel) (fun _ => rfl) (fun _ => (Nat.le_of_ble_eq_true rfl)) (fun _ h => lvl_als h rfl) (fun _ σ _ => j11_lay v0 v1 v2 σ)
theorem cs_RX11_256 : CaV RX11 RX11 256 yX11_lay cX11_lay 3 none 2 := ⟨tw_5_124, tw_5_126, tw_p33, tw_1_5, tw_5_127, rfl, by decide +kernel, by decide +kernel, by decide +kernel⟩
abbrev rm11_add : Room := { frames := 2, cells := 0, slots := 0, locals := 46 }
set_option maxRecDepth 20000 in
set_option maxHeartbeats 4000000 in
theorem j11_add {Γ : jX} {tg : Int32 × rS} (v0 : Nat) (v1 : Int32) (v2 : Int32) (σ : rS) : J Γ rm11_add eI cX11_add RX11 3 (some .int) tg 0 0 0 [(0, aR 29 v0), (1, aI v1), (2, aI v2)] [] σ (f11_add v0 v1 v2 σ) := by
  unfold f11_add
  refine j_aload_n (pc := 0) 0 dX11_add_0 rfl rfl ?_
  refine j_iload_n (pc := 1) 1 dX11_add_1 rfl rfl ?_
  refine j_callVZ (pc := 2) (As := [aI v1]) (st := []) (fun l => c11_isStream l v0 v1) cs_RX11_247 rfl rfl rfl rfl (Nat.le_of_ble_eq_true rfl) ⟨(Nat.le_of_ble_eq_true rfl), (Nat.le_of_ble_eq_true rfl)⟩ ⟨(Nat.le_of_ble_eq_true rfl), (Nat.le_of_ble_eq_true rfl)⟩ dX11_add_2 (fun r1 σ2 => ?_)
  refine j_ifneB (pc := 5) (tgt := 11) dX11_add_5 rfl (fun _ => ?_) (fun _ => ?_)
  · refine j_aload_n (pc := 11) 0 dX11_add_11 rfl rfl ?_
    refine j_getF (pc := 12) fd_29_17 tw_4_80 dX11_add_12 ?_
    refine j_iload_n (pc := 15) 1 dX11_add_15 rfl rfl ?_
    refine j_zald (pc := 16) rfl rfl rfl dX11_add_16 (fun j3 => ?_)
    refine j_ifeq (pc := 17) (tgt := 23) dX11_add_17 rfl (fun _ => ?_) (fun _ => ?_)
    · refine j_aload_n (pc := 23) 0 dX11_add_23 rfl rfl ?_
      refine j_getF (pc := 24) fd_29_15 tw_4_78 dX11_add_24 ?_
      refine j_iload_n (pc := 27) 1 dX11_add_27 rfl rfl ?_
      refine j_iald (pc := 28) rfl rfl rfl dX11_add_28 (fun j4 => ?_)
      refine j_sipush (pc := 29) (v := 400) (by decide) dX11_add_29 ?_
      refine j_icmpne (pc := 32) (tgt := 38) dX11_add_32 rfl (fun _ => ?_) (fun _ => ?_)
      · refine j_aload_n (pc := 38) 0 dX11_add_38 rfl rfl ?_
        refine j_iload_n (pc := 39) 1 dX11_add_39 rfl rfl ?_
        refine j_iload_n (pc := 40) 2 dX11_add_40 rfl rfl ?_
        refine j_sipush (pc := 41) (v := 255) (by decide) dX11_add_41 ?_
        refine j_iand (pc := 44) dX11_add_44 ?_
        refine j_callVV (pc := 45) (As := [aI v1, aI (v2 &&& 255)]) (st := []) (fun l => c11_lay l v0 v1 (v2 &&& 255)) cs_RX11_256 rfl rfl rfl rfl (Nat.le_of_ble_eq_true rfl) ⟨(Nat.le_of_ble_eq_true rfl), (Nat.le_of_ble_eq_true rfl)⟩ ⟨(Nat.le_of_ble_eq_true rfl), (Nat.le_of_ble_eq_true rfl)⟩ dX11_add_45 (fun r5 σ6 => ?_)
        refine j_aload_n (pc := 48) 0 dX11_add_48 rfl rfl ?_
        refine j_getF (pc := 49) fd_29_15 tw_4_78 dX11_add_49 ?_
        refine j_iload_n (pc := 52) 1 dX11_add_52 rfl rfl ?_
        refine j_iald (pc := 53) rfl rfl rfl dX11_add_53 (fun j7 => ?_)
        exact j_ireturn (pc := 54) rfl (Nat.le_of_ble_eq_true rfl) (Nat.le_of_ble_eq_true rfl) dX11_add_54
      · refine j_bipush (pc := 35) (v := (-104)) (by decide) dX11_add_35 ?_
        exact j_ireturn (pc := 37) rfl (Nat.le_of_ble_eq_true rfl) (Nat.le_of_ble_eq_true rfl) dX11_add_37
    · refine j_bipush (pc := 20) (v := (-103)) (by decide) dX11_add_20 ?_
      exact j_ireturn (pc := 22) rfl (Nat.le_of_ble_eq_true rfl) (Nat.le_of_ble_eq_true rfl) dX11_add_22
  · refine j_bipush (pc := 8) (v := (-101)) (by decide) dX11_add_8 ?_
    exact j_ireturn (pc := 10) rfl (Nat.le_of_ble_eq_true rfl) (Nat.le_of_ble_eq_true rfl) dX11_add_10
theorem c11_add (l : Launch) (v0 : Nat) (v1 : Int32) (v2 : Int32) : Ctr l yX11_add cX11_add 3 (some .int) rm11_add eI [aR 29 v0, aI v1, aI v2] (f11_add v0 v1 v2) := ctr_of (lv := [(0, aR 29 v0), (1, aI v1), (2, aI v2)]) (by decide +kernel) (fun _ => rfl) (fun _ => (Nat.le_of_ble_eq_true rfl)) (fun _ h => lvl_als h rfl) (fun _ σ _ => j11_add v0 v1 v2 σ)
abbrev rm11_isRow : Room := { frames := 1, cells := 0, slots := 0, locals := 25 }
set_option maxRecDepth 20000 in
set_option maxHeartbeats 4000000 in
theorem j11_isRow {Γ : jX} {tg : Bool × rS} (v0 : Nat) (v1 : Int32) (σ : rS) : J Γ rm11_isRow eZ cX11_isRow RX11 2 (some .boolean) tg 0 0 0 [(0, aR 29 v0), (1, aI v1)] [] σ (f11_isRow v0 v1 σ) := by
  unfold f11_isRow
  refine j_iload_n (pc := 0) 1 dX11_isRow_0 rfl rfl ?_
  refine j_i2l (pc := 1) dX11_isRow_1 ?_
  refine j_lconst (pc := 2) (v := 0) (by decide) dX11_isRow_2 ?_
  refine j_aload_n (pc := 3) 0 dX11_isRow_3 rfl rfl ?_
  refine j_getI (pc := 4) fd_29_3 tw_4_66 dX11_isRow_4 ?_
  refine j_iconst (pc := 7) (v := 1) (by decide) dX11_isRow_7 ?_
  refine j_isub (pc := 8) dX11_isRow_8 ?_
  refine j_i2l (pc := 9) dX11_isRow_9 ?_
  refine j_callSZ (pc := 10) (As := [aL (Int32.toInt64 v1), aL 0, aL (Int32.toInt64 ((gI σ 29 v0 3) - 1))]) (st := []) (fun l => c11_in l (Int32.toInt64 v1) 0 (Int32.toInt64 ((gI σ 29 v0 3) - 1))) cs_RX11_140 rfl rfl (Nat.le_of_ble_eq_true rfl) ⟨(Nat.le_of_ble_eq_true rfl), (Nat.le_of_ble_eq_true rfl)⟩ ⟨(Nat.le_of_ble_eq_true rfl), (Nat.le_of_ble_eq_true rfl)⟩ dX11_isRow_10 (fun r1 σ2 => ?_)
  exact j_zretB (pc := 13) rfl (Nat.le_of_ble_eq_true rfl) (Nat.le_of_ble_eq_true rfl) dX11_isRow_13
theorem c11_isRow (l : Launch) (v0 : Nat) (v1 : Int32) : Ctr l yX11_isRow cX11_isRow 2 (some .boolean) rm11_isRow eZ [aR 29 v0, aI v1] (f11_isRow v0 v1) := ctr_of (lv := [(0, aR 29 v0), (1, aI v1)]) (by decide +kernel) (fun _ => rfl) (fun _ => (Nat.le_of_ble_eq_true rfl)) (fun _ h => lvl_als h rfl) (fun _ σ _ => j11_isRow v0 v1 σ)
theorem cs_RX11_154 : CaV RX11 RX11 154 yX11_isRow cX11_isRow 2 (some .boolean) 1 := ⟨tw_4_196, tw_4_198, tw_p23, tw_1_5, tw_4_199, rfl, by decide +kernel, by decide +kernel, by decide +kernel⟩
abbrev rm11_against : Room := { frames := 2, cells := 0, slots := 0, locals := 46 }
set_option maxRecDepth 20000 in
set_option maxHeartbeats 4000000 in
theorem j11_against {Γ : jX} {tg : Int32 × rS} (v0 : Nat) (v1 : Int32) (v2 : Int32) (σ : rS) : J Γ rm11_against eI cX11_against RX11 3 (some .int) tg 0 0 0 [(0, aR 29 v0), (1, aI v1), (2, aI v2)] [] σ (f11_against v0 v1 v2 σ) := by
  unfold f11_against
  refine j_aload_n (pc := 0) 0 dX11_against_0 rfl rfl ?_
  refine j_iload_n (pc := 1) 1 dX11_against_1 rfl rfl ?_
  refine j_callVZ (pc := 2) (As := [aI v1]) (st := []) (fun l => c11_isRow l v0 v1) cs_RX11_154 rfl rfl rfl rfl (Nat.le_of_ble_eq_true rfl) ⟨(Nat.le_of_ble_eq_true rfl), (Nat.le_of_ble_eq_true rfl)⟩ ⟨(Nat.le_of_ble_eq_true rfl), (Nat.le_of_ble_eq_true rfl)⟩ dX11_against_2 (fun r1 σ2 => ?_)
  refine j_ifneB (pc := 5) (tgt := 13) dX11_against_5 rfl (fun _ => ?_) (fun _ => ?_)
  · refine j_aload_n (pc := 13) 0 dX11_against_13 rfl rfl ?_
    refine j_getF (pc := 14) fd_29_6 tw_4_69 dX11_against_14 ?_
    refine j_iload_n (pc := 17) 1 dX11_against_17 rfl rfl ?_
    refine j_zald (pc := 18) rfl rfl rfl dX11_against_18 (fun j3 => ?_)
    refine j_ifeq (pc := 19) (tgt := 30) dX11_against_19 rfl (fun _ => ?_) (fun _ => ?_)
    · refine j_iload_n (pc := 30) 2 dX11_against_30 rfl rfl ?_
      refine j_i2l (pc := 31) dX11_against_31 ?_
      refine j_lconst (pc := 32) (v := 0) (by decide) dX11_against_32 ?_
      refine j_aload_n (pc := 33) 0 dX11_against_33 rfl rfl ?_
      refine j_getF (pc := 34) fd_29_5 tw_4_68 dX11_against_34 ?_
      refine j_iload_n (pc := 37) 1 dX11_against_37 rfl rfl ?_
      refine j_iald (pc := 38) rfl rfl rfl dX11_against_38 (fun j4 => ?_)
      refine j_iconst (pc := 39) (v := 1) (by decide) dX11_against_39 ?_
      refine j_isub (pc := 40) dX11_against_40 ?_
      refine j_i2l (pc := 41) dX11_against_41 ?_
      refine j_callSZ (pc := 42) (As := [aL (Int32.toInt64 v2), aL 0, aL (Int32.toInt64 ((gI σ2 35 v0 j4) - 1))]) (st := []) (fun l => c11_in l (Int32.toInt64 v2) 0 (Int32.toInt64 ((gI σ2 35 v0 j4) - 1))) cs_RX11_140 rfl rfl (Nat.le_of_ble_eq_true rfl) ⟨(Nat.le_of_ble_eq_true rfl), (Nat.le_of_ble_eq_true rfl)⟩ ⟨(Nat.le_of_ble_eq_true rfl), (Nat.le_of_ble_eq_true rfl)⟩ dX11_against_42 (fun r5 σ6 => ?_)
      refine j_ifneB (pc := 45) (tgt := 56) dX11_against_45 rfl (fun _ => ?_) (fun _ => ?_)
      · refine j_iconst (pc := 56) (v := 0) (by decide) dX11_against_56 ?_
        exact j_ireturn (pc := 57) rfl (Nat.le_of_ble_eq_true rfl) (Nat.le_of_ble_eq_true rfl) dX11_against_57
      · refine j_aload_n (pc := 48) 0 dX11_against_48 rfl rfl ?_
        refine j_iconst (pc := 49) (v := 2) (by decide) dX11_against_49 ?_
        refine j_callVI (pc := 50) (As := [aI 2]) (st := []) (fun l => c11_meets l v0 2) cs_RX11_146 rfl rfl rfl rfl (Nat.le_of_ble_eq_true rfl) ⟨(Nat.le_of_ble_eq_true rfl), (Nat.le_of_ble_eq_true rfl)⟩ ⟨(Nat.le_of_ble_eq_true rfl), (Nat.le_of_ble_eq_true rfl)⟩ dX11_against_50 (fun r7 σ8 => ?_)
        refine j_goto (pc := 53) (tgt := 57) dX11_against_53 rfl ?_
        exact j_ireturn (pc := 57) rfl (Nat.le_of_ble_eq_true rfl) (Nat.le_of_ble_eq_true rfl) dX11_against_57
    · refine j_aload_n (pc := 22) 0 dX11_against_22 rfl rfl ?_
      refine j_iconst (pc := 23) (v := 1) (by decide) dX11_against_23 ?_
      refine j_callVI (pc := 24) (As := [aI 1]) (st := []) (fun l => c11_meets l v0 1) cs_RX11_146 rfl rfl rfl rfl (Nat.le_of_ble_eq_true rfl) ⟨(Nat.le_of_ble_eq_true rfl), (Nat.le_of_ble_eq_true rfl)⟩ ⟨(Nat.le_of_ble_eq_true rfl), (Nat.le_of_ble_eq_true rfl)⟩ dX11_against_24 (fun r9 σ10 => ?_)
      refine j_goto (pc := 27) (tgt := 57) dX11_against_27 rfl ?_
      exact j_ireturn (pc := 57) rfl (Nat.le_of_ble_eq_true rfl) (Nat.le_of_ble_eq_true rfl) dX11_against_57
  · refine j_bipush (pc := 8) (v := (-101)) (by decide) dX11_against_8 ?_
    refine j_goto (pc := 10) (tgt := 57) dX11_against_10 rfl ?_
    exact j_ireturn (pc := 57) rfl (Nat.le_of_ble_eq_true rfl) (Nat.le_of_ble_eq_true rfl) dX11_against_57
theorem c11_against (l : Launch) (v0 : Nat) (v1 : Int32) (v2 : Int32) : Ctr l yX11_against cX11_against 3 (some .int) rm11_against eI [aR 29 v0, aI v1, aI v2] (f11_against v0 v1 v2) := ctr_of (lv := [(0, aR 29 v0), (1, aI v1), (2, aI v2)]) (by decide +kernel) (fun _ => rfl) (fun _ => (Nat.le_of_ble_eq_true rfl)) (fun _ h => lvl_als h rfl) (fun _ σ _ => j11_against v0 v1 v2 σ)
abbrev rm11_newStream : Room := { frames := 0, cells := 0, slots := 0, locals := 0 }
set_option maxRecDepth 20000 in
set_option maxHeartbeats 4000000 in
theorem j11_newStream {Γ : jX} {tg : Int32 × rS} (v0 : Nat) (σ : rS) : J Γ rm11_newStream eI cX11_newStream RX11 1 (some .int) tg 0 0 0 [(0, aR 29 v0)] [] σ (f11_newStream v0 σ) := by
  unfold f11_newStream
  refine j_aload_n (pc := 0) 0 dX11_newStream_0 rfl rfl ?_
  refine j_getF (pc := 1) fd_29_15 tw_4_78 dX11_newStream_1 ?_
  refine j_aload_n (pc := 4) 0 dX11_newStream_4 rfl rfl ?_
  refine j_getI (pc := 5) fd_29_13 tw_4_76 dX11_newStream_5 ?_
  refine j_iconst (pc := 8) (v := 0) (by decide) dX11_newStream_8 ?_
  refine j_iast (pc := 9) rfl rfl rfl dX11_newStream_9 (fun j1 => ?_)
  refine j_lets (fun σ2 => ?_)
  refine j_aload_n (pc := 10) 0 dX11_newStream_10 rfl rfl ?_
  refine j_getF (pc := 11) fd_29_16 tw_4_79 dX11_newStream_11 ?_
  refine j_aload_n (pc := 14) 0 dX11_newStream_14 rfl rfl ?_
  refine j_getI (pc := 15) fd_29_13 tw_4_76 dX11_newStream_15 ?_
  refine j_iconst (pc := 18) (v := 0) (by decide) dX11_newStream_18 ?_
  refine j_iast (pc := 19) rfl rfl rfl dX11_newStream_19 (fun j3 => ?_)
  refine j_lets (fun σ4 => ?_)
  refine j_aload_n (pc := 20) 0 dX11_newStream_20 rfl rfl ?_
  refine j_getF (pc := 21) fd_29_17 tw_4_80 dX11_newStream_21 ?_
  refine j_aload_n (pc := 24) 0 dX11_newStream_24 rfl rfl ?_
  refine j_getI (pc := 25) fd_29_13 tw_4_76 dX11_newStream_25 ?_
  refine j_iconst (pc := 28) (v := 0) (by decide) dX11_newStream_28 ?_
  refine j_zast (pc := 29) rfl rfl rfl dX11_newStream_29 (fun j5 => ?_)
  refine j_lets (fun σ6 => ?_)
  refine j_aload_n (pc := 30) 0 dX11_newStream_30 rfl rfl ?_
  refine j_dup (pc := 31) dX11_newStream_31 rfl ?_
  refine j_getI (pc := 32) fd_29_13 tw_4_76 dX11_newStream_32 ?_
  refine j_iconst (pc := 35) (v := 1) (by decide) dX11_newStream_35 ?_
  refine j_iadd (pc := 36) dX11_newStream_36 ?_
  refine j_putI (pc := 37) fd_29_13 rfl rfl tw_4_76 dX11_newStream_37 ?_
  refine j_lets (fun σ7 => ?_)
  refine j_aload_n (pc := 40) 0 dX11_newStream_40 rfl rfl ?_
  refine j_getI (pc := 41) fd_29_13 tw_4_76 dX11_newStream_41 ?_
  refine j_iconst (pc := 44) (v := 1) (by decide) dX11_newStream_44 ?_
  refine j_isub (pc := 45) dX11_newStream_45 ?_
  exact j_ireturn (pc := 46) rfl (Nat.le_of_ble_eq_true rfl) (Nat.le_of_ble_eq_true rfl) dX11_newStream_46
theorem c11_newStream (l : Launch) (v0 : Nat) : Ctr l yX11_newStream cX11_newStream 1 (some .int) rm11_newStream eI [aR 29 v0] (f11_newStream v0) := ctr_of (lv := [(0, aR 29 v0)]) (by decide +kernel) (fun _ => rfl) (fun _ => (Nat.le_of_ble_eq_true rfl)) (fun _ h => lvl_als h rfl) (fun _ σ _ => j11_newStream v0 σ)
theorem cs_RX11_243 : CaV RX11 RX11 243 yX11_newStream cX11_newStream 1 (some .int) 0 := ⟨tw_5_85, tw_5_87, tw_p25, tw_1_5, tw_5_88, rfl, by decide +kernel, by decide +kernel, by decide +kernel⟩
abbrev rm11_apply : Room := { frames := 2, cells := 0, slots := 0, locals := 46 }
set_option maxRecDepth 20000 in
set_option maxHeartbeats 4000000 in
theorem jb11_apply_183 {Γ : jX} {tg : Int32 × rS} (N : Nat) (K85 : Nat → Int32 → Int32 → Int32 → Int32 → Int32 → rS → Option (Int32 × rS)) (K114 : Nat → Int32 → Int32 → Int32 → Int32 → Int32 → Int32 → Int32 → rS → Option (Int32 × rS)) (hK85 : ∀ (v0 : Nat) (v1 : Int32) (v2 : Int32) (v3 : Int32) (v4 : Int32) (v5 : Int32) (σ : rS), J Γ rm11_apply eI cX11_apply RX11 8 (some .int) tg 0 0 85 [(0, aR 29 v0), (1, aI v1), (2, aI v2), (3, aI v3), (4, aI v4), (5, aI v5)] [] σ (K85 v0 v1 v2 v3 v4 v5 σ)) (hK114 : ∀ (v0 : Nat) (v1 : Int32) (v2 : Int32) (v3 : Int32) (v4 : Int32) (v5 : Int32) (v6 : Int32) (v7 : Int32) (σ : rS), J Γ rm11_apply eI cX11_apply RX11 8 (some .int) tg 0 0 114 [(0, aR 29 v0), (1, aI v1), (2, aI v2), (3, aI v3), (4, aI v4), (5, aI v5), (6, aI v6), (7, aI v7)] [] σ (K114 v0 v1 v2 v3 v4 v5 v6 v7 σ)) (v0 : Nat) (v1 : Int32) (v2 : Int32) (v3 : Int32) (v4 : Int32) (v5 : Int32) (v6 : Int32) (v7 : Int32) (σ : rS) : J Γ rm11_apply eI cX11_apply RX11 8 (some .int) tg 0 0 183 [(0, aR 29 v0), (1, aI v1), (2, aI v2), (3, aI v3), (4, aI v4), (5, aI v5), (6, aI v6), (7, aI v7)] [] σ (B11_apply_183 N K85 K114 v0 v1 v2 v3 v4 v5 v6 v7 σ) := by
  unfold B11_apply_183
  refine j_iinc (pc := 183) (w := 1) (lv' := [(7, aI (v7 + 1)), (0, aR 29 v0), (1, aI v1), (2, aI v2), (3, aI v3), (4, aI v4), (5, aI v5), (6, aI v6)]) 7 dX11_apply_183 rfl (by decide) (Nat.le_of_ble_eq_true rfl) rfl ?_
  refine j_goto (pc := 186) (tgt := 114) dX11_apply_186 rfl ?_
  refine j_sub [1, 2, 3, 4, 5, 6, 7, 0] (lv' := [(0, aR 29 v0), (1, aI v1), (2, aI v2), (3, aI v3), (4, aI v4), (5, aI v5), (6, aI v6), (7, aI (v7 + 1))]) rfl ?_
  exact hK114 v0 v1 v2 v3 v4 v5 v6 (v7 + 1) σ
set_option maxRecDepth 20000 in
set_option maxHeartbeats 4000000 in
theorem jb11_apply_114 {Γ : jX} {tg : Int32 × rS} (N : Nat) (K85 : Nat → Int32 → Int32 → Int32 → Int32 → Int32 → rS → Option (Int32 × rS)) (K114 : Nat → Int32 → Int32 → Int32 → Int32 → Int32 → Int32 → Int32 → rS → Option (Int32 × rS)) (hK85 : ∀ (v0 : Nat) (v1 : Int32) (v2 : Int32) (v3 : Int32) (v4 : Int32) (v5 : Int32) (σ : rS), J Γ rm11_apply eI cX11_apply RX11 8 (some .int) tg 0 0 85 [(0, aR 29 v0), (1, aI v1), (2, aI v2), (3, aI v3), (4, aI v4), (5, aI v5)] [] σ (K85 v0 v1 v2 v3 v4 v5 σ)) (hK114 : ∀ (v0 : Nat) (v1 : Int32) (v2 : Int32) (v3 : Int32) (v4 : Int32) (v5 : Int32) (v6 : Int32) (v7 : Int32) (σ : rS), J Γ rm11_apply eI cX11_apply RX11 8 (some .int) tg 0 0 114 [(0, aR 29 v0), (1, aI v1), (2, aI v2), (3, aI v3), (4, aI v4), (5, aI v5), (6, aI v6), (7, aI v7)] [] σ (K114 v0 v1 v2 v3 v4 v5 v6 v7 σ)) (v0 : Nat) (v1 : Int32) (v2 : Int32) (v3 : Int32) (v4 : Int32) (v5 : Int32) (v6 : Int32) (v7 : Int32) (σ : rS) : J Γ rm11_apply eI cX11_apply RX11 8 (some .int) tg 0 0 114 [(0, aR 29 v0), (1, aI v1), (2, aI v2), (3, aI v3), (4, aI v4), (5, aI v5), (6, aI v6), (7, aI v7)] [] σ (B11_apply_114 N K85 K114 v0 v1 v2 v3 v4 v5 v6 v7 σ) := by
  unfold B11_apply_114
  refine j_iload (pc := 114) 7 dX11_apply_114 rfl ?_
  refine j_aload_n (pc := 116) 0 dX11_apply_116 rfl rfl ?_
  refine j_getF (pc := 117) fd_29_35 tw_4_98 dX11_apply_117 ?_
  refine j_sipush (pc := 120) (v := 400) (by decide) dX11_apply_120 ?_
  refine j_iload_n (pc := 123) 1 dX11_apply_123 rfl rfl ?_
  refine j_imul (pc := 124) dX11_apply_124 ?_
  refine j_iload (pc := 125) 5 dX11_apply_125 rfl ?_
  refine j_iadd (pc := 127) dX11_apply_127 ?_
  refine j_iald (pc := 128) rfl rfl rfl dX11_apply_128 (fun j1 => ?_)
  refine j_icmpge (pc := 129) (tgt := 189) dX11_apply_129 rfl (fun _ => ?_) (fun _ => ?_)
  · refine j_iinc (pc := 189) (w := 1) (lv' := [(5, aI (v5 + 1)), (0, aR 29 v0), (1, aI v1), (2, aI v2), (3, aI v3), (4, aI v4), (6, aI v6), (7, aI v7)]) 5 dX11_apply_189 rfl (by decide) (Nat.le_of_ble_eq_true rfl) rfl ?_
    refine j_goto (pc := 192) (tgt := 85) dX11_apply_192 rfl ?_
    refine j_sub [1, 2, 3, 4, 5, 0] (lv' := [(0, aR 29 v0), (1, aI v1), (2, aI v2), (3, aI v3), (4, aI v4), (5, aI (v5 + 1))]) rfl ?_
    exact hK85 v0 v1 v2 v3 v4 (v5 + 1) σ
  · refine j_iload (pc := 132) 6 dX11_apply_132 rfl ?_
    refine j_iconst (pc := 134) (v := (-1)) (by decide) dX11_apply_134 ?_
    refine j_icmpne (pc := 135) (tgt := 162) dX11_apply_135 rfl (fun _ => ?_) (fun _ => ?_)
    · refine j_aload_n (pc := 162) 0 dX11_apply_162 rfl rfl ?_
      refine j_iload_n (pc := 163) 3 dX11_apply_163 rfl rfl ?_
      refine j_aload_n (pc := 164) 0 dX11_apply_164 rfl rfl ?_
      refine j_getF (pc := 165) fd_29_14 tw_4_77 dX11_apply_165 ?_
      refine j_sipush (pc := 168) (v := 400) (by decide) dX11_apply_168 ?_
      refine j_iload_n (pc := 171) 2 dX11_apply_171 rfl rfl ?_
      refine j_imul (pc := 172) dX11_apply_172 ?_
      refine j_iload (pc := 173) 6 dX11_apply_173 rfl ?_
      refine j_iadd (pc := 175) dX11_apply_175 ?_
      refine j_iload (pc := 176) 7 dX11_apply_176 rfl ?_
      refine j_iadd (pc := 178) dX11_apply_178 ?_
      refine j_iald (pc := 179) rfl rfl rfl dX11_apply_179 (fun j2 => ?_)
      refine j_callVV (pc := 180) (As := [aI v3, aI (gI σ 44 v0 j2)]) (st := []) (fun l => c11_lay l v0 v3 (gI σ 44 v0 j2)) cs_RX11_256 rfl rfl rfl rfl (Nat.le_of_ble_eq_true rfl) ⟨(Nat.le_of_ble_eq_true rfl), (Nat.le_of_ble_eq_true rfl)⟩ ⟨(Nat.le_of_ble_eq_true rfl), (Nat.le_of_ble_eq_true rfl)⟩ dX11_apply_180 (fun r3 σ4 => ?_)
      exact jb11_apply_183 N K85 K114 hK85 hK114 v0 v1 v2 v3 v4 v5 v6 v7 σ4
    · refine j_aload_n (pc := 138) 0 dX11_apply_138 rfl rfl ?_
      refine j_iload_n (pc := 139) 3 dX11_apply_139 rfl rfl ?_
      refine j_aload_n (pc := 140) 0 dX11_apply_140 rfl rfl ?_
      refine j_getF (pc := 141) fd_29_36 tw_4_99 dX11_apply_141 ?_
      refine j_sipush (pc := 144) (v := 400) (by decide) dX11_apply_144 ?_
      refine j_iload_n (pc := 147) 1 dX11_apply_147 rfl rfl ?_
      refine j_imul (pc := 148) dX11_apply_148 ?_
      refine j_iload (pc := 149) 4 dX11_apply_149 rfl ?_
      refine j_iadd (pc := 151) dX11_apply_151 ?_
      refine j_iald (pc := 152) rfl rfl rfl dX11_apply_152 (fun j5 => ?_)
      refine j_callVV (pc := 153) (As := [aI v3, aI (gI σ 66 v0 j5)]) (st := []) (fun l => c11_lay l v0 v3 (gI σ 66 v0 j5)) cs_RX11_256 rfl rfl rfl rfl (Nat.le_of_ble_eq_true rfl) ⟨(Nat.le_of_ble_eq_true rfl), (Nat.le_of_ble_eq_true rfl)⟩ ⟨(Nat.le_of_ble_eq_true rfl), (Nat.le_of_ble_eq_true rfl)⟩ dX11_apply_153 (fun r6 σ7 => ?_)
      refine j_iinc (pc := 156) (w := 1) (lv' := [(4, aI (v4 + 1)), (0, aR 29 v0), (1, aI v1), (2, aI v2), (3, aI v3), (5, aI v5), (6, aI v6), (7, aI v7)]) 4 dX11_apply_156 rfl (by decide) (Nat.le_of_ble_eq_true rfl) rfl ?_
      refine j_goto (pc := 159) (tgt := 183) dX11_apply_159 rfl ?_
      refine j_sub [1, 2, 3, 4, 0, 5, 6, 7] (lv' := [(0, aR 29 v0), (1, aI v1), (2, aI v2), (3, aI v3), (4, aI (v4 + 1)), (5, aI v5), (6, aI v6), (7, aI v7)]) rfl ?_
      exact jb11_apply_183 N K85 K114 hK85 hK114 v0 v1 v2 v3 (v4 + 1) v5 v6 v7 σ7
theorem jl11_apply_114 {Γ : jX} {tg : Int32 × rS} (N : Nat) (K85 : Nat → Int32 → Int32 → Int32 → Int32 → Int32 → rS → Option (Int32 × rS)) (hK85 : ∀ (v0 : Nat) (v1 : Int32) (v2 : Int32) (v3 : Int32) (v4 : Int32) (v5 : Int32) (σ : rS), J Γ rm11_apply eI cX11_apply RX11 8 (some .int) tg 0 0 85 [(0, aR 29 v0), (1, aI v1), (2, aI v2), (3, aI v3), (4, aI v4), (5, aI v5)] [] σ (K85 v0 v1 v2 v3 v4 v5 σ)) : ∀ (n : Nat) (v0 : Nat) (v1 : Int32) (v2 : Int32) (v3 : Int32) (v4 : Int32) (v5 : Int32) (v6 : Int32) (v7 : Int32) (σ : rS), J Γ rm11_apply eI cX11_apply RX11 8 (some .int) tg 0 0 114 [(0, aR 29 v0), (1, aI v1), (2, aI v2), (3, aI v3), (4, aI v4), (5, aI v5), (6, aI v6), (7, aI v7)] [] σ (L11_apply_114 N K85 n v0 v1 v2 v3 v4 v5 v6 v7 σ) := by
  intro n
  induction n with
  | zero => intro v0 v1 v2 v3 v4 v5 v6 v7 σ; exact j_none
  | succ n ih => intro v0 v1 v2 v3 v4 v5 v6 v7 σ; exact jb11_apply_114 N K85 (L11_apply_114 N K85 n) hK85 ih v0 v1 v2 v3 v4 v5 v6 v7 σ
set_option maxRecDepth 20000 in
set_option maxHeartbeats 4000000 in
theorem jb11_apply_85 {Γ : jX} {tg : Int32 × rS} (N : Nat) (K85 : Nat → Int32 → Int32 → Int32 → Int32 → Int32 → rS → Option (Int32 × rS)) (hK85 : ∀ (v0 : Nat) (v1 : Int32) (v2 : Int32) (v3 : Int32) (v4 : Int32) (v5 : Int32) (σ : rS), J Γ rm11_apply eI cX11_apply RX11 8 (some .int) tg 0 0 85 [(0, aR 29 v0), (1, aI v1), (2, aI v2), (3, aI v3), (4, aI v4), (5, aI v5)] [] σ (K85 v0 v1 v2 v3 v4 v5 σ)) (v0 : Nat) (v1 : Int32) (v2 : Int32) (v3 : Int32) (v4 : Int32) (v5 : Int32) (σ : rS) : J Γ rm11_apply eI cX11_apply RX11 8 (some .int) tg 0 0 85 [(0, aR 29 v0), (1, aI v1), (2, aI v2), (3, aI v3), (4, aI v4), (5, aI v5)] [] σ (B11_apply_85 N K85 v0 v1 v2 v3 v4 v5 σ) := by
  unfold B11_apply_85
  refine j_iload (pc := 85) 5 dX11_apply_85 rfl ?_
  refine j_aload_n (pc := 87) 0 dX11_apply_87 rfl rfl ?_
  refine j_getF (pc := 88) fd_29_33 tw_4_96 dX11_apply_88 ?_
  refine j_iload_n (pc := 91) 1 dX11_apply_91 rfl rfl ?_
  refine j_iald (pc := 92) rfl rfl rfl dX11_apply_92 (fun j1 => ?_)
  refine j_icmpge (pc := 93) (tgt := 195) dX11_apply_93 rfl (fun _ => ?_) (fun _ => ?_)
  · refine j_iload_n (pc := 195) 3 dX11_apply_195 rfl rfl ?_
    exact j_ireturn (pc := 196) rfl (Nat.le_of_ble_eq_true rfl) (Nat.le_of_ble_eq_true rfl) dX11_apply_196
  · refine j_aload_n (pc := 96) 0 dX11_apply_96 rfl rfl ?_
    refine j_getF (pc := 97) fd_29_34 tw_4_97 dX11_apply_97 ?_
    refine j_sipush (pc := 100) (v := 400) (by decide) dX11_apply_100 ?_
    refine j_iload_n (pc := 103) 1 dX11_apply_103 rfl rfl ?_
    refine j_imul (pc := 104) dX11_apply_104 ?_
    refine j_iload (pc := 105) 5 dX11_apply_105 rfl ?_
    refine j_iadd (pc := 107) dX11_apply_107 ?_
    refine j_iald (pc := 108) rfl rfl rfl dX11_apply_108 (fun j2 => ?_)
    refine j_leti (fun x3 => ?_)
    refine j_istore (pc := 109) (lv' := [(6, aI x3), (0, aR 29 v0), (1, aI v1), (2, aI v2), (3, aI v3), (4, aI v4), (5, aI v5)]) dX11_apply_109 (Nat.le_of_ble_eq_true rfl) rfl ?_
    refine j_iconst (pc := 111) (v := 0) (by decide) dX11_apply_111 ?_
    refine j_istore (pc := 112) (lv' := [(7, aI 0), (6, aI x3), (0, aR 29 v0), (1, aI v1), (2, aI v2), (3, aI v3), (4, aI v4), (5, aI v5)]) dX11_apply_112 (Nat.le_of_ble_eq_true rfl) rfl ?_
    refine j_sub [2, 3, 4, 5, 6, 7, 1, 0] (lv' := [(0, aR 29 v0), (1, aI v1), (2, aI v2), (3, aI v3), (4, aI v4), (5, aI v5), (6, aI x3), (7, aI 0)]) rfl ?_
    exact jl11_apply_114 N K85 hK85 N v0 v1 v2 v3 v4 v5 x3 0 σ
theorem jl11_apply_85 {Γ : jX} {tg : Int32 × rS} (N : Nat) : ∀ (n : Nat) (v0 : Nat) (v1 : Int32) (v2 : Int32) (v3 : Int32) (v4 : Int32) (v5 : Int32) (σ : rS), J Γ rm11_apply eI cX11_apply RX11 8 (some .int) tg 0 0 85 [(0, aR 29 v0), (1, aI v1), (2, aI v2), (3, aI v3), (4, aI v4), (5, aI v5)] [] σ (L11_apply_85 N n v0 v1 v2 v3 v4 v5 σ) := by
  intro n
  induction n with
  | zero => intro v0 v1 v2 v3 v4 v5 σ; exact j_none
  | succ n ih => intro v0 v1 v2 v3 v4 v5 σ; exact jb11_apply_85 N (L11_apply_85 N n) ih v0 v1 v2 v3 v4 v5 σ
set_option maxRecDepth 20000 in
set_option maxHeartbeats 4000000 in
theorem j11_apply {Γ : jX} {tg : Int32 × rS} (N : Nat) (v0 : Nat) (v1 : Int32) (v2 : Int32) (σ : rS) : J Γ rm11_apply eI cX11_apply RX11 8 (some .int) tg 0 0 0 [(0, aR 29 v0), (1, aI v1), (2, aI v2)] [] σ (f11_apply N v0 v1 v2 σ) := by
  unfold f11_apply
  refine j_aload_n (pc := 0) 0 dX11_apply_0 rfl rfl ?_
  refine j_iload_n (pc := 1) 1 dX11_apply_1 rfl rfl ?_
  refine j_callVZ (pc := 2) (As := [aI v1]) (st := []) (fun l => c11_isDelta l v0 v1) cs_RX11_313 rfl rfl rfl rfl (Nat.le_of_ble_eq_true rfl) ⟨(Nat.le_of_ble_eq_true rfl), (Nat.le_of_ble_eq_true rfl)⟩ ⟨(Nat.le_of_ble_eq_true rfl), (Nat.le_of_ble_eq_true rfl)⟩ dX11_apply_2 (fun r1 σ2 => ?_)
  refine j_ifeqB (pc := 5) (tgt := 16) dX11_apply_5 rfl (fun _ => ?_) (fun _ => ?_)
  · refine j_bipush (pc := 16) (v := (-101)) (by decide) dX11_apply_16 ?_
    exact j_ireturn (pc := 18) rfl (Nat.le_of_ble_eq_true rfl) (Nat.le_of_ble_eq_true rfl) dX11_apply_18
  · refine j_aload_n (pc := 8) 0 dX11_apply_8 rfl rfl ?_
    refine j_iload_n (pc := 9) 2 dX11_apply_9 rfl rfl ?_
    refine j_callVZ (pc := 10) (As := [aI v2]) (st := []) (fun l => c11_isStream l v0 v2) cs_RX11_247 rfl rfl rfl rfl (Nat.le_of_ble_eq_true rfl) ⟨(Nat.le_of_ble_eq_true rfl), (Nat.le_of_ble_eq_true rfl)⟩ ⟨(Nat.le_of_ble_eq_true rfl), (Nat.le_of_ble_eq_true rfl)⟩ dX11_apply_10 (fun r3 σ4 => ?_)
    refine j_ifneB (pc := 13) (tgt := 19) dX11_apply_13 rfl (fun _ => ?_) (fun _ => ?_)
    · refine j_aload_n (pc := 19) 0 dX11_apply_19 rfl rfl ?_
      refine j_getF (pc := 20) fd_29_15 tw_4_78 dX11_apply_20 ?_
      refine j_iload_n (pc := 23) 2 dX11_apply_23 rfl rfl ?_
      refine j_iald (pc := 24) rfl rfl rfl dX11_apply_24 (fun j5 => ?_)
      refine j_aload_n (pc := 25) 0 dX11_apply_25 rfl rfl ?_
      refine j_getF (pc := 26) fd_29_31 tw_4_94 dX11_apply_26 ?_
      refine j_iload_n (pc := 29) 1 dX11_apply_29 rfl rfl ?_
      refine j_iald (pc := 30) rfl rfl rfl dX11_apply_30 (fun j6 => ?_)
      refine j_icmpne (pc := 31) (tgt := 55) dX11_apply_31 rfl (fun _ => ?_) (fun _ => ?_)
      · refine j_aload_n (pc := 55) 0 dX11_apply_55 rfl rfl ?_
        refine j_bipush (pc := 56) (v := 9) (by decide) dX11_apply_56 ?_
        refine j_callVI (pc := 58) (As := [aI 9]) (st := []) (fun l => c11_meets l v0 9) cs_RX11_146 rfl rfl rfl rfl (Nat.le_of_ble_eq_true rfl) ⟨(Nat.le_of_ble_eq_true rfl), (Nat.le_of_ble_eq_true rfl)⟩ ⟨(Nat.le_of_ble_eq_true rfl), (Nat.le_of_ble_eq_true rfl)⟩ dX11_apply_58 (fun r7 σ8 => ?_)
        exact j_ireturn (pc := 61) rfl (Nat.le_of_ble_eq_true rfl) (Nat.le_of_ble_eq_true rfl) dX11_apply_61
      · refine j_aload_n (pc := 34) 0 dX11_apply_34 rfl rfl ?_
        refine j_iload_n (pc := 35) 2 dX11_apply_35 rfl rfl ?_
        refine j_iconst (pc := 36) (v := 0) (by decide) dX11_apply_36 ?_
        refine j_aload_n (pc := 37) 0 dX11_apply_37 rfl rfl ?_
        refine j_getF (pc := 38) fd_29_15 tw_4_78 dX11_apply_38 ?_
        refine j_iload_n (pc := 41) 2 dX11_apply_41 rfl rfl ?_
        refine j_iald (pc := 42) rfl rfl rfl dX11_apply_42 (fun j9 => ?_)
        refine j_callVI (pc := 43) (As := [aI v2, aI 0, aI (gI σ4 45 v0 j9)]) (st := []) (fun l => c11_sumOf l N v0 v2 0 (gI σ4 45 v0 j9)) cs_RX11_259 rfl rfl rfl rfl (Nat.le_of_ble_eq_true rfl) ⟨(Nat.le_of_ble_eq_true rfl), (Nat.le_of_ble_eq_true rfl)⟩ ⟨(Nat.le_of_ble_eq_true rfl), (Nat.le_of_ble_eq_true rfl)⟩ dX11_apply_43 (fun r10 σ11 => ?_)
        refine j_aload_n (pc := 46) 0 dX11_apply_46 rfl rfl ?_
        refine j_getF (pc := 47) fd_29_32 tw_4_95 dX11_apply_47 ?_
        refine j_iload_n (pc := 50) 1 dX11_apply_50 rfl rfl ?_
        refine j_iald (pc := 51) rfl rfl rfl dX11_apply_51 (fun j12 => ?_)
        refine j_icmpeq (pc := 52) (tgt := 62) dX11_apply_52 rfl (fun _ => ?_) (fun _ => ?_)
        · refine j_aload_n (pc := 62) 0 dX11_apply_62 rfl rfl ?_
          refine j_getI (pc := 63) fd_29_13 tw_4_76 dX11_apply_63 ?_
          refine j_bipush (pc := 66) (v := 24) (by decide) dX11_apply_66 ?_
          refine j_icmpne (pc := 68) (tgt := 74) dX11_apply_68 rfl (fun _ => ?_) (fun _ => ?_)
          · refine j_aload_n (pc := 74) 0 dX11_apply_74 rfl rfl ?_
            refine j_callVI (pc := 75) (As := []) (st := []) (fun l => c11_newStream l v0) cs_RX11_243 rfl rfl rfl rfl (Nat.le_of_ble_eq_true rfl) ⟨(Nat.le_of_ble_eq_true rfl), (Nat.le_of_ble_eq_true rfl)⟩ ⟨(Nat.le_of_ble_eq_true rfl), (Nat.le_of_ble_eq_true rfl)⟩ dX11_apply_75 (fun r13 σ14 => ?_)
            refine j_istore_n (pc := 78) (lv' := [(3, aI r13), (0, aR 29 v0), (1, aI v1), (2, aI v2)]) dX11_apply_78 rfl (Nat.le_of_ble_eq_true rfl) rfl ?_
            refine j_iconst (pc := 79) (v := 0) (by decide) dX11_apply_79 ?_
            refine j_istore (pc := 80) (lv' := [(4, aI 0), (3, aI r13), (0, aR 29 v0), (1, aI v1), (2, aI v2)]) dX11_apply_80 (Nat.le_of_ble_eq_true rfl) rfl ?_
            refine j_iconst (pc := 82) (v := 0) (by decide) dX11_apply_82 ?_
            refine j_istore (pc := 83) (lv' := [(5, aI 0), (4, aI 0), (3, aI r13), (0, aR 29 v0), (1, aI v1), (2, aI v2)]) dX11_apply_83 (Nat.le_of_ble_eq_true rfl) rfl ?_
            refine j_sub [3, 4, 5, 2, 1, 0] (lv' := [(0, aR 29 v0), (1, aI v1), (2, aI v2), (3, aI r13), (4, aI 0), (5, aI 0)]) rfl ?_
            exact jl11_apply_85 N  N v0 v1 v2 r13 0 0 σ14
          · refine j_bipush (pc := 71) (v := (-104)) (by decide) dX11_apply_71 ?_
            exact j_ireturn (pc := 73) rfl (Nat.le_of_ble_eq_true rfl) (Nat.le_of_ble_eq_true rfl) dX11_apply_73
        · refine j_aload_n (pc := 55) 0 dX11_apply_55 rfl rfl ?_
          refine j_bipush (pc := 56) (v := 9) (by decide) dX11_apply_56 ?_
          refine j_callVI (pc := 58) (As := [aI 9]) (st := []) (fun l => c11_meets l v0 9) cs_RX11_146 rfl rfl rfl rfl (Nat.le_of_ble_eq_true rfl) ⟨(Nat.le_of_ble_eq_true rfl), (Nat.le_of_ble_eq_true rfl)⟩ ⟨(Nat.le_of_ble_eq_true rfl), (Nat.le_of_ble_eq_true rfl)⟩ dX11_apply_58 (fun r15 σ16 => ?_)
          exact j_ireturn (pc := 61) rfl (Nat.le_of_ble_eq_true rfl) (Nat.le_of_ble_eq_true rfl) dX11_apply_61
    · refine j_bipush (pc := 16) (v := (-101)) (by decide) dX11_apply_16 ?_
      exact j_ireturn (pc := 18) rfl (Nat.le_of_ble_eq_true rfl) (Nat.le_of_ble_eq_true rfl) dX11_apply_18
theorem c11_apply (l : Launch) (N : Nat) (v0 : Nat) (v1 : Int32) (v2 : Int32) : Ctr l yX11_apply cX11_apply 8 (some .int) rm11_apply eI [aR 29 v0, aI v1, aI v2] (f11_apply N v0 v1 v2) := ctr_of (lv := [(0, aR 29 v0), (1, aI v1), (2, aI v2)]) (by decide +kernel) (fun _ => rfl) (fun _ => (Nat.le_of_ble_eq_true rfl)) (fun _ h => lvl_als h rfl) (fun _ σ _ => j11_apply N v0 v1 v2 σ)
