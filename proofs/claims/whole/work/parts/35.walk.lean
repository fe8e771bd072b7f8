abbrev rm11_real : Room := { frames := 1, cells := 0, slots := 0, locals := 40 }
set_option maxRecDepth 20000 in
set_option maxHeartbeats 4000000 in
theorem j11_real {Γ : jX} {tg : UInt64 × rS} (v0 : Int32) (v1 : Int64) (σ : rS) : J Γ rm11_real eD cX11_real RX11 3 (some .double) tg 0 0 0 [(0, aI v0), (1, aL v1)] [] σ (f11_real v0 v1 σ) := by
  unfold f11_real
  refine j_iload_n (pc := 0) 0 dX11_real_0 rfl rfl ?_
  refine j_bipush (pc := 1) (v := 6) (by decide) dX11_real_1 ?_
  refine j_icmpne (pc := 3) (tgt := 15) dX11_real_3 rfl (fun _ => ?_) (fun _ => ?_)
  · refine j_lload_n (pc := 15) 1 dX11_real_15 rfl rfl ?_
    refine j_ock (fun hn => ?_)
    refine j_nl2d (pc := 16) tw_5_12 hn (Nat.le_of_ble_eq_true rfl) (Nat.le_of_ble_eq_true rfl) (Nat.le_of_ble_eq_true rfl) dX11_real_16 ?_
    exact j_dreturn (pc := 19) rfl (Nat.le_of_ble_eq_true rfl) (Nat.le_of_ble_eq_true rfl) dX11_real_19
  · refine j_lload_n (pc := 6) 1 dX11_real_6 rfl rfl ?_
    refine j_l2i (pc := 7) dX11_real_7 ?_
    refine j_ock (fun hn => ?_)
    refine j_ni2f (pc := 8) tw_5_9 hn (Nat.le_of_ble_eq_true rfl) (Nat.le_of_ble_eq_true rfl) (Nat.le_of_ble_eq_true rfl) dX11_real_8 ?_
    refine j_ock (fun hn => ?_)
    refine j_f2d (pc := 11) dX11_real_11 (nn64_ok hn) ?_
    refine j_goto (pc := 12) (tgt := 19) dX11_real_12 rfl ?_
    exact j_dreturn (pc := 19) rfl (Nat.le_of_ble_eq_true rfl) (Nat.le_of_ble_eq_true rfl) dX11_real_19
theorem c11_real (l : Launch) (v0 : Int32) (v1 : Int64) : Ctr l yX11_real cX11_real 3 (some .double) rm11_real eD [aI v0, aL v1] (f11_real v0 v1) := ctr_of (lv := [(0, aI v0), (1, aL v1)]) (by decide +kernel) (fun _ => rfl) (fun _ => (Nat.le_of_ble_eq_true rfl)) (fun _ h => lvl_als h rfl) (fun _ σ _ => j11_real v0 v1 σ)
theorem cs_RX11_131 : CaS RX11 131 yX11_real cX11_real 3 (some .double) 2 := ⟨tw_5_6, tw_5_7, tw_1_5, tw_5_8, by decide +kernel, by decide +kernel, by decide +kernel⟩
abbrev rm11_isBelow : Room := { frames := 2, cells := 0, slots := 0, locals := 62 }
set_option maxRecDepth 20000 in
set_option maxHeartbeats 4000000 in
theorem j11_isBelow {Γ : jX} {tg : Bool × rS} (v0 : Int32) (v1 : Int64) (v3 : Int64) (σ : rS) : J Γ rm11_isBelow eZ cX11_isBelow RX11 5 (some .boolean) tg 0 0 0 [(0, aI v0), (1, aL v1), (3, aL v3)] [] σ (f11_isBelow v0 v1 v3 σ) := by
  unfold f11_isBelow
  refine j_iload_n (pc := 0) 0 dX11_isBelow_0 rfl rfl ?_
  refine j_bipush (pc := 1) (v := 6) (by decide) dX11_isBelow_1 ?_
  refine j_icmpge (pc := 3) (tgt := 20) dX11_isBelow_3 rfl (fun _ => ?_) (fun _ => ?_)
  · refine j_iload_n (pc := 20) 0 dX11_isBelow_20 rfl rfl ?_
    refine j_lload_n (pc := 21) 1 dX11_isBelow_21 rfl rfl ?_
    refine j_callSD (pc := 22) (As := [aI v0, aL v1]) (st := []) (fun l => c11_real l v0 v1) cs_RX11_131 rfl rfl (Nat.le_of_ble_eq_true rfl) ⟨(Nat.le_of_ble_eq_true rfl), (Nat.le_of_ble_eq_true rfl)⟩ ⟨(Nat.le_of_ble_eq_true rfl), (Nat.le_of_ble_eq_true rfl)⟩ dX11_isBelow_22 (fun r1 σ2 => ?_)
    refine j_iload_n (pc := 25) 0 dX11_isBelow_25 rfl rfl ?_
    refine j_lload_n (pc := 26) 2 dX11_isBelow_26 rfl rfl ?_
    refine j_callSD (pc := 27) (As := [aI v0, aL v3]) (st := [aD r1]) (fun l => c11_real l v0 v3) cs_RX11_131 rfl rfl (Nat.le_of_ble_eq_true rfl) ⟨(Nat.le_of_ble_eq_true rfl), (Nat.le_of_ble_eq_true rfl)⟩ ⟨(Nat.le_of_ble_eq_true rfl), (Nat.le_of_ble_eq_true rfl)⟩ dX11_isBelow_27 (fun r3 σ4 => ?_)
    refine j_dcmp (pc := 30) dX11_isBelow_30 ?_
    refine j_ifge (pc := 31) (tgt := 38) dX11_isBelow_31 rfl (fun _ => ?_) (fun _ => ?_)
    · refine j_iconst (pc := 38) (v := 0) (by decide) dX11_isBelow_38 ?_
      exact j_zret0 (pc := 39) rfl (Nat.le_of_ble_eq_true rfl) (Nat.le_of_ble_eq_true rfl) dX11_isBelow_39
    · refine j_iconst (pc := 34) (v := 1) (by decide) dX11_isBelow_34 ?_
      refine j_goto (pc := 35) (tgt := 39) dX11_isBelow_35 rfl ?_
      exact j_zret1 (pc := 39) rfl (Nat.le_of_ble_eq_true rfl) (Nat.le_of_ble_eq_true rfl) dX11_isBelow_39
  · refine j_lload_n (pc := 6) 1 dX11_isBelow_6 rfl rfl ?_
    refine j_lload_n (pc := 7) 2 dX11_isBelow_7 rfl rfl ?_
    refine j_lcmpge (pc := 8) (tgt := 16) dX11_isBelow_8 dX11_isBelow_9 rfl (fun _ => ?_) (fun _ => ?_)
    · refine j_iconst (pc := 16) (v := 0) (by decide) dX11_isBelow_16 ?_
      refine j_goto (pc := 17) (tgt := 39) dX11_isBelow_17 rfl ?_
      exact j_zret0 (pc := 39) rfl (Nat.le_of_ble_eq_true rfl) (Nat.le_of_ble_eq_true rfl) dX11_isBelow_39
    · refine j_iconst (pc := 12) (v := 1) (by decide) dX11_isBelow_12 ?_
      refine j_goto (pc := 13) (tgt := 39) dX11_isBelow_13 rfl ?_
      exact j_zret1 (pc := 39) rfl (Nat.le_of_ble_eq_true rfl) (Nat.le_of_ble_eq_true rfl) dX11_isBelow_39
theorem c11_isBelow (l : Launch) (v0 : Int32) (v1 : Int64) (v3 : Int64) : Ctr l yX11_isBelow cX11_isBelow 5 (some .boolean) rm11_isBelow eZ [aI v0, aL v1, aL v3] (f11_isBelow v0 v1 v3) := ctr_of (lv := [(0, aI v0), (1, aL v1), (3, aL v3)]) (by decide +kernel) (fun _ => rfl) (fun _ => (Nat.le_of_ble_eq_true rfl)) (fun _ h => lvl_als h rfl) (fun _ σ _ => j11_isBelow v0 v1 v3 σ)
abbrev rm11_isGap : Room := { frames := 0, cells := 0, slots := 0, locals := 0 }
set_option maxRecDepth 20000 in
set_option maxHeartbeats 4000000 in
theorem j11_isGap {Γ : jX} {tg : Bool × rS} (v0 : Int32) (v1 : Int64) (σ : rS) : J Γ rm11_isGap eZ cX11_isGap RX11 3 (some .boolean) tg 0 0 0 [(0, aI v0), (1, aL v1)] [] σ (f11_isGap v0 v1 σ) := by
  unfold f11_isGap
  refine j_iload_n (pc := 0) 0 dX11_isGap_0 rfl rfl ?_
  refine j_bipush (pc := 1) (v := 6) (by decide) dX11_isGap_1 ?_
  refine j_icmpne (pc := 3) (tgt := 26) dX11_isGap_3 rfl (fun _ => ?_) (fun _ => ?_)
  · refine j_iload_n (pc := 26) 0 dX11_isGap_26 rfl rfl ?_
    refine j_bipush (pc := 27) (v := 7) (by decide) dX11_isGap_27 ?_
    refine j_icmpne (pc := 29) (tgt := 48) dX11_isGap_29 rfl (fun _ => ?_) (fun _ => ?_)
    · refine j_iconst (pc := 48) (v := 0) (by decide) dX11_isGap_48 ?_
      exact j_zret0 (pc := 49) rfl (Nat.le_of_ble_eq_true rfl) (Nat.le_of_ble_eq_true rfl) dX11_isGap_49
    · refine j_lload_n (pc := 32) 1 dX11_isGap_32 rfl rfl ?_
      refine j_ldc2 (pc := 33) tw_4_227 dX11_isGap_33 ?_
      refine j_land (pc := 36) dX11_isGap_36 ?_
      refine j_ldc2 (pc := 37) tw_4_228 dX11_isGap_37 ?_
      refine j_lcmple (pc := 40) (tgt := 48) dX11_isGap_40 dX11_isGap_41 rfl (fun _ => ?_) (fun _ => ?_)
      · refine j_iconst (pc := 48) (v := 0) (by decide) dX11_isGap_48 ?_
        exact j_zret0 (pc := 49) rfl (Nat.le_of_ble_eq_true rfl) (Nat.le_of_ble_eq_true rfl) dX11_isGap_49
      · refine j_iconst (pc := 44) (v := 1) (by decide) dX11_isGap_44 ?_
        refine j_goto (pc := 45) (tgt := 49) dX11_isGap_45 rfl ?_
        exact j_zret1 (pc := 49) rfl (Nat.le_of_ble_eq_true rfl) (Nat.le_of_ble_eq_true rfl) dX11_isGap_49
  · refine j_lload_n (pc := 6) 1 dX11_isGap_6 rfl rfl ?_
    refine j_ldc2 (pc := 7) tw_4_225 dX11_isGap_7 ?_
    refine j_land (pc := 10) dX11_isGap_10 ?_
    refine j_ldc2 (pc := 11) tw_4_226 dX11_isGap_11 ?_
    refine j_lcmple (pc := 14) (tgt := 22) dX11_isGap_14 dX11_isGap_15 rfl (fun _ => ?_) (fun _ => ?_)
    · refine j_iconst (pc := 22) (v := 0) (by decide) dX11_isGap_22 ?_
      refine j_goto (pc := 23) (tgt := 49) dX11_isGap_23 rfl ?_
      exact j_zret0 (pc := 49) rfl (Nat.le_of_ble_eq_true rfl) (Nat.le_of_ble_eq_true rfl) dX11_isGap_49
    · refine j_iconst (pc := 18) (v := 1) (by decide) dX11_isGap_18 ?_
      refine j_goto (pc := 19) (tgt := 49) dX11_isGap_19 rfl ?_
      exact j_zret1 (pc := 49) rfl (Nat.le_of_ble_eq_true rfl) (Nat.le_of_ble_eq_true rfl) dX11_isGap_49
theorem c11_isGap (l : Launch) (v0 : Int32) (v1 : Int64) : Ctr l yX11_isGap cX11_isGap 3 (some .boolean) rm11_isGap eZ [aI v0, aL v1] (f11_isGap v0 v1) := ctr_of (lv := [(0, aI v0), (1, aL v1)]) (by decide +kernel) (fun _ => rfl) (fun _ => (Nat.le_of_ble_eq_true rfl)) (fun _ h => lvl_als h rfl) (fun _ σ _ => j11_isGap v0 v1 σ)
abbrev rm11_isLike : Room := { frames := 2, cells := 0, slots := 0, locals := 62 }
set_option maxRecDepth 20000 in
set_option maxHeartbeats 4000000 in
theorem j11_isLike {Γ : jX} {tg : Bool × rS} (v0 : Int32) (v1 : Int64) (v3 : Int64) (σ : rS) : J Γ rm11_isLike eZ cX11_isLike RX11 5 (some .boolean) tg 0 0 0 [(0, aI v0), (1, aL v1), (3, aL v3)] [] σ (f11_isLike v0 v1 v3 σ) := by
  unfold f11_isLike
  refine j_iload_n (pc := 0) 0 dX11_isLike_0 rfl rfl ?_
  refine j_bipush (pc := 1) (v := 6) (by decide) dX11_isLike_1 ?_
  refine j_icmpge (pc := 3) (tgt := 20) dX11_isLike_3 rfl (fun _ => ?_) (fun _ => ?_)
  · refine j_iload_n (pc := 20) 0 dX11_isLike_20 rfl rfl ?_
    refine j_lload_n (pc := 21) 1 dX11_isLike_21 rfl rfl ?_
    refine j_callSD (pc := 22) (As := [aI v0, aL v1]) (st := []) (fun l => c11_real l v0 v1) cs_RX11_131 rfl rfl (Nat.le_of_ble_eq_true rfl) ⟨(Nat.le_of_ble_eq_true rfl), (Nat.le_of_ble_eq_true rfl)⟩ ⟨(Nat.le_of_ble_eq_true rfl), (Nat.le_of_ble_eq_true rfl)⟩ dX11_isLike_22 (fun r1 σ2 => ?_)
    refine j_iload_n (pc := 25) 0 dX11_isLike_25 rfl rfl ?_
    refine j_lload_n (pc := 26) 2 dX11_isLike_26 rfl rfl ?_
    refine j_callSD (pc := 27) (As := [aI v0, aL v3]) (st := [aD r1]) (fun l => c11_real l v0 v3) cs_RX11_131 rfl rfl (Nat.le_of_ble_eq_true rfl) ⟨(Nat.le_of_ble_eq_true rfl), (Nat.le_of_ble_eq_true rfl)⟩ ⟨(Nat.le_of_ble_eq_true rfl), (Nat.le_of_ble_eq_true rfl)⟩ dX11_isLike_27 (fun r3 σ4 => ?_)
    refine j_dcmp (pc := 30) dX11_isLike_30 ?_
    refine j_ifne (pc := 31) (tgt := 38) dX11_isLike_31 rfl (fun _ => ?_) (fun _ => ?_)
    · refine j_iconst (pc := 38) (v := 0) (by decide) dX11_isLike_38 ?_
      exact j_zret0 (pc := 39) rfl (Nat.le_of_ble_eq_true rfl) (Nat.le_of_ble_eq_true rfl) dX11_isLike_39
    · refine j_iconst (pc := 34) (v := 1) (by decide) dX11_isLike_34 ?_
      refine j_goto (pc := 35) (tgt := 39) dX11_isLike_35 rfl ?_
      exact j_zret1 (pc := 39) rfl (Nat.le_of_ble_eq_true rfl) (Nat.le_of_ble_eq_true rfl) dX11_isLike_39
  · refine j_lload_n (pc := 6) 1 dX11_isLike_6 rfl rfl ?_
    refine j_lload_n (pc := 7) 2 dX11_isLike_7 rfl rfl ?_
    refine j_lcmpne (pc := 8) (tgt := 16) dX11_isLike_8 dX11_isLike_9 rfl (fun _ => ?_) (fun _ => ?_)
    · refine j_iconst (pc := 16) (v := 0) (by decide) dX11_isLike_16 ?_
      refine j_goto (pc := 17) (tgt := 39) dX11_isLike_17 rfl ?_
      exact j_zret0 (pc := 39) rfl (Nat.le_of_ble_eq_true rfl) (Nat.le_of_ble_eq_true rfl) dX11_isLike_39
    · refine j_iconst (pc := 12) (v := 1) (by decide) dX11_isLike_12 ?_
      refine j_goto (pc := 13) (tgt := 39) dX11_isLike_13 rfl ?_
      exact j_zret1 (pc := 39) rfl (Nat.le_of_ble_eq_true rfl) (Nat.le_of_ble_eq_true rfl) dX11_isLike_39
theorem c11_isLike (l : Launch) (v0 : Int32) (v1 : Int64) (v3 : Int64) : Ctr l yX11_isLike cX11_isLike 5 (some .boolean) rm11_isLike eZ [aI v0, aL v1, aL v3] (f11_isLike v0 v1 v3) := ctr_of (lv := [(0, aI v0), (1, aL v1), (3, aL v3)]) (by decide +kernel) (fun _ => rfl) (fun _ => (Nat.le_of_ble_eq_true rfl)) (fun _ h => lvl_als h rfl) (fun _ σ _ => j11_isLike v0 v1 v3 σ)
theorem cs_RX11_158 : CaV RX11 RX11 158 yX11_against cX11_against 3 (some .int) 2 := ⟨tw_4_215, tw_4_217, tw_p24, tw_1_5, tw_4_218, rfl, by decide +kernel, by decide +kernel, by decide +kernel⟩
theorem cs_RX11_99 : CaS RX11 99 yX11_isGap cX11_isGap 3 (some .boolean) 2 := ⟨tw_4_222, tw_4_223, tw_1_5, tw_4_224, by decide +kernel, by decide +kernel, by decide +kernel⟩
theorem cs_RX11_165 : CaS RX11 165 yX11_isLike cX11_isLike 5 (some .boolean) 3 := ⟨tw_5_3, tw_5_4, tw_1_5, tw_5_5, by decide +kernel, by decide +kernel, by decide +kernel⟩
theorem cs_RX11_169 : CaS RX11 169 yX11_isBelow cX11_isBelow 5 (some .boolean) 3 := ⟨tw_5_15, tw_5_16, tw_1_5, tw_5_17, by decide +kernel, by decide +kernel, by decide +kernel⟩
abbrev rm11_compare : Room := { frames := 3, cells := 0, slots := 0, locals := 86 }
set_option maxRecDepth 20000 in
set_option maxHeartbeats 4000000 in
theorem j11_compare {Γ : jX} {tg : Int32 × rS} (v0 : Nat) (v1 : Int32) (v2 : Int32) (v3 : Int32) (σ : rS) : J Γ rm11_compare eI cX11_compare RX11 10 (some .int) tg 0 0 0 [(0, aR 29 v0), (1, aI v1), (2, aI v2), (3, aI v3)] [] σ (f11_compare v0 v1 v2 v3 σ) := by
  unfold f11_compare
  refine j_aload_n (pc := 0) 0 dX11_compare_0 rfl rfl ?_
  refine j_iload_n (pc := 1) 1 dX11_compare_1 rfl rfl ?_
  refine j_iload_n (pc := 2) 2 dX11_compare_2 rfl rfl ?_
  refine j_callVI (pc := 3) (As := [aI v1, aI v2]) (st := []) (fun l => c11_against l v0 v1 v2) cs_RX11_158 rfl rfl rfl rfl (Nat.le_of_ble_eq_true rfl) ⟨(Nat.le_of_ble_eq_true rfl), (Nat.le_of_ble_eq_true rfl)⟩ ⟨(Nat.le_of_ble_eq_true rfl), (Nat.le_of_ble_eq_true rfl)⟩ dX11_compare_3 (fun r1 σ2 => ?_)
  refine j_istore (pc := 6) (lv' := [(4, aI r1), (0, aR 29 v0), (1, aI v1), (2, aI v2), (3, aI v3)]) dX11_compare_6 (Nat.le_of_ble_eq_true rfl) rfl ?_
  refine j_iload (pc := 8) 0 dX11_compare_8 rfl ?_
  refine j_ifeq (pc := 10) (tgt := 16) dX11_compare_10 rfl (fun _ => ?_) (fun _ => ?_)
  · refine j_iload_n (pc := 16) 4 dX11_compare_16 rfl rfl ?_
    refine j_i2l (pc := 17) dX11_compare_17 ?_
    refine j_lconst (pc := 18) (v := 0) (by decide) dX11_compare_18 ?_
    refine j_aload_n (pc := 19) 1 dX11_compare_19 rfl rfl ?_
    refine j_getF (pc := 20) fd_29_5 tw_4_71 dX11_compare_20 ?_
    refine j_iload_n (pc := 23) 2 dX11_compare_23 rfl rfl ?_
    refine j_iald (pc := 24) rfl rfl rfl dX11_compare_24 (fun j3 => ?_)
    refine j_iconst (pc := 25) (v := 1) (by decide) dX11_compare_25 ?_
    refine j_isub (pc := 26) dX11_compare_26 ?_
    refine j_i2l (pc := 27) dX11_compare_27 ?_
    refine j_callSZ (pc := 28) (As := [aL (Int32.toInt64 v3), aL 0, aL (Int32.toInt64 ((gI σ2 35 v0 j3) - 1))]) (st := []) (fun l => c11_in l (Int32.toInt64 v3) 0 (Int32.toInt64 ((gI σ2 35 v0 j3) - 1))) cs_RX11_140 rfl rfl (Nat.le_of_ble_eq_true rfl) ⟨(Nat.le_of_ble_eq_true rfl), (Nat.le_of_ble_eq_true rfl)⟩ ⟨(Nat.le_of_ble_eq_true rfl), (Nat.le_of_ble_eq_true rfl)⟩ dX11_compare_28 (fun r4 σ5 => ?_)
    refine j_ifneB (pc := 31) (tgt := 40) dX11_compare_31 rfl (fun _ => ?_) (fun _ => ?_)
    · refine j_aload_n (pc := 40) 1 dX11_compare_40 rfl rfl ?_
      refine j_getF (pc := 41) fd_29_4 tw_4_70 dX11_compare_41 ?_
      refine j_iload_n (pc := 44) 2 dX11_compare_44 rfl rfl ?_
      refine j_iald (pc := 45) rfl rfl rfl dX11_compare_45 (fun j6 => ?_)
      refine j_leti (fun x7 => ?_)
      refine j_istore (pc := 46) (lv' := [(5, aI x7), (4, aI r1), (0, aR 29 v0), (1, aI v1), (2, aI v2), (3, aI v3)]) dX11_compare_46 (Nat.le_of_ble_eq_true rfl) rfl ?_
      refine j_sub [0, 2, 3, 4, 5] (lv' := [(5, aI x7), (0, aR 29 v0), (1, aI v1), (2, aI v2), (3, aI v3)]) rfl ?_
      refine j_aload_n (pc := 48) 1 dX11_compare_48 rfl rfl ?_
      refine j_getF (pc := 49) fd_29_7 tw_4_73 dX11_compare_49 ?_
      refine j_bipush (pc := 52) (v := 24) (by decide) dX11_compare_52 ?_
      refine j_iload_n (pc := 54) 2 dX11_compare_54 rfl rfl ?_
      refine j_imul (pc := 55) dX11_compare_55 ?_
      refine j_iload_n (pc := 56) 3 dX11_compare_56 rfl rfl ?_
      refine j_iadd (pc := 57) dX11_compare_57 ?_
      refine j_lald (pc := 58) rfl rfl rfl dX11_compare_58 (fun j8 => ?_)
      refine j_letl (fun x9 => ?_)
      refine j_lstore (pc := 59) (lv' := [(6, aL x9), (5, aI x7), (0, aR 29 v0), (1, aI v1), (2, aI v2), (3, aI v3)]) dX11_compare_59 (Nat.le_of_ble_eq_true rfl) rfl ?_
      refine j_sub [0, 1, 2, 3, 5] (lv' := [(6, aL x9), (5, aI x7), (0, aR 29 v0), (1, aI v1), (3, aI v3)]) rfl ?_
      refine j_aload_n (pc := 61) 2 dX11_compare_61 rfl rfl ?_
      refine j_getF (pc := 62) fd_29_7 tw_4_73 dX11_compare_62 ?_
      refine j_bipush (pc := 65) (v := 24) (by decide) dX11_compare_65 ?_
      refine j_iload_n (pc := 67) 3 dX11_compare_67 rfl rfl ?_
      refine j_imul (pc := 68) dX11_compare_68 ?_
      refine j_iload_n (pc := 69) 4 dX11_compare_69 rfl rfl ?_
      refine j_iadd (pc := 70) dX11_compare_70 ?_
      refine j_lald (pc := 71) rfl rfl rfl dX11_compare_71 (fun j10 => ?_)
      refine j_letl (fun x11 => ?_)
      refine j_lstore (pc := 72) (lv' := [(8, aL x11), (6, aL x9), (5, aI x7), (0, aR 29 v0), (1, aI v1), (3, aI v3)]) dX11_compare_72 (Nat.le_of_ble_eq_true rfl) rfl ?_
      refine j_sub [0, 1, 2] (lv' := [(8, aL x11), (6, aL x9), (5, aI x7)]) rfl ?_
      refine j_iload (pc := 74) 2 dX11_compare_74 rfl ?_
      refine j_lload (pc := 76) 1 dX11_compare_76 rfl ?_
      refine j_callSZ (pc := 78) (As := [aI x7, aL x9]) (st := []) (fun l => c11_isGap l x7 x9) cs_RX11_99 rfl rfl (Nat.le_of_ble_eq_true rfl) ⟨(Nat.le_of_ble_eq_true rfl), (Nat.le_of_ble_eq_true rfl)⟩ ⟨(Nat.le_of_ble_eq_true rfl), (Nat.le_of_ble_eq_true rfl)⟩ dX11_compare_78 (fun r12 σ13 => ?_)
      refine j_ifneB (pc := 81) (tgt := 94) dX11_compare_81 rfl (fun _ => ?_) (fun _ => ?_)
      · refine j_bipush (pc := 94) (v := 32) (by decide) dX11_compare_94 ?_
        exact j_ireturn (pc := 96) rfl (Nat.le_of_ble_eq_true rfl) (Nat.le_of_ble_eq_true rfl) dX11_compare_96
      · refine j_iload (pc := 84) 2 dX11_compare_84 rfl ?_
        refine j_lload (pc := 86) 0 dX11_compare_86 rfl ?_
        refine j_callSZ (pc := 88) (As := [aI x7, aL x11]) (st := []) (fun l => c11_isGap l x7 x11) cs_RX11_99 rfl rfl (Nat.le_of_ble_eq_true rfl) ⟨(Nat.le_of_ble_eq_true rfl), (Nat.le_of_ble_eq_true rfl)⟩ ⟨(Nat.le_of_ble_eq_true rfl), (Nat.le_of_ble_eq_true rfl)⟩ dX11_compare_88 (fun r14 σ15 => ?_)
        refine j_ifeqB (pc := 91) (tgt := 97) dX11_compare_91 rfl (fun _ => ?_) (fun _ => ?_)
        · refine j_iload (pc := 97) 2 dX11_compare_97 rfl ?_
          refine j_lload (pc := 99) 1 dX11_compare_99 rfl ?_
          refine j_lload (pc := 101) 0 dX11_compare_101 rfl ?_
          refine j_callSZ (pc := 103) (As := [aI x7, aL x9, aL x11]) (st := []) (fun l => c11_isLike l x7 x9 x11) cs_RX11_165 rfl rfl (Nat.le_of_ble_eq_true rfl) ⟨(Nat.le_of_ble_eq_true rfl), (Nat.le_of_ble_eq_true rfl)⟩ ⟨(Nat.le_of_ble_eq_true rfl), (Nat.le_of_ble_eq_true rfl)⟩ dX11_compare_103 (fun r16 σ17 => ?_)
          refine j_ifeqB (pc := 106) (tgt := 114) dX11_compare_106 rfl (fun _ => ?_) (fun _ => ?_)
          · refine j_iload (pc := 114) 2 dX11_compare_114 rfl ?_
            refine j_lload (pc := 116) 1 dX11_compare_116 rfl ?_
            refine j_lload (pc := 118) 0 dX11_compare_118 rfl ?_
            refine j_callSZ (pc := 120) (As := [aI x7, aL x9, aL x11]) (st := []) (fun l => c11_isBelow l x7 x9 x11) cs_RX11_169 rfl rfl (Nat.le_of_ble_eq_true rfl) ⟨(Nat.le_of_ble_eq_true rfl), (Nat.le_of_ble_eq_true rfl)⟩ ⟨(Nat.le_of_ble_eq_true rfl), (Nat.le_of_ble_eq_true rfl)⟩ dX11_compare_120 (fun r18 σ19 => ?_)
            refine j_ifeqB (pc := 123) (tgt := 131) dX11_compare_123 rfl (fun _ => ?_) (fun _ => ?_)
            · refine j_bipush (pc := 131) (v := 44) (by decide) dX11_compare_131 ?_
              exact j_ireturn (pc := 133) rfl (Nat.le_of_ble_eq_true rfl) (Nat.le_of_ble_eq_true rfl) dX11_compare_133
            · refine j_bipush (pc := 126) (v := 35) (by decide) dX11_compare_126 ?_
              refine j_goto (pc := 128) (tgt := 133) dX11_compare_128 rfl ?_
              exact j_ireturn (pc := 133) rfl (Nat.le_of_ble_eq_true rfl) (Nat.le_of_ble_eq_true rfl) dX11_compare_133
          · refine j_bipush (pc := 109) (v := 26) (by decide) dX11_compare_109 ?_
            refine j_goto (pc := 111) (tgt := 133) dX11_compare_111 rfl ?_
            exact j_ireturn (pc := 133) rfl (Nat.le_of_ble_eq_true rfl) (Nat.le_of_ble_eq_true rfl) dX11_compare_133
        · refine j_bipush (pc := 94) (v := 32) (by decide) dX11_compare_94 ?_
          exact j_ireturn (pc := 96) rfl (Nat.le_of_ble_eq_true rfl) (Nat.le_of_ble_eq_true rfl) dX11_compare_96
    · refine j_aload_n (pc := 34) 1 dX11_compare_34 rfl rfl ?_
      refine j_iconst (pc := 35) (v := 2) (by decide) dX11_compare_35 ?_
      refine j_callVI (pc := 36) (As := [aI 2]) (st := []) (fun l => c11_meets l v0 2) cs_RX11_146 rfl rfl rfl rfl (Nat.le_of_ble_eq_true rfl) ⟨(Nat.le_of_ble_eq_true rfl), (Nat.le_of_ble_eq_true rfl)⟩ ⟨(Nat.le_of_ble_eq_true rfl), (Nat.le_of_ble_eq_true rfl)⟩ dX11_compare_36 (fun r20 σ21 => ?_)
      exact j_ireturn (pc := 39) rfl (Nat.le_of_ble_eq_true rfl) (Nat.le_of_ble_eq_true rfl) dX11_compare_39
  · refine j_iload (pc := 13) 0 dX11_compare_13 rfl ?_
    exact j_ireturn (pc := 15) rfl (Nat.le_of_ble_eq_true rfl) (Nat.le_of_ble_eq_true rfl) dX11_compare_15
theorem c11_compare (l : Launch) (v0 : Nat) (v1 : Int32) (v2 : Int32) (v3 : Int32) : Ctr l yX11_compare cX11_compare 10 (some .int) rm11_compare eI [aR 29 v0, aI v1, aI v2, aI v3] (f11_compare v0 v1 v2 v3) := ctr_of (lv := [(0, aR 29 v0), (1, aI v1), (2, aI v2), (3, aI v3)]) (by decide +kernel) (fun _ => rfl) (fun _ => (Nat.le_of_ble_eq_true rfl)) (fun _ h => lvl_als h rfl) (fun _ σ _ => j11_compare v0 v1 v2 v3 σ)
abbrev rm11_copy : Room := { frames := 2, cells := 0, slots := 0, locals := 46 }
set_option maxRecDepth 20000 in
set_option maxHeartbeats 4000000 in
theorem jb11_copy_159 {Γ : jX} {tg : Int32 × rS} (N : Nat) (K159 : Nat → Int32 → Int32 → Int32 → Int32 → rS → Option (Int32 × rS)) (hK159 : ∀ (v0 : Nat) (v3 : Int32) (v4 : Int32) (v5 : Int32) (v6 : Int32) (σ : rS), J Γ rm11_copy eI cX11_copy RX11 7 (some .int) tg 0 0 159 [(0, aR 29 v0), (3, aI v3), (4, aI v4), (5, aI v5), (6, aI v6)] [] σ (K159 v0 v3 v4 v5 v6 σ)) (v0 : Nat) (v3 : Int32) (v4 : Int32) (v5 : Int32) (v6 : Int32) (σ : rS) : J Γ rm11_copy eI cX11_copy RX11 7 (some .int) tg 0 0 159 [(0, aR 29 v0), (3, aI v3), (4, aI v4), (5, aI v5), (6, aI v6)] [] σ (B11_copy_159 N K159 v0 v3 v4 v5 v6 σ) := by
  unfold B11_copy_159
  refine j_iload (pc := 159) 4 dX11_copy_159 rfl ?_
  refine j_iload (pc := 161) 3 dX11_copy_161 rfl ?_
  refine j_icmpge (pc := 163) (tgt := 194) dX11_copy_163 rfl (fun _ => ?_) (fun _ => ?_)
  · refine j_iconst (pc := 194) (v := 0) (by decide) dX11_copy_194 ?_
    exact j_ireturn (pc := 195) rfl (Nat.le_of_ble_eq_true rfl) (Nat.le_of_ble_eq_true rfl) dX11_copy_195
  · refine j_aload_n (pc := 166) 0 dX11_copy_166 rfl rfl ?_
    refine j_getF (pc := 167) fd_29_7 tw_4_73 dX11_copy_167 ?_
    refine j_bipush (pc := 170) (v := 24) (by decide) dX11_copy_170 ?_
    refine j_iload_n (pc := 172) 1 dX11_copy_172 rfl rfl ?_
    refine j_imul (pc := 173) dX11_copy_173 ?_
    refine j_iload (pc := 174) 2 dX11_copy_174 rfl ?_
    refine j_iadd (pc := 176) dX11_copy_176 ?_
    refine j_iload (pc := 177) 4 dX11_copy_177 rfl ?_
    refine j_iadd (pc := 179) dX11_copy_179 ?_
    refine j_aload_n (pc := 180) 0 dX11_copy_180 rfl rfl ?_
    refine j_getF (pc := 181) fd_29_8 tw_4_74 dX11_copy_181 ?_
    refine j_iload (pc := 184) 4 dX11_copy_184 rfl ?_
    refine j_lald (pc := 186) rfl rfl rfl dX11_copy_186 (fun j1 => ?_)
    refine j_last (pc := 187) rfl rfl rfl dX11_copy_187 (fun j2 => ?_)
    refine j_lets (fun σ3 => ?_)
    refine j_iinc (pc := 188) (w := 1) (lv' := [(6, aI (v6 + 1)), (0, aR 29 v0), (3, aI v3), (4, aI v4), (5, aI v5)]) 4 dX11_copy_188 rfl (by decide) (Nat.le_of_ble_eq_true rfl) rfl ?_
    refine j_goto (pc := 191) (tgt := 159) dX11_copy_191 rfl ?_
    refine j_sub [1, 2, 3, 4, 0] (lv' := [(0, aR 29 v0), (3, aI v3), (4, aI v4), (5, aI v5), (6, aI (v6 + 1))]) rfl ?_
    exact hK159 v0 v3 v4 v5 (v6 + 1) σ3
theorem jl11_copy_159 {Γ : jX} {tg : Int32 × rS} (N : Nat) : ∀ (n : Nat) (v0 : Nat) (v3 : Int32) (v4 : Int32) (v5 : Int32) (v6 : Int32) (σ : rS), J Γ rm11_copy eI cX11_copy RX11 7 (some .int) tg 0 0 159 [(0, aR 29 v0), (3, aI v3), (4, aI v4), (5, aI v5), (6, aI v6)] [] σ (L11_copy_159 N n v0 v3 v4 v5 v6 σ) := by
  intro n
  induction n with
  | zero => intro v0 v3 v4 v5 v6 σ; exact j_none
  | succ n ih => intro v0 v3 v4 v5 v6 σ; exact jb11_copy_159 N (L11_copy_159 N n) ih v0 v3 v4 v5 v6 σ
set_option maxRecDepth 20000 in
set_option maxHeartbeats 4000000 in
theorem jb11_copy_122 {Γ : jX} {tg : Int32 × rS} (N : Nat) (K122 : Nat → Int32 → Int32 → Int32 → Int32 → Int32 → Int32 → rS → Option (Int32 × rS)) (hK122 : ∀ (v0 : Nat) (v1 : Int32) (v2 : Int32) (v3 : Int32) (v4 : Int32) (v5 : Int32) (v6 : Int32) (σ : rS), J Γ rm11_copy eI cX11_copy RX11 7 (some .int) tg 0 0 122 [(0, aR 29 v0), (1, aI v1), (2, aI v2), (3, aI v3), (4, aI v4), (5, aI v5), (6, aI v6)] [] σ (K122 v0 v1 v2 v3 v4 v5 v6 σ)) (v0 : Nat) (v1 : Int32) (v2 : Int32) (v3 : Int32) (v4 : Int32) (v5 : Int32) (v6 : Int32) (σ : rS) : J Γ rm11_copy eI cX11_copy RX11 7 (some .int) tg 0 0 122 [(0, aR 29 v0), (1, aI v1), (2, aI v2), (3, aI v3), (4, aI v4), (5, aI v5), (6, aI v6)] [] σ (B11_copy_122 N K122 v0 v1 v2 v3 v4 v5 v6 σ) := by
  unfold B11_copy_122
  refine j_iload (pc := 122) 6 dX11_copy_122 rfl ?_
  refine j_iload (pc := 124) 5 dX11_copy_124 rfl ?_
  refine j_icmpge (pc := 126) (tgt := 156) dX11_copy_126 rfl (fun _ => ?_) (fun _ => ?_)
  · refine j_iconst (pc := 156) (v := 0) (by decide) dX11_copy_156 ?_
    refine j_istore (pc := 157) (lv' := [(6, aI 0), (0, aR 29 v0), (1, aI v1), (2, aI v2), (3, aI v3), (4, aI v4), (5, aI v5)]) dX11_copy_157 (Nat.le_of_ble_eq_true rfl) rfl ?_
    refine j_sub [0, 1, 4, 5, 6] (lv' := [(6, aI 0), (0, aR 29 v0), (3, aI v3), (4, aI v4), (5, aI v5)]) rfl ?_
    refine j_sub [1, 2, 3, 4, 0] (lv' := [(0, aR 29 v0), (3, aI v3), (4, aI v4), (5, aI v5), (6, aI 0)]) rfl ?_
    exact jl11_copy_159 N  N v0 v3 v4 v5 0 σ
  · refine j_aload_n (pc := 129) 0 dX11_copy_129 rfl rfl ?_
    refine j_getF (pc := 130) fd_29_8 tw_4_74 dX11_copy_130 ?_
    refine j_iload (pc := 133) 6 dX11_copy_133 rfl ?_
    refine j_aload_n (pc := 135) 0 dX11_copy_135 rfl rfl ?_
    refine j_getF (pc := 136) fd_29_7 tw_4_73 dX11_copy_136 ?_
    refine j_bipush (pc := 139) (v := 24) (by decide) dX11_copy_139 ?_
    refine j_iload_n (pc := 141) 1 dX11_copy_141 rfl rfl ?_
    refine j_imul (pc := 142) dX11_copy_142 ?_
    refine j_iload_n (pc := 143) 2 dX11_copy_143 rfl rfl ?_
    refine j_iadd (pc := 144) dX11_copy_144 ?_
    refine j_iload (pc := 145) 6 dX11_copy_145 rfl ?_
    refine j_iadd (pc := 147) dX11_copy_147 ?_
    refine j_lald (pc := 148) rfl rfl rfl dX11_copy_148 (fun j1 => ?_)
    refine j_last (pc := 149) rfl rfl rfl dX11_copy_149 (fun j2 => ?_)
    refine j_lets (fun σ3 => ?_)
    refine j_iinc (pc := 150) (w := 1) (lv' := [(6, aI (v6 + 1)), (0, aR 29 v0), (1, aI v1), (2, aI v2), (3, aI v3), (4, aI v4), (5, aI v5)]) 6 dX11_copy_150 rfl (by decide) (Nat.le_of_ble_eq_true rfl) rfl ?_
    refine j_goto (pc := 153) (tgt := 122) dX11_copy_153 rfl ?_
    refine j_sub [1, 2, 3, 4, 5, 6, 0] (lv' := [(0, aR 29 v0), (1, aI v1), (2, aI v2), (3, aI v3), (4, aI v4), (5, aI v5), (6, aI (v6 + 1))]) rfl ?_
    exact hK122 v0 v1 v2 v3 v4 v5 (v6 + 1) σ3
theorem jl11_copy_122 {Γ : jX} {tg : Int32 × rS} (N : Nat) : ∀ (n : Nat) (v0 : Nat) (v1 : Int32) (v2 : Int32) (v3 : Int32) (v4 : Int32) (v5 : Int32) (v6 : Int32) (σ : rS), J Γ rm11_copy eI cX11_copy RX11 7 (some .int) tg 0 0 122 [(0, aR 29 v0), (1, aI v1), (2, aI v2), (3, aI v3), (4, aI v4), (5, aI v5), (6, aI v6)] [] σ (L11_copy_122 N n v0 v1 v2 v3 v4 v5 v6 σ) := by
  intro n
  induction n with
  | zero => intro v0 v1 v2 v3 v4 v5 v6 σ; exact j_none
  | succ n ih => intro v0 v1 v2 v3 v4 v5 v6 σ; exact jb11_copy_122 N (L11_copy_122 N n) ih v0 v1 v2 v3 v4 v5 v6 σ
set_option maxRecDepth 20000 in
set_option maxHeartbeats 4000000 in
theorem j11_copy {Γ : jX} {tg : Int32 × rS} (N : Nat) (v0 : Nat) (v1 : Int32) (v2 : Int32) (v3 : Int32) (v4 : Int32) (v5 : Int32) (σ : rS) : J Γ rm11_copy eI cX11_copy RX11 7 (some .int) tg 0 0 0 [(0, aR 29 v0), (1, aI v1), (2, aI v2), (3, aI v3), (4, aI v4), (5, aI v5)] [] σ (f11_copy N v0 v1 v2 v3 v4 v5 σ) := by
  unfold f11_copy
  refine j_aload_n (pc := 0) 0 dX11_copy_0 rfl rfl ?_
  refine j_iload_n (pc := 1) 1 dX11_copy_1 rfl rfl ?_
  refine j_callVZ (pc := 2) (As := [aI v1]) (st := []) (fun l => c11_isRow l v0 v1) cs_RX11_154 rfl rfl rfl rfl (Nat.le_of_ble_eq_true rfl) ⟨(Nat.le_of_ble_eq_true rfl), (Nat.le_of_ble_eq_true rfl)⟩ ⟨(Nat.le_of_ble_eq_true rfl), (Nat.le_of_ble_eq_true rfl)⟩ dX11_copy_2 (fun r1 σ2 => ?_)
  refine j_ifeqB (pc := 5) (tgt := 16) dX11_copy_5 rfl (fun _ => ?_) (fun _ => ?_)
  · refine j_bipush (pc := 16) (v := (-101)) (by decide) dX11_copy_16 ?_
    exact j_ireturn (pc := 18) rfl (Nat.le_of_ble_eq_true rfl) (Nat.le_of_ble_eq_true rfl) dX11_copy_18
  · refine j_aload_n (pc := 8) 0 dX11_copy_8 rfl rfl ?_
    refine j_iload_n (pc := 9) 3 dX11_copy_9 rfl rfl ?_
    refine j_callVZ (pc := 10) (As := [aI v3]) (st := []) (fun l => c11_isRow l v0 v3) cs_RX11_154 rfl rfl rfl rfl (Nat.le_of_ble_eq_true rfl) ⟨(Nat.le_of_ble_eq_true rfl), (Nat.le_of_ble_eq_true rfl)⟩ ⟨(Nat.le_of_ble_eq_true rfl), (Nat.le_of_ble_eq_true rfl)⟩ dX11_copy_10 (fun r3 σ4 => ?_)
    refine j_ifneB (pc := 13) (tgt := 19) dX11_copy_13 rfl (fun _ => ?_) (fun _ => ?_)
    · refine j_aload_n (pc := 19) 0 dX11_copy_19 rfl rfl ?_
      refine j_getF (pc := 20) fd_29_4 tw_4_70 dX11_copy_20 ?_
      refine j_iload_n (pc := 23) 1 dX11_copy_23 rfl rfl ?_
      refine j_iald (pc := 24) rfl rfl rfl dX11_copy_24 (fun j5 => ?_)
      refine j_aload_n (pc := 25) 0 dX11_copy_25 rfl rfl ?_
      refine j_getF (pc := 26) fd_29_4 tw_4_70 dX11_copy_26 ?_
      refine j_iload_n (pc := 29) 3 dX11_copy_29 rfl rfl ?_
      refine j_iald (pc := 30) rfl rfl rfl dX11_copy_30 (fun j6 => ?_)
      refine j_icmpeq (pc := 31) (tgt := 40) dX11_copy_31 rfl (fun _ => ?_) (fun _ => ?_)
      · refine j_aload_n (pc := 40) 0 dX11_copy_40 rfl rfl ?_
        refine j_getF (pc := 41) fd_29_6 tw_4_72 dX11_copy_41 ?_
        refine j_iload_n (pc := 44) 1 dX11_copy_44 rfl rfl ?_
        refine j_zald (pc := 45) rfl rfl rfl dX11_copy_45 (fun j7 => ?_)
        refine j_ifne (pc := 46) (tgt := 58) dX11_copy_46 rfl (fun _ => ?_) (fun _ => ?_)
        · refine j_aload_n (pc := 58) 0 dX11_copy_58 rfl rfl ?_
          refine j_iconst (pc := 59) (v := 1) (by decide) dX11_copy_59 ?_
          refine j_callVI (pc := 60) (As := [aI 1]) (st := []) (fun l => c11_meets l v0 1) cs_RX11_146 rfl rfl rfl rfl (Nat.le_of_ble_eq_true rfl) ⟨(Nat.le_of_ble_eq_true rfl), (Nat.le_of_ble_eq_true rfl)⟩ ⟨(Nat.le_of_ble_eq_true rfl), (Nat.le_of_ble_eq_true rfl)⟩ dX11_copy_60 (fun r8 σ9 => ?_)
          exact j_ireturn (pc := 63) rfl (Nat.le_of_ble_eq_true rfl) (Nat.le_of_ble_eq_true rfl) dX11_copy_63
        · refine j_aload_n (pc := 49) 0 dX11_copy_49 rfl rfl ?_
          refine j_getF (pc := 50) fd_29_6 tw_4_72 dX11_copy_50 ?_
          refine j_iload_n (pc := 53) 3 dX11_copy_53 rfl rfl ?_
          refine j_zald (pc := 54) rfl rfl rfl dX11_copy_54 (fun j10 => ?_)
          refine j_ifeq (pc := 55) (tgt := 64) dX11_copy_55 rfl (fun _ => ?_) (fun _ => ?_)
          · refine j_iload_n (pc := 64) 2 dX11_copy_64 rfl rfl ?_
            refine j_iflt (pc := 65) (tgt := 113) dX11_copy_65 rfl (fun _ => ?_) (fun _ => ?_)
            · refine j_aload_n (pc := 113) 0 dX11_copy_113 rfl rfl ?_
              refine j_iconst (pc := 114) (v := 2) (by decide) dX11_copy_114 ?_
              refine j_callVI (pc := 115) (As := [aI 2]) (st := []) (fun l => c11_meets l v0 2) cs_RX11_146 rfl rfl rfl rfl (Nat.le_of_ble_eq_true rfl) ⟨(Nat.le_of_ble_eq_true rfl), (Nat.le_of_ble_eq_true rfl)⟩ ⟨(Nat.le_of_ble_eq_true rfl), (Nat.le_of_ble_eq_true rfl)⟩ dX11_copy_115 (fun r11 σ12 => ?_)
              exact j_ireturn (pc := 118) rfl (Nat.le_of_ble_eq_true rfl) (Nat.le_of_ble_eq_true rfl) dX11_copy_118
            · refine j_iload (pc := 68) 4 dX11_copy_68 rfl ?_
              refine j_iflt (pc := 70) (tgt := 113) dX11_copy_70 rfl (fun _ => ?_) (fun _ => ?_)
              · refine j_aload_n (pc := 113) 0 dX11_copy_113 rfl rfl ?_
                refine j_iconst (pc := 114) (v := 2) (by decide) dX11_copy_114 ?_
                refine j_callVI (pc := 115) (As := [aI 2]) (st := []) (fun l => c11_meets l v0 2) cs_RX11_146 rfl rfl rfl rfl (Nat.le_of_ble_eq_true rfl) ⟨(Nat.le_of_ble_eq_true rfl), (Nat.le_of_ble_eq_true rfl)⟩ ⟨(Nat.le_of_ble_eq_true rfl), (Nat.le_of_ble_eq_true rfl)⟩ dX11_copy_115 (fun r13 σ14 => ?_)
                exact j_ireturn (pc := 118) rfl (Nat.le_of_ble_eq_true rfl) (Nat.le_of_ble_eq_true rfl) dX11_copy_118
              · refine j_iload (pc := 73) 5 dX11_copy_73 rfl ?_
                refine j_iflt (pc := 75) (tgt := 113) dX11_copy_75 rfl (fun _ => ?_) (fun _ => ?_)
                · refine j_aload_n (pc := 113) 0 dX11_copy_113 rfl rfl ?_
                  refine j_iconst (pc := 114) (v := 2) (by decide) dX11_copy_114 ?_
                  refine j_callVI (pc := 115) (As := [aI 2]) (st := []) (fun l => c11_meets l v0 2) cs_RX11_146 rfl rfl rfl rfl (Nat.le_of_ble_eq_true rfl) ⟨(Nat.le_of_ble_eq_true rfl), (Nat.le_of_ble_eq_true rfl)⟩ ⟨(Nat.le_of_ble_eq_true rfl), (Nat.le_of_ble_eq_true rfl)⟩ dX11_copy_115 (fun r15 σ16 => ?_)
                  exact j_ireturn (pc := 118) rfl (Nat.le_of_ble_eq_true rfl) (Nat.le_of_ble_eq_true rfl) dX11_copy_118
                · refine j_iload_n (pc := 78) 2 dX11_copy_78 rfl rfl ?_
                  refine j_i2l (pc := 79) dX11_copy_79 ?_
                  refine j_iload (pc := 80) 5 dX11_copy_80 rfl ?_
                  refine j_i2l (pc := 82) dX11_copy_82 ?_
                  refine j_ladd (pc := 83) dX11_copy_83 ?_
                  refine j_aload_n (pc := 84) 0 dX11_copy_84 rfl rfl ?_
                  refine j_getF (pc := 85) fd_29_5 tw_4_71 dX11_copy_85 ?_
                  refine j_iload_n (pc := 88) 1 dX11_copy_88 rfl rfl ?_
                  refine j_iald (pc := 89) rfl rfl rfl dX11_copy_89 (fun j17 => ?_)
                  refine j_i2l (pc := 90) dX11_copy_90 ?_
                  refine j_lcmpgt (pc := 91) (tgt := 113) dX11_copy_91 dX11_copy_92 rfl (fun _ => ?_) (fun _ => ?_)
                  · refine j_aload_n (pc := 113) 0 dX11_copy_113 rfl rfl ?_
                    refine j_iconst (pc := 114) (v := 2) (by decide) dX11_copy_114 ?_
                    refine j_callVI (pc := 115) (As := [aI 2]) (st := []) (fun l => c11_meets l v0 2) cs_RX11_146 rfl rfl rfl rfl (Nat.le_of_ble_eq_true rfl) ⟨(Nat.le_of_ble_eq_true rfl), (Nat.le_of_ble_eq_true rfl)⟩ ⟨(Nat.le_of_ble_eq_true rfl), (Nat.le_of_ble_eq_true rfl)⟩ dX11_copy_115 (fun r18 σ19 => ?_)
                    exact j_ireturn (pc := 118) rfl (Nat.le_of_ble_eq_true rfl) (Nat.le_of_ble_eq_true rfl) dX11_copy_118
                  · refine j_iload (pc := 95) 4 dX11_copy_95 rfl ?_
                    refine j_i2l (pc := 97) dX11_copy_97 ?_
                    refine j_iload (pc := 98) 5 dX11_copy_98 rfl ?_
                    refine j_i2l (pc := 100) dX11_copy_100 ?_
                    refine j_ladd (pc := 101) dX11_copy_101 ?_
                    refine j_aload_n (pc := 102) 0 dX11_copy_102 rfl rfl ?_
                    refine j_getF (pc := 103) fd_29_5 tw_4_71 dX11_copy_103 ?_
                    refine j_iload_n (pc := 106) 3 dX11_copy_106 rfl rfl ?_
                    refine j_iald (pc := 107) rfl rfl rfl dX11_copy_107 (fun j20 => ?_)
                    refine j_i2l (pc := 108) dX11_copy_108 ?_
                    refine j_lcmple (pc := 109) (tgt := 119) dX11_copy_109 dX11_copy_110 rfl (fun _ => ?_) (fun _ => ?_)
                    · refine j_iconst (pc := 119) (v := 0) (by decide) dX11_copy_119 ?_
                      refine j_istore (pc := 120) (lv' := [(6, aI 0), (0, aR 29 v0), (1, aI v1), (2, aI v2), (3, aI v3), (4, aI v4), (5, aI v5)]) dX11_copy_120 (Nat.le_of_ble_eq_true rfl) rfl ?_
                      refine j_sub [1, 2, 3, 4, 5, 6, 0] (lv' := [(0, aR 29 v0), (1, aI v1), (2, aI v2), (3, aI v3), (4, aI v4), (5, aI v5), (6, aI 0)]) rfl ?_
                      exact jl11_copy_122 N  N v0 v1 v2 v3 v4 v5 0 σ4
                    · refine j_aload_n (pc := 113) 0 dX11_copy_113 rfl rfl ?_
                      refine j_iconst (pc := 114) (v := 2) (by decide) dX11_copy_114 ?_
                      refine j_callVI (pc := 115) (As := [aI 2]) (st := []) (fun l => c11_meets l v0 2) cs_RX11_146 rfl rfl rfl rfl (Nat.le_of_ble_eq_true rfl) ⟨(Nat.le_of_ble_eq_true rfl), (Nat.le_of_ble_eq_true rfl)⟩ ⟨(Nat.le_of_ble_eq_true rfl), (Nat.le_of_ble_eq_true rfl)⟩ dX11_copy_115 (fun r21 σ22 => ?_)
                      exact j_ireturn (pc := 118) rfl (Nat.le_of_ble_eq_true rfl) (Nat.le_of_ble_eq_true rfl) dX11_copy_118
          · refine j_aload_n (pc := 58) 0 dX11_copy_58 rfl rfl ?_
            refine j_iconst (pc := 59) (v := 1) (by decide) dX11_copy_59 ?_
            refine j_callVI (pc := 60) (As := [aI 1]) (st := []) (fun l => c11_meets l v0 1) cs_RX11_146 rfl rfl rfl rfl (Nat.le_of_ble_eq_true rfl) ⟨(Nat.le_of_ble_eq_true rfl), (Nat.le_of_ble_eq_true rfl)⟩ ⟨(Nat.le_of_ble_eq_true rfl), (Nat.le_of_ble_eq_true rfl)⟩ dX11_copy_60 (fun r23 σ24 => ?_)
            exact j_ireturn (pc := 63) rfl (Nat.le_of_ble_eq_true rfl) (Nat.le_of_ble_eq_true rfl) dX11_copy_63
      · refine j_aload_n (pc := 34) 0 dX11_copy_34 rfl rfl ?_
        refine j_iconst (pc := 35) (v := 3) (by decide) dX11_copy_35 ?_
        refine j_callVI (pc := 36) (As := [aI 3]) (st := []) (fun l => c11_meets l v0 3) cs_RX11_146 rfl rfl rfl rfl (Nat.le_of_ble_eq_true rfl) ⟨(Nat.le_of_ble_eq_true rfl), (Nat.le_of_ble_eq_true rfl)⟩ ⟨(Nat.le_of_ble_eq_true rfl), (Nat.le_of_ble_eq_true rfl)⟩ dX11_copy_36 (fun r25 σ26 => ?_)
        exact j_ireturn (pc := 39) rfl (Nat.le_of_ble_eq_true rfl) (Nat.le_of_ble_eq_true rfl) dX11_copy_39
    · refine j_bipush (pc := 16) (v := (-101)) (by decide) dX11_copy_16 ?_
      exact j_ireturn (pc := 18) rfl (Nat.le_of_ble_eq_true rfl) (Nat.le_of_ble_eq_true rfl) dX11_copy_18
theorem c11_copy (l : Launch) (N : Nat) (v0 : Nat) (v1 : Int32) (v2 : Int32) (v3 : Int32) (v4 : Int32) (v5 : Int32) : Ctr l yX11_copy cX11_copy 7 (some .int) rm11_copy eI [aR 29 v0, aI v1, aI v2, aI v3, aI v4, aI v5] (f11_copy N v0 v1 v2 v3 v4 v5) := ctr_of (lv := [(0, aR 29 v0), (1, aI v1), (2, aI v2), (3, aI v3), (4, aI v4), (5, aI v5)]) (by decide +kernel) (fun _ => rfl) (fun _ => (Nat.le_of_ble_eq_true rfl)) (fun _ h => lvl_als h rfl) (fun _ σ _ => j11_copy N v0 v1 v2 v3 v4 v5 σ)
abbrev rm11_cost : Room := { frames := 3, cells := 0, slots := 0, locals := 70 }
set_option maxRecDepth 20000 in
set_option maxHeartbeats 4000000 in
theorem j11_cost {Γ : jX} {tg : Int32 × rS} (N : Nat) (v0 : Nat) (v1 : Int32) (v2 : Int32) (σ : rS) : J Γ rm11_cost eI cX11_cost RX11 3 (some .int) tg 0 0 0 [(0, aR 29 v0), (1, aI v1), (2, aI v2)] [] σ (f11_cost N v0 v1 v2 σ) := by
  unfold f11_cost
  refine j_aload_n (pc := 0) 0 dX11_cost_0 rfl rfl ?_
  refine j_iload_n (pc := 1) 1 dX11_cost_1 rfl rfl ?_
  refine j_callVZ (pc := 2) (As := [aI v1]) (st := []) (fun l => c11_isRow l v0 v1) cs_RX11_154 rfl rfl rfl rfl (Nat.le_of_ble_eq_true rfl) ⟨(Nat.le_of_ble_eq_true rfl), (Nat.le_of_ble_eq_true rfl)⟩ ⟨(Nat.le_of_ble_eq_true rfl), (Nat.le_of_ble_eq_true rfl)⟩ dX11_cost_2 (fun r1 σ2 => ?_)
  refine j_ifneB (pc := 5) (tgt := 11) dX11_cost_5 rfl (fun _ => ?_) (fun _ => ?_)
  · refine j_iload_n (pc := 11) 2 dX11_cost_11 rfl rfl ?_
    refine j_i2l (pc := 12) dX11_cost_12 ?_
    refine j_lconst (pc := 13) (v := 0) (by decide) dX11_cost_13 ?_
    refine j_ldc2 (pc := 14) tw_5_100 dX11_cost_14 ?_
    refine j_callSZ (pc := 17) (As := [aL (Int32.toInt64 v2), aL 0, aL 4]) (st := []) (fun l => c11_in l (Int32.toInt64 v2) 0 4) cs_RX11_140 rfl rfl (Nat.le_of_ble_eq_true rfl) ⟨(Nat.le_of_ble_eq_true rfl), (Nat.le_of_ble_eq_true rfl)⟩ ⟨(Nat.le_of_ble_eq_true rfl), (Nat.le_of_ble_eq_true rfl)⟩ dX11_cost_17 (fun r3 σ4 => ?_)
    refine j_ifneB (pc := 20) (tgt := 26) dX11_cost_20 rfl (fun _ => ?_) (fun _ => ?_)
    · refine j_aload_n (pc := 26) 0 dX11_cost_26 rfl rfl ?_
      refine j_getF (pc := 27) fd_29_6 tw_4_72 dX11_cost_27 ?_
      refine j_iload_n (pc := 30) 1 dX11_cost_30 rfl rfl ?_
      refine j_zald (pc := 31) rfl rfl rfl dX11_cost_31 (fun j5 => ?_)
      refine j_ifeq (pc := 32) (tgt := 41) dX11_cost_32 rfl (fun _ => ?_) (fun _ => ?_)
      · refine j_aload_n (pc := 41) 0 dX11_cost_41 rfl rfl ?_
        refine j_iload_n (pc := 42) 1 dX11_cost_42 rfl rfl ?_
        refine j_iload_n (pc := 43) 2 dX11_cost_43 rfl rfl ?_
        refine j_callVV (pc := 44) (As := [aI v1, aI v2]) (st := []) (fun l => c11_codeRow l N v0 v1 v2) cs_RX11_252 rfl rfl rfl rfl (Nat.le_of_ble_eq_true rfl) ⟨(Nat.le_of_ble_eq_true rfl), (Nat.le_of_ble_eq_true rfl)⟩ ⟨(Nat.le_of_ble_eq_true rfl), (Nat.le_of_ble_eq_true rfl)⟩ dX11_cost_44 (fun r6 σ7 => ?_)
        refine j_aload_n (pc := 47) 0 dX11_cost_47 rfl rfl ?_
        refine j_getI (pc := 48) fd_29_12 tw_4_78 dX11_cost_48 ?_
        exact j_ireturn (pc := 51) rfl (Nat.le_of_ble_eq_true rfl) (Nat.le_of_ble_eq_true rfl) dX11_cost_51
      · refine j_aload_n (pc := 35) 0 dX11_cost_35 rfl rfl ?_
        refine j_iconst (pc := 36) (v := 1) (by decide) dX11_cost_36 ?_
        refine j_callVI (pc := 37) (As := [aI 1]) (st := []) (fun l => c11_meets l v0 1) cs_RX11_146 rfl rfl rfl rfl (Nat.le_of_ble_eq_true rfl) ⟨(Nat.le_of_ble_eq_true rfl), (Nat.le_of_ble_eq_true rfl)⟩ ⟨(Nat.le_of_ble_eq_true rfl), (Nat.le_of_ble_eq_true rfl)⟩ dX11_cost_37 (fun r8 σ9 => ?_)
        exact j_ireturn (pc := 40) rfl (Nat.le_of_ble_eq_true rfl) (Nat.le_of_ble_eq_true rfl) dX11_cost_40
    · refine j_bipush (pc := 23) (v := (-102)) (by decide) dX11_cost_23 ?_
      exact j_ireturn (pc := 25) rfl (Nat.le_of_ble_eq_true rfl) (Nat.le_of_ble_eq_true rfl) dX11_cost_25
  · refine j_bipush (pc := 8) (v := (-101)) (by decide) dX11_cost_8 ?_
    exact j_ireturn (pc := 10) rfl (Nat.le_of_ble_eq_true rfl) (Nat.le_of_ble_eq_true rfl) dX11_cost_10
theorem c11_cost (l : Launch) (N : Nat) (v0 : Nat) (v1 : Int32) (v2 : Int32) : Ctr l yX11_cost cX11_cost 3 (some .int) rm11_cost eI [aR 29 v0, aI v1, aI v2] (f11_cost N v0 v1 v2) := ctr_of (lv := [(0, aR 29 v0), (1, aI v1), (2, aI v2)]) (by decide +kernel) (fun _ => rfl) (fun _ => (Nat.le_of_ble_eq_true rfl)) (fun _ h => lvl_als h rfl) (fun _ σ _ => j11_cost N v0 v1 v2 σ)
theorem cs_RX11_322 : CaV RX11 RX11 322 yX11_bodiesNow cX11_bodiesNow 3 (some .int) 0 := ⟨tw_6_34, tw_6_36, tw_p46, tw_1_5, tw_6_37, rfl, by decide +kernel, by decide +kernel, by decide +kernel⟩
abbrev rm11_count : Room := { frames := 1, cells := 0, slots := 0, locals := 22 }
set_option maxRecDepth 20000 in
set_option maxHeartbeats 4000000 in
theorem j11_count {Γ : jX} {tg : Int32 × rS} (N : Nat) (v0 : Nat) (v1 : Int32) (σ : rS) : J Γ rm11_count eI cX11_count RX11 2 (some .int) tg 0 0 0 [(0, aR 29 v0), (1, aI v1)] [] σ (f11_count N v0 v1 σ) := by
  unfold f11_count
  refine j_iload_n (pc := 0) 1 dX11_count_0 rfl rfl ?_
  refine j_ifne (pc := 1) (tgt := 11) dX11_count_1 rfl (fun _ => ?_) (fun _ => ?_)
  · refine j_iload_n (pc := 11) 1 dX11_count_11 rfl rfl ?_
    refine j_iconst (pc := 12) (v := 1) (by decide) dX11_count_12 ?_
    refine j_icmpne (pc := 13) (tgt := 23) dX11_count_13 rfl (fun _ => ?_) (fun _ => ?_)
    · refine j_iload_n (pc := 23) 1 dX11_count_23 rfl rfl ?_
      refine j_iconst (pc := 24) (v := 2) (by decide) dX11_count_24 ?_
      refine j_icmpne (pc := 25) (tgt := 35) dX11_count_25 rfl (fun _ => ?_) (fun _ => ?_)
      · refine j_iload_n (pc := 35) 1 dX11_count_35 rfl rfl ?_
        refine j_iconst (pc := 36) (v := 3) (by decide) dX11_count_36 ?_
        refine j_icmpne (pc := 37) (tgt := 47) dX11_count_37 rfl (fun _ => ?_) (fun _ => ?_)
        · refine j_iload_n (pc := 47) 1 dX11_count_47 rfl rfl ?_
          refine j_iconst (pc := 48) (v := 4) (by decide) dX11_count_48 ?_
          refine j_icmpne (pc := 49) (tgt := 59) dX11_count_49 rfl (fun _ => ?_) (fun _ => ?_)
          · refine j_iload_n (pc := 59) 1 dX11_count_59 rfl rfl ?_
            refine j_iconst (pc := 60) (v := 5) (by decide) dX11_count_60 ?_
            refine j_icmpne (pc := 61) (tgt := 71) dX11_count_61 rfl (fun _ => ?_) (fun _ => ?_)
            · refine j_bipush (pc := 71) (v := (-102)) (by decide) dX11_count_71 ?_
              exact j_ireturn (pc := 73) rfl (Nat.le_of_ble_eq_true rfl) (Nat.le_of_ble_eq_true rfl) dX11_count_73
            · refine j_aload_n (pc := 64) 0 dX11_count_64 rfl rfl ?_
              refine j_getI (pc := 65) fd_29_30 tw_4_96 dX11_count_65 ?_
              refine j_goto (pc := 68) (tgt := 73) dX11_count_68 rfl ?_
              exact j_ireturn (pc := 73) rfl (Nat.le_of_ble_eq_true rfl) (Nat.le_of_ble_eq_true rfl) dX11_count_73
          · refine j_aload_n (pc := 52) 0 dX11_count_52 rfl rfl ?_
            refine j_getI (pc := 53) fd_29_26 tw_4_92 dX11_count_53 ?_
            refine j_goto (pc := 56) (tgt := 73) dX11_count_56 rfl ?_
            exact j_ireturn (pc := 73) rfl (Nat.le_of_ble_eq_true rfl) (Nat.le_of_ble_eq_true rfl) dX11_count_73
        · refine j_aload_n (pc := 40) 0 dX11_count_40 rfl rfl ?_
          refine j_getI (pc := 41) fd_29_25 tw_4_91 dX11_count_41 ?_
          refine j_goto (pc := 44) (tgt := 73) dX11_count_44 rfl ?_
          exact j_ireturn (pc := 73) rfl (Nat.le_of_ble_eq_true rfl) (Nat.le_of_ble_eq_true rfl) dX11_count_73
      · refine j_aload_n (pc := 28) 0 dX11_count_28 rfl rfl ?_
        refine j_callVI (pc := 29) (As := []) (st := []) (fun l => c11_bodiesNow l N v0) cs_RX11_322 rfl rfl rfl rfl (Nat.le_of_ble_eq_true rfl) ⟨(Nat.le_of_ble_eq_true rfl), (Nat.le_of_ble_eq_true rfl)⟩ ⟨(Nat.le_of_ble_eq_true rfl), (Nat.le_of_ble_eq_true rfl)⟩ dX11_count_29 (fun r1 σ2 => ?_)
        refine j_goto (pc := 32) (tgt := 73) dX11_count_32 rfl ?_
        exact j_ireturn (pc := 73) rfl (Nat.le_of_ble_eq_true rfl) (Nat.le_of_ble_eq_true rfl) dX11_count_73
    · refine j_aload_n (pc := 16) 0 dX11_count_16 rfl rfl ?_
      refine j_getI (pc := 17) fd_29_13 tw_4_79 dX11_count_17 ?_
      refine j_goto (pc := 20) (tgt := 73) dX11_count_20 rfl ?_
      exact j_ireturn (pc := 73) rfl (Nat.le_of_ble_eq_true rfl) (Nat.le_of_ble_eq_true rfl) dX11_count_73
  · refine j_aload_n (pc := 4) 0 dX11_count_4 rfl rfl ?_
    refine j_getI (pc := 5) fd_29_3 tw_4_69 dX11_count_5 ?_
    refine j_goto (pc := 8) (tgt := 73) dX11_count_8 rfl ?_
    exact j_ireturn (pc := 73) rfl (Nat.le_of_ble_eq_true rfl) (Nat.le_of_ble_eq_true rfl) dX11_count_73
theorem c11_count (l : Launch) (N : Nat) (v0 : Nat) (v1 : Int32) : Ctr l yX11_count cX11_count 2 (some .int) rm11_count eI [aR 29 v0, aI v1] (f11_count N v0 v1) := ctr_of (lv := [(0, aR 29 v0), (1, aI v1)]) (by decide +kernel) (fun _ => rfl) (fun _ => (Nat.le_of_ble_eq_true rfl)) (fun _ h => lvl_als h rfl) (fun _ σ _ => j11_count N v0 v1 σ)
abbrev rm11_cut : Room := { frames := 1, cells := 0, slots := 0, locals := 22 }
set_option maxRecDepth 20000 in
set_option maxHeartbeats 4000000 in
theorem j11_cut {Γ : jX} {tg : Int64 × rS} (v0 : Int32) (v1 : Int64) (σ : rS) : J Γ rm11_cut eL cX11_cut RX11 3 (some .long) tg 0 0 0 [(0, aI v0), (1, aL v1)] [] σ (f11_cut v0 v1 σ) := by
  unfold f11_cut
  refine j_iload_n (pc := 0) 0 dX11_cut_0 rfl rfl ?_
  refine j_case 0 (fun h0 => ?_) (fun h0 => ?_)
  · refine j_tableIn (pc := 1) (off := 47) (tgt := 48) dX11_cut_1 (by rw [h0]; decide) (by rw [h0]; decide) (by rw [h0]; rfl) rfl ?_
    refine j_lload_n (pc := 48) 1 dX11_cut_48 rfl rfl ?_
    refine j_lconst (pc := 49) (v := 1) (by decide) dX11_cut_49 ?_
    refine j_land (pc := 50) dX11_cut_50 ?_
    exact j_lreturn (pc := 51) rfl (Nat.le_of_ble_eq_true rfl) (Nat.le_of_ble_eq_true rfl) dX11_cut_51
  · refine j_case 1 (fun h1 => ?_) (fun h1 => ?_)
    · refine j_tableIn (pc := 1) (off := 51) (tgt := 52) dX11_cut_1 (by rw [h1]; decide) (by rw [h1]; decide) (by rw [h1]; rfl) rfl ?_
      refine j_lload_n (pc := 52) 1 dX11_cut_52 rfl rfl ?_
      refine j_l2i (pc := 53) dX11_cut_53 ?_
      refine j_i2b (pc := 54) dX11_cut_54 ?_
      refine j_i2l (pc := 55) dX11_cut_55 ?_
      exact j_lreturn (pc := 56) rfl (Nat.le_of_ble_eq_true rfl) (Nat.le_of_ble_eq_true rfl) dX11_cut_56
    · refine j_case 2 (fun h2 => ?_) (fun h2 => ?_)
      · refine j_tableIn (pc := 1) (off := 56) (tgt := 57) dX11_cut_1 (by rw [h2]; decide) (by rw [h2]; decide) (by rw [h2]; rfl) rfl ?_
        refine j_lload_n (pc := 57) 1 dX11_cut_57 rfl rfl ?_
        refine j_l2i (pc := 58) dX11_cut_58 ?_
        refine j_i2c (pc := 59) dX11_cut_59 ?_
        refine j_i2l (pc := 60) dX11_cut_60 ?_
        exact j_lreturn (pc := 61) rfl (Nat.le_of_ble_eq_true rfl) (Nat.le_of_ble_eq_true rfl) dX11_cut_61
      · refine j_case 3 (fun h3 => ?_) (fun h3 => ?_)
        · refine j_tableIn (pc := 1) (off := 61) (tgt := 62) dX11_cut_1 (by rw [h3]; decide) (by rw [h3]; decide) (by rw [h3]; rfl) rfl ?_
          refine j_lload_n (pc := 62) 1 dX11_cut_62 rfl rfl ?_
          refine j_l2i (pc := 63) dX11_cut_63 ?_
          refine j_i2s (pc := 64) dX11_cut_64 ?_
          refine j_i2l (pc := 65) dX11_cut_65 ?_
          exact j_lreturn (pc := 66) rfl (Nat.le_of_ble_eq_true rfl) (Nat.le_of_ble_eq_true rfl) dX11_cut_66
        · refine j_case 4 (fun h4 => ?_) (fun h4 => ?_)
          · refine j_tableIn (pc := 1) (off := 66) (tgt := 67) dX11_cut_1 (by rw [h4]; decide) (by rw [h4]; decide) (by rw [h4]; rfl) rfl ?_
            refine j_lload_n (pc := 67) 1 dX11_cut_67 rfl rfl ?_
            refine j_l2i (pc := 68) dX11_cut_68 ?_
            refine j_i2l (pc := 69) dX11_cut_69 ?_
            exact j_lreturn (pc := 70) rfl (Nat.le_of_ble_eq_true rfl) (Nat.le_of_ble_eq_true rfl) dX11_cut_70
          · refine j_case 5 (fun h5 => ?_) (fun h5 => ?_)
            · refine j_tableIn (pc := 1) (off := 104) (tgt := 105) dX11_cut_1 (by rw [h5]; decide) (by rw [h5]; decide) (by rw [h5]; rfl) rfl ?_
              refine j_lload_n (pc := 105) 1 dX11_cut_105 rfl rfl ?_
              exact j_lreturn (pc := 106) rfl (Nat.le_of_ble_eq_true rfl) (Nat.le_of_ble_eq_true rfl) dX11_cut_106
            · refine j_case 6 (fun h6 => ?_) (fun h6 => ?_)
              · refine j_tableIn (pc := 1) (off := 70) (tgt := 71) dX11_cut_1 (by rw [h6]; decide) (by rw [h6]; decide) (by rw [h6]; rfl) rfl ?_
                refine j_iload_n (pc := 71) 0 dX11_cut_71 rfl rfl ?_
                refine j_lload_n (pc := 72) 1 dX11_cut_72 rfl rfl ?_
                refine j_callSZ (pc := 73) (As := [aI v0, aL v1]) (st := []) (fun l => c11_isGap l v0 v1) cs_RX11_99 rfl rfl (Nat.le_of_ble_eq_true rfl) ⟨(Nat.le_of_ble_eq_true rfl), (Nat.le_of_ble_eq_true rfl)⟩ ⟨(Nat.le_of_ble_eq_true rfl), (Nat.le_of_ble_eq_true rfl)⟩ dX11_cut_73 (fun r1 σ2 => ?_)
                refine j_ifeqB (pc := 76) (tgt := 85) dX11_cut_76 rfl (fun _ => ?_) (fun _ => ?_)
                · refine j_lload_n (pc := 85) 1 dX11_cut_85 rfl rfl ?_
                  refine j_l2i (pc := 86) dX11_cut_86 ?_
                  refine j_i2l (pc := 87) dX11_cut_87 ?_
                  exact j_lreturn (pc := 88) rfl (Nat.le_of_ble_eq_true rfl) (Nat.le_of_ble_eq_true rfl) dX11_cut_88
                · refine j_ldc2 (pc := 79) tw_4_229 dX11_cut_79 ?_
                  refine j_goto (pc := 82) (tgt := 88) dX11_cut_82 rfl ?_
                  exact j_lreturn (pc := 88) rfl (Nat.le_of_ble_eq_true rfl) (Nat.le_of_ble_eq_true rfl) dX11_cut_88
              · refine j_case 7 (fun h7 => ?_) (fun h7 => ?_)
                · refine j_tableIn (pc := 1) (off := 88) (tgt := 89) dX11_cut_1 (by rw [h7]; decide) (by rw [h7]; decide) (by rw [h7]; rfl) rfl ?_
                  refine j_iload_n (pc := 89) 0 dX11_cut_89 rfl rfl ?_
                  refine j_lload_n (pc := 90) 1 dX11_cut_90 rfl rfl ?_
                  refine j_callSZ (pc := 91) (As := [aI v0, aL v1]) (st := []) (fun l => c11_isGap l v0 v1) cs_RX11_99 rfl rfl (Nat.le_of_ble_eq_true rfl) ⟨(Nat.le_of_ble_eq_true rfl), (Nat.le_of_ble_eq_true rfl)⟩ ⟨(Nat.le_of_ble_eq_true rfl), (Nat.le_of_ble_eq_true rfl)⟩ dX11_cut_91 (fun r3 σ4 => ?_)
                  refine j_ifeqB (pc := 94) (tgt := 103) dX11_cut_94 rfl (fun _ => ?_) (fun _ => ?_)
                  · refine j_lload_n (pc := 103) 1 dX11_cut_103 rfl rfl ?_
                    exact j_lreturn (pc := 104) rfl (Nat.le_of_ble_eq_true rfl) (Nat.le_of_ble_eq_true rfl) dX11_cut_104
                  · refine j_ldc2 (pc := 97) tw_4_230 dX11_cut_97 ?_
                    refine j_goto (pc := 100) (tgt := 104) dX11_cut_100 rfl ?_
                    exact j_lreturn (pc := 104) rfl (Nat.le_of_ble_eq_true rfl) (Nat.le_of_ble_eq_true rfl) dX11_cut_104
                · have g0 := lv_neT h0 (show ((0 : Int32)).toInt = 0 by decide)
                  have g1 := lv_neT h1 (show ((1 : Int32)).toInt = 1 by decide)
                  have g2 := lv_neT h2 (show ((2 : Int32)).toInt = 2 by decide)
                  have g3 := lv_neT h3 (show ((3 : Int32)).toInt = 3 by decide)
                  have g4 := lv_neT h4 (show ((4 : Int32)).toInt = 4 by decide)
                  have g5 := lv_neT h5 (show ((5 : Int32)).toInt = 5 by decide)
                  have g6 := lv_neT h6 (show ((6 : Int32)).toInt = 6 by decide)
                  have g7 := lv_neT h7 (show ((7 : Int32)).toInt = 7 by decide)
                  refine j_tableOut (pc := 1) (tgt := 105) dX11_cut_1 (by omega) rfl ?_
                  refine j_lload_n (pc := 105) 1 dX11_cut_105 rfl rfl ?_
                  exact j_lreturn (pc := 106) rfl (Nat.le_of_ble_eq_true rfl) (Nat.le_of_ble_eq_true rfl) dX11_cut_106
theorem c11_cut (l : Launch) (v0 : Int32) (v1 : Int64) : Ctr l yX11_cut cX11_cut 3 (some .long) rm11_cut eL [aI v0, aL v1] (f11_cut v0 v1) := ctr_of (lv := [(0, aI v0), (1, aL v1)]) (by decide +kernel) (fun _ => rfl) (fun _ => (Nat.le_of_ble_eq_true rfl)) (fun _ h => lvl_als h rfl) (fun _ σ _ => j11_cut v0 v1 σ)
abbrev rm11_takes : Room := { frames := 0, cells := 0, slots := 0, locals := 0 }
set_option maxRecDepth 20000 in
set_option maxHeartbeats 4000000 in
theorem jb11_takes_5 {Γ : jX} {tg : Bool × rS} (N : Nat) (K5 : Nat → Int32 → Int64 → Int32 → rS → Option (Bool × rS)) (hK5 : ∀ (v0 : Nat) (v1 : Int32) (v2 : Int64) (v4 : Int32) (σ : rS), J Γ rm11_takes eZ cX11_takes RX11 6 (some .boolean) tg 0 0 5 [(0, aR 29 v0), (1, aI v1), (2, aL v2), (4, aI v4)] [] σ (K5 v0 v1 v2 v4 σ)) (v0 : Nat) (v1 : Int32) (v2 : Int64) (v4 : Int32) (σ : rS) : J Γ rm11_takes eZ cX11_takes RX11 6 (some .boolean) tg 0 0 5 [(0, aR 29 v0), (1, aI v1), (2, aL v2), (4, aI v4)] [] σ (B11_takes_5 N K5 v0 v1 v2 v4 σ) := by
  unfold B11_takes_5
  refine j_iload (pc := 5) 3 dX11_takes_5 rfl ?_
  refine j_bipush (pc := 7) (v := 10) (by decide) dX11_takes_7 ?_
  refine j_icmpge (pc := 9) (tgt := 93) dX11_takes_9 rfl (fun _ => ?_) (fun _ => ?_)
  · refine j_iconst (pc := 93) (v := 0) (by decide) dX11_takes_93 ?_
    exact j_zret0 (pc := 94) rfl (Nat.le_of_ble_eq_true rfl) (Nat.le_of_ble_eq_true rfl) dX11_takes_94
  · refine j_aload_n (pc := 12) 0 dX11_takes_12 rfl rfl ?_
    refine j_getI (pc := 13) fd_29_18 tw_4_84 dX11_takes_13 ?_
    refine j_aload_n (pc := 16) 0 dX11_takes_16 rfl rfl ?_
    refine j_getI (pc := 17) fd_29_19 tw_4_85 dX11_takes_17 ?_
    refine j_icmpge (pc := 20) (tgt := 93) dX11_takes_20 rfl (fun _ => ?_) (fun _ => ?_)
    · refine j_iconst (pc := 93) (v := 0) (by decide) dX11_takes_93 ?_
      exact j_zret0 (pc := 94) rfl (Nat.le_of_ble_eq_true rfl) (Nat.le_of_ble_eq_true rfl) dX11_takes_94
    · refine j_aload_n (pc := 23) 0 dX11_takes_23 rfl rfl ?_
      refine j_getF (pc := 24) fd_29_14 tw_4_80 dX11_takes_24 ?_
      refine j_sipush (pc := 27) (v := 400) (by decide) dX11_takes_27 ?_
      refine j_iload_n (pc := 30) 1 dX11_takes_30 rfl rfl ?_
      refine j_imul (pc := 31) dX11_takes_31 ?_
      refine j_aload_n (pc := 32) 0 dX11_takes_32 rfl rfl ?_
      refine j_getI (pc := 33) fd_29_18 tw_4_84 dX11_takes_33 ?_
      refine j_iadd (pc := 36) dX11_takes_36 ?_
      refine j_iald (pc := 37) rfl rfl rfl dX11_takes_37 (fun j1 => ?_)
      refine j_leti (fun x2 => ?_)
      refine j_istore (pc := 38) (lv' := [(5, aI x2), (0, aR 29 v0), (1, aI v1), (2, aL v2), (4, aI v4)]) dX11_takes_38 (Nat.le_of_ble_eq_true rfl) rfl ?_
      refine j_aload_n (pc := 40) 1 dX11_takes_40 rfl rfl ?_
      refine j_dup (pc := 41) dX11_takes_41 rfl ?_
      refine j_getI (pc := 42) fd_29_18 tw_4_84 dX11_takes_42 ?_
      refine j_iconst (pc := 45) (v := 1) (by decide) dX11_takes_45 ?_
      refine j_iadd (pc := 46) dX11_takes_46 ?_
      refine j_putI (pc := 47) fd_29_18 rfl rfl tw_4_84 dX11_takes_47 ?_
      refine j_lets (fun σ3 => ?_)
      refine j_lload_n (pc := 50) 3 dX11_takes_50 rfl rfl ?_
      refine j_iload (pc := 51) 0 dX11_takes_51 rfl ?_
      refine j_bipush (pc := 53) (v := 127) (by decide) dX11_takes_53 ?_
      refine j_iand (pc := 55) dX11_takes_55 ?_
      refine j_i2l (pc := 56) dX11_takes_56 ?_
      refine j_bipush (pc := 57) (v := 7) (by decide) dX11_takes_57 ?_
      refine j_iload (pc := 59) 4 dX11_takes_59 rfl ?_
      refine j_imul (pc := 61) dX11_takes_61 ?_
      refine j_lshl (pc := 62) dX11_takes_62 ?_
      refine j_lor (pc := 63) dX11_takes_63 ?_
      refine j_letl (fun x4 => ?_)
      refine j_lstore_n (pc := 64) (lv' := [(2, aL x4), (5, aI x2), (0, aR 29 v0), (1, aI v1), (4, aI v4)]) dX11_takes_64 rfl (Nat.le_of_ble_eq_true rfl) rfl ?_
      refine j_iload (pc := 65) 1 dX11_takes_65 rfl ?_
      refine j_sipush (pc := 67) (v := 128) (by decide) dX11_takes_67 ?_
      refine j_icmpge (pc := 70) (tgt := 87) dX11_takes_70 rfl (fun _ => ?_) (fun _ => ?_)
      · refine j_iinc (pc := 87) (w := 1) (lv' := [(4, aI (v4 + 1)), (2, aL x4), (5, aI x2), (0, aR 29 v0), (1, aI v1)]) 4 dX11_takes_87 rfl (by decide) (Nat.le_of_ble_eq_true rfl) rfl ?_
        refine j_goto (pc := 90) (tgt := 5) dX11_takes_90 rfl ?_
        refine j_sub [3, 4, 1, 0] (lv' := [(0, aR 29 v0), (1, aI v1), (2, aL x4), (4, aI (v4 + 1))]) rfl ?_
        exact hK5 v0 v1 x4 (v4 + 1) σ3
      · refine j_aload_n (pc := 73) 2 dX11_takes_73 rfl rfl ?_
        refine j_lload_n (pc := 74) 0 dX11_takes_74 rfl rfl ?_
        refine j_iconst (pc := 75) (v := 1) (by decide) dX11_takes_75 ?_
        refine j_lushr (pc := 76) dX11_takes_76 ?_
        refine j_lload_n (pc := 77) 0 dX11_takes_77 rfl rfl ?_
        refine j_lconst (pc := 78) (v := 1) (by decide) dX11_takes_78 ?_
        refine j_land (pc := 79) dX11_takes_79 ?_
        refine j_lneg (pc := 80) dX11_takes_80 ?_
        refine j_lxor (pc := 81) dX11_takes_81 ?_
        refine j_putL (pc := 82) fd_29_20 tw_4_86 dX11_takes_82 ?_
        refine j_lets (fun σ5 => ?_)
        refine j_iconst (pc := 85) (v := 1) (by decide) dX11_takes_85 ?_
        exact j_zret1 (pc := 86) rfl (Nat.le_of_ble_eq_true rfl) (Nat.le_of_ble_eq_true rfl) dX11_takes_86
theorem jl11_takes_5 {Γ : jX} {tg : Bool × rS} (N : Nat) : ∀ (n : Nat) (v0 : Nat) (v1 : Int32) (v2 : Int64) (v4 : Int32) (σ : rS), J Γ rm11_takes eZ cX11_takes RX11 6 (some .boolean) tg 0 0 5 [(0, aR 29 v0), (1, aI v1), (2, aL v2), (4, aI v4)] [] σ (L11_takes_5 N n v0 v1 v2 v4 σ) := by
  intro n
  induction n with
  | zero => intro v0 v1 v2 v4 σ; exact j_none
  | succ n ih => intro v0 v1 v2 v4 σ; exact jb11_takes_5 N (L11_takes_5 N n) ih v0 v1 v2 v4 σ
set_option maxRecDepth 20000 in
set_option maxHeartbeats 4000000 in
theorem j11_takes {Γ : jX} {tg : Bool × rS} (N : Nat) (v0 : Nat) (v1 : Int32) (σ : rS) : J Γ rm11_takes eZ cX11_takes RX11 6 (some .boolean) tg 0 0 0 [(0, aR 29 v0), (1, aI v1)] [] σ (f11_takes N v0 v1 σ) := by
  unfold f11_takes
  refine j_lconst (pc := 0) (v := 0) (by decide) dX11_takes_0 ?_
  refine j_lstore_n (pc := 1) (lv' := [(2, aL 0), (0, aR 29 v0), (1, aI v1)]) dX11_takes_1 rfl (Nat.le_of_ble_eq_true rfl) rfl ?_
  refine j_iconst (pc := 2) (v := 0) (by decide) dX11_takes_2 ?_
  refine j_istore (pc := 3) (lv' := [(4, aI 0), (2, aL 0), (0, aR 29 v0), (1, aI v1)]) dX11_takes_3 (Nat.le_of_ble_eq_true rfl) rfl ?_
  refine j_sub [2, 3, 1, 0] (lv' := [(0, aR 29 v0), (1, aI v1), (2, aL 0), (4, aI 0)]) rfl ?_
  exact jl11_takes_5 N  N v0 v1 0 0 σ
theorem c11_takes (l : Launch) (N : Nat) (v0 : Nat) (v1 : Int32) : Ctr l yX11_takes cX11_takes 6 (some .boolean) rm11_takes eZ [aR 29 v0, aI v1] (f11_takes N v0 v1) := ctr_of (lv := [(0, aR 29 v0), (1, aI v1)]) (by decide +kernel) (fun _ => rfl) (fun _ => (Nat.le_of_ble_eq_true rfl)) (fun _ h => lvl_als h rfl) (fun _ σ _ => j11_takes N v0 v1 σ)
theorem cs_RX11_274 : CaV RX11 RX11 274 yX11_takes cX11_takes 6 (some .boolean) 1 := ⟨tw_5_181, tw_5_183, tw_p37, tw_1_5, tw_5_184, rfl, by decide +kernel, by decide +kernel, by decide +kernel⟩
abbrev rm11_decode : Room := { frames := 1, cells := 0, slots := 0, locals := 25 }
set_option maxRecDepth 20000 in
set_option maxHeartbeats 4000000 in
theorem jb11_decode_311 {Γ : jX} {tg : Bool × rS} (N : Nat) (v0 : Nat) (v2 : Int32) (σ : rS) : J Γ rm11_decode eZ cX11_decode RX11 8 (some .boolean) tg 0 0 311 [(0, aR 29 v0), (2, aI v2)] [] σ (B11_decode_311 N v0 v2 σ) := by
  unfold B11_decode_311
  refine j_iload_n (pc := 311) 1 dX11_decode_311 rfl rfl ?_
  refine j_ifle (pc := 312) (tgt := 324) dX11_decode_312 rfl (fun _ => ?_) (fun _ => ?_)
  · refine j_iconst (pc := 324) (v := 1) (by decide) dX11_decode_324 ?_
    exact j_zret1 (pc := 325) rfl (Nat.le_of_ble_eq_true rfl) (Nat.le_of_ble_eq_true rfl) dX11_decode_325
  · refine j_iload_n (pc := 315) 1 dX11_decode_315 rfl rfl ?_
    refine j_iconst (pc := 316) (v := 3) (by decide) dX11_decode_316 ?_
    refine j_icmpeq (pc := 317) (tgt := 324) dX11_decode_317 rfl (fun _ => ?_) (fun _ => ?_)
    · refine j_iconst (pc := 324) (v := 1) (by decide) dX11_decode_324 ?_
      exact j_zret1 (pc := 325) rfl (Nat.le_of_ble_eq_true rfl) (Nat.le_of_ble_eq_true rfl) dX11_decode_325
    · refine j_aload_n (pc := 320) 0 dX11_decode_320 rfl rfl ?_
      refine j_callVV (pc := 321) (As := []) (st := []) (fun l => c11_sums l N v0) cs_RX11_232 rfl rfl rfl rfl (Nat.le_of_ble_eq_true rfl) ⟨(Nat.le_of_ble_eq_true rfl), (Nat.le_of_ble_eq_true rfl)⟩ ⟨(Nat.le_of_ble_eq_true rfl), (Nat.le_of_ble_eq_true rfl)⟩ dX11_decode_321 (fun r1 σ2 => ?_)
      refine j_iconst (pc := 324) (v := 1) (by decide) dX11_decode_324 ?_
      exact j_zret1 (pc := 325) rfl (Nat.le_of_ble_eq_true rfl) (Nat.le_of_ble_eq_true rfl) dX11_decode_325
set_option maxRecDepth 20000 in
set_option maxHeartbeats 4000000 in
theorem jb11_decode_265 {Γ : jX} {tg : Bool × rS} (N : Nat) (K191 : Nat → Int32 → Int32 → Int32 → rS → Option (Bool × rS)) (K265 : Nat → Int32 → Int32 → Int32 → Int64 → Int32 → Int32 → rS → Option (Bool × rS)) (hK191 : ∀ (v0 : Nat) (v1 : Int32) (v2 : Int32) (v3 : Int32) (σ : rS), J Γ rm11_decode eZ cX11_decode RX11 8 (some .boolean) tg 0 0 191 [(0, aR 29 v0), (1, aI v1), (2, aI v2), (3, aI v3)] [] σ (K191 v0 v1 v2 v3 σ)) (hK265 : ∀ (v0 : Nat) (v1 : Int32) (v2 : Int32) (v3 : Int32) (v4 : Int64) (v6 : Int32) (v7 : Int32) (σ : rS), J Γ rm11_decode eZ cX11_decode RX11 8 (some .boolean) tg 0 0 265 [(0, aR 29 v0), (1, aI v1), (2, aI v2), (3, aI v3), (4, aL v4), (6, aI v6), (7, aI v7)] [] σ (K265 v0 v1 v2 v3 v4 v6 v7 σ)) (v0 : Nat) (v1 : Int32) (v2 : Int32) (v3 : Int32) (v4 : Int64) (v6 : Int32) (v7 : Int32) (σ : rS) : J Γ rm11_decode eZ cX11_decode RX11 8 (some .boolean) tg 0 0 265 [(0, aR 29 v0), (1, aI v1), (2, aI v2), (3, aI v3), (4, aL v4), (6, aI v6), (7, aI v7)] [] σ (B11_decode_265 N K191 K265 v0 v1 v2 v3 v4 v6 v7 σ) := by
  unfold B11_decode_265
  refine j_iload (pc := 265) 6 dX11_decode_265 rfl ?_
  refine j_iload (pc := 267) 5 dX11_decode_267 rfl ?_
  refine j_icmpge (pc := 269) (tgt := 299) dX11_decode_269 rfl (fun _ => ?_) (fun _ => ?_)
  · refine j_goto (pc := 299) (tgt := 191) dX11_decode_299 rfl ?_
    refine j_sub [0, 1, 2, 3] (lv' := [(0, aR 29 v0), (1, aI v1), (2, aI v2), (3, aI v3)]) rfl ?_
    exact hK191 v0 v1 v2 v3 σ
  · refine j_aload_n (pc := 272) 0 dX11_decode_272 rfl rfl ?_
    refine j_getF (pc := 273) fd_29_9 tw_4_75 dX11_decode_273 ?_
    refine j_aload_n (pc := 276) 0 dX11_decode_276 rfl rfl ?_
    refine j_getI (pc := 277) fd_29_10 tw_4_76 dX11_decode_277 ?_
    refine j_lload (pc := 280) 4 dX11_decode_280 rfl ?_
    refine j_last (pc := 282) rfl rfl rfl dX11_decode_282 (fun j1 => ?_)
    refine j_lets (fun σ2 => ?_)
    refine j_aload_n (pc := 283) 0 dX11_decode_283 rfl rfl ?_
    refine j_dup (pc := 284) dX11_decode_284 rfl ?_
    refine j_getI (pc := 285) fd_29_10 tw_4_76 dX11_decode_285 ?_
    refine j_iconst (pc := 288) (v := 1) (by decide) dX11_decode_288 ?_
    refine j_iadd (pc := 289) dX11_decode_289 ?_
    refine j_putI (pc := 290) fd_29_10 rfl rfl tw_4_76 dX11_decode_290 ?_
    refine j_lets (fun σ3 => ?_)
    refine j_iinc (pc := 293) (w := 1) (lv' := [(7, aI (v7 + 1)), (0, aR 29 v0), (1, aI v1), (2, aI v2), (3, aI v3), (4, aL v4), (6, aI v6)]) 6 dX11_decode_293 rfl (by decide) (Nat.le_of_ble_eq_true rfl) rfl ?_
    refine j_goto (pc := 296) (tgt := 265) dX11_decode_296 rfl ?_
    refine j_sub [1, 2, 3, 4, 5, 6, 0] (lv' := [(0, aR 29 v0), (1, aI v1), (2, aI v2), (3, aI v3), (4, aL v4), (6, aI v6), (7, aI (v7 + 1))]) rfl ?_
    exact hK265 v0 v1 v2 v3 v4 v6 (v7 + 1) σ3
theorem jl11_decode_265 {Γ : jX} {tg : Bool × rS} (N : Nat) (K191 : Nat → Int32 → Int32 → Int32 → rS → Option (Bool × rS)) (hK191 : ∀ (v0 : Nat) (v1 : Int32) (v2 : Int32) (v3 : Int32) (σ : rS), J Γ rm11_decode eZ cX11_decode RX11 8 (some .boolean) tg 0 0 191 [(0, aR 29 v0), (1, aI v1), (2, aI v2), (3, aI v3)] [] σ (K191 v0 v1 v2 v3 σ)) : ∀ (n : Nat) (v0 : Nat) (v1 : Int32) (v2 : Int32) (v3 : Int32) (v4 : Int64) (v6 : Int32) (v7 : Int32) (σ : rS), J Γ rm11_decode eZ cX11_decode RX11 8 (some .boolean) tg 0 0 265 [(0, aR 29 v0), (1, aI v1), (2, aI v2), (3, aI v3), (4, aL v4), (6, aI v6), (7, aI v7)] [] σ (L11_decode_265 N K191 n v0 v1 v2 v3 v4 v6 v7 σ) := by
  intro n
  induction n with
  | zero => intro v0 v1 v2 v3 v4 v6 v7 σ; exact j_none
  | succ n ih => intro v0 v1 v2 v3 v4 v6 v7 σ; exact jb11_decode_265 N K191 (L11_decode_265 N K191 n) hK191 ih v0 v1 v2 v3 v4 v6 v7 σ
set_option maxRecDepth 20000 in
set_option maxHeartbeats 4000000 in
theorem jb11_decode_262 {Γ : jX} {tg : Bool × rS} (N : Nat) (K191 : Nat → Int32 → Int32 → Int32 → rS → Option (Bool × rS)) (hK191 : ∀ (v0 : Nat) (v1 : Int32) (v2 : Int32) (v3 : Int32) (σ : rS), J Γ rm11_decode eZ cX11_decode RX11 8 (some .boolean) tg 0 0 191 [(0, aR 29 v0), (1, aI v1), (2, aI v2), (3, aI v3)] [] σ (K191 v0 v1 v2 v3 σ)) (v0 : Nat) (v1 : Int32) (v2 : Int32) (v3 : Int32) (v4 : Int64) (v6 : Int32) (σ : rS) : J Γ rm11_decode eZ cX11_decode RX11 8 (some .boolean) tg 0 0 262 [(0, aR 29 v0), (1, aI v1), (2, aI v2), (3, aI v3), (4, aL v4), (6, aI v6)] [] σ (B11_decode_262 N K191 v0 v1 v2 v3 v4 v6 σ) := by
  unfold B11_decode_262
  refine j_iconst (pc := 262) (v := 0) (by decide) dX11_decode_262 ?_
  refine j_istore (pc := 263) (lv' := [(7, aI 0), (0, aR 29 v0), (1, aI v1), (2, aI v2), (3, aI v3), (4, aL v4), (6, aI v6)]) dX11_decode_263 (Nat.le_of_ble_eq_true rfl) rfl ?_
  refine j_sub [1, 2, 3, 4, 5, 6, 0] (lv' := [(0, aR 29 v0), (1, aI v1), (2, aI v2), (3, aI v3), (4, aL v4), (6, aI v6), (7, aI 0)]) rfl ?_
  exact jl11_decode_265 N K191 hK191 N v0 v1 v2 v3 v4 v6 0 σ
set_option maxRecDepth 20000 in
set_option maxHeartbeats 4000000 in
theorem jb11_decode_191 {Γ : jX} {tg : Bool × rS} (N : Nat) (K191 : Nat → Int32 → Int32 → Int32 → rS → Option (Bool × rS)) (hK191 : ∀ (v0 : Nat) (v1 : Int32) (v2 : Int32) (v3 : Int32) (σ : rS), J Γ rm11_decode eZ cX11_decode RX11 8 (some .boolean) tg 0 0 191 [(0, aR 29 v0), (1, aI v1), (2, aI v2), (3, aI v3)] [] σ (K191 v0 v1 v2 v3 σ)) (v0 : Nat) (v1 : Int32) (v2 : Int32) (v3 : Int32) (σ : rS) : J Γ rm11_decode eZ cX11_decode RX11 8 (some .boolean) tg 0 0 191 [(0, aR 29 v0), (1, aI v1), (2, aI v2), (3, aI v3)] [] σ (B11_decode_191 N K191 v0 v1 v2 v3 σ) := by
  unfold B11_decode_191
  refine j_aload_n (pc := 191) 0 dX11_decode_191 rfl rfl ?_
  refine j_getI (pc := 192) fd_29_10 tw_4_76 dX11_decode_192 ?_
  refine j_iload_n (pc := 195) 3 dX11_decode_195 rfl rfl ?_
  refine j_icmpge (pc := 196) (tgt := 302) dX11_decode_196 rfl (fun _ => ?_) (fun _ => ?_)
  · refine j_iload_n (pc := 302) 2 dX11_decode_302 rfl rfl ?_
    refine j_iconst (pc := 303) (v := 2) (by decide) dX11_decode_303 ?_
    refine j_icmpne (pc := 304) (tgt := 311) dX11_decode_304 rfl (fun _ => ?_) (fun _ => ?_)
    · refine j_sub [0, 2] (lv' := [(0, aR 29 v0), (2, aI v2)]) rfl ?_
      exact jb11_decode_311 N  v0 v2 σ
    · refine j_aload_n (pc := 307) 0 dX11_decode_307 rfl rfl ?_
      refine j_callVV (pc := 308) (As := []) (st := []) (fun l => c11_sums l N v0) cs_RX11_232 rfl rfl rfl rfl (Nat.le_of_ble_eq_true rfl) ⟨(Nat.le_of_ble_eq_true rfl), (Nat.le_of_ble_eq_true rfl)⟩ ⟨(Nat.le_of_ble_eq_true rfl), (Nat.le_of_ble_eq_true rfl)⟩ dX11_decode_308 (fun r1 σ2 => ?_)
      refine j_sub [0, 2] (lv' := [(0, aR 29 v0), (2, aI v2)]) rfl ?_
      exact jb11_decode_311 N  v0 v2 σ2
  · refine j_aload_n (pc := 199) 0 dX11_decode_199 rfl rfl ?_
    refine j_iload_n (pc := 200) 1 dX11_decode_200 rfl rfl ?_
    refine j_callVZ (pc := 201) (As := [aI v1]) (st := []) (fun l => c11_takes l N v0 v1) cs_RX11_274 rfl rfl rfl rfl (Nat.le_of_ble_eq_true rfl) ⟨(Nat.le_of_ble_eq_true rfl), (Nat.le_of_ble_eq_true rfl)⟩ ⟨(Nat.le_of_ble_eq_true rfl), (Nat.le_of_ble_eq_true rfl)⟩ dX11_decode_201 (fun r3 σ4 => ?_)
    refine j_ifneB (pc := 204) (tgt := 209) dX11_decode_204 rfl (fun _ => ?_) (fun _ => ?_)
    · refine j_aload_n (pc := 209) 0 dX11_decode_209 rfl rfl ?_
      refine j_getL (pc := 210) fd_29_20 tw_4_86 dX11_decode_210 ?_
      refine j_letl (fun x5 => ?_)
      refine j_lstore (pc := 213) (lv' := [(4, aL x5), (0, aR 29 v0), (1, aI v1), (2, aI v2), (3, aI v3)]) dX11_decode_213 (Nat.le_of_ble_eq_true rfl) rfl ?_
      refine j_iconst (pc := 215) (v := 1) (by decide) dX11_decode_215 ?_
      refine j_istore (pc := 216) (lv' := [(6, aI 1), (4, aL x5), (0, aR 29 v0), (1, aI v1), (2, aI v2), (3, aI v3)]) dX11_decode_216 (Nat.le_of_ble_eq_true rfl) rfl ?_
      refine j_iload_n (pc := 218) 4 dX11_decode_218 rfl rfl ?_
      refine j_iconst (pc := 219) (v := 3) (by decide) dX11_decode_219 ?_
      refine j_icmpne (pc := 220) (tgt := 262) dX11_decode_220 rfl (fun _ => ?_) (fun _ => ?_)
      · refine j_sub [2, 3, 4, 5, 1, 0] (lv' := [(0, aR 29 v0), (1, aI v1), (2, aI v2), (3, aI v3), (4, aL x5), (6, aI 1)]) rfl ?_
        exact jb11_decode_262 N K191 hK191 v0 v1 v2 v3 x5 1 σ4
      · refine j_aload_n (pc := 223) 2 dX11_decode_223 rfl rfl ?_
        refine j_iload_n (pc := 224) 3 dX11_decode_224 rfl rfl ?_
        refine j_callVZ (pc := 225) (As := [aI v1]) (st := []) (fun l => c11_takes l N v0 v1) cs_RX11_274 rfl rfl rfl rfl (Nat.le_of_ble_eq_true rfl) ⟨(Nat.le_of_ble_eq_true rfl), (Nat.le_of_ble_eq_true rfl)⟩ ⟨(Nat.le_of_ble_eq_true rfl), (Nat.le_of_ble_eq_true rfl)⟩ dX11_decode_225 (fun r6 σ7 => ?_)
        refine j_ifeqB (pc := 228) (tgt := 251) dX11_decode_228 rfl (fun _ => ?_) (fun _ => ?_)
        · refine j_iconst (pc := 251) (v := 0) (by decide) dX11_decode_251 ?_
          exact j_zret0 (pc := 252) rfl (Nat.le_of_ble_eq_true rfl) (Nat.le_of_ble_eq_true rfl) dX11_decode_252
        · refine j_aload_n (pc := 231) 2 dX11_decode_231 rfl rfl ?_
          refine j_getL (pc := 232) fd_29_20 tw_4_86 dX11_decode_232 ?_
          refine j_lconst (pc := 235) (v := 0) (by decide) dX11_decode_235 ?_
          refine j_iload_n (pc := 236) 5 dX11_decode_236 rfl rfl ?_
          refine j_aload_n (pc := 237) 2 dX11_decode_237 rfl rfl ?_
          refine j_getI (pc := 238) fd_29_10 tw_4_76 dX11_decode_238 ?_
          refine j_isub (pc := 241) dX11_decode_241 ?_
          refine j_iconst (pc := 242) (v := 1) (by decide) dX11_decode_242 ?_
          refine j_isub (pc := 243) dX11_decode_243 ?_
          refine j_i2l (pc := 244) dX11_decode_244 ?_
          refine j_callSZ (pc := 245) (As := [aL (gL σ7 29 v0 20), aL 0, aL (Int32.toInt64 ((v3 - (gI σ7 29 v0 10)) - 1))]) (st := []) (fun l => c11_in l (gL σ7 29 v0 20) 0 (Int32.toInt64 ((v3 - (gI σ7 29 v0 10)) - 1))) cs_RX11_140 rfl rfl (Nat.le_of_ble_eq_true rfl) ⟨(Nat.le_of_ble_eq_true rfl), (Nat.le_of_ble_eq_true rfl)⟩ ⟨(Nat.le_of_ble_eq_true rfl), (Nat.le_of_ble_eq_true rfl)⟩ dX11_decode_245 (fun r8 σ9 => ?_)
          refine j_ifneB (pc := 248) (tgt := 253) dX11_decode_248 rfl (fun _ => ?_) (fun _ => ?_)
          · refine j_aload_n (pc := 253) 2 dX11_decode_253 rfl rfl ?_
            refine j_getL (pc := 254) fd_29_20 tw_4_86 dX11_decode_254 ?_
            refine j_l2i (pc := 257) dX11_decode_257 ?_
            refine j_iconst (pc := 258) (v := 1) (by decide) dX11_decode_258 ?_
            refine j_iadd (pc := 259) dX11_decode_259 ?_
            refine j_leti (fun x10 => ?_)
            refine j_istore (pc := 260) (lv' := [(6, aI x10), (4, aL x5), (0, aR 29 v0), (1, aI v1), (2, aI v2), (3, aI v3)]) dX11_decode_260 (Nat.le_of_ble_eq_true rfl) rfl ?_
            refine j_sub [2, 3, 4, 5, 1, 0] (lv' := [(0, aR 29 v0), (1, aI v1), (2, aI v2), (3, aI v3), (4, aL x5), (6, aI x10)]) rfl ?_
            exact jb11_decode_262 N K191 hK191 v0 v1 v2 v3 x5 x10 σ9
          · refine j_iconst (pc := 251) (v := 0) (by decide) dX11_decode_251 ?_
            exact j_zret0 (pc := 252) rfl (Nat.le_of_ble_eq_true rfl) (Nat.le_of_ble_eq_true rfl) dX11_decode_252
    · refine j_iconst (pc := 207) (v := 0) (by decide) dX11_decode_207 ?_
      exact j_zret0 (pc := 208) rfl (Nat.le_of_ble_eq_true rfl) (Nat.le_of_ble_eq_true rfl) dX11_decode_208
theorem jl11_decode_191 {Γ : jX} {tg : Bool × rS} (N : Nat) : ∀ (n : Nat) (v0 : Nat) (v1 : Int32) (v2 : Int32) (v3 : Int32) (σ : rS), J Γ rm11_decode eZ cX11_decode RX11 8 (some .boolean) tg 0 0 191 [(0, aR 29 v0), (1, aI v1), (2, aI v2), (3, aI v3)] [] σ (L11_decode_191 N n v0 v1 v2 v3 σ) := by
  intro n
  induction n with
  | zero => intro v0 v1 v2 v3 σ; exact j_none
  | succ n ih => intro v0 v1 v2 v3 σ; exact jb11_decode_191 N (L11_decode_191 N n) ih v0 v1 v2 v3 σ
set_option maxRecDepth 20000 in
set_option maxHeartbeats 4000000 in
theorem jb11_decode_99 {Γ : jX} {tg : Bool × rS} (N : Nat) (K85 : Nat → Int32 → Int32 → Int32 → Int32 → rS → Option (Bool × rS)) (K99 : Nat → Int32 → Int32 → Int32 → Int32 → Int64 → Int32 → rS → Option (Bool × rS)) (hK85 : ∀ (v0 : Nat) (v1 : Int32) (v2 : Int32) (v3 : Int32) (v4 : Int32) (σ : rS), J Γ rm11_decode eZ cX11_decode RX11 8 (some .boolean) tg 0 0 85 [(0, aR 29 v0), (1, aI v1), (2, aI v2), (3, aI v3), (4, aI v4)] [] σ (K85 v0 v1 v2 v3 v4 σ)) (hK99 : ∀ (v0 : Nat) (v1 : Int32) (v2 : Int32) (v3 : Int32) (v4 : Int32) (v5 : Int64) (v7 : Int32) (σ : rS), J Γ rm11_decode eZ cX11_decode RX11 8 (some .boolean) tg 0 0 99 [(0, aR 29 v0), (1, aI v1), (2, aI v2), (3, aI v3), (4, aI v4), (5, aL v5), (7, aI v7)] [] σ (K99 v0 v1 v2 v3 v4 v5 v7 σ)) (v0 : Nat) (v1 : Int32) (v2 : Int32) (v3 : Int32) (v4 : Int32) (v5 : Int64) (v7 : Int32) (σ : rS) : J Γ rm11_decode eZ cX11_decode RX11 8 (some .boolean) tg 0 0 99 [(0, aR 29 v0), (1, aI v1), (2, aI v2), (3, aI v3), (4, aI v4), (5, aL v5), (7, aI v7)] [] σ (B11_decode_99 N K85 K99 v0 v1 v2 v3 v4 v5 v7 σ) := by
  unfold B11_decode_99
  refine j_iload (pc := 99) 6 dX11_decode_99 rfl ?_
  refine j_iload (pc := 101) 4 dX11_decode_101 rfl ?_
  refine j_icmpge (pc := 103) (tgt := 149) dX11_decode_103 rfl (fun _ => ?_) (fun _ => ?_)
  · refine j_aload_n (pc := 149) 0 dX11_decode_149 rfl rfl ?_
    refine j_getF (pc := 150) fd_29_9 tw_4_75 dX11_decode_150 ?_
    refine j_aload_n (pc := 153) 0 dX11_decode_153 rfl rfl ?_
    refine j_getI (pc := 154) fd_29_10 tw_4_76 dX11_decode_154 ?_
    refine j_lload (pc := 157) 5 dX11_decode_157 rfl ?_
    refine j_bipush (pc := 159) (v := 64) (by decide) dX11_decode_159 ?_
    refine j_bipush (pc := 161) (v := 8) (by decide) dX11_decode_161 ?_
    refine j_iload (pc := 163) 4 dX11_decode_163 rfl ?_
    refine j_imul (pc := 165) dX11_decode_165 ?_
    refine j_isub (pc := 166) dX11_decode_166 ?_
    refine j_lshl (pc := 167) dX11_decode_167 ?_
    refine j_bipush (pc := 168) (v := 64) (by decide) dX11_decode_168 ?_
    refine j_bipush (pc := 170) (v := 8) (by decide) dX11_decode_170 ?_
    refine j_iload (pc := 172) 4 dX11_decode_172 rfl ?_
    refine j_imul (pc := 174) dX11_decode_174 ?_
    refine j_isub (pc := 175) dX11_decode_175 ?_
    refine j_lshr (pc := 176) dX11_decode_176 ?_
    refine j_last (pc := 177) rfl rfl rfl dX11_decode_177 (fun j1 => ?_)
    refine j_lets (fun σ2 => ?_)
    refine j_aload_n (pc := 178) 0 dX11_decode_178 rfl rfl ?_
    refine j_dup (pc := 179) dX11_decode_179 rfl ?_
    refine j_getI (pc := 180) fd_29_10 tw_4_76 dX11_decode_180 ?_
    refine j_iconst (pc := 183) (v := 1) (by decide) dX11_decode_183 ?_
    refine j_iadd (pc := 184) dX11_decode_184 ?_
    refine j_putI (pc := 185) fd_29_10 rfl rfl tw_4_76 dX11_decode_185 ?_
    refine j_lets (fun σ3 => ?_)
    refine j_goto (pc := 188) (tgt := 85) dX11_decode_188 rfl ?_
    refine j_sub [0, 1, 2, 3, 4] (lv' := [(0, aR 29 v0), (1, aI v1), (2, aI v2), (3, aI v3), (4, aI v4)]) rfl ?_
    exact hK85 v0 v1 v2 v3 v4 σ3
  · refine j_lload (pc := 106) 5 dX11_decode_106 rfl ?_
    refine j_aload_n (pc := 108) 0 dX11_decode_108 rfl rfl ?_
    refine j_getF (pc := 109) fd_29_14 tw_4_80 dX11_decode_109 ?_
    refine j_sipush (pc := 112) (v := 400) (by decide) dX11_decode_112 ?_
    refine j_iload_n (pc := 115) 1 dX11_decode_115 rfl rfl ?_
    refine j_imul (pc := 116) dX11_decode_116 ?_
    refine j_aload_n (pc := 117) 0 dX11_decode_117 rfl rfl ?_
    refine j_getI (pc := 118) fd_29_18 tw_4_84 dX11_decode_118 ?_
    refine j_iadd (pc := 121) dX11_decode_121 ?_
    refine j_iald (pc := 122) rfl rfl rfl dX11_decode_122 (fun j4 => ?_)
    refine j_i2l (pc := 123) dX11_decode_123 ?_
    refine j_bipush (pc := 124) (v := 8) (by decide) dX11_decode_124 ?_
    refine j_iload (pc := 126) 6 dX11_decode_126 rfl ?_
    refine j_imul (pc := 128) dX11_decode_128 ?_
    refine j_lshl (pc := 129) dX11_decode_129 ?_
    refine j_lor (pc := 130) dX11_decode_130 ?_
    refine j_letl (fun x5 => ?_)
    refine j_lstore (pc := 131) (lv' := [(5, aL x5), (0, aR 29 v0), (1, aI v1), (2, aI v2), (3, aI v3), (4, aI v4), (7, aI v7)]) dX11_decode_131 (Nat.le_of_ble_eq_true rfl) rfl ?_
    refine j_aload_n (pc := 133) 1 dX11_decode_133 rfl rfl ?_
    refine j_dup (pc := 134) dX11_decode_134 rfl ?_
    refine j_getI (pc := 135) fd_29_18 tw_4_84 dX11_decode_135 ?_
    refine j_iconst (pc := 138) (v := 1) (by decide) dX11_decode_138 ?_
    refine j_iadd (pc := 139) dX11_decode_139 ?_
    refine j_putI (pc := 140) fd_29_18 rfl rfl tw_4_84 dX11_decode_140 ?_
    refine j_lets (fun σ6 => ?_)
    refine j_iinc (pc := 143) (w := 1) (lv' := [(7, aI (v7 + 1)), (5, aL x5), (0, aR 29 v0), (1, aI v1), (2, aI v2), (3, aI v3), (4, aI v4)]) 6 dX11_decode_143 rfl (by decide) (Nat.le_of_ble_eq_true rfl) rfl ?_
    refine j_goto (pc := 146) (tgt := 99) dX11_decode_146 rfl ?_
    refine j_sub [2, 3, 4, 5, 6, 1, 0] (lv' := [(0, aR 29 v0), (1, aI v1), (2, aI v2), (3, aI v3), (4, aI v4), (5, aL x5), (7, aI (v7 + 1))]) rfl ?_
    exact hK99 v0 v1 v2 v3 v4 x5 (v7 + 1) σ6
theorem jl11_decode_99 {Γ : jX} {tg : Bool × rS} (N : Nat) (K85 : Nat → Int32 → Int32 → Int32 → Int32 → rS → Option (Bool × rS)) (hK85 : ∀ (v0 : Nat) (v1 : Int32) (v2 : Int32) (v3 : Int32) (v4 : Int32) (σ : rS), J Γ rm11_decode eZ cX11_decode RX11 8 (some .boolean) tg 0 0 85 [(0, aR 29 v0), (1, aI v1), (2, aI v2), (3, aI v3), (4, aI v4)] [] σ (K85 v0 v1 v2 v3 v4 σ)) : ∀ (n : Nat) (v0 : Nat) (v1 : Int32) (v2 : Int32) (v3 : Int32) (v4 : Int32) (v5 : Int64) (v7 : Int32) (σ : rS), J Γ rm11_decode eZ cX11_decode RX11 8 (some .boolean) tg 0 0 99 [(0, aR 29 v0), (1, aI v1), (2, aI v2), (3, aI v3), (4, aI v4), (5, aL v5), (7, aI v7)] [] σ (L11_decode_99 N K85 n v0 v1 v2 v3 v4 v5 v7 σ) := by
  intro n
  induction n with
  | zero => intro v0 v1 v2 v3 v4 v5 v7 σ; exact j_none
  | succ n ih => intro v0 v1 v2 v3 v4 v5 v7 σ; exact jb11_decode_99 N K85 (L11_decode_99 N K85 n) hK85 ih v0 v1 v2 v3 v4 v5 v7 σ
set_option maxRecDepth 20000 in
set_option maxHeartbeats 4000000 in
theorem jb11_decode_85 {Γ : jX} {tg : Bool × rS} (N : Nat) (K85 : Nat → Int32 → Int32 → Int32 → Int32 → rS → Option (Bool × rS)) (hK85 : ∀ (v0 : Nat) (v1 : Int32) (v2 : Int32) (v3 : Int32) (v4 : Int32) (σ : rS), J Γ rm11_decode eZ cX11_decode RX11 8 (some .boolean) tg 0 0 85 [(0, aR 29 v0), (1, aI v1), (2, aI v2), (3, aI v3), (4, aI v4)] [] σ (K85 v0 v1 v2 v3 v4 σ)) (v0 : Nat) (v1 : Int32) (v2 : Int32) (v3 : Int32) (v4 : Int32) (σ : rS) : J Γ rm11_decode eZ cX11_decode RX11 8 (some .boolean) tg 0 0 85 [(0, aR 29 v0), (1, aI v1), (2, aI v2), (3, aI v3), (4, aI v4)] [] σ (B11_decode_85 N K85 v0 v1 v2 v3 v4 σ) := by
  unfold B11_decode_85
  refine j_aload_n (pc := 85) 0 dX11_decode_85 rfl rfl ?_
  refine j_getI (pc := 86) fd_29_10 tw_4_76 dX11_decode_86 ?_
  refine j_iload_n (pc := 89) 3 dX11_decode_89 rfl rfl ?_
  refine j_icmpge (pc := 90) (tgt := 191) dX11_decode_90 rfl (fun _ => ?_) (fun _ => ?_)
  · refine j_sub [0, 1, 2, 3] (lv' := [(0, aR 29 v0), (1, aI v1), (2, aI v2), (3, aI v3)]) rfl ?_
    exact jl11_decode_191 N  N v0 v1 v2 v3 σ
  · refine j_lconst (pc := 93) (v := 0) (by decide) dX11_decode_93 ?_
    refine j_lstore (pc := 94) (lv' := [(5, aL 0), (0, aR 29 v0), (1, aI v1), (2, aI v2), (3, aI v3), (4, aI v4)]) dX11_decode_94 (Nat.le_of_ble_eq_true rfl) rfl ?_
    refine j_iconst (pc := 96) (v := 0) (by decide) dX11_decode_96 ?_
    refine j_istore (pc := 97) (lv' := [(7, aI 0), (5, aL 0), (0, aR 29 v0), (1, aI v1), (2, aI v2), (3, aI v3), (4, aI v4)]) dX11_decode_97 (Nat.le_of_ble_eq_true rfl) rfl ?_
    refine j_sub [2, 3, 4, 5, 6, 1, 0] (lv' := [(0, aR 29 v0), (1, aI v1), (2, aI v2), (3, aI v3), (4, aI v4), (5, aL 0), (7, aI 0)]) rfl ?_
    exact jl11_decode_99 N K85 hK85 N v0 v1 v2 v3 v4 0 0 σ
theorem jl11_decode_85 {Γ : jX} {tg : Bool × rS} (N : Nat) : ∀ (n : Nat) (v0 : Nat) (v1 : Int32) (v2 : Int32) (v3 : Int32) (v4 : Int32) (σ : rS), J Γ rm11_decode eZ cX11_decode RX11 8 (some .boolean) tg 0 0 85 [(0, aR 29 v0), (1, aI v1), (2, aI v2), (3, aI v3), (4, aI v4)] [] σ (L11_decode_85 N n v0 v1 v2 v3 v4 σ) := by
  intro n
  induction n with
  | zero => intro v0 v1 v2 v3 v4 σ; exact j_none
  | succ n ih => intro v0 v1 v2 v3 v4 σ; exact jb11_decode_85 N (L11_decode_85 N n) ih v0 v1 v2 v3 v4 σ
set_option maxRecDepth 20000 in
set_option maxHeartbeats 4000000 in
theorem jb11_decode_40 {Γ : jX} {tg : Bool × rS} (N : Nat) (v0 : Nat) (v1 : Int32) (v2 : Int32) (v3 : Int32) (s0 : Int32) (σ : rS) : J Γ rm11_decode eZ cX11_decode RX11 8 (some .boolean) tg 0 0 40 [(0, aR 29 v0), (1, aI v1), (2, aI v2), (3, aI v3)] [aI s0] σ (B11_decode_40 N v0 v1 v2 v3 s0 σ) := by
  unfold B11_decode_40
  refine j_istore (pc := 40) (lv' := [(4, aI s0), (0, aR 29 v0), (1, aI v1), (2, aI v2), (3, aI v3)]) dX11_decode_40 (Nat.le_of_ble_eq_true rfl) rfl ?_
  refine j_iload (pc := 42) 0 dX11_decode_42 rfl ?_
  refine j_i2l (pc := 44) dX11_decode_44 ?_
  refine j_lconst (pc := 45) (v := 1) (by decide) dX11_decode_45 ?_
  refine j_ldc2 (pc := 46) tw_5_180 dX11_decode_46 ?_
  refine j_callSZ (pc := 49) (As := [aL (Int32.toInt64 s0), aL 1, aL 8]) (st := []) (fun l => c11_in l (Int32.toInt64 s0) 1 8) cs_RX11_140 rfl rfl (Nat.le_of_ble_eq_true rfl) ⟨(Nat.le_of_ble_eq_true rfl), (Nat.le_of_ble_eq_true rfl)⟩ ⟨(Nat.le_of_ble_eq_true rfl), (Nat.le_of_ble_eq_true rfl)⟩ dX11_decode_49 (fun r1 σ2 => ?_)
  refine j_ifeqB (pc := 52) (tgt := 73) dX11_decode_52 rfl (fun _ => ?_) (fun _ => ?_)
  · refine j_iconst (pc := 73) (v := 0) (by decide) dX11_decode_73 ?_
    exact j_zret0 (pc := 74) rfl (Nat.le_of_ble_eq_true rfl) (Nat.le_of_ble_eq_true rfl) dX11_decode_74
  · refine j_aload_n (pc := 55) 1 dX11_decode_55 rfl rfl ?_
    refine j_getI (pc := 56) fd_29_19 tw_4_85 dX11_decode_56 ?_
    refine j_aload_n (pc := 59) 1 dX11_decode_59 rfl rfl ?_
    refine j_getI (pc := 60) fd_29_18 tw_4_84 dX11_decode_60 ?_
    refine j_isub (pc := 63) dX11_decode_63 ?_
    refine j_iconst (pc := 64) (v := 1) (by decide) dX11_decode_64 ?_
    refine j_iload_n (pc := 65) 4 dX11_decode_65 rfl rfl ?_
    refine j_iload (pc := 66) 0 dX11_decode_66 rfl ?_
    refine j_imul (pc := 68) dX11_decode_68 ?_
    refine j_iadd (pc := 69) dX11_decode_69 ?_
    refine j_icmpeq (pc := 70) (tgt := 75) dX11_decode_70 rfl (fun _ => ?_) (fun _ => ?_)
    · refine j_aload_n (pc := 75) 1 dX11_decode_75 rfl rfl ?_
      refine j_dup (pc := 76) dX11_decode_76 rfl ?_
      refine j_getI (pc := 77) fd_29_18 tw_4_84 dX11_decode_77 ?_
      refine j_iconst (pc := 80) (v := 1) (by decide) dX11_decode_80 ?_
      refine j_iadd (pc := 81) dX11_decode_81 ?_
      refine j_putI (pc := 82) fd_29_18 rfl rfl tw_4_84 dX11_decode_82 ?_
      refine j_lets (fun σ3 => ?_)
      refine j_sub [1, 2, 3, 4, 0] (lv' := [(0, aR 29 v0), (1, aI v1), (2, aI v2), (3, aI v3), (4, aI s0)]) rfl ?_
      exact jl11_decode_85 N  N v0 v1 v2 v3 s0 σ3
    · refine j_iconst (pc := 73) (v := 0) (by decide) dX11_decode_73 ?_
      exact j_zret0 (pc := 74) rfl (Nat.le_of_ble_eq_true rfl) (Nat.le_of_ble_eq_true rfl) dX11_decode_74
set_option maxRecDepth 20000 in
set_option maxHeartbeats 4000000 in
theorem j11_decode {Γ : jX} {tg : Bool × rS} (N : Nat) (v0 : Nat) (v1 : Int32) (v2 : Int32) (v3 : Int32) (σ : rS) : J Γ rm11_decode eZ cX11_decode RX11 8 (some .boolean) tg 0 0 0 [(0, aR 29 v0), (1, aI v1), (2, aI v2), (3, aI v3)] [] σ (f11_decode N v0 v1 v2 v3 σ) := by
  unfold f11_decode
  refine j_aload_n (pc := 0) 0 dX11_decode_0 rfl rfl ?_
  refine j_iconst (pc := 1) (v := 0) (by decide) dX11_decode_1 ?_
  refine j_putI (pc := 2) fd_29_10 rfl rfl tw_4_76 dX11_decode_2 ?_
  refine j_lets (fun σ1 => ?_)
  refine j_iload_n (pc := 5) 2 dX11_decode_5 rfl rfl ?_
  refine j_iconst (pc := 6) (v := 4) (by decide) dX11_decode_6 ?_
  refine j_icmpne (pc := 7) (tgt := 191) dX11_decode_7 rfl (fun _ => ?_) (fun _ => ?_)
  · exact jl11_decode_191 N  N v0 v1 v2 v3 σ1
  · refine j_aload_n (pc := 10) 0 dX11_decode_10 rfl rfl ?_
    refine j_getI (pc := 11) fd_29_18 tw_4_84 dX11_decode_11 ?_
    refine j_aload_n (pc := 14) 0 dX11_decode_14 rfl rfl ?_
    refine j_getI (pc := 15) fd_29_19 tw_4_85 dX11_decode_15 ?_
    refine j_icmpge (pc := 18) (tgt := 39) dX11_decode_18 rfl (fun _ => ?_) (fun _ => ?_)
    · refine j_iconst (pc := 39) (v := 0) (by decide) dX11_decode_39 ?_
      exact jb11_decode_40 N  v0 v1 v2 v3 0 σ1
    · refine j_aload_n (pc := 21) 0 dX11_decode_21 rfl rfl ?_
      refine j_getF (pc := 22) fd_29_14 tw_4_80 dX11_decode_22 ?_
      refine j_sipush (pc := 25) (v := 400) (by decide) dX11_decode_25 ?_
      refine j_iload_n (pc := 28) 1 dX11_decode_28 rfl rfl ?_
      refine j_imul (pc := 29) dX11_decode_29 ?_
      refine j_aload_n (pc := 30) 0 dX11_decode_30 rfl rfl ?_
      refine j_getI (pc := 31) fd_29_18 tw_4_84 dX11_decode_31 ?_
      refine j_iadd (pc := 34) dX11_decode_34 ?_
      refine j_iald (pc := 35) rfl rfl rfl dX11_decode_35 (fun j2 => ?_)
      refine j_goto (pc := 36) (tgt := 40) dX11_decode_36 rfl ?_
      exact jb11_decode_40 N  v0 v1 v2 v3 (gI σ1 44 v0 j2) σ1
theorem c11_decode (l : Launch) (N : Nat) (v0 : Nat) (v1 : Int32) (v2 : Int32) (v3 : Int32) : Ctr l yX11_decode cX11_decode 8 (some .boolean) rm11_decode eZ [aR 29 v0, aI v1, aI v2, aI v3] (f11_decode N v0 v1 v2 v3) := ctr_of (lv := [(0, aR 29 v0), (1, aI v1), (2, aI v2), (3, aI v3)]) (by decide +kernel) (fun _ => rfl) (fun _ => (Nat.le_of_ble_eq_true rfl)) (fun _ h => lvl_als h rfl) (fun _ σ _ => j11_decode N v0 v1 v2 v3 σ)
abbrev rm11_matching : Room := { frames := 0, cells := 0, slots := 0, locals := 0 }
set_option maxRecDepth 20000 in
set_option maxHeartbeats 4000000 in
theorem jb11_matching_3 {Γ : jX} {tg : Int32 × rS} (N : Nat) (K3 : Nat → Int32 → Int32 → Int32 → Int32 → Int32 → rS → Option (Int32 × rS)) (hK3 : ∀ (v0 : Nat) (v1 : Int32) (v2 : Int32) (v3 : Int32) (v4 : Int32) (v5 : Int32) (σ : rS), J Γ rm11_matching eI cX11_matching RX11 6 (some .int) tg 0 0 3 [(0, aR 29 v0), (1, aI v1), (2, aI v2), (3, aI v3), (4, aI v4), (5, aI v5)] [] σ (K3 v0 v1 v2 v3 v4 v5 σ)) (v0 : Nat) (v1 : Int32) (v2 : Int32) (v3 : Int32) (v4 : Int32) (v5 : Int32) (σ : rS) : J Γ rm11_matching eI cX11_matching RX11 6 (some .int) tg 0 0 3 [(0, aR 29 v0), (1, aI v1), (2, aI v2), (3, aI v3), (4, aI v4), (5, aI v5)] [] σ (B11_matching_3 N K3 v0 v1 v2 v3 v4 v5 σ) := by
  unfold B11_matching_3
  refine j_iload_n (pc := 3) 2 dX11_matching_3 rfl rfl ?_
  refine j_iload (pc := 4) 5 dX11_matching_4 rfl ?_
  refine j_iadd (pc := 6) dX11_matching_6 ?_
  refine j_aload_n (pc := 7) 0 dX11_matching_7 rfl rfl ?_
  refine j_getF (pc := 8) fd_29_15 tw_4_81 dX11_matching_8 ?_
  refine j_iload_n (pc := 11) 1 dX11_matching_11 rfl rfl ?_
  refine j_iald (pc := 12) rfl rfl rfl dX11_matching_12 (fun j1 => ?_)
  refine j_icmpge (pc := 13) (tgt := 70) dX11_matching_13 rfl (fun _ => ?_) (fun _ => ?_)
  · refine j_iload (pc := 70) 5 dX11_matching_70 rfl ?_
    exact j_ireturn (pc := 72) rfl (Nat.le_of_ble_eq_true rfl) (Nat.le_of_ble_eq_true rfl) dX11_matching_72
  · refine j_iload (pc := 16) 4 dX11_matching_16 rfl ?_
    refine j_iload (pc := 18) 5 dX11_matching_18 rfl ?_
    refine j_iadd (pc := 20) dX11_matching_20 ?_
    refine j_aload_n (pc := 21) 0 dX11_matching_21 rfl rfl ?_
    refine j_getF (pc := 22) fd_29_15 tw_4_81 dX11_matching_22 ?_
    refine j_iload_n (pc := 25) 3 dX11_matching_25 rfl rfl ?_
    refine j_iald (pc := 26) rfl rfl rfl dX11_matching_26 (fun j2 => ?_)
    refine j_icmpge (pc := 27) (tgt := 70) dX11_matching_27 rfl (fun _ => ?_) (fun _ => ?_)
    · refine j_iload (pc := 70) 5 dX11_matching_70 rfl ?_
      exact j_ireturn (pc := 72) rfl (Nat.le_of_ble_eq_true rfl) (Nat.le_of_ble_eq_true rfl) dX11_matching_72
    · refine j_aload_n (pc := 30) 0 dX11_matching_30 rfl rfl ?_
      refine j_getF (pc := 31) fd_29_14 tw_4_80 dX11_matching_31 ?_
      refine j_sipush (pc := 34) (v := 400) (by decide) dX11_matching_34 ?_
      refine j_iload_n (pc := 37) 1 dX11_matching_37 rfl rfl ?_
      refine j_imul (pc := 38) dX11_matching_38 ?_
      refine j_iload_n (pc := 39) 2 dX11_matching_39 rfl rfl ?_
      refine j_iadd (pc := 40) dX11_matching_40 ?_
      refine j_iload (pc := 41) 5 dX11_matching_41 rfl ?_
      refine j_iadd (pc := 43) dX11_matching_43 ?_
      refine j_iald (pc := 44) rfl rfl rfl dX11_matching_44 (fun j3 => ?_)
      refine j_aload_n (pc := 45) 0 dX11_matching_45 rfl rfl ?_
      refine j_getF (pc := 46) fd_29_14 tw_4_80 dX11_matching_46 ?_
      refine j_sipush (pc := 49) (v := 400) (by decide) dX11_matching_49 ?_
      refine j_iload_n (pc := 52) 3 dX11_matching_52 rfl rfl ?_
      refine j_imul (pc := 53) dX11_matching_53 ?_
      refine j_iload (pc := 54) 4 dX11_matching_54 rfl ?_
      refine j_iadd (pc := 56) dX11_matching_56 ?_
      refine j_iload (pc := 57) 5 dX11_matching_57 rfl ?_
      refine j_iadd (pc := 59) dX11_matching_59 ?_
      refine j_iald (pc := 60) rfl rfl rfl dX11_matching_60 (fun j4 => ?_)
      refine j_icmpne (pc := 61) (tgt := 70) dX11_matching_61 rfl (fun _ => ?_) (fun _ => ?_)
      · refine j_iload (pc := 70) 5 dX11_matching_70 rfl ?_
        exact j_ireturn (pc := 72) rfl (Nat.le_of_ble_eq_true rfl) (Nat.le_of_ble_eq_true rfl) dX11_matching_72
      · refine j_iinc (pc := 64) (w := 1) (lv' := [(5, aI (v5 + 1)), (0, aR 29 v0), (1, aI v1), (2, aI v2), (3, aI v3), (4, aI v4)]) 5 dX11_matching_64 rfl (by decide) (Nat.le_of_ble_eq_true rfl) rfl ?_
        refine j_goto (pc := 67) (tgt := 3) dX11_matching_67 rfl ?_
        refine j_sub [1, 2, 3, 4, 5, 0] (lv' := [(0, aR 29 v0), (1, aI v1), (2, aI v2), (3, aI v3), (4, aI v4), (5, aI (v5 + 1))]) rfl ?_
        exact hK3 v0 v1 v2 v3 v4 (v5 + 1) σ
theorem jl11_matching_3 {Γ : jX} {tg : Int32 × rS} (N : Nat) : ∀ (n : Nat) (v0 : Nat) (v1 : Int32) (v2 : Int32) (v3 : Int32) (v4 : Int32) (v5 : Int32) (σ : rS), J Γ rm11_matching eI cX11_matching RX11 6 (some .int) tg 0 0 3 [(0, aR 29 v0), (1, aI v1), (2, aI v2), (3, aI v3), (4, aI v4), (5, aI v5)] [] σ (L11_matching_3 N n v0 v1 v2 v3 v4 v5 σ) := by
  intro n
  induction n with
  | zero => intro v0 v1 v2 v3 v4 v5 σ; exact j_none
  | succ n ih => intro v0 v1 v2 v3 v4 v5 σ; exact jb11_matching_3 N (L11_matching_3 N n) ih v0 v1 v2 v3 v4 v5 σ
set_option maxRecDepth 20000 in
set_option maxHeartbeats 4000000 in
theorem j11_matching {Γ : jX} {tg : Int32 × rS} (N : Nat) (v0 : Nat) (v1 : Int32) (v2 : Int32) (v3 : Int32) (v4 : Int32) (σ : rS) : J Γ rm11_matching eI cX11_matching RX11 6 (some .int) tg 0 0 0 [(0, aR 29 v0), (1, aI v1), (2, aI v2), (3, aI v3), (4, aI v4)] [] σ (f11_matching N v0 v1 v2 v3 v4 σ) := by
  unfold f11_matching
  refine j_iconst (pc := 0) (v := 0) (by decide) dX11_matching_0 ?_
  refine j_istore (pc := 1) (lv' := [(5, aI 0), (0, aR 29 v0), (1, aI v1), (2, aI v2), (3, aI v3), (4, aI v4)]) dX11_matching_1 (Nat.le_of_ble_eq_true rfl) rfl ?_
  refine j_sub [1, 2, 3, 4, 5, 0] (lv' := [(0, aR 29 v0), (1, aI v1), (2, aI v2), (3, aI v3), (4, aI v4), (5, aI 0)]) rfl ?_
  exact jl11_matching_3 N  N v0 v1 v2 v3 v4 0 σ
theorem c11_matching (l : Launch) (N : Nat) (v0 : Nat) (v1 : Int32) (v2 : Int32) (v3 : Int32) (v4 : Int32) : Ctr l yX11_matching cX11_matching 6 (some .int) rm11_matching eI [aR 29 v0, aI v1, aI v2, aI v3, aI v4] (f11_matching N v0 v1 v2 v3 v4) := ctr_of (lv := [(0, aR 29 v0), (1, aI v1), (2, aI v2), (3, aI v3), (4, aI v4)]) (by decide +kernel) (fun _ => rfl) (fun _ => (Nat.le_of_ble_eq_true rfl)) (fun _ h => lvl_als h rfl) (fun _ σ _ => j11_matching N v0 v1 v2 v3 v4 σ)
theorem cs_RX11_309 : CaV RX11 RX11 309 yX11_matching cX11_matching 6 (some .int) 4 := ⟨tw_6_1, tw_6_3, tw_p43, tw_1_5, tw_6_4, rfl, by decide +kernel, by decide +kernel, by decide +kernel⟩
abbrev rm11_delta : Room := { frames := 2, cells := 0, slots := 0, locals := 46 }
set_option maxRecDepth 20000 in
set_option maxHeartbeats 4000000 in
theorem jb11_delta_264 {Γ : jX} {tg : Int32 × rS} (N : Nat) (K45 : Nat → Int32 → Int32 → Int32 → Int32 → Int32 → Int32 → rS → Option (Int32 × rS)) (hK45 : ∀ (v0 : Nat) (v1 : Int32) (v2 : Int32) (v3 : Int32) (v4 : Int32) (v5 : Int32) (v6 : Int32) (σ : rS), J Γ rm11_delta eI cX11_delta RX11 11 (some .int) tg 0 0 45 [(0, aR 29 v0), (1, aI v1), (2, aI v2), (3, aI v3), (4, aI v4), (5, aI v5), (6, aI v6)] [] σ (K45 v0 v1 v2 v3 v4 v5 v6 σ)) (v0 : Nat) (v1 : Int32) (v2 : Int32) (v3 : Int32) (v4 : Int32) (v5 : Int32) (v6 : Int32) (σ : rS) : J Γ rm11_delta eI cX11_delta RX11 11 (some .int) tg 0 0 264 [(0, aR 29 v0), (1, aI v1), (2, aI v2), (3, aI v3), (4, aI v4), (5, aI v5), (6, aI v6)] [] σ (B11_delta_264 N K45 v0 v1 v2 v3 v4 v5 v6 σ) := by
  unfold B11_delta_264
  refine j_goto (pc := 264) (tgt := 45) dX11_delta_264 rfl ?_
  exact hK45 v0 v1 v2 v3 v4 v5 v6 σ
set_option maxRecDepth 20000 in
set_option maxHeartbeats 4000000 in
theorem jb11_delta_213 {Γ : jX} {tg : Int32 × rS} (N : Nat) (K45 : Nat → Int32 → Int32 → Int32 → Int32 → Int32 → Int32 → rS → Option (Int32 × rS)) (hK45 : ∀ (v0 : Nat) (v1 : Int32) (v2 : Int32) (v3 : Int32) (v4 : Int32) (v5 : Int32) (v6 : Int32) (σ : rS), J Γ rm11_delta eI cX11_delta RX11 11 (some .int) tg 0 0 45 [(0, aR 29 v0), (1, aI v1), (2, aI v2), (3, aI v3), (4, aI v4), (5, aI v5), (6, aI v6)] [] σ (K45 v0 v1 v2 v3 v4 v5 v6 σ)) (v0 : Nat) (v1 : Int32) (v2 : Int32) (v3 : Int32) (v4 : Int32) (v5 : Int32) (v6 : Int32) (σ : rS) : J Γ rm11_delta eI cX11_delta RX11 11 (some .int) tg 0 0 213 [(0, aR 29 v0), (1, aI v1), (2, aI v2), (3, aI v3), (4, aI v4), (5, aI v5), (6, aI v6)] [] σ (B11_delta_213 N K45 v0 v1 v2 v3 v4 v5 v6 σ) := by
  unfold B11_delta_213
  refine j_aload_n (pc := 213) 0 dX11_delta_213 rfl rfl ?_
  refine j_getF (pc := 214) fd_29_35 tw_4_101 dX11_delta_214 ?_
  refine j_sipush (pc := 217) (v := 400) (by decide) dX11_delta_217 ?_
  refine j_iload_n (pc := 220) 3 dX11_delta_220 rfl rfl ?_
  refine j_imul (pc := 221) dX11_delta_221 ?_
  refine j_iload (pc := 222) 4 dX11_delta_222 rfl ?_
  refine j_iadd (pc := 224) dX11_delta_224 ?_
  refine j_iconst (pc := 225) (v := 1) (by decide) dX11_delta_225 ?_
  refine j_isub (pc := 226) dX11_delta_226 ?_
  refine j_dup2 (pc := 227) dX11_delta_227 rfl rfl ?_
  refine j_iald (pc := 228) rfl rfl rfl dX11_delta_228 (fun j1 => ?_)
  refine j_iconst (pc := 229) (v := 1) (by decide) dX11_delta_229 ?_
  refine j_iadd (pc := 230) dX11_delta_230 ?_
  refine j_iast (pc := 231) rfl rfl rfl dX11_delta_231 (fun j2 => ?_)
  refine j_lets (fun σ3 => ?_)
  refine j_aload_n (pc := 232) 0 dX11_delta_232 rfl rfl ?_
  refine j_getF (pc := 233) fd_29_36 tw_4_102 dX11_delta_233 ?_
  refine j_sipush (pc := 236) (v := 400) (by decide) dX11_delta_236 ?_
  refine j_iload_n (pc := 239) 3 dX11_delta_239 rfl rfl ?_
  refine j_imul (pc := 240) dX11_delta_240 ?_
  refine j_iload (pc := 241) 5 dX11_delta_241 rfl ?_
  refine j_iadd (pc := 243) dX11_delta_243 ?_
  refine j_aload_n (pc := 244) 0 dX11_delta_244 rfl rfl ?_
  refine j_getF (pc := 245) fd_29_14 tw_4_80 dX11_delta_245 ?_
  refine j_sipush (pc := 248) (v := 400) (by decide) dX11_delta_248 ?_
  refine j_iload_n (pc := 251) 2 dX11_delta_251 rfl rfl ?_
  refine j_imul (pc := 252) dX11_delta_252 ?_
  refine j_iload (pc := 253) 6 dX11_delta_253 rfl ?_
  refine j_iadd (pc := 255) dX11_delta_255 ?_
  refine j_iald (pc := 256) rfl rfl rfl dX11_delta_256 (fun j4 => ?_)
  refine j_iast (pc := 257) rfl rfl rfl dX11_delta_257 (fun j5 => ?_)
  refine j_lets (fun σ6 => ?_)
  refine j_iinc (pc := 258) (w := 1) (lv' := [(5, aI (v5 + 1)), (0, aR 29 v0), (1, aI v1), (2, aI v2), (3, aI v3), (4, aI v4), (6, aI v6)]) 5 dX11_delta_258 rfl (by decide) (Nat.le_of_ble_eq_true rfl) rfl ?_
  refine j_iinc (pc := 261) (w := 1) (lv' := [(6, aI (v6 + 1)), (5, aI (v5 + 1)), (0, aR 29 v0), (1, aI v1), (2, aI v2), (3, aI v3), (4, aI v4)]) 6 dX11_delta_261 rfl (by decide) (Nat.le_of_ble_eq_true rfl) rfl ?_
  refine j_sub [2, 3, 4, 5, 6, 1, 0] (lv' := [(0, aR 29 v0), (1, aI v1), (2, aI v2), (3, aI v3), (4, aI v4), (5, aI (v5 + 1)), (6, aI (v6 + 1))]) rfl ?_
  exact jb11_delta_264 N K45 hK45 v0 v1 v2 v3 v4 (v5 + 1) (v6 + 1) σ6
set_option maxRecDepth 20000 in
set_option maxHeartbeats 4000000 in
theorem jb11_delta_182 {Γ : jX} {tg : Int32 × rS} (N : Nat) (K45 : Nat → Int32 → Int32 → Int32 → Int32 → Int32 → Int32 → rS → Option (Int32 × rS)) (hK45 : ∀ (v0 : Nat) (v1 : Int32) (v2 : Int32) (v3 : Int32) (v4 : Int32) (v5 : Int32) (v6 : Int32) (σ : rS), J Γ rm11_delta eI cX11_delta RX11 11 (some .int) tg 0 0 45 [(0, aR 29 v0), (1, aI v1), (2, aI v2), (3, aI v3), (4, aI v4), (5, aI v5), (6, aI v6)] [] σ (K45 v0 v1 v2 v3 v4 v5 v6 σ)) (v0 : Nat) (v1 : Int32) (v2 : Int32) (v3 : Int32) (v4 : Int32) (v5 : Int32) (v6 : Int32) (σ : rS) : J Γ rm11_delta eI cX11_delta RX11 11 (some .int) tg 0 0 182 [(0, aR 29 v0), (1, aI v1), (2, aI v2), (3, aI v3), (4, aI v4), (5, aI v5), (6, aI v6)] [] σ (B11_delta_182 N K45 v0 v1 v2 v3 v4 v5 v6 σ) := by
  unfold B11_delta_182
  refine j_aload_n (pc := 182) 0 dX11_delta_182 rfl rfl ?_
  refine j_getF (pc := 183) fd_29_34 tw_4_100 dX11_delta_183 ?_
  refine j_sipush (pc := 186) (v := 400) (by decide) dX11_delta_186 ?_
  refine j_iload_n (pc := 189) 3 dX11_delta_189 rfl rfl ?_
  refine j_imul (pc := 190) dX11_delta_190 ?_
  refine j_iload (pc := 191) 4 dX11_delta_191 rfl ?_
  refine j_iadd (pc := 193) dX11_delta_193 ?_
  refine j_iconst (pc := 194) (v := (-1)) (by decide) dX11_delta_194 ?_
  refine j_iast (pc := 195) rfl rfl rfl dX11_delta_195 (fun j1 => ?_)
  refine j_lets (fun σ2 => ?_)
  refine j_aload_n (pc := 196) 0 dX11_delta_196 rfl rfl ?_
  refine j_getF (pc := 197) fd_29_35 tw_4_101 dX11_delta_197 ?_
  refine j_sipush (pc := 200) (v := 400) (by decide) dX11_delta_200 ?_
  refine j_iload_n (pc := 203) 3 dX11_delta_203 rfl rfl ?_
  refine j_imul (pc := 204) dX11_delta_204 ?_
  refine j_iload (pc := 205) 4 dX11_delta_205 rfl ?_
  refine j_iadd (pc := 207) dX11_delta_207 ?_
  refine j_iconst (pc := 208) (v := 0) (by decide) dX11_delta_208 ?_
  refine j_iast (pc := 209) rfl rfl rfl dX11_delta_209 (fun j3 => ?_)
  refine j_lets (fun σ4 => ?_)
  refine j_iinc (pc := 210) (w := 1) (lv' := [(4, aI (v4 + 1)), (0, aR 29 v0), (1, aI v1), (2, aI v2), (3, aI v3), (5, aI v5), (6, aI v6)]) 4 dX11_delta_210 rfl (by decide) (Nat.le_of_ble_eq_true rfl) rfl ?_
  refine j_sub [1, 2, 3, 4, 0, 5, 6] (lv' := [(0, aR 29 v0), (1, aI v1), (2, aI v2), (3, aI v3), (4, aI (v4 + 1)), (5, aI v5), (6, aI v6)]) rfl ?_
  exact jb11_delta_213 N K45 hK45 v0 v1 v2 v3 (v4 + 1) v5 v6 σ4
set_option maxRecDepth 20000 in
set_option maxHeartbeats 4000000 in
theorem jb11_delta_103 {Γ : jX} {tg : Int32 × rS} (N : Nat) (K45 : Nat → Int32 → Int32 → Int32 → Int32 → Int32 → Int32 → rS → Option (Int32 × rS)) (K65 : Nat → Int32 → Int32 → Int32 → Int32 → Int32 → Int32 → Int32 → Int32 → Int32 → rS → Option (Int32 × rS)) (hK45 : ∀ (v0 : Nat) (v1 : Int32) (v2 : Int32) (v3 : Int32) (v4 : Int32) (v5 : Int32) (v6 : Int32) (σ : rS), J Γ rm11_delta eI cX11_delta RX11 11 (some .int) tg 0 0 45 [(0, aR 29 v0), (1, aI v1), (2, aI v2), (3, aI v3), (4, aI v4), (5, aI v5), (6, aI v6)] [] σ (K45 v0 v1 v2 v3 v4 v5 v6 σ)) (hK65 : ∀ (v0 : Nat) (v1 : Int32) (v2 : Int32) (v3 : Int32) (v4 : Int32) (v5 : Int32) (v6 : Int32) (v7 : Int32) (v8 : Int32) (v9 : Int32) (σ : rS), J Γ rm11_delta eI cX11_delta RX11 11 (some .int) tg 0 0 65 [(0, aR 29 v0), (1, aI v1), (2, aI v2), (3, aI v3), (4, aI v4), (5, aI v5), (6, aI v6), (7, aI v7), (8, aI v8), (9, aI v9)] [] σ (K65 v0 v1 v2 v3 v4 v5 v6 v7 v8 v9 σ)) (v0 : Nat) (v1 : Int32) (v2 : Int32) (v3 : Int32) (v4 : Int32) (v5 : Int32) (v6 : Int32) (v7 : Int32) (v8 : Int32) (v9 : Int32) (σ : rS) : J Γ rm11_delta eI cX11_delta RX11 11 (some .int) tg 0 0 103 [(0, aR 29 v0), (1, aI v1), (2, aI v2), (3, aI v3), (4, aI v4), (5, aI v5), (6, aI v6), (7, aI v7), (8, aI v8), (9, aI v9)] [] σ (B11_delta_103 N K45 K65 v0 v1 v2 v3 v4 v5 v6 v7 v8 v9 σ) := by
  unfold B11_delta_103
  refine j_iinc (pc := 103) (w := 1) (lv' := [(9, aI (v9 + 1)), (0, aR 29 v0), (1, aI v1), (2, aI v2), (3, aI v3), (4, aI v4), (5, aI v5), (6, aI v6), (7, aI v7), (8, aI v8)]) 9 dX11_delta_103 rfl (by decide) (Nat.le_of_ble_eq_true rfl) rfl ?_
  refine j_goto (pc := 106) (tgt := 65) dX11_delta_106 rfl ?_
  refine j_sub [1, 2, 3, 4, 5, 6, 7, 8, 9, 0] (lv' := [(0, aR 29 v0), (1, aI v1), (2, aI v2), (3, aI v3), (4, aI v4), (5, aI v5), (6, aI v6), (7, aI v7), (8, aI v8), (9, aI (v9 + 1))]) rfl ?_
  exact hK65 v0 v1 v2 v3 v4 v5 v6 v7 v8 (v9 + 1) σ
set_option maxRecDepth 20000 in
set_option maxHeartbeats 4000000 in
theorem jb11_delta_65 {Γ : jX} {tg : Int32 × rS} (N : Nat) (K45 : Nat → Int32 → Int32 → Int32 → Int32 → Int32 → Int32 → rS → Option (Int32 × rS)) (K65 : Nat → Int32 → Int32 → Int32 → Int32 → Int32 → Int32 → Int32 → Int32 → Int32 → rS → Option (Int32 × rS)) (hK45 : ∀ (v0 : Nat) (v1 : Int32) (v2 : Int32) (v3 : Int32) (v4 : Int32) (v5 : Int32) (v6 : Int32) (σ : rS), J Γ rm11_delta eI cX11_delta RX11 11 (some .int) tg 0 0 45 [(0, aR 29 v0), (1, aI v1), (2, aI v2), (3, aI v3), (4, aI v4), (5, aI v5), (6, aI v6)] [] σ (K45 v0 v1 v2 v3 v4 v5 v6 σ)) (hK65 : ∀ (v0 : Nat) (v1 : Int32) (v2 : Int32) (v3 : Int32) (v4 : Int32) (v5 : Int32) (v6 : Int32) (v7 : Int32) (v8 : Int32) (v9 : Int32) (σ : rS), J Γ rm11_delta eI cX11_delta RX11 11 (some .int) tg 0 0 65 [(0, aR 29 v0), (1, aI v1), (2, aI v2), (3, aI v3), (4, aI v4), (5, aI v5), (6, aI v6), (7, aI v7), (8, aI v8), (9, aI v9)] [] σ (K65 v0 v1 v2 v3 v4 v5 v6 v7 v8 v9 σ)) (v0 : Nat) (v1 : Int32) (v2 : Int32) (v3 : Int32) (v4 : Int32) (v5 : Int32) (v6 : Int32) (v7 : Int32) (v8 : Int32) (v9 : Int32) (σ : rS) : J Γ rm11_delta eI cX11_delta RX11 11 (some .int) tg 0 0 65 [(0, aR 29 v0), (1, aI v1), (2, aI v2), (3, aI v3), (4, aI v4), (5, aI v5), (6, aI v6), (7, aI v7), (8, aI v8), (9, aI v9)] [] σ (B11_delta_65 N K45 K65 v0 v1 v2 v3 v4 v5 v6 v7 v8 v9 σ) := by
  unfold B11_delta_65
  refine j_iload (pc := 65) 9 dX11_delta_65 rfl ?_
  refine j_aload_n (pc := 67) 0 dX11_delta_67 rfl rfl ?_
  refine j_getF (pc := 68) fd_29_15 tw_4_81 dX11_delta_68 ?_
  refine j_iload_n (pc := 71) 1 dX11_delta_71 rfl rfl ?_
  refine j_iald (pc := 72) rfl rfl rfl dX11_delta_72 (fun j1 => ?_)
  refine j_icmpge (pc := 73) (tgt := 109) dX11_delta_73 rfl (fun _ => ?_) (fun _ => ?_)
  · refine j_iload (pc := 109) 7 dX11_delta_109 rfl ?_
    refine j_iconst (pc := 111) (v := (-1)) (by decide) dX11_delta_111 ?_
    refine j_icmpeq (pc := 112) (tgt := 158) dX11_delta_112 rfl (fun _ => ?_) (fun _ => ?_)
    · refine j_iload (pc := 158) 4 dX11_delta_158 rfl ?_
      refine j_ifeq (pc := 160) (tgt := 182) dX11_delta_160 rfl (fun _ => ?_) (fun _ => ?_)
      · refine j_sub [0, 1, 2, 3, 4, 5, 6] (lv' := [(0, aR 29 v0), (1, aI v1), (2, aI v2), (3, aI v3), (4, aI v4), (5, aI v5), (6, aI v6)]) rfl ?_
        exact jb11_delta_182 N K45 hK45 v0 v1 v2 v3 v4 v5 v6 σ
      · refine j_aload_n (pc := 163) 0 dX11_delta_163 rfl rfl ?_
        refine j_getF (pc := 164) fd_29_34 tw_4_100 dX11_delta_164 ?_
        refine j_sipush (pc := 167) (v := 400) (by decide) dX11_delta_167 ?_
        refine j_iload_n (pc := 170) 3 dX11_delta_170 rfl rfl ?_
        refine j_imul (pc := 171) dX11_delta_171 ?_
        refine j_iload (pc := 172) 4 dX11_delta_172 rfl ?_
        refine j_iadd (pc := 174) dX11_delta_174 ?_
        refine j_iconst (pc := 175) (v := 1) (by decide) dX11_delta_175 ?_
        refine j_isub (pc := 176) dX11_delta_176 ?_
        refine j_iald (pc := 177) rfl rfl rfl dX11_delta_177 (fun j2 => ?_)
        refine j_iconst (pc := 178) (v := (-1)) (by decide) dX11_delta_178 ?_
        refine j_icmpeq (pc := 179) (tgt := 213) dX11_delta_179 rfl (fun _ => ?_) (fun _ => ?_)
        · refine j_sub [0, 1, 2, 3, 4, 5, 6] (lv' := [(0, aR 29 v0), (1, aI v1), (2, aI v2), (3, aI v3), (4, aI v4), (5, aI v5), (6, aI v6)]) rfl ?_
          exact jb11_delta_213 N K45 hK45 v0 v1 v2 v3 v4 v5 v6 σ
        · refine j_sub [0, 1, 2, 3, 4, 5, 6] (lv' := [(0, aR 29 v0), (1, aI v1), (2, aI v2), (3, aI v3), (4, aI v4), (5, aI v5), (6, aI v6)]) rfl ?_
          exact jb11_delta_182 N K45 hK45 v0 v1 v2 v3 v4 v5 v6 σ
    · refine j_aload_n (pc := 115) 0 dX11_delta_115 rfl rfl ?_
      refine j_getF (pc := 116) fd_29_34 tw_4_100 dX11_delta_116 ?_
      refine j_sipush (pc := 119) (v := 400) (by decide) dX11_delta_119 ?_
      refine j_iload_n (pc := 122) 3 dX11_delta_122 rfl rfl ?_
      refine j_imul (pc := 123) dX11_delta_123 ?_
      refine j_iload (pc := 124) 4 dX11_delta_124 rfl ?_
      refine j_iadd (pc := 126) dX11_delta_126 ?_
      refine j_iload (pc := 127) 7 dX11_delta_127 rfl ?_
      refine j_iast (pc := 129) rfl rfl rfl dX11_delta_129 (fun j3 => ?_)
      refine j_lets (fun σ4 => ?_)
      refine j_aload_n (pc := 130) 0 dX11_delta_130 rfl rfl ?_
      refine j_getF (pc := 131) fd_29_35 tw_4_101 dX11_delta_131 ?_
      refine j_sipush (pc := 134) (v := 400) (by decide) dX11_delta_134 ?_
      refine j_iload_n (pc := 137) 3 dX11_delta_137 rfl rfl ?_
      refine j_imul (pc := 138) dX11_delta_138 ?_
      refine j_iload (pc := 139) 4 dX11_delta_139 rfl ?_
      refine j_iadd (pc := 141) dX11_delta_141 ?_
      refine j_iload (pc := 142) 8 dX11_delta_142 rfl ?_
      refine j_iast (pc := 144) rfl rfl rfl dX11_delta_144 (fun j5 => ?_)
      refine j_lets (fun σ6 => ?_)
      refine j_iinc (pc := 145) (w := 1) (lv' := [(4, aI (v4 + 1)), (0, aR 29 v0), (1, aI v1), (2, aI v2), (3, aI v3), (5, aI v5), (6, aI v6), (7, aI v7), (8, aI v8), (9, aI v9)]) 4 dX11_delta_145 rfl (by decide) (Nat.le_of_ble_eq_true rfl) rfl ?_
      refine j_iload (pc := 148) 6 dX11_delta_148 rfl ?_
      refine j_iload (pc := 150) 8 dX11_delta_150 rfl ?_
      refine j_iadd (pc := 152) dX11_delta_152 ?_
      refine j_leti (fun x7 => ?_)
      refine j_istore (pc := 153) (lv' := [(6, aI x7), (4, aI (v4 + 1)), (0, aR 29 v0), (1, aI v1), (2, aI v2), (3, aI v3), (5, aI v5), (7, aI v7), (8, aI v8), (9, aI v9)]) dX11_delta_153 (Nat.le_of_ble_eq_true rfl) rfl ?_
      refine j_sub [0, 1, 2, 3, 4, 5, 6] (lv' := [(6, aI x7), (4, aI (v4 + 1)), (0, aR 29 v0), (1, aI v1), (2, aI v2), (3, aI v3), (5, aI v5)]) rfl ?_
      refine j_goto (pc := 155) (tgt := 264) dX11_delta_155 rfl ?_
      refine j_sub [2, 3, 4, 5, 1, 6, 0] (lv' := [(0, aR 29 v0), (1, aI v1), (2, aI v2), (3, aI v3), (4, aI (v4 + 1)), (5, aI v5), (6, aI x7)]) rfl ?_
      exact jb11_delta_264 N K45 hK45 v0 v1 v2 v3 (v4 + 1) v5 x7 σ6
  · refine j_aload_n (pc := 76) 0 dX11_delta_76 rfl rfl ?_
    refine j_iload_n (pc := 77) 1 dX11_delta_77 rfl rfl ?_
    refine j_iload (pc := 78) 9 dX11_delta_78 rfl ?_
    refine j_iload_n (pc := 80) 2 dX11_delta_80 rfl rfl ?_
    refine j_iload (pc := 81) 6 dX11_delta_81 rfl ?_
    refine j_callVI (pc := 83) (As := [aI v1, aI v9, aI v2, aI v6]) (st := []) (fun l => c11_matching l N v0 v1 v9 v2 v6) cs_RX11_309 rfl rfl rfl rfl (Nat.le_of_ble_eq_true rfl) ⟨(Nat.le_of_ble_eq_true rfl), (Nat.le_of_ble_eq_true rfl)⟩ ⟨(Nat.le_of_ble_eq_true rfl), (Nat.le_of_ble_eq_true rfl)⟩ dX11_delta_83 (fun r8 σ9 => ?_)
    refine j_istore (pc := 86) (lv' := [(10, aI r8), (0, aR 29 v0), (1, aI v1), (2, aI v2), (3, aI v3), (4, aI v4), (5, aI v5), (6, aI v6), (7, aI v7), (8, aI v8), (9, aI v9)]) dX11_delta_86 (Nat.le_of_ble_eq_true rfl) rfl ?_
    refine j_iload (pc := 88) 0 dX11_delta_88 rfl ?_
    refine j_iload (pc := 90) 9 dX11_delta_90 rfl ?_
    refine j_icmple (pc := 92) (tgt := 103) dX11_delta_92 rfl (fun _ => ?_) (fun _ => ?_)
    · refine j_sub [1, 2, 3, 4, 5, 6, 7, 8, 9, 10] (lv' := [(0, aR 29 v0), (1, aI v1), (2, aI v2), (3, aI v3), (4, aI v4), (5, aI v5), (6, aI v6), (7, aI v7), (8, aI v8), (9, aI v9)]) rfl ?_
      exact jb11_delta_103 N K45 K65 hK45 hK65 v0 v1 v2 v3 v4 v5 v6 v7 v8 v9 σ9
    · refine j_iload (pc := 95) 0 dX11_delta_95 rfl ?_
      refine j_istore (pc := 97) (lv' := [(8, aI r8), (10, aI r8), (0, aR 29 v0), (1, aI v1), (2, aI v2), (3, aI v3), (4, aI v4), (5, aI v5), (6, aI v6), (7, aI v7), (9, aI v9)]) dX11_delta_97 (Nat.le_of_ble_eq_true rfl) rfl ?_
      refine j_sub [0, 2, 3, 4, 5, 6, 7, 8, 10] (lv' := [(8, aI r8), (0, aR 29 v0), (1, aI v1), (2, aI v2), (3, aI v3), (4, aI v4), (5, aI v5), (6, aI v6), (9, aI v9)]) rfl ?_
      refine j_iload (pc := 99) 8 dX11_delta_99 rfl ?_
      refine j_istore (pc := 101) (lv' := [(7, aI v9), (8, aI r8), (0, aR 29 v0), (1, aI v1), (2, aI v2), (3, aI v3), (4, aI v4), (5, aI v5), (6, aI v6), (9, aI v9)]) dX11_delta_101 (Nat.le_of_ble_eq_true rfl) rfl ?_
      refine j_sub [2, 3, 4, 5, 6, 7, 8, 0, 1, 9] (lv' := [(0, aR 29 v0), (1, aI v1), (2, aI v2), (3, aI v3), (4, aI v4), (5, aI v5), (6, aI v6), (7, aI v9), (8, aI r8), (9, aI v9)]) rfl ?_
      exact jb11_delta_103 N K45 K65 hK45 hK65 v0 v1 v2 v3 v4 v5 v6 v9 r8 v9 σ9
theorem jl11_delta_65 {Γ : jX} {tg : Int32 × rS} (N : Nat) (K45 : Nat → Int32 → Int32 → Int32 → Int32 → Int32 → Int32 → rS → Option (Int32 × rS)) (hK45 : ∀ (v0 : Nat) (v1 : Int32) (v2 : Int32) (v3 : Int32) (v4 : Int32) (v5 : Int32) (v6 : Int32) (σ : rS), J Γ rm11_delta eI cX11_delta RX11 11 (some .int) tg 0 0 45 [(0, aR 29 v0), (1, aI v1), (2, aI v2), (3, aI v3), (4, aI v4), (5, aI v5), (6, aI v6)] [] σ (K45 v0 v1 v2 v3 v4 v5 v6 σ)) : ∀ (n : Nat) (v0 : Nat) (v1 : Int32) (v2 : Int32) (v3 : Int32) (v4 : Int32) (v5 : Int32) (v6 : Int32) (v7 : Int32) (v8 : Int32) (v9 : Int32) (σ : rS), J Γ rm11_delta eI cX11_delta RX11 11 (some .int) tg 0 0 65 [(0, aR 29 v0), (1, aI v1), (2, aI v2), (3, aI v3), (4, aI v4), (5, aI v5), (6, aI v6), (7, aI v7), (8, aI v8), (9, aI v9)] [] σ (L11_delta_65 N K45 n v0 v1 v2 v3 v4 v5 v6 v7 v8 v9 σ) := by
  intro n
  induction n with
  | zero => intro v0 v1 v2 v3 v4 v5 v6 v7 v8 v9 σ; exact j_none
  | succ n ih => intro v0 v1 v2 v3 v4 v5 v6 v7 v8 v9 σ; exact jb11_delta_65 N K45 (L11_delta_65 N K45 n) hK45 ih v0 v1 v2 v3 v4 v5 v6 v7 v8 v9 σ
set_option maxRecDepth 20000 in
set_option maxHeartbeats 4000000 in
theorem jb11_delta_45 {Γ : jX} {tg : Int32 × rS} (N : Nat) (K45 : Nat → Int32 → Int32 → Int32 → Int32 → Int32 → Int32 → rS → Option (Int32 × rS)) (hK45 : ∀ (v0 : Nat) (v1 : Int32) (v2 : Int32) (v3 : Int32) (v4 : Int32) (v5 : Int32) (v6 : Int32) (σ : rS), J Γ rm11_delta eI cX11_delta RX11 11 (some .int) tg 0 0 45 [(0, aR 29 v0), (1, aI v1), (2, aI v2), (3, aI v3), (4, aI v4), (5, aI v5), (6, aI v6)] [] σ (K45 v0 v1 v2 v3 v4 v5 v6 σ)) (v0 : Nat) (v1 : Int32) (v2 : Int32) (v3 : Int32) (v4 : Int32) (v5 : Int32) (v6 : Int32) (σ : rS) : J Γ rm11_delta eI cX11_delta RX11 11 (some .int) tg 0 0 45 [(0, aR 29 v0), (1, aI v1), (2, aI v2), (3, aI v3), (4, aI v4), (5, aI v5), (6, aI v6)] [] σ (B11_delta_45 N K45 v0 v1 v2 v3 v4 v5 v6 σ) := by
  unfold B11_delta_45
  refine j_iload (pc := 45) 6 dX11_delta_45 rfl ?_
  refine j_aload_n (pc := 47) 0 dX11_delta_47 rfl rfl ?_
  refine j_getF (pc := 48) fd_29_15 tw_4_81 dX11_delta_48 ?_
  refine j_iload_n (pc := 51) 2 dX11_delta_51 rfl rfl ?_
  refine j_iald (pc := 52) rfl rfl rfl dX11_delta_52 (fun j1 => ?_)
  refine j_icmpge (pc := 53) (tgt := 267) dX11_delta_53 rfl (fun _ => ?_) (fun _ => ?_)
  · refine j_aload_n (pc := 267) 0 dX11_delta_267 rfl rfl ?_
    refine j_getF (pc := 268) fd_29_33 tw_4_99 dX11_delta_268 ?_
    refine j_iload_n (pc := 271) 3 dX11_delta_271 rfl rfl ?_
    refine j_iload (pc := 272) 4 dX11_delta_272 rfl ?_
    refine j_iast (pc := 274) rfl rfl rfl dX11_delta_274 (fun j2 => ?_)
    refine j_lets (fun σ3 => ?_)
    refine j_aload_n (pc := 275) 0 dX11_delta_275 rfl rfl ?_
    refine j_getF (pc := 276) fd_29_31 tw_4_97 dX11_delta_276 ?_
    refine j_iload_n (pc := 279) 3 dX11_delta_279 rfl rfl ?_
    refine j_aload_n (pc := 280) 0 dX11_delta_280 rfl rfl ?_
    refine j_getF (pc := 281) fd_29_15 tw_4_81 dX11_delta_281 ?_
    refine j_iload_n (pc := 284) 1 dX11_delta_284 rfl rfl ?_
    refine j_iald (pc := 285) rfl rfl rfl dX11_delta_285 (fun j4 => ?_)
    refine j_iast (pc := 286) rfl rfl rfl dX11_delta_286 (fun j5 => ?_)
    refine j_lets (fun σ6 => ?_)
    refine j_aload_n (pc := 287) 0 dX11_delta_287 rfl rfl ?_
    refine j_getF (pc := 288) fd_29_32 tw_4_98 dX11_delta_288 ?_
    refine j_iload_n (pc := 291) 3 dX11_delta_291 rfl rfl ?_
    refine j_aload_n (pc := 292) 0 dX11_delta_292 rfl rfl ?_
    refine j_iload_n (pc := 293) 1 dX11_delta_293 rfl rfl ?_
    refine j_iconst (pc := 294) (v := 0) (by decide) dX11_delta_294 ?_
    refine j_aload_n (pc := 295) 0 dX11_delta_295 rfl rfl ?_
    refine j_getF (pc := 296) fd_29_15 tw_4_81 dX11_delta_296 ?_
    refine j_iload_n (pc := 299) 1 dX11_delta_299 rfl rfl ?_
    refine j_iald (pc := 300) rfl rfl rfl dX11_delta_300 (fun j7 => ?_)
    refine j_callVI (pc := 301) (As := [aI v1, aI 0, aI (gI σ6 45 v0 j7)]) (st := [aI v3, aR 62 v0]) (fun l => c11_sumOf l N v0 v1 0 (gI σ6 45 v0 j7)) cs_RX11_259 rfl rfl rfl rfl (Nat.le_of_ble_eq_true rfl) ⟨(Nat.le_of_ble_eq_true rfl), (Nat.le_of_ble_eq_true rfl)⟩ ⟨(Nat.le_of_ble_eq_true rfl), (Nat.le_of_ble_eq_true rfl)⟩ dX11_delta_301 (fun r8 σ9 => ?_)
    refine j_iast (pc := 304) rfl rfl rfl dX11_delta_304 (fun j10 => ?_)
    refine j_lets (fun σ11 => ?_)
    refine j_aload_n (pc := 305) 0 dX11_delta_305 rfl rfl ?_
    refine j_dup (pc := 306) dX11_delta_306 rfl ?_
    refine j_getI (pc := 307) fd_29_30 tw_4_96 dX11_delta_307 ?_
    refine j_iconst (pc := 310) (v := 1) (by decide) dX11_delta_310 ?_
    refine j_iadd (pc := 311) dX11_delta_311 ?_
    refine j_putI (pc := 312) fd_29_30 rfl rfl tw_4_96 dX11_delta_312 ?_
    refine j_lets (fun σ12 => ?_)
    refine j_iload_n (pc := 315) 3 dX11_delta_315 rfl rfl ?_
    exact j_ireturn (pc := 316) rfl (Nat.le_of_ble_eq_true rfl) (Nat.le_of_ble_eq_true rfl) dX11_delta_316
  · refine j_iconst (pc := 56) (v := (-1)) (by decide) dX11_delta_56 ?_
    refine j_istore (pc := 57) (lv' := [(7, aI (-1)), (0, aR 29 v0), (1, aI v1), (2, aI v2), (3, aI v3), (4, aI v4), (5, aI v5), (6, aI v6)]) dX11_delta_57 (Nat.le_of_ble_eq_true rfl) rfl ?_
    refine j_iconst (pc := 59) (v := 3) (by decide) dX11_delta_59 ?_
    refine j_istore (pc := 60) (lv' := [(8, aI 3), (7, aI (-1)), (0, aR 29 v0), (1, aI v1), (2, aI v2), (3, aI v3), (4, aI v4), (5, aI v5), (6, aI v6)]) dX11_delta_60 (Nat.le_of_ble_eq_true rfl) rfl ?_
    refine j_iconst (pc := 62) (v := 0) (by decide) dX11_delta_62 ?_
    refine j_istore (pc := 63) (lv' := [(9, aI 0), (8, aI 3), (7, aI (-1)), (0, aR 29 v0), (1, aI v1), (2, aI v2), (3, aI v3), (4, aI v4), (5, aI v5), (6, aI v6)]) dX11_delta_63 (Nat.le_of_ble_eq_true rfl) rfl ?_
    refine j_sub [3, 4, 5, 6, 7, 8, 9, 2, 1, 0] (lv' := [(0, aR 29 v0), (1, aI v1), (2, aI v2), (3, aI v3), (4, aI v4), (5, aI v5), (6, aI v6), (7, aI (-1)), (8, aI 3), (9, aI 0)]) rfl ?_
    exact jl11_delta_65 N K45 hK45 N v0 v1 v2 v3 v4 v5 v6 (-1) 3 0 σ
theorem jl11_delta_45 {Γ : jX} {tg : Int32 × rS} (N : Nat) : ∀ (n : Nat) (v0 : Nat) (v1 : Int32) (v2 : Int32) (v3 : Int32) (v4 : Int32) (v5 : Int32) (v6 : Int32) (σ : rS), J Γ rm11_delta eI cX11_delta RX11 11 (some .int) tg 0 0 45 [(0, aR 29 v0), (1, aI v1), (2, aI v2), (3, aI v3), (4, aI v4), (5, aI v5), (6, aI v6)] [] σ (L11_delta_45 N n v0 v1 v2 v3 v4 v5 v6 σ) := by
  intro n
  induction n with
  | zero => intro v0 v1 v2 v3 v4 v5 v6 σ; exact j_none
  | succ n ih => intro v0 v1 v2 v3 v4 v5 v6 σ; exact jb11_delta_45 N (L11_delta_45 N n) ih v0 v1 v2 v3 v4 v5 v6 σ
set_option maxRecDepth 20000 in
set_option maxHeartbeats 4000000 in
theorem j11_delta {Γ : jX} {tg : Int32 × rS} (N : Nat) (v0 : Nat) (v1 : Int32) (v2 : Int32) (σ : rS) : J Γ rm11_delta eI cX11_delta RX11 11 (some .int) tg 0 0 0 [(0, aR 29 v0), (1, aI v1), (2, aI v2)] [] σ (f11_delta N v0 v1 v2 σ) := by
  unfold f11_delta
  refine j_aload_n (pc := 0) 0 dX11_delta_0 rfl rfl ?_
  refine j_iload_n (pc := 1) 1 dX11_delta_1 rfl rfl ?_
  refine j_callVZ (pc := 2) (As := [aI v1]) (st := []) (fun l => c11_isStream l v0 v1) cs_RX11_247 rfl rfl rfl rfl (Nat.le_of_ble_eq_true rfl) ⟨(Nat.le_of_ble_eq_true rfl), (Nat.le_of_ble_eq_true rfl)⟩ ⟨(Nat.le_of_ble_eq_true rfl), (Nat.le_of_ble_eq_true rfl)⟩ dX11_delta_2 (fun r1 σ2 => ?_)
  refine j_ifeqB (pc := 5) (tgt := 16) dX11_delta_5 rfl (fun _ => ?_) (fun _ => ?_)
  · refine j_bipush (pc := 16) (v := (-101)) (by decide) dX11_delta_16 ?_
    exact j_ireturn (pc := 18) rfl (Nat.le_of_ble_eq_true rfl) (Nat.le_of_ble_eq_true rfl) dX11_delta_18
  · refine j_aload_n (pc := 8) 0 dX11_delta_8 rfl rfl ?_
    refine j_iload_n (pc := 9) 2 dX11_delta_9 rfl rfl ?_
    refine j_callVZ (pc := 10) (As := [aI v2]) (st := []) (fun l => c11_isStream l v0 v2) cs_RX11_247 rfl rfl rfl rfl (Nat.le_of_ble_eq_true rfl) ⟨(Nat.le_of_ble_eq_true rfl), (Nat.le_of_ble_eq_true rfl)⟩ ⟨(Nat.le_of_ble_eq_true rfl), (Nat.le_of_ble_eq_true rfl)⟩ dX11_delta_10 (fun r3 σ4 => ?_)
    refine j_ifneB (pc := 13) (tgt := 19) dX11_delta_13 rfl (fun _ => ?_) (fun _ => ?_)
    · refine j_aload_n (pc := 19) 0 dX11_delta_19 rfl rfl ?_
      refine j_getI (pc := 20) fd_29_30 tw_4_96 dX11_delta_20 ?_
      refine j_bipush (pc := 23) (v := 16) (by decide) dX11_delta_23 ?_
      refine j_icmpne (pc := 25) (tgt := 31) dX11_delta_25 rfl (fun _ => ?_) (fun _ => ?_)
      · refine j_aload_n (pc := 31) 0 dX11_delta_31 rfl rfl ?_
        refine j_getI (pc := 32) fd_29_30 tw_4_96 dX11_delta_32 ?_
        refine j_leti (fun x5 => ?_)
        refine j_istore_n (pc := 35) (lv' := [(3, aI x5), (0, aR 29 v0), (1, aI v1), (2, aI v2)]) dX11_delta_35 rfl (Nat.le_of_ble_eq_true rfl) rfl ?_
        refine j_iconst (pc := 36) (v := 0) (by decide) dX11_delta_36 ?_
        refine j_istore (pc := 37) (lv' := [(4, aI 0), (3, aI x5), (0, aR 29 v0), (1, aI v1), (2, aI v2)]) dX11_delta_37 (Nat.le_of_ble_eq_true rfl) rfl ?_
        refine j_iconst (pc := 39) (v := 0) (by decide) dX11_delta_39 ?_
        refine j_istore (pc := 40) (lv' := [(5, aI 0), (4, aI 0), (3, aI x5), (0, aR 29 v0), (1, aI v1), (2, aI v2)]) dX11_delta_40 (Nat.le_of_ble_eq_true rfl) rfl ?_
        refine j_iconst (pc := 42) (v := 0) (by decide) dX11_delta_42 ?_
        refine j_istore (pc := 43) (lv' := [(6, aI 0), (5, aI 0), (4, aI 0), (3, aI x5), (0, aR 29 v0), (1, aI v1), (2, aI v2)]) dX11_delta_43 (Nat.le_of_ble_eq_true rfl) rfl ?_
        refine j_sub [4, 5, 6, 3, 2, 1, 0] (lv' := [(0, aR 29 v0), (1, aI v1), (2, aI v2), (3, aI x5), (4, aI 0), (5, aI 0), (6, aI 0)]) rfl ?_
        exact jl11_delta_45 N  N v0 v1 v2 x5 0 0 0 σ4
      · refine j_bipush (pc := 28) (v := (-104)) (by decide) dX11_delta_28 ?_
        exact j_ireturn (pc := 30) rfl (Nat.le_of_ble_eq_true rfl) (Nat.le_of_ble_eq_true rfl) dX11_delta_30
    · refine j_bipush (pc := 16) (v := (-101)) (by decide) dX11_delta_16 ?_
      exact j_ireturn (pc := 18) rfl (Nat.le_of_ble_eq_true rfl) (Nat.le_of_ble_eq_true rfl) dX11_delta_18
theorem c11_delta (l : Launch) (N : Nat) (v0 : Nat) (v1 : Int32) (v2 : Int32) : Ctr l yX11_delta cX11_delta 11 (some .int) rm11_delta eI [aR 29 v0, aI v1, aI v2] (f11_delta N v0 v1 v2) := ctr_of (lv := [(0, aR 29 v0), (1, aI v1), (2, aI v2)]) (by decide +kernel) (fun _ => rfl) (fun _ => (Nat.le_of_ble_eq_true rfl)) (fun _ h => lvl_als h rfl) (fun _ σ _ => j11_delta N v0 v1 v2 σ)
abbrev rm11_digest : Room := { frames := 1, cells := 0, slots := 0, locals := 25 }
set_option maxRecDepth 20000 in
set_option maxHeartbeats 4000000 in
theorem jb11_digest_243 {Γ : jX} {tg : Int64 × rS} (N : Nat) (K215 : Nat → Int64 → Int32 → rS → Option (Int64 × rS)) (K243 : Nat → Int64 → Int32 → Int32 → rS → Option (Int64 × rS)) (hK215 : ∀ (v0 : Nat) (v1 : Int64) (v3 : Int32) (σ : rS), J Γ rm11_digest eL cX11_digest RX11 5 (some .long) tg 0 0 215 [(0, aR 29 v0), (1, aL v1), (3, aI v3)] [] σ (K215 v0 v1 v3 σ)) (hK243 : ∀ (v0 : Nat) (v1 : Int64) (v3 : Int32) (v4 : Int32) (σ : rS), J Γ rm11_digest eL cX11_digest RX11 5 (some .long) tg 0 0 243 [(0, aR 29 v0), (1, aL v1), (3, aI v3), (4, aI v4)] [] σ (K243 v0 v1 v3 v4 σ)) (v0 : Nat) (v1 : Int64) (v3 : Int32) (v4 : Int32) (σ : rS) : J Γ rm11_digest eL cX11_digest RX11 5 (some .long) tg 0 0 243 [(0, aR 29 v0), (1, aL v1), (3, aI v3), (4, aI v4)] [] σ (B11_digest_243 N K215 K243 v0 v1 v3 v4 σ) := by
  unfold B11_digest_243
  refine j_iload (pc := 243) 3 dX11_digest_243 rfl ?_
  refine j_bipush (pc := 245) (v := 12) (by decide) dX11_digest_245 ?_
  refine j_iload_n (pc := 247) 2 dX11_digest_247 rfl rfl ?_
  refine j_imul (pc := 248) dX11_digest_248 ?_
  refine j_aload_n (pc := 249) 0 dX11_digest_249 rfl rfl ?_
  refine j_getF (pc := 250) fd_29_27 tw_4_93 dX11_digest_250 ?_
  refine j_iload_n (pc := 253) 2 dX11_digest_253 rfl rfl ?_
  refine j_iald (pc := 254) rfl rfl rfl dX11_digest_254 (fun j1 => ?_)
  refine j_iadd (pc := 255) dX11_digest_255 ?_
  refine j_icmpge (pc := 256) (tgt := 299) dX11_digest_256 rfl (fun _ => ?_) (fun _ => ?_)
  · refine j_iinc (pc := 299) (w := 1) (lv' := [(3, aI (v3 + 1)), (0, aR 29 v0), (1, aL v1), (4, aI v4)]) 2 dX11_digest_299 rfl (by decide) (Nat.le_of_ble_eq_true rfl) rfl ?_
    refine j_goto (pc := 302) (tgt := 215) dX11_digest_302 rfl ?_
    refine j_sub [1, 2, 0] (lv' := [(0, aR 29 v0), (1, aL v1), (3, aI (v3 + 1))]) rfl ?_
    exact hK215 v0 v1 (v3 + 1) σ
  · refine j_ldc2 (pc := 259) tw_6_43 dX11_digest_259 ?_
    refine j_lload_n (pc := 262) 1 dX11_digest_262 rfl rfl ?_
    refine j_lmul (pc := 263) dX11_digest_263 ?_
    refine j_aload_n (pc := 264) 0 dX11_digest_264 rfl rfl ?_
    refine j_getF (pc := 265) fd_29_28 tw_4_94 dX11_digest_265 ?_
    refine j_iload (pc := 268) 3 dX11_digest_268 rfl ?_
    refine j_lald (pc := 270) rfl rfl rfl dX11_digest_270 (fun j2 => ?_)
    refine j_ladd (pc := 271) dX11_digest_271 ?_
    refine j_letl (fun x3 => ?_)
    refine j_lstore_n (pc := 272) (lv' := [(1, aL x3), (0, aR 29 v0), (3, aI v3), (4, aI v4)]) dX11_digest_272 rfl (Nat.le_of_ble_eq_true rfl) rfl ?_
    refine j_ldc2 (pc := 273) tw_6_43 dX11_digest_273 ?_
    refine j_lload_n (pc := 276) 0 dX11_digest_276 rfl rfl ?_
    refine j_lmul (pc := 277) dX11_digest_277 ?_
    refine j_aload_n (pc := 278) 1 dX11_digest_278 rfl rfl ?_
    refine j_getF (pc := 279) fd_29_21 tw_4_87 dX11_digest_279 ?_
    refine j_aload_n (pc := 282) 1 dX11_digest_282 rfl rfl ?_
    refine j_getF (pc := 283) fd_29_29 tw_4_95 dX11_digest_283 ?_
    refine j_iload (pc := 286) 3 dX11_digest_286 rfl ?_
    refine j_iald (pc := 288) rfl rfl rfl dX11_digest_288 (fun j4 => ?_)
    refine j_iald (pc := 289) rfl rfl rfl dX11_digest_289 (fun j5 => ?_)
    refine j_i2l (pc := 290) dX11_digest_290 ?_
    refine j_ladd (pc := 291) dX11_digest_291 ?_
    refine j_letl (fun x6 => ?_)
    refine j_lstore_n (pc := 292) (lv' := [(1, aL x6), (0, aR 29 v0), (3, aI v3), (4, aI v4)]) dX11_digest_292 rfl (Nat.le_of_ble_eq_true rfl) rfl ?_
    refine j_iinc (pc := 293) (w := 1) (lv' := [(4, aI (v4 + 1)), (1, aL x6), (0, aR 29 v0), (3, aI v3)]) 3 dX11_digest_293 rfl (by decide) (Nat.le_of_ble_eq_true rfl) rfl ?_
    refine j_goto (pc := 296) (tgt := 243) dX11_digest_296 rfl ?_
    refine j_sub [2, 1, 3, 0] (lv' := [(0, aR 29 v0), (1, aL x6), (3, aI v3), (4, aI (v4 + 1))]) rfl ?_
    exact hK243 v0 x6 v3 (v4 + 1) σ
theorem jl11_digest_243 {Γ : jX} {tg : Int64 × rS} (N : Nat) (K215 : Nat → Int64 → Int32 → rS → Option (Int64 × rS)) (hK215 : ∀ (v0 : Nat) (v1 : Int64) (v3 : Int32) (σ : rS), J Γ rm11_digest eL cX11_digest RX11 5 (some .long) tg 0 0 215 [(0, aR 29 v0), (1, aL v1), (3, aI v3)] [] σ (K215 v0 v1 v3 σ)) : ∀ (n : Nat) (v0 : Nat) (v1 : Int64) (v3 : Int32) (v4 : Int32) (σ : rS), J Γ rm11_digest eL cX11_digest RX11 5 (some .long) tg 0 0 243 [(0, aR 29 v0), (1, aL v1), (3, aI v3), (4, aI v4)] [] σ (L11_digest_243 N K215 n v0 v1 v3 v4 σ) := by
  intro n
  induction n with
  | zero => intro v0 v1 v3 v4 σ; exact j_none
  | succ n ih => intro v0 v1 v3 v4 σ; exact jb11_digest_243 N K215 (L11_digest_243 N K215 n) hK215 ih v0 v1 v3 v4 σ
set_option maxRecDepth 20000 in
set_option maxHeartbeats 4000000 in
theorem jb11_digest_215 {Γ : jX} {tg : Int64 × rS} (N : Nat) (K215 : Nat → Int64 → Int32 → rS → Option (Int64 × rS)) (hK215 : ∀ (v0 : Nat) (v1 : Int64) (v3 : Int32) (σ : rS), J Γ rm11_digest eL cX11_digest RX11 5 (some .long) tg 0 0 215 [(0, aR 29 v0), (1, aL v1), (3, aI v3)] [] σ (K215 v0 v1 v3 σ)) (v0 : Nat) (v1 : Int64) (v3 : Int32) (σ : rS) : J Γ rm11_digest eL cX11_digest RX11 5 (some .long) tg 0 0 215 [(0, aR 29 v0), (1, aL v1), (3, aI v3)] [] σ (B11_digest_215 N K215 v0 v1 v3 σ) := by
  unfold B11_digest_215
  refine j_iload_n (pc := 215) 2 dX11_digest_215 rfl rfl ?_
  refine j_aload_n (pc := 216) 0 dX11_digest_216 rfl rfl ?_
  refine j_getI (pc := 217) fd_29_26 tw_4_92 dX11_digest_217 ?_
  refine j_icmpge (pc := 220) (tgt := 305) dX11_digest_220 rfl (fun _ => ?_) (fun _ => ?_)
  · refine j_ldc2 (pc := 305) tw_6_43 dX11_digest_305 ?_
    refine j_lload_n (pc := 308) 1 dX11_digest_308 rfl rfl ?_
    refine j_lmul (pc := 309) dX11_digest_309 ?_
    refine j_aload_n (pc := 310) 0 dX11_digest_310 rfl rfl ?_
    refine j_getI (pc := 311) fd_29_30 tw_4_96 dX11_digest_311 ?_
    refine j_i2l (pc := 314) dX11_digest_314 ?_
    refine j_ladd (pc := 315) dX11_digest_315 ?_
    exact j_lreturn (pc := 316) rfl (Nat.le_of_ble_eq_true rfl) (Nat.le_of_ble_eq_true rfl) dX11_digest_316
  · refine j_ldc2 (pc := 223) tw_6_43 dX11_digest_223 ?_
    refine j_lload_n (pc := 226) 1 dX11_digest_226 rfl rfl ?_
    refine j_lmul (pc := 227) dX11_digest_227 ?_
    refine j_aload_n (pc := 228) 0 dX11_digest_228 rfl rfl ?_
    refine j_getF (pc := 229) fd_29_27 tw_4_93 dX11_digest_229 ?_
    refine j_iload_n (pc := 232) 2 dX11_digest_232 rfl rfl ?_
    refine j_iald (pc := 233) rfl rfl rfl dX11_digest_233 (fun j1 => ?_)
    refine j_i2l (pc := 234) dX11_digest_234 ?_
    refine j_ladd (pc := 235) dX11_digest_235 ?_
    refine j_letl (fun x2 => ?_)
    refine j_lstore_n (pc := 236) (lv' := [(1, aL x2), (0, aR 29 v0), (3, aI v3)]) dX11_digest_236 rfl (Nat.le_of_ble_eq_true rfl) rfl ?_
    refine j_bipush (pc := 237) (v := 12) (by decide) dX11_digest_237 ?_
    refine j_iload_n (pc := 239) 2 dX11_digest_239 rfl rfl ?_
    refine j_imul (pc := 240) dX11_digest_240 ?_
    refine j_leti (fun x3 => ?_)
    refine j_istore (pc := 241) (lv' := [(4, aI x3), (1, aL x2), (0, aR 29 v0), (3, aI v3)]) dX11_digest_241 (Nat.le_of_ble_eq_true rfl) rfl ?_
    refine j_sub [2, 1, 3, 0] (lv' := [(0, aR 29 v0), (1, aL x2), (3, aI v3), (4, aI x3)]) rfl ?_
    exact jl11_digest_243 N K215 hK215 N v0 x2 v3 x3 σ
theorem jl11_digest_215 {Γ : jX} {tg : Int64 × rS} (N : Nat) : ∀ (n : Nat) (v0 : Nat) (v1 : Int64) (v3 : Int32) (σ : rS), J Γ rm11_digest eL cX11_digest RX11 5 (some .long) tg 0 0 215 [(0, aR 29 v0), (1, aL v1), (3, aI v3)] [] σ (L11_digest_215 N n v0 v1 v3 σ) := by
  intro n
  induction n with
  | zero => intro v0 v1 v3 σ; exact j_none
  | succ n ih => intro v0 v1 v3 σ; exact jb11_digest_215 N (L11_digest_215 N n) ih v0 v1 v3 σ
set_option maxRecDepth 20000 in
set_option maxHeartbeats 4000000 in
theorem jb11_digest_204 {Γ : jX} {tg : Int64 × rS} (N : Nat) (K129 : Nat → Int64 → Int32 → rS → Option (Int64 × rS)) (hK129 : ∀ (v0 : Nat) (v1 : Int64) (v3 : Int32) (σ : rS), J Γ rm11_digest eL cX11_digest RX11 5 (some .long) tg 0 0 129 [(0, aR 29 v0), (1, aL v1), (3, aI v3)] [] σ (K129 v0 v1 v3 σ)) (v0 : Nat) (v3 : Int32) (s0 : Int64) (s1 : Bool) (σ : rS) : J Γ rm11_digest eL cX11_digest RX11 5 (some .long) tg 0 0 204 [(0, aR 29 v0), (3, aI v3)] [aI (bi s1), aL s0] σ (B11_digest_204 N K129 v0 v3 s0 s1 σ) := by
  unfold B11_digest_204
  refine j_i2l (pc := 204) dX11_digest_204 ?_
  refine j_ladd (pc := 205) dX11_digest_205 ?_
  refine j_letl (fun x1 => ?_)
  refine j_lstore_n (pc := 206) (lv' := [(1, aL x1), (0, aR 29 v0), (3, aI v3)]) dX11_digest_206 rfl (Nat.le_of_ble_eq_true rfl) rfl ?_
  refine j_iinc (pc := 207) (w := 1) (lv' := [(3, aI (v3 + 1)), (1, aL x1), (0, aR 29 v0)]) 2 dX11_digest_207 rfl (by decide) (Nat.le_of_ble_eq_true rfl) rfl ?_
  refine j_goto (pc := 210) (tgt := 129) dX11_digest_210 rfl ?_
  refine j_sub [2, 1, 0] (lv' := [(0, aR 29 v0), (1, aL x1), (3, aI (v3 + 1))]) rfl ?_
  exact hK129 v0 x1 (v3 + 1) σ
set_option maxRecDepth 20000 in
set_option maxHeartbeats 4000000 in
theorem jb11_digest_129 {Γ : jX} {tg : Int64 × rS} (N : Nat) (K129 : Nat → Int64 → Int32 → rS → Option (Int64 × rS)) (hK129 : ∀ (v0 : Nat) (v1 : Int64) (v3 : Int32) (σ : rS), J Γ rm11_digest eL cX11_digest RX11 5 (some .long) tg 0 0 129 [(0, aR 29 v0), (1, aL v1), (3, aI v3)] [] σ (K129 v0 v1 v3 σ)) (v0 : Nat) (v1 : Int64) (v3 : Int32) (σ : rS) : J Γ rm11_digest eL cX11_digest RX11 5 (some .long) tg 0 0 129 [(0, aR 29 v0), (1, aL v1), (3, aI v3)] [] σ (B11_digest_129 N K129 v0 v1 v3 σ) := by
  unfold B11_digest_129
  refine j_iload_n (pc := 129) 2 dX11_digest_129 rfl rfl ?_
  refine j_aload_n (pc := 130) 0 dX11_digest_130 rfl rfl ?_
  refine j_getI (pc := 131) fd_29_13 tw_4_79 dX11_digest_131 ?_
  refine j_icmpge (pc := 134) (tgt := 213) dX11_digest_134 rfl (fun _ => ?_) (fun _ => ?_)
  · refine j_iconst (pc := 213) (v := 0) (by decide) dX11_digest_213 ?_
    refine j_istore_n (pc := 214) (lv' := [(3, aI 0), (0, aR 29 v0), (1, aL v1)]) dX11_digest_214 rfl (Nat.le_of_ble_eq_true rfl) rfl ?_
    refine j_sub [1, 2, 0] (lv' := [(0, aR 29 v0), (1, aL v1), (3, aI 0)]) rfl ?_
    exact jl11_digest_215 N  N v0 v1 0 σ
  · refine j_ldc2 (pc := 137) tw_6_43 dX11_digest_137 ?_
    refine j_lload_n (pc := 140) 1 dX11_digest_140 rfl rfl ?_
    refine j_lmul (pc := 141) dX11_digest_141 ?_
    refine j_aload_n (pc := 142) 0 dX11_digest_142 rfl rfl ?_
    refine j_getF (pc := 143) fd_29_15 tw_4_81 dX11_digest_143 ?_
    refine j_iload_n (pc := 146) 2 dX11_digest_146 rfl rfl ?_
    refine j_iald (pc := 147) rfl rfl rfl dX11_digest_147 (fun j1 => ?_)
    refine j_i2l (pc := 148) dX11_digest_148 ?_
    refine j_ladd (pc := 149) dX11_digest_149 ?_
    refine j_letl (fun x2 => ?_)
    refine j_lstore_n (pc := 150) (lv' := [(1, aL x2), (0, aR 29 v0), (3, aI v3)]) dX11_digest_150 rfl (Nat.le_of_ble_eq_true rfl) rfl ?_
    refine j_ldc2 (pc := 151) tw_6_43 dX11_digest_151 ?_
    refine j_lload_n (pc := 154) 0 dX11_digest_154 rfl rfl ?_
    refine j_lmul (pc := 155) dX11_digest_155 ?_
    refine j_aload_n (pc := 156) 1 dX11_digest_156 rfl rfl ?_
    refine j_iload_n (pc := 157) 2 dX11_digest_157 rfl rfl ?_
    refine j_iconst (pc := 158) (v := 0) (by decide) dX11_digest_158 ?_
    refine j_aload_n (pc := 159) 1 dX11_digest_159 rfl rfl ?_
    refine j_getF (pc := 160) fd_29_15 tw_4_81 dX11_digest_160 ?_
    refine j_iload_n (pc := 163) 2 dX11_digest_163 rfl rfl ?_
    refine j_iald (pc := 164) rfl rfl rfl dX11_digest_164 (fun j3 => ?_)
    refine j_callVI (pc := 165) (As := [aI v3, aI 0, aI (gI σ 45 v0 j3)]) (st := [aL (31 * x2)]) (fun l => c11_sumOf l N v0 v3 0 (gI σ 45 v0 j3)) cs_RX11_259 rfl rfl rfl rfl (Nat.le_of_ble_eq_true rfl) ⟨(Nat.le_of_ble_eq_true rfl), (Nat.le_of_ble_eq_true rfl)⟩ ⟨(Nat.le_of_ble_eq_true rfl), (Nat.le_of_ble_eq_true rfl)⟩ dX11_digest_165 (fun r4 σ5 => ?_)
    refine j_i2l (pc := 168) dX11_digest_168 ?_
    refine j_ladd (pc := 169) dX11_digest_169 ?_
    refine j_letl (fun x6 => ?_)
    refine j_lstore_n (pc := 170) (lv' := [(1, aL x6), (0, aR 29 v0), (3, aI v3)]) dX11_digest_170 rfl (Nat.le_of_ble_eq_true rfl) rfl ?_
    refine j_ldc2 (pc := 171) tw_6_43 dX11_digest_171 ?_
    refine j_lload_n (pc := 174) 0 dX11_digest_174 rfl rfl ?_
    refine j_lmul (pc := 175) dX11_digest_175 ?_
    refine j_aload_n (pc := 176) 1 dX11_digest_176 rfl rfl ?_
    refine j_getF (pc := 177) fd_29_16 tw_4_82 dX11_digest_177 ?_
    refine j_iload_n (pc := 180) 2 dX11_digest_180 rfl rfl ?_
    refine j_iald (pc := 181) rfl rfl rfl dX11_digest_181 (fun j7 => ?_)
    refine j_i2l (pc := 182) dX11_digest_182 ?_
    refine j_ladd (pc := 183) dX11_digest_183 ?_
    refine j_letl (fun x8 => ?_)
    refine j_lstore_n (pc := 184) (lv' := [(1, aL x8), (0, aR 29 v0), (3, aI v3)]) dX11_digest_184 rfl (Nat.le_of_ble_eq_true rfl) rfl ?_
    refine j_ldc2 (pc := 185) tw_6_43 dX11_digest_185 ?_
    refine j_lload_n (pc := 188) 0 dX11_digest_188 rfl rfl ?_
    refine j_lmul (pc := 189) dX11_digest_189 ?_
    refine j_aload_n (pc := 190) 1 dX11_digest_190 rfl rfl ?_
    refine j_getF (pc := 191) fd_29_17 tw_4_83 dX11_digest_191 ?_
    refine j_iload_n (pc := 194) 2 dX11_digest_194 rfl rfl ?_
    refine j_zald (pc := 195) rfl rfl rfl dX11_digest_195 (fun j9 => ?_)
    refine j_ifeq (pc := 196) (tgt := 203) dX11_digest_196 rfl (fun _ => ?_) (fun _ => ?_)
    · refine j_iconst (pc := 203) (v := 0) (by decide) dX11_digest_203 ?_
      refine j_sub [1, 2] (lv' := [(0, aR 29 v0), (3, aI v3)]) rfl ?_
      exact jb11_digest_204 N K129 hK129 v0 v3 (31 * x8) false σ5
    · refine j_iconst (pc := 199) (v := 1) (by decide) dX11_digest_199 ?_
      refine j_goto (pc := 200) (tgt := 204) dX11_digest_200 rfl ?_
      refine j_sub [1, 2] (lv' := [(0, aR 29 v0), (3, aI v3)]) rfl ?_
      exact jb11_digest_204 N K129 hK129 v0 v3 (31 * x8) true σ5
theorem jl11_digest_129 {Γ : jX} {tg : Int64 × rS} (N : Nat) : ∀ (n : Nat) (v0 : Nat) (v1 : Int64) (v3 : Int32) (σ : rS), J Γ rm11_digest eL cX11_digest RX11 5 (some .long) tg 0 0 129 [(0, aR 29 v0), (1, aL v1), (3, aI v3)] [] σ (L11_digest_129 N n v0 v1 v3 σ) := by
  intro n
  induction n with
  | zero => intro v0 v1 v3 σ; exact j_none
  | succ n ih => intro v0 v1 v3 σ; exact jb11_digest_129 N (L11_digest_129 N n) ih v0 v1 v3 σ
set_option maxRecDepth 20000 in
set_option maxHeartbeats 4000000 in
theorem jb11_digest_109 {Γ : jX} {tg : Int64 × rS} (N : Nat) (K12 : Nat → Int64 → Int32 → rS → Option (Int64 × rS)) (hK12 : ∀ (v0 : Nat) (v1 : Int64) (v3 : Int32) (σ : rS), J Γ rm11_digest eL cX11_digest RX11 5 (some .long) tg 0 0 12 [(0, aR 29 v0), (1, aL v1), (3, aI v3)] [] σ (K12 v0 v1 v3 σ)) (v0 : Nat) (v1 : Int64) (v3 : Int32) (σ : rS) : J Γ rm11_digest eL cX11_digest RX11 5 (some .long) tg 0 0 109 [(0, aR 29 v0), (1, aL v1), (3, aI v3)] [] σ (B11_digest_109 N K12 v0 v1 v3 σ) := by
  unfold B11_digest_109
  refine j_iinc (pc := 109) (w := 1) (lv' := [(3, aI (v3 + 1)), (0, aR 29 v0), (1, aL v1)]) 2 dX11_digest_109 rfl (by decide) (Nat.le_of_ble_eq_true rfl) rfl ?_
  refine j_goto (pc := 112) (tgt := 12) dX11_digest_112 rfl ?_
  refine j_sub [1, 2, 0] (lv' := [(0, aR 29 v0), (1, aL v1), (3, aI (v3 + 1))]) rfl ?_
  exact hK12 v0 v1 (v3 + 1) σ
set_option maxRecDepth 20000 in
set_option maxHeartbeats 4000000 in
theorem jb11_digest_64 {Γ : jX} {tg : Int64 × rS} (N : Nat) (K12 : Nat → Int64 → Int32 → rS → Option (Int64 × rS)) (K64 : Nat → Int64 → Int32 → Int32 → rS → Option (Int64 × rS)) (hK12 : ∀ (v0 : Nat) (v1 : Int64) (v3 : Int32) (σ : rS), J Γ rm11_digest eL cX11_digest RX11 5 (some .long) tg 0 0 12 [(0, aR 29 v0), (1, aL v1), (3, aI v3)] [] σ (K12 v0 v1 v3 σ)) (hK64 : ∀ (v0 : Nat) (v1 : Int64) (v3 : Int32) (v4 : Int32) (σ : rS), J Γ rm11_digest eL cX11_digest RX11 5 (some .long) tg 0 0 64 [(0, aR 29 v0), (1, aL v1), (3, aI v3), (4, aI v4)] [] σ (K64 v0 v1 v3 v4 σ)) (v0 : Nat) (v1 : Int64) (v3 : Int32) (v4 : Int32) (σ : rS) : J Γ rm11_digest eL cX11_digest RX11 5 (some .long) tg 0 0 64 [(0, aR 29 v0), (1, aL v1), (3, aI v3), (4, aI v4)] [] σ (B11_digest_64 N K12 K64 v0 v1 v3 v4 σ) := by
  unfold B11_digest_64
  refine j_iload (pc := 64) 3 dX11_digest_64 rfl ?_
  refine j_aload_n (pc := 66) 0 dX11_digest_66 rfl rfl ?_
  refine j_getF (pc := 67) fd_29_5 tw_4_71 dX11_digest_67 ?_
  refine j_iload_n (pc := 70) 2 dX11_digest_70 rfl rfl ?_
  refine j_iald (pc := 71) rfl rfl rfl dX11_digest_71 (fun j1 => ?_)
  refine j_icmpge (pc := 72) (tgt := 109) dX11_digest_72 rfl (fun _ => ?_) (fun _ => ?_)
  · refine j_sub [0, 1, 2] (lv' := [(0, aR 29 v0), (1, aL v1), (3, aI v3)]) rfl ?_
    exact jb11_digest_109 N K12 hK12 v0 v1 v3 σ
  · refine j_aload_n (pc := 75) 0 dX11_digest_75 rfl rfl ?_
    refine j_getF (pc := 76) fd_29_6 tw_4_72 dX11_digest_76 ?_
    refine j_iload_n (pc := 79) 2 dX11_digest_79 rfl rfl ?_
    refine j_zald (pc := 80) rfl rfl rfl dX11_digest_80 (fun j2 => ?_)
    refine j_ifne (pc := 81) (tgt := 109) dX11_digest_81 rfl (fun _ => ?_) (fun _ => ?_)
    · refine j_sub [0, 1, 2] (lv' := [(0, aR 29 v0), (1, aL v1), (3, aI v3)]) rfl ?_
      exact jb11_digest_109 N K12 hK12 v0 v1 v3 σ
    · refine j_ldc2 (pc := 84) tw_6_43 dX11_digest_84 ?_
      refine j_lload_n (pc := 87) 1 dX11_digest_87 rfl rfl ?_
      refine j_lmul (pc := 88) dX11_digest_88 ?_
      refine j_aload_n (pc := 89) 0 dX11_digest_89 rfl rfl ?_
      refine j_getF (pc := 90) fd_29_7 tw_4_73 dX11_digest_90 ?_
      refine j_bipush (pc := 93) (v := 24) (by decide) dX11_digest_93 ?_
      refine j_iload_n (pc := 95) 2 dX11_digest_95 rfl rfl ?_
      refine j_imul (pc := 96) dX11_digest_96 ?_
      refine j_iload (pc := 97) 3 dX11_digest_97 rfl ?_
      refine j_iadd (pc := 99) dX11_digest_99 ?_
      refine j_lald (pc := 100) rfl rfl rfl dX11_digest_100 (fun j3 => ?_)
      refine j_ladd (pc := 101) dX11_digest_101 ?_
      refine j_letl (fun x4 => ?_)
      refine j_lstore_n (pc := 102) (lv' := [(1, aL x4), (0, aR 29 v0), (3, aI v3), (4, aI v4)]) dX11_digest_102 rfl (Nat.le_of_ble_eq_true rfl) rfl ?_
      refine j_iinc (pc := 103) (w := 1) (lv' := [(4, aI (v4 + 1)), (1, aL x4), (0, aR 29 v0), (3, aI v3)]) 3 dX11_digest_103 rfl (by decide) (Nat.le_of_ble_eq_true rfl) rfl ?_
      refine j_goto (pc := 106) (tgt := 64) dX11_digest_106 rfl ?_
      refine j_sub [2, 1, 3, 0] (lv' := [(0, aR 29 v0), (1, aL x4), (3, aI v3), (4, aI (v4 + 1))]) rfl ?_
      exact hK64 v0 x4 v3 (v4 + 1) σ
theorem jl11_digest_64 {Γ : jX} {tg : Int64 × rS} (N : Nat) (K12 : Nat → Int64 → Int32 → rS → Option (Int64 × rS)) (hK12 : ∀ (v0 : Nat) (v1 : Int64) (v3 : Int32) (σ : rS), J Γ rm11_digest eL cX11_digest RX11 5 (some .long) tg 0 0 12 [(0, aR 29 v0), (1, aL v1), (3, aI v3)] [] σ (K12 v0 v1 v3 σ)) : ∀ (n : Nat) (v0 : Nat) (v1 : Int64) (v3 : Int32) (v4 : Int32) (σ : rS), J Γ rm11_digest eL cX11_digest RX11 5 (some .long) tg 0 0 64 [(0, aR 29 v0), (1, aL v1), (3, aI v3), (4, aI v4)] [] σ (L11_digest_64 N K12 n v0 v1 v3 v4 σ) := by
  intro n
  induction n with
  | zero => intro v0 v1 v3 v4 σ; exact j_none
  | succ n ih => intro v0 v1 v3 v4 σ; exact jb11_digest_64 N K12 (L11_digest_64 N K12 n) hK12 ih v0 v1 v3 v4 σ
set_option maxRecDepth 20000 in
set_option maxHeartbeats 4000000 in
theorem jb11_digest_58 {Γ : jX} {tg : Int64 × rS} (N : Nat) (K12 : Nat → Int64 → Int32 → rS → Option (Int64 × rS)) (hK12 : ∀ (v0 : Nat) (v1 : Int64) (v3 : Int32) (σ : rS), J Γ rm11_digest eL cX11_digest RX11 5 (some .long) tg 0 0 12 [(0, aR 29 v0), (1, aL v1), (3, aI v3)] [] σ (K12 v0 v1 v3 σ)) (v0 : Nat) (v3 : Int32) (s0 : Int64) (s1 : Int32) (σ : rS) : J Γ rm11_digest eL cX11_digest RX11 5 (some .long) tg 0 0 58 [(0, aR 29 v0), (3, aI v3)] [aI s1, aL s0] σ (B11_digest_58 N K12 v0 v3 s0 s1 σ) := by
  unfold B11_digest_58
  refine j_i2l (pc := 58) dX11_digest_58 ?_
  refine j_ladd (pc := 59) dX11_digest_59 ?_
  refine j_letl (fun x1 => ?_)
  refine j_lstore_n (pc := 60) (lv' := [(1, aL x1), (0, aR 29 v0), (3, aI v3)]) dX11_digest_60 rfl (Nat.le_of_ble_eq_true rfl) rfl ?_
  refine j_iconst (pc := 61) (v := 0) (by decide) dX11_digest_61 ?_
  refine j_istore (pc := 62) (lv' := [(4, aI 0), (1, aL x1), (0, aR 29 v0), (3, aI v3)]) dX11_digest_62 (Nat.le_of_ble_eq_true rfl) rfl ?_
  refine j_sub [2, 1, 3, 0] (lv' := [(0, aR 29 v0), (1, aL x1), (3, aI v3), (4, aI 0)]) rfl ?_
  exact jl11_digest_64 N K12 hK12 N v0 x1 v3 0 σ
set_option maxRecDepth 20000 in
set_option maxHeartbeats 4000000 in
theorem jb11_digest_12 {Γ : jX} {tg : Int64 × rS} (N : Nat) (K12 : Nat → Int64 → Int32 → rS → Option (Int64 × rS)) (hK12 : ∀ (v0 : Nat) (v1 : Int64) (v3 : Int32) (σ : rS), J Γ rm11_digest eL cX11_digest RX11 5 (some .long) tg 0 0 12 [(0, aR 29 v0), (1, aL v1), (3, aI v3)] [] σ (K12 v0 v1 v3 σ)) (v0 : Nat) (v1 : Int64) (v3 : Int32) (σ : rS) : J Γ rm11_digest eL cX11_digest RX11 5 (some .long) tg 0 0 12 [(0, aR 29 v0), (1, aL v1), (3, aI v3)] [] σ (B11_digest_12 N K12 v0 v1 v3 σ) := by
  unfold B11_digest_12
  refine j_iload_n (pc := 12) 2 dX11_digest_12 rfl rfl ?_
  refine j_aload_n (pc := 13) 0 dX11_digest_13 rfl rfl ?_
  refine j_getI (pc := 14) fd_29_3 tw_4_69 dX11_digest_14 ?_
  refine j_icmpge (pc := 17) (tgt := 115) dX11_digest_17 rfl (fun _ => ?_) (fun _ => ?_)
  · refine j_ldc2 (pc := 115) tw_6_43 dX11_digest_115 ?_
    refine j_lload_n (pc := 118) 1 dX11_digest_118 rfl rfl ?_
    refine j_lmul (pc := 119) dX11_digest_119 ?_
    refine j_aload_n (pc := 120) 0 dX11_digest_120 rfl rfl ?_
    refine j_getI (pc := 121) fd_29_13 tw_4_79 dX11_digest_121 ?_
    refine j_i2l (pc := 124) dX11_digest_124 ?_
    refine j_ladd (pc := 125) dX11_digest_125 ?_
    refine j_letl (fun x1 => ?_)
    refine j_lstore_n (pc := 126) (lv' := [(1, aL x1), (0, aR 29 v0), (3, aI v3)]) dX11_digest_126 rfl (Nat.le_of_ble_eq_true rfl) rfl ?_
    refine j_sub [0, 1] (lv' := [(1, aL x1), (0, aR 29 v0)]) rfl ?_
    refine j_iconst (pc := 127) (v := 0) (by decide) dX11_digest_127 ?_
    refine j_istore_n (pc := 128) (lv' := [(3, aI 0), (1, aL x1), (0, aR 29 v0)]) dX11_digest_128 rfl (Nat.le_of_ble_eq_true rfl) rfl ?_
    refine j_sub [2, 1, 0] (lv' := [(0, aR 29 v0), (1, aL x1), (3, aI 0)]) rfl ?_
    exact jl11_digest_129 N  N v0 x1 0 σ
  · refine j_ldc2 (pc := 20) tw_6_43 dX11_digest_20 ?_
    refine j_lload_n (pc := 23) 1 dX11_digest_23 rfl rfl ?_
    refine j_lmul (pc := 24) dX11_digest_24 ?_
    refine j_aload_n (pc := 25) 0 dX11_digest_25 rfl rfl ?_
    refine j_getF (pc := 26) fd_29_4 tw_4_70 dX11_digest_26 ?_
    refine j_iload_n (pc := 29) 2 dX11_digest_29 rfl rfl ?_
    refine j_iald (pc := 30) rfl rfl rfl dX11_digest_30 (fun j2 => ?_)
    refine j_i2l (pc := 31) dX11_digest_31 ?_
    refine j_ladd (pc := 32) dX11_digest_32 ?_
    refine j_letl (fun x3 => ?_)
    refine j_lstore_n (pc := 33) (lv' := [(1, aL x3), (0, aR 29 v0), (3, aI v3)]) dX11_digest_33 rfl (Nat.le_of_ble_eq_true rfl) rfl ?_
    refine j_ldc2 (pc := 34) tw_6_43 dX11_digest_34 ?_
    refine j_lload_n (pc := 37) 0 dX11_digest_37 rfl rfl ?_
    refine j_lmul (pc := 38) dX11_digest_38 ?_
    refine j_aload_n (pc := 39) 1 dX11_digest_39 rfl rfl ?_
    refine j_getF (pc := 40) fd_29_6 tw_4_72 dX11_digest_40 ?_
    refine j_iload_n (pc := 43) 2 dX11_digest_43 rfl rfl ?_
    refine j_zald (pc := 44) rfl rfl rfl dX11_digest_44 (fun j4 => ?_)
    refine j_ifeq (pc := 45) (tgt := 52) dX11_digest_45 rfl (fun _ => ?_) (fun _ => ?_)
    · refine j_aload_n (pc := 52) 1 dX11_digest_52 rfl rfl ?_
      refine j_getF (pc := 53) fd_29_5 tw_4_71 dX11_digest_53 ?_
      refine j_iload_n (pc := 56) 2 dX11_digest_56 rfl rfl ?_
      refine j_iald (pc := 57) rfl rfl rfl dX11_digest_57 (fun j5 => ?_)
      refine j_sub [1, 2] (lv' := [(0, aR 29 v0), (3, aI v3)]) rfl ?_
      exact jb11_digest_58 N K12 hK12 v0 v3 (31 * x3) (gI σ 35 v0 j5) σ
    · refine j_iconst (pc := 48) (v := (-1)) (by decide) dX11_digest_48 ?_
      refine j_goto (pc := 49) (tgt := 58) dX11_digest_49 rfl ?_
      refine j_sub [1, 2] (lv' := [(0, aR 29 v0), (3, aI v3)]) rfl ?_
      exact jb11_digest_58 N K12 hK12 v0 v3 (31 * x3) (-1) σ
theorem jl11_digest_12 {Γ : jX} {tg : Int64 × rS} (N : Nat) : ∀ (n : Nat) (v0 : Nat) (v1 : Int64) (v3 : Int32) (σ : rS), J Γ rm11_digest eL cX11_digest RX11 5 (some .long) tg 0 0 12 [(0, aR 29 v0), (1, aL v1), (3, aI v3)] [] σ (L11_digest_12 N n v0 v1 v3 σ) := by
  intro n
  induction n with
  | zero => intro v0 v1 v3 σ; exact j_none
  | succ n ih => intro v0 v1 v3 σ; exact jb11_digest_12 N (L11_digest_12 N n) ih v0 v1 v3 σ
set_option maxRecDepth 20000 in
set_option maxHeartbeats 4000000 in
theorem j11_digest {Γ : jX} {tg : Int64 × rS} (N : Nat) (v0 : Nat) (σ : rS) : J Γ rm11_digest eL cX11_digest RX11 5 (some .long) tg 0 0 0 [(0, aR 29 v0)] [] σ (f11_digest N v0 σ) := by
  unfold f11_digest
  refine j_ldc2 (pc := 0) tw_6_42 dX11_digest_0 ?_
  refine j_aload_n (pc := 3) 0 dX11_digest_3 rfl rfl ?_
  refine j_getI (pc := 4) fd_29_3 tw_4_69 dX11_digest_4 ?_
  refine j_i2l (pc := 7) dX11_digest_7 ?_
  refine j_ladd (pc := 8) dX11_digest_8 ?_
  refine j_letl (fun x1 => ?_)
  refine j_lstore_n (pc := 9) (lv' := [(1, aL x1), (0, aR 29 v0)]) dX11_digest_9 rfl (Nat.le_of_ble_eq_true rfl) rfl ?_
  refine j_iconst (pc := 10) (v := 0) (by decide) dX11_digest_10 ?_
  refine j_istore_n (pc := 11) (lv' := [(3, aI 0), (1, aL x1), (0, aR 29 v0)]) dX11_digest_11 rfl (Nat.le_of_ble_eq_true rfl) rfl ?_
  refine j_sub [2, 1, 0] (lv' := [(0, aR 29 v0), (1, aL x1), (3, aI 0)]) rfl ?_
  exact jl11_digest_12 N  N v0 x1 0 σ
theorem c11_digest (l : Launch) (N : Nat) (v0 : Nat) : Ctr l yX11_digest cX11_digest 5 (some .long) rm11_digest eL [aR 29 v0] (f11_digest N v0) := ctr_of (lv := [(0, aR 29 v0)]) (by decide +kernel) (fun _ => rfl) (fun _ => (Nat.le_of_ble_eq_true rfl)) (fun _ h => lvl_als h rfl) (fun _ σ _ => j11_digest N v0 σ)
