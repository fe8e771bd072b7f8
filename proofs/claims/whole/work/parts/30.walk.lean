abbrev rmJ_cmp : Room := { frames := 0, cells := 0, slots := 0, locals := 0 }
set_option maxRecDepth 20000 in
set_option maxHeartbeats 4000000 in
theorem jJ_cmp {Γ : jX} {tg : Int32 × rS} (v0 : Int64) (v2 : Int64) (σ : rS) : J Γ rmJ_cmp eI cJ13_compare_74951 RJ13 4 (some .int) tg 0 0 0 [(0, aL v0), (2, aL v2)] [] σ (fJ_cmp v0 v2 σ) := by
  unfold fJ_cmp
  refine j_lload_n (pc := 0) 0 dJ13_compare_74951_0 rfl rfl ?_
  refine j_lload_n (pc := 1) 1 dJ13_compare_74951_1 rfl rfl ?_
  refine j_lcmpge (pc := 2) (tgt := 10) dJ13_compare_74951_2 dJ13_compare_74951_3 rfl (fun _ => ?_) (fun _ => ?_)
  · refine j_lload_n (pc := 10) 0 dJ13_compare_74951_10 rfl rfl ?_
    refine j_lload_n (pc := 11) 1 dJ13_compare_74951_11 rfl rfl ?_
    refine j_lcmpne (pc := 12) (tgt := 20) dJ13_compare_74951_12 dJ13_compare_74951_13 rfl (fun _ => ?_) (fun _ => ?_)
    · refine j_iconst (pc := 20) (v := 1) (by decide) dJ13_compare_74951_20 ?_
      exact j_ireturn (pc := 21) rfl (Nat.le_of_ble_eq_true rfl) (Nat.le_of_ble_eq_true rfl) dJ13_compare_74951_21
    · refine j_iconst (pc := 16) (v := 0) (by decide) dJ13_compare_74951_16 ?_
      refine j_goto (pc := 17) (tgt := 21) dJ13_compare_74951_17 rfl ?_
      exact j_ireturn (pc := 21) rfl (Nat.le_of_ble_eq_true rfl) (Nat.le_of_ble_eq_true rfl) dJ13_compare_74951_21
  · refine j_iconst (pc := 6) (v := (-1)) (by decide) dJ13_compare_74951_6 ?_
    refine j_goto (pc := 7) (tgt := 21) dJ13_compare_74951_7 rfl ?_
    exact j_ireturn (pc := 21) rfl (Nat.le_of_ble_eq_true rfl) (Nat.le_of_ble_eq_true rfl) dJ13_compare_74951_21
theorem cJ_cmp (l : Launch) (v0 : Int64) (v2 : Int64) : Ctr l yJ13_compare_74951 cJ13_compare_74951 4 (some .int) rmJ_cmp eI [aL v0, aL v2] (fJ_cmp v0 v2) := ctr_of (lv := [(0, aL v0), (2, aL v2)]) (by decide +kernel) (fun _ => rfl) (fun _ => (Nat.le_of_ble_eq_true rfl)) (fun _ h => lvl_als h rfl) (fun _ σ _ => jJ_cmp v0 v2 σ)
abbrev rmJ_min : Room := { frames := 0, cells := 0, slots := 0, locals := 0 }
set_option maxRecDepth 20000 in
set_option maxHeartbeats 4000000 in
theorem jJ_min {Γ : jX} {tg : Int32 × rS} (v0 : Int32) (v1 : Int32) (σ : rS) : J Γ rmJ_min eI cJ9_min_7cf53 RJ9 2 (some .int) tg 0 0 0 [(0, aI v0), (1, aI v1)] [] σ (fJ_min v0 v1 σ) := by
  unfold fJ_min
  refine j_iload_n (pc := 0) 0 dJ9_min_7cf53_0 rfl rfl ?_
  refine j_iload_n (pc := 1) 1 dJ9_min_7cf53_1 rfl rfl ?_
  refine j_icmpgt (pc := 2) (tgt := 9) dJ9_min_7cf53_2 rfl (fun _ => ?_) (fun _ => ?_)
  · refine j_iload_n (pc := 9) 1 dJ9_min_7cf53_9 rfl rfl ?_
    exact j_ireturn (pc := 10) rfl (Nat.le_of_ble_eq_true rfl) (Nat.le_of_ble_eq_true rfl) dJ9_min_7cf53_10
  · refine j_iload_n (pc := 5) 0 dJ9_min_7cf53_5 rfl rfl ?_
    refine j_goto (pc := 6) (tgt := 10) dJ9_min_7cf53_6 rfl ?_
    exact j_ireturn (pc := 10) rfl (Nat.le_of_ble_eq_true rfl) (Nat.le_of_ble_eq_true rfl) dJ9_min_7cf53_10
theorem cJ_min (l : Launch) (v0 : Int32) (v1 : Int32) : Ctr l yJ9_min_7cf53 cJ9_min_7cf53 2 (some .int) rmJ_min eI [aI v0, aI v1] (fJ_min v0 v1) := ctr_of (lv := [(0, aI v0), (1, aI v1)]) (by decide +kernel) (fun _ => rfl) (fun _ => (Nat.le_of_ble_eq_true rfl)) (fun _ h => lvl_als h rfl) (fun _ σ _ => jJ_min v0 v1 σ)
abbrev rmJ_dnan : Room := { frames := 0, cells := 0, slots := 0, locals := 0 }
set_option maxRecDepth 20000 in
set_option maxHeartbeats 4000000 in
theorem jJ_dnan {Γ : jX} {tg : Bool × rS} (v0 : UInt64) (σ : rS) : J Γ rmJ_dnan eZ cJxe99ae_isNaN_b9ae7 RJxe99ae 2 (some .boolean) tg 0 0 0 [(0, aD v0)] [] σ (fJ_dnan v0 σ) := by
  unfold fJ_dnan
  refine j_dload_n (pc := 0) 0 dJxe99ae_isNaN_b9ae7_0 rfl rfl ?_
  refine j_dload_n (pc := 1) 0 dJxe99ae_isNaN_b9ae7_1 rfl rfl ?_
  refine j_dcmp (pc := 2) dJxe99ae_isNaN_b9ae7_2 ?_
  refine j_ifeq (pc := 3) (tgt := 10) dJxe99ae_isNaN_b9ae7_3 rfl (fun _ => ?_) (fun _ => ?_)
  · refine j_iconst (pc := 10) (v := 0) (by decide) dJxe99ae_isNaN_b9ae7_10 ?_
    exact j_zret0 (pc := 11) rfl (Nat.le_of_ble_eq_true rfl) (Nat.le_of_ble_eq_true rfl) dJxe99ae_isNaN_b9ae7_11
  · refine j_iconst (pc := 6) (v := 1) (by decide) dJxe99ae_isNaN_b9ae7_6 ?_
    refine j_goto (pc := 7) (tgt := 11) dJxe99ae_isNaN_b9ae7_7 rfl ?_
    exact j_zret1 (pc := 11) rfl (Nat.le_of_ble_eq_true rfl) (Nat.le_of_ble_eq_true rfl) dJxe99ae_isNaN_b9ae7_11
theorem cJ_dnan (l : Launch) (v0 : UInt64) : Ctr l yJxe99ae_isNaN_b9ae7 cJxe99ae_isNaN_b9ae7 2 (some .boolean) rmJ_dnan eZ [aD v0] (fJ_dnan v0) := ctr_of (lv := [(0, aD v0)]) (by decide +kernel) (fun _ => rfl) (fun _ => (Nat.le_of_ble_eq_true rfl)) (fun _ h => lvl_als h rfl) (fun _ σ _ => jJ_dnan v0 σ)
theorem cs_RJxe99ae_122 : CaS RJxe99ae 122 yJxe99ae_isNaN_b9ae7 cJxe99ae_isNaN_b9ae7 2 (some .boolean) 1 := ⟨tw_5_45, tw_5_46, tw_1_12, tw_5_47, by decide +kernel, by decide +kernel, by decide +kernel⟩
abbrev rmJ_dbits : Room := { frames := 1, cells := 0, slots := 0, locals := 40 }
set_option maxRecDepth 20000 in
set_option maxHeartbeats 4000000 in
theorem jJ_dbits {Γ : jX} {tg : Int64 × rS} (v0 : UInt64) (σ : rS) : J Γ rmJ_dbits eL cJxe99ae_doubleToLongBits_ccdee RJxe99ae 2 (some .long) tg 0 0 0 [(0, aD v0)] [] σ (fJ_dbits v0 σ) := by
  unfold fJ_dbits
  refine j_dload_n (pc := 0) 0 dJxe99ae_doubleToLongBits_ccdee_0 rfl rfl ?_
  refine j_callSZ (pc := 1) (As := [aD v0]) (st := []) (fun l => cJ_dnan l v0) cs_RJxe99ae_122 rfl rfl (Nat.le_of_ble_eq_true rfl) ⟨(Nat.le_of_ble_eq_true rfl), (Nat.le_of_ble_eq_true rfl)⟩ ⟨(Nat.le_of_ble_eq_true rfl), (Nat.le_of_ble_eq_true rfl)⟩ dJxe99ae_doubleToLongBits_ccdee_1 (fun r1 σ2 => ?_)
  refine j_ifneB (pc := 4) (tgt := 12) dJxe99ae_doubleToLongBits_ccdee_4 rfl (fun _ => ?_) (fun _ => ?_)
  · refine j_ldc2 (pc := 12) tw_5_51 dJxe99ae_doubleToLongBits_ccdee_12 ?_
    exact j_lreturn (pc := 15) rfl (Nat.le_of_ble_eq_true rfl) (Nat.le_of_ble_eq_true rfl) dJxe99ae_doubleToLongBits_ccdee_15
  · refine j_dload_n (pc := 7) 0 dJxe99ae_doubleToLongBits_ccdee_7 rfl rfl ?_
    refine j_nd2l (pc := 8) tw_5_48 (Nat.le_of_ble_eq_true rfl) (Nat.le_of_ble_eq_true rfl) (Nat.le_of_ble_eq_true rfl) dJxe99ae_doubleToLongBits_ccdee_8 ?_
    exact j_lreturn (pc := 11) rfl (Nat.le_of_ble_eq_true rfl) (Nat.le_of_ble_eq_true rfl) dJxe99ae_doubleToLongBits_ccdee_11
theorem cJ_dbits (l : Launch) (v0 : UInt64) : Ctr l yJxe99ae_doubleToLongBits_ccdee cJxe99ae_doubleToLongBits_ccdee 2 (some .long) rmJ_dbits eL [aD v0] (fJ_dbits v0) := ctr_of (lv := [(0, aD v0)]) (by decide +kernel) (fun _ => rfl) (fun _ => (Nat.le_of_ble_eq_true rfl)) (fun _ h => lvl_als h rfl) (fun _ σ _ => jJ_dbits v0 σ)
abbrev rmJ_fnan : Room := { frames := 0, cells := 0, slots := 0, locals := 0 }
set_option maxRecDepth 20000 in
set_option maxHeartbeats 4000000 in
theorem jJ_fnan {Γ : jX} {tg : Bool × rS} (v0 : UInt32) (σ : rS) : J Γ rmJ_fnan eZ cJxf58ca_isNaN_12338 RJxf58ca 1 (some .boolean) tg 0 0 0 [(0, aF v0)] [] σ (fJ_fnan v0 σ) := by
  unfold fJ_fnan
  refine j_fload_n (pc := 0) 0 dJxf58ca_isNaN_12338_0 rfl rfl ?_
  refine j_fload_n (pc := 1) 0 dJxf58ca_isNaN_12338_1 rfl rfl ?_
  refine j_fcmp (pc := 2) dJxf58ca_isNaN_12338_2 ?_
  refine j_ifeq (pc := 3) (tgt := 10) dJxf58ca_isNaN_12338_3 rfl (fun _ => ?_) (fun _ => ?_)
  · refine j_iconst (pc := 10) (v := 0) (by decide) dJxf58ca_isNaN_12338_10 ?_
    exact j_zret0 (pc := 11) rfl (Nat.le_of_ble_eq_true rfl) (Nat.le_of_ble_eq_true rfl) dJxf58ca_isNaN_12338_11
  · refine j_iconst (pc := 6) (v := 1) (by decide) dJxf58ca_isNaN_12338_6 ?_
    refine j_goto (pc := 7) (tgt := 11) dJxf58ca_isNaN_12338_7 rfl ?_
    exact j_zret1 (pc := 11) rfl (Nat.le_of_ble_eq_true rfl) (Nat.le_of_ble_eq_true rfl) dJxf58ca_isNaN_12338_11
theorem cJ_fnan (l : Launch) (v0 : UInt32) : Ctr l yJxf58ca_isNaN_12338 cJxf58ca_isNaN_12338 1 (some .boolean) rmJ_fnan eZ [aF v0] (fJ_fnan v0) := ctr_of (lv := [(0, aF v0)]) (by decide +kernel) (fun _ => rfl) (fun _ => (Nat.le_of_ble_eq_true rfl)) (fun _ h => lvl_als h rfl) (fun _ σ _ => jJ_fnan v0 σ)
theorem cs_RJxf58ca_59 : CaS RJxf58ca 59 yJxf58ca_isNaN_12338 cJxf58ca_isNaN_12338 1 (some .boolean) 1 := ⟨tw_5_35, tw_5_36, tw_1_11, tw_5_37, by decide +kernel, by decide +kernel, by decide +kernel⟩
abbrev rmJ_fbits : Room := { frames := 1, cells := 0, slots := 0, locals := 40 }
set_option maxRecDepth 20000 in
set_option maxHeartbeats 4000000 in
theorem jJ_fbits {Γ : jX} {tg : Int32 × rS} (v0 : UInt32) (σ : rS) : J Γ rmJ_fbits eI cJxf58ca_floatToIntBits_5c35a RJxf58ca 1 (some .int) tg 0 0 0 [(0, aF v0)] [] σ (fJ_fbits v0 σ) := by
  unfold fJ_fbits
  refine j_fload_n (pc := 0) 0 dJxf58ca_floatToIntBits_5c35a_0 rfl rfl ?_
  refine j_callSZ (pc := 1) (As := [aF v0]) (st := []) (fun l => cJ_fnan l v0) cs_RJxf58ca_59 rfl rfl (Nat.le_of_ble_eq_true rfl) ⟨(Nat.le_of_ble_eq_true rfl), (Nat.le_of_ble_eq_true rfl)⟩ ⟨(Nat.le_of_ble_eq_true rfl), (Nat.le_of_ble_eq_true rfl)⟩ dJxf58ca_floatToIntBits_5c35a_1 (fun r1 σ2 => ?_)
  refine j_ifneB (pc := 4) (tgt := 12) dJxf58ca_floatToIntBits_5c35a_4 rfl (fun _ => ?_) (fun _ => ?_)
  · refine j_ldc (pc := 12) tw_5_41 dJxf58ca_floatToIntBits_5c35a_12 ?_
    exact j_ireturn (pc := 14) rfl (Nat.le_of_ble_eq_true rfl) (Nat.le_of_ble_eq_true rfl) dJxf58ca_floatToIntBits_5c35a_14
  · refine j_fload_n (pc := 7) 0 dJxf58ca_floatToIntBits_5c35a_7 rfl rfl ?_
    refine j_nf2i (pc := 8) tw_5_38 (Nat.le_of_ble_eq_true rfl) (Nat.le_of_ble_eq_true rfl) (Nat.le_of_ble_eq_true rfl) dJxf58ca_floatToIntBits_5c35a_8 ?_
    exact j_ireturn (pc := 11) rfl (Nat.le_of_ble_eq_true rfl) (Nat.le_of_ble_eq_true rfl) dJxf58ca_floatToIntBits_5c35a_11
theorem cJ_fbits (l : Launch) (v0 : UInt32) : Ctr l yJxf58ca_floatToIntBits_5c35a cJxf58ca_floatToIntBits_5c35a 1 (some .int) rmJ_fbits eI [aF v0] (fJ_fbits v0) := ctr_of (lv := [(0, aF v0)]) (by decide +kernel) (fun _ => rfl) (fun _ => (Nat.le_of_ble_eq_true rfl)) (fun _ h => lvl_als h rfl) (fun _ σ _ => jJ_fbits v0 σ)
abbrev rm1_newAct : Room := { frames := 0, cells := 0, slots := 0, locals := 0 }
set_option maxRecDepth 20000 in
set_option maxHeartbeats 4000000 in
theorem j1_newAct {Γ : jX} {tg : Unit × rS} (v0 : Nat) (v1 : Int32) (v2 : Int32) (σ : rS) : J Γ rm1_newAct eV cX1_newAct RX1 3 none tg 0 0 0 [(0, aR 22 v0), (1, aI v1), (2, aI v2)] [] σ (f1_newAct v0 v1 v2 σ) := by
  unfold f1_newAct
  refine j_aload_n (pc := 0) 0 dX1_newAct_0 rfl rfl ?_
  refine j_getI (pc := 1) fd_22_5 tw_3_196 dX1_newAct_1 ?_
  refine j_aload_n (pc := 4) 0 dX1_newAct_4 rfl rfl ?_
  refine j_getF (pc := 5) fd_22_2 tw_3_193 dX1_newAct_5 ?_
  refine j_alen (pc := 8) rfl (by decide) dX1_newAct_8 ?_
  refine j_icmplt (pc := 9) (tgt := 13) dX1_newAct_9 rfl (fun _ => ?_) (fun _ => ?_)
  · refine j_aload_n (pc := 13) 0 dX1_newAct_13 rfl rfl ?_
    refine j_getF (pc := 14) fd_22_2 tw_3_193 dX1_newAct_14 ?_
    refine j_aload_n (pc := 17) 0 dX1_newAct_17 rfl rfl ?_
    refine j_getI (pc := 18) fd_22_5 tw_3_196 dX1_newAct_18 ?_
    refine j_iload_n (pc := 21) 1 dX1_newAct_21 rfl rfl ?_
    refine j_iast (pc := 22) rfl rfl rfl dX1_newAct_22 (fun j1 => ?_)
    refine j_lets (fun σ2 => ?_)
    refine j_aload_n (pc := 23) 0 dX1_newAct_23 rfl rfl ?_
    refine j_getF (pc := 24) fd_22_3 tw_3_194 dX1_newAct_24 ?_
    refine j_aload_n (pc := 27) 0 dX1_newAct_27 rfl rfl ?_
    refine j_getI (pc := 28) fd_22_5 tw_3_196 dX1_newAct_28 ?_
    refine j_iload_n (pc := 31) 2 dX1_newAct_31 rfl rfl ?_
    refine j_iast (pc := 32) rfl rfl rfl dX1_newAct_32 (fun j3 => ?_)
    refine j_lets (fun σ4 => ?_)
    refine j_aload_n (pc := 33) 0 dX1_newAct_33 rfl rfl ?_
    refine j_dup (pc := 34) dX1_newAct_34 rfl ?_
    refine j_getI (pc := 35) fd_22_5 tw_3_196 dX1_newAct_35 ?_
    refine j_iconst (pc := 38) (v := 1) (by decide) dX1_newAct_38 ?_
    refine j_iadd (pc := 39) dX1_newAct_39 ?_
    refine j_putI (pc := 40) fd_22_5 rfl rfl tw_3_196 dX1_newAct_40 ?_
    refine j_lets (fun σ5 => ?_)
    exact j_return (pc := 43) rfl (Nat.le_of_ble_eq_true rfl) (Nat.le_of_ble_eq_true rfl) dX1_newAct_43
  · exact j_return (pc := 12) rfl (Nat.le_of_ble_eq_true rfl) (Nat.le_of_ble_eq_true rfl) dX1_newAct_12
theorem c1_newAct (l : Launch) (v0 : Nat) (v1 : Int32) (v2 : Int32) : Ctr l yX1_newAct cX1_newAct 3 none rm1_newAct eV [aR 22 v0, aI v1, aI v2] (f1_newAct v0 v1 v2) := ctr_of (lv := [(0, aR 22 v0), (1, aI v1), (2, aI v2)]) (by decide +kernel) (fun _ => rfl) (fun _ => (Nat.le_of_ble_eq_true rfl)) (fun _ h => lvl_als h rfl) (fun _ σ _ => j1_newAct v0 v1 v2 σ)
theorem cs_RX1_54 : CaV RX1 RX1 54 yX1_newAct cX1_newAct 3 none 2 := ⟨tw_3_233, tw_3_235, tw_p19, tw_1_17, tw_3_236, rfl, by decide +kernel, by decide +kernel, by decide +kernel⟩
abbrev rm1_addByte : Room := { frames := 1, cells := 0, slots := 0, locals := 22 }
set_option maxRecDepth 20000 in
set_option maxHeartbeats 4000000 in
theorem jb1_addByte_41 {Γ : jX} {tg : Unit × rS} (v0 : Nat) (v1 : Int32) (σ : rS) : J Γ rm1_addByte eV cX1_addByte RX1 2 none tg 0 0 41 [(0, aR 22 v0), (1, aI v1)] [] σ (B1_addByte_41 v0 v1 σ) := by
  unfold B1_addByte_41
  refine j_aload_n (pc := 41) 0 dX1_addByte_41 rfl rfl ?_
  refine j_getF (pc := 42) fd_22_4 tw_3_195 dX1_addByte_42 ?_
  refine j_aload_n (pc := 45) 0 dX1_addByte_45 rfl rfl ?_
  refine j_getI (pc := 46) fd_22_6 tw_3_198 dX1_addByte_46 ?_
  refine j_iload_n (pc := 49) 1 dX1_addByte_49 rfl rfl ?_
  refine j_i2b (pc := 50) dX1_addByte_50 ?_
  refine j_bast (pc := 51) rfl rfl rfl dX1_addByte_51 (fun j1 => ?_)
  refine j_lets (fun σ2 => ?_)
  refine j_aload_n (pc := 52) 0 dX1_addByte_52 rfl rfl ?_
  refine j_dup (pc := 53) dX1_addByte_53 rfl ?_
  refine j_getI (pc := 54) fd_22_6 tw_3_198 dX1_addByte_54 ?_
  refine j_iconst (pc := 57) (v := 1) (by decide) dX1_addByte_57 ?_
  refine j_iadd (pc := 58) dX1_addByte_58 ?_
  refine j_putI (pc := 59) fd_22_6 rfl rfl tw_3_198 dX1_addByte_59 ?_
  refine j_lets (fun σ3 => ?_)
  refine j_aload_n (pc := 62) 0 dX1_addByte_62 rfl rfl ?_
  refine j_getF (pc := 63) fd_22_3 tw_3_194 dX1_addByte_63 ?_
  refine j_aload_n (pc := 66) 0 dX1_addByte_66 rfl rfl ?_
  refine j_getI (pc := 67) fd_22_5 tw_3_196 dX1_addByte_67 ?_
  refine j_iconst (pc := 70) (v := 1) (by decide) dX1_addByte_70 ?_
  refine j_isub (pc := 71) dX1_addByte_71 ?_
  refine j_dup2 (pc := 72) dX1_addByte_72 rfl rfl ?_
  refine j_iald (pc := 73) rfl rfl rfl dX1_addByte_73 (fun j4 => ?_)
  refine j_iconst (pc := 74) (v := 1) (by decide) dX1_addByte_74 ?_
  refine j_iadd (pc := 75) dX1_addByte_75 ?_
  refine j_iast (pc := 76) rfl rfl rfl dX1_addByte_76 (fun j5 => ?_)
  refine j_lets (fun σ6 => ?_)
  exact j_return (pc := 77) rfl (Nat.le_of_ble_eq_true rfl) (Nat.le_of_ble_eq_true rfl) dX1_addByte_77
set_option maxRecDepth 20000 in
set_option maxHeartbeats 4000000 in
theorem jb1_addByte_35 {Γ : jX} {tg : Unit × rS} (v0 : Nat) (v1 : Int32) (σ : rS) : J Γ rm1_addByte eV cX1_addByte RX1 2 none tg 0 0 35 [(0, aR 22 v0), (1, aI v1)] [] σ (B1_addByte_35 v0 v1 σ) := by
  unfold B1_addByte_35
  refine j_aload_n (pc := 35) 0 dX1_addByte_35 rfl rfl ?_
  refine j_iconst (pc := 36) (v := (-1)) (by decide) dX1_addByte_36 ?_
  refine j_iconst (pc := 37) (v := 0) (by decide) dX1_addByte_37 ?_
  refine j_callVV (pc := 38) (As := [aI (-1), aI 0]) (st := []) (fun l => c1_newAct l v0 (-1) 0) cs_RX1_54 rfl rfl rfl rfl (Nat.le_of_ble_eq_true rfl) ⟨(Nat.le_of_ble_eq_true rfl), (Nat.le_of_ble_eq_true rfl)⟩ ⟨(Nat.le_of_ble_eq_true rfl), (Nat.le_of_ble_eq_true rfl)⟩ dX1_addByte_38 (fun r1 σ2 => ?_)
  exact jb1_addByte_41   v0 v1 σ2
set_option maxRecDepth 20000 in
set_option maxHeartbeats 4000000 in
theorem j1_addByte {Γ : jX} {tg : Unit × rS} (v0 : Nat) (v1 : Int32) (σ : rS) : J Γ rm1_addByte eV cX1_addByte RX1 2 none tg 0 0 0 [(0, aR 22 v0), (1, aI v1)] [] σ (f1_addByte v0 v1 σ) := by
  unfold f1_addByte
  refine j_aload_n (pc := 0) 0 dX1_addByte_0 rfl rfl ?_
  refine j_getI (pc := 1) fd_22_6 tw_3_198 dX1_addByte_1 ?_
  refine j_aload_n (pc := 4) 0 dX1_addByte_4 rfl rfl ?_
  refine j_getF (pc := 5) fd_22_4 tw_3_195 dX1_addByte_5 ?_
  refine j_alen (pc := 8) rfl (by decide) dX1_addByte_8 ?_
  refine j_icmplt (pc := 9) (tgt := 13) dX1_addByte_9 rfl (fun _ => ?_) (fun _ => ?_)
  · refine j_aload_n (pc := 13) 0 dX1_addByte_13 rfl rfl ?_
    refine j_getI (pc := 14) fd_22_5 tw_3_196 dX1_addByte_14 ?_
    refine j_ifeq (pc := 17) (tgt := 35) dX1_addByte_17 rfl (fun _ => ?_) (fun _ => ?_)
    · exact jb1_addByte_35   v0 v1 σ
    · refine j_aload_n (pc := 20) 0 dX1_addByte_20 rfl rfl ?_
      refine j_getF (pc := 21) fd_22_2 tw_3_193 dX1_addByte_21 ?_
      refine j_aload_n (pc := 24) 0 dX1_addByte_24 rfl rfl ?_
      refine j_getI (pc := 25) fd_22_5 tw_3_196 dX1_addByte_25 ?_
      refine j_iconst (pc := 28) (v := 1) (by decide) dX1_addByte_28 ?_
      refine j_isub (pc := 29) dX1_addByte_29 ?_
      refine j_iald (pc := 30) rfl rfl rfl dX1_addByte_30 (fun j1 => ?_)
      refine j_iconst (pc := 31) (v := (-1)) (by decide) dX1_addByte_31 ?_
      refine j_icmpeq (pc := 32) (tgt := 41) dX1_addByte_32 rfl (fun _ => ?_) (fun _ => ?_)
      · exact jb1_addByte_41   v0 v1 σ
      · exact jb1_addByte_35   v0 v1 σ
  · exact j_return (pc := 12) rfl (Nat.le_of_ble_eq_true rfl) (Nat.le_of_ble_eq_true rfl) dX1_addByte_12
theorem c1_addByte (l : Launch) (v0 : Nat) (v1 : Int32) : Ctr l yX1_addByte cX1_addByte 2 none rm1_addByte eV [aR 22 v0, aI v1] (f1_addByte v0 v1) := ctr_of (lv := [(0, aR 22 v0), (1, aI v1)]) (by decide +kernel) (fun _ => rfl) (fun _ => (Nat.le_of_ble_eq_true rfl)) (fun _ h => lvl_als h rfl) (fun _ σ _ => j1_addByte v0 v1 σ)
theorem cs_RX1_61 : CaS RX1 61 yJ9_min_7cf53 cJ9_min_7cf53 2 (some .int) 2 := ⟨tw_3_227, tw_2_98, tw_1_13, tw_2_99, by decide +kernel, by decide +kernel, by decide +kernel⟩
abbrev rm1_likeBytes : Room := { frames := 1, cells := 0, slots := 0, locals := 21 }
set_option maxRecDepth 20000 in
set_option maxHeartbeats 4000000 in
theorem jb1_likeBytes_20 {Γ : jX} {tg : Int32 × rS} (N : Nat) (K20 : Nat → Int32 → Nat → Int32 → Int32 → Int32 → rS → Option (Int32 × rS)) (hK20 : ∀ (v0 : Nat) (v1 : Int32) (v2 : Nat) (v3 : Int32) (v4 : Int32) (v5 : Int32) (σ : rS), J Γ rm1_likeBytes eI cX1_likeBytes RX1 6 (some .int) tg 0 0 20 [(0, aR 15 v0), (1, aI v1), (2, aR 15 v2), (3, aI v3), (4, aI v4), (5, aI v5)] [] σ (K20 v0 v1 v2 v3 v4 v5 σ)) (v0 : Nat) (v1 : Int32) (v2 : Nat) (v3 : Int32) (v4 : Int32) (v5 : Int32) (σ : rS) : J Γ rm1_likeBytes eI cX1_likeBytes RX1 6 (some .int) tg 0 0 20 [(0, aR 15 v0), (1, aI v1), (2, aR 15 v2), (3, aI v3), (4, aI v4), (5, aI v5)] [] σ (B1_likeBytes_20 N K20 v0 v1 v2 v3 v4 v5 σ) := by
  unfold B1_likeBytes_20
  refine j_iload (pc := 20) 5 dX1_likeBytes_20 rfl ?_
  refine j_iload (pc := 22) 4 dX1_likeBytes_22 rfl ?_
  refine j_icmpge (pc := 24) (tgt := 54) dX1_likeBytes_24 rfl (fun _ => ?_) (fun _ => ?_)
  · refine j_iload (pc := 54) 5 dX1_likeBytes_54 rfl ?_
    exact j_ireturn (pc := 56) rfl (Nat.le_of_ble_eq_true rfl) (Nat.le_of_ble_eq_true rfl) dX1_likeBytes_56
  · refine j_aload_n (pc := 27) 0 dX1_likeBytes_27 rfl rfl ?_
    refine j_getF (pc := 28) fd_15_0 tw_2_136 dX1_likeBytes_28 ?_
    refine j_iload_n (pc := 31) 1 dX1_likeBytes_31 rfl rfl ?_
    refine j_iload (pc := 32) 5 dX1_likeBytes_32 rfl ?_
    refine j_iadd (pc := 34) dX1_likeBytes_34 ?_
    refine j_bald (pc := 35) rfl rfl rfl dX1_likeBytes_35 (fun j1 => ?_)
    refine j_aload_n (pc := 36) 2 dX1_likeBytes_36 rfl rfl ?_
    refine j_getF (pc := 37) fd_15_0 tw_2_136 dX1_likeBytes_37 ?_
    refine j_iload_n (pc := 40) 3 dX1_likeBytes_40 rfl rfl ?_
    refine j_iload (pc := 41) 5 dX1_likeBytes_41 rfl ?_
    refine j_iadd (pc := 43) dX1_likeBytes_43 ?_
    refine j_bald (pc := 44) rfl rfl rfl dX1_likeBytes_44 (fun j2 => ?_)
    refine j_icmpne (pc := 45) (tgt := 54) dX1_likeBytes_45 rfl (fun _ => ?_) (fun _ => ?_)
    · refine j_iload (pc := 54) 5 dX1_likeBytes_54 rfl ?_
      exact j_ireturn (pc := 56) rfl (Nat.le_of_ble_eq_true rfl) (Nat.le_of_ble_eq_true rfl) dX1_likeBytes_56
    · refine j_iinc (pc := 48) (w := 1) (lv' := [(5, aI (v5 + 1)), (0, aR 15 v0), (1, aI v1), (2, aR 15 v2), (3, aI v3), (4, aI v4)]) 5 dX1_likeBytes_48 rfl (by decide) (Nat.le_of_ble_eq_true rfl) rfl ?_
      refine j_goto (pc := 51) (tgt := 20) dX1_likeBytes_51 rfl ?_
      refine j_sub [1, 2, 3, 4, 5, 0] (lv' := [(0, aR 15 v0), (1, aI v1), (2, aR 15 v2), (3, aI v3), (4, aI v4), (5, aI (v5 + 1))]) rfl ?_
      exact hK20 v0 v1 v2 v3 v4 (v5 + 1) σ
theorem jl1_likeBytes_20 {Γ : jX} {tg : Int32 × rS} (N : Nat) : ∀ (n : Nat) (v0 : Nat) (v1 : Int32) (v2 : Nat) (v3 : Int32) (v4 : Int32) (v5 : Int32) (σ : rS), J Γ rm1_likeBytes eI cX1_likeBytes RX1 6 (some .int) tg 0 0 20 [(0, aR 15 v0), (1, aI v1), (2, aR 15 v2), (3, aI v3), (4, aI v4), (5, aI v5)] [] σ (L1_likeBytes_20 N n v0 v1 v2 v3 v4 v5 σ) := by
  intro n
  induction n with
  | zero => intro v0 v1 v2 v3 v4 v5 σ; exact j_none
  | succ n ih => intro v0 v1 v2 v3 v4 v5 σ; exact jb1_likeBytes_20 N (L1_likeBytes_20 N n) ih v0 v1 v2 v3 v4 v5 σ
set_option maxRecDepth 20000 in
set_option maxHeartbeats 4000000 in
theorem j1_likeBytes {Γ : jX} {tg : Int32 × rS} (N : Nat) (v0 : Nat) (v1 : Int32) (v2 : Nat) (v3 : Int32) (σ : rS) : J Γ rm1_likeBytes eI cX1_likeBytes RX1 6 (some .int) tg 0 0 0 [(0, aR 15 v0), (1, aI v1), (2, aR 15 v2), (3, aI v3)] [] σ (f1_likeBytes N v0 v1 v2 v3 σ) := by
  unfold f1_likeBytes
  refine j_aload_n (pc := 0) 0 dX1_likeBytes_0 rfl rfl ?_
  refine j_getI (pc := 1) fd_15_1 tw_2_138 dX1_likeBytes_1 ?_
  refine j_iload_n (pc := 4) 1 dX1_likeBytes_4 rfl rfl ?_
  refine j_isub (pc := 5) dX1_likeBytes_5 ?_
  refine j_aload_n (pc := 6) 2 dX1_likeBytes_6 rfl rfl ?_
  refine j_getI (pc := 7) fd_15_1 tw_2_138 dX1_likeBytes_7 ?_
  refine j_iload_n (pc := 10) 3 dX1_likeBytes_10 rfl rfl ?_
  refine j_isub (pc := 11) dX1_likeBytes_11 ?_
  refine j_callSI (pc := 12) (As := [aI ((gI σ 15 v0 1) - v1), aI ((gI σ 15 v2 1) - v3)]) (st := []) (fun l => cJ_min l ((gI σ 15 v0 1) - v1) ((gI σ 15 v2 1) - v3)) cs_RX1_61 rfl rfl (Nat.le_of_ble_eq_true rfl) ⟨(Nat.le_of_ble_eq_true rfl), (Nat.le_of_ble_eq_true rfl)⟩ ⟨(Nat.le_of_ble_eq_true rfl), (Nat.le_of_ble_eq_true rfl)⟩ dX1_likeBytes_12 (fun r1 σ2 => ?_)
  refine j_istore (pc := 15) (lv' := [(4, aI r1), (0, aR 15 v0), (1, aI v1), (2, aR 15 v2), (3, aI v3)]) dX1_likeBytes_15 (Nat.le_of_ble_eq_true rfl) rfl ?_
  refine j_iconst (pc := 17) (v := 0) (by decide) dX1_likeBytes_17 ?_
  refine j_istore (pc := 18) (lv' := [(5, aI 0), (4, aI r1), (0, aR 15 v0), (1, aI v1), (2, aR 15 v2), (3, aI v3)]) dX1_likeBytes_18 (Nat.le_of_ble_eq_true rfl) rfl ?_
  refine j_sub [2, 3, 4, 5, 1, 0] (lv' := [(0, aR 15 v0), (1, aI v1), (2, aR 15 v2), (3, aI v3), (4, aI r1), (5, aI 0)]) rfl ?_
  exact jl1_likeBytes_20 N  N v0 v1 v2 v3 r1 0 σ2
theorem c1_likeBytes (l : Launch) (N : Nat) (v0 : Nat) (v1 : Int32) (v2 : Nat) (v3 : Int32) : Ctr l yX1_likeBytes cX1_likeBytes 6 (some .int) rm1_likeBytes eI [aR 15 v0, aI v1, aR 15 v2, aI v3] (f1_likeBytes N v0 v1 v2 v3) := ctr_of (lv := [(0, aR 15 v0), (1, aI v1), (2, aR 15 v2), (3, aI v3)]) (by decide +kernel) (fun _ => rfl) (fun _ => (Nat.le_of_ble_eq_true rfl)) (fun _ h => lvl_als h rfl) (fun _ σ _ => j1_likeBytes N v0 v1 v2 v3 σ)
theorem cs_RX1_50 : CaS RX1 50 yX1_likeBytes cX1_likeBytes 6 (some .int) 4 := ⟨tw_3_224, tw_3_225, tw_1_17, tw_3_226, by decide +kernel, by decide +kernel, by decide +kernel⟩
abbrev rm1_longestLike : Room := { frames := 2, cells := 0, slots := 0, locals := 46 }
set_option maxRecDepth 20000 in
set_option maxHeartbeats 4000000 in
theorem jb1_longestLike_52 {Γ : jX} {tg : Int32 × rS} (N : Nat) (K8 : Nat → Nat → Int32 → Int32 → Int32 → Int32 → rS → Option (Int32 × rS)) (hK8 : ∀ (v0 : Nat) (v1 : Nat) (v2 : Int32) (v3 : Int32) (v4 : Int32) (v5 : Int32) (σ : rS), J Γ rm1_longestLike eI cX1_longestLike RX1 7 (some .int) tg 0 0 8 [(0, aR 15 v0), (1, aR 15 v1), (2, aI v2), (3, aI v3), (4, aI v4), (5, aI v5)] [] σ (K8 v0 v1 v2 v3 v4 v5 σ)) (v0 : Nat) (v1 : Nat) (v2 : Int32) (v3 : Int32) (v4 : Int32) (v5 : Int32) (σ : rS) : J Γ rm1_longestLike eI cX1_longestLike RX1 7 (some .int) tg 0 0 52 [(0, aR 15 v0), (1, aR 15 v1), (2, aI v2), (3, aI v3), (4, aI v4), (5, aI v5)] [] σ (B1_longestLike_52 N K8 v0 v1 v2 v3 v4 v5 σ) := by
  unfold B1_longestLike_52
  refine j_iinc (pc := 52) (w := 1) (lv' := [(5, aI (v5 + 1)), (0, aR 15 v0), (1, aR 15 v1), (2, aI v2), (3, aI v3), (4, aI v4)]) 5 dX1_longestLike_52 rfl (by decide) (Nat.le_of_ble_eq_true rfl) rfl ?_
  refine j_goto (pc := 55) (tgt := 8) dX1_longestLike_55 rfl ?_
  refine j_sub [1, 2, 3, 4, 5, 0] (lv' := [(0, aR 15 v0), (1, aR 15 v1), (2, aI v2), (3, aI v3), (4, aI v4), (5, aI (v5 + 1))]) rfl ?_
  exact hK8 v0 v1 v2 v3 v4 (v5 + 1) σ
set_option maxRecDepth 20000 in
set_option maxHeartbeats 4000000 in
theorem jb1_longestLike_8 {Γ : jX} {tg : Int32 × rS} (N : Nat) (K8 : Nat → Nat → Int32 → Int32 → Int32 → Int32 → rS → Option (Int32 × rS)) (hK8 : ∀ (v0 : Nat) (v1 : Nat) (v2 : Int32) (v3 : Int32) (v4 : Int32) (v5 : Int32) (σ : rS), J Γ rm1_longestLike eI cX1_longestLike RX1 7 (some .int) tg 0 0 8 [(0, aR 15 v0), (1, aR 15 v1), (2, aI v2), (3, aI v3), (4, aI v4), (5, aI v5)] [] σ (K8 v0 v1 v2 v3 v4 v5 σ)) (v0 : Nat) (v1 : Nat) (v2 : Int32) (v3 : Int32) (v4 : Int32) (v5 : Int32) (σ : rS) : J Γ rm1_longestLike eI cX1_longestLike RX1 7 (some .int) tg 0 0 8 [(0, aR 15 v0), (1, aR 15 v1), (2, aI v2), (3, aI v3), (4, aI v4), (5, aI v5)] [] σ (B1_longestLike_8 N K8 v0 v1 v2 v3 v4 v5 σ) := by
  unfold B1_longestLike_8
  refine j_iload (pc := 8) 5 dX1_longestLike_8 rfl ?_
  refine j_aload_n (pc := 10) 0 dX1_longestLike_10 rfl rfl ?_
  refine j_getI (pc := 11) fd_15_1 tw_2_138 dX1_longestLike_11 ?_
  refine j_icmpge (pc := 14) (tgt := 58) dX1_longestLike_14 rfl (fun _ => ?_) (fun _ => ?_)
  · refine j_iload_n (pc := 58) 3 dX1_longestLike_58 rfl rfl ?_
    exact j_ireturn (pc := 59) rfl (Nat.le_of_ble_eq_true rfl) (Nat.le_of_ble_eq_true rfl) dX1_longestLike_59
  · refine j_iload (pc := 17) 4 dX1_longestLike_17 rfl ?_
    refine j_aload_n (pc := 19) 1 dX1_longestLike_19 rfl rfl ?_
    refine j_getI (pc := 20) fd_15_1 tw_2_138 dX1_longestLike_20 ?_
    refine j_iload_n (pc := 23) 2 dX1_longestLike_23 rfl rfl ?_
    refine j_isub (pc := 24) dX1_longestLike_24 ?_
    refine j_icmpge (pc := 25) (tgt := 58) dX1_longestLike_25 rfl (fun _ => ?_) (fun _ => ?_)
    · refine j_iload_n (pc := 58) 3 dX1_longestLike_58 rfl rfl ?_
      exact j_ireturn (pc := 59) rfl (Nat.le_of_ble_eq_true rfl) (Nat.le_of_ble_eq_true rfl) dX1_longestLike_59
    · refine j_aload_n (pc := 28) 0 dX1_longestLike_28 rfl rfl ?_
      refine j_iload (pc := 29) 5 dX1_longestLike_29 rfl ?_
      refine j_aload_n (pc := 31) 1 dX1_longestLike_31 rfl rfl ?_
      refine j_iload_n (pc := 32) 2 dX1_longestLike_32 rfl rfl ?_
      refine j_callSI (pc := 33) (As := [aR 15 v0, aI v5, aR 15 v1, aI v2]) (st := []) (fun l => c1_likeBytes l N v0 v5 v1 v2) cs_RX1_50 rfl rfl (Nat.le_of_ble_eq_true rfl) ⟨(Nat.le_of_ble_eq_true rfl), (Nat.le_of_ble_eq_true rfl)⟩ ⟨(Nat.le_of_ble_eq_true rfl), (Nat.le_of_ble_eq_true rfl)⟩ dX1_longestLike_33 (fun r1 σ2 => ?_)
      refine j_istore (pc := 36) (lv' := [(6, aI r1), (0, aR 15 v0), (1, aR 15 v1), (2, aI v2), (3, aI v3), (4, aI v4), (5, aI v5)]) dX1_longestLike_36 (Nat.le_of_ble_eq_true rfl) rfl ?_
      refine j_iload (pc := 38) 0 dX1_longestLike_38 rfl ?_
      refine j_iload (pc := 40) 5 dX1_longestLike_40 rfl ?_
      refine j_icmple (pc := 42) (tgt := 52) dX1_longestLike_42 rfl (fun _ => ?_) (fun _ => ?_)
      · refine j_sub [1, 2, 3, 4, 5, 6] (lv' := [(0, aR 15 v0), (1, aR 15 v1), (2, aI v2), (3, aI v3), (4, aI v4), (5, aI v5)]) rfl ?_
        exact jb1_longestLike_52 N K8 hK8 v0 v1 v2 v3 v4 v5 σ2
      · refine j_iload (pc := 45) 0 dX1_longestLike_45 rfl ?_
        refine j_istore (pc := 47) (lv' := [(4, aI r1), (6, aI r1), (0, aR 15 v0), (1, aR 15 v1), (2, aI v2), (3, aI v3), (5, aI v5)]) dX1_longestLike_47 (Nat.le_of_ble_eq_true rfl) rfl ?_
        refine j_sub [0, 2, 3, 4, 6] (lv' := [(4, aI r1), (0, aR 15 v0), (1, aR 15 v1), (2, aI v2), (5, aI v5)]) rfl ?_
        refine j_iload (pc := 49) 4 dX1_longestLike_49 rfl ?_
        refine j_istore_n (pc := 51) (lv' := [(3, aI v5), (4, aI r1), (0, aR 15 v0), (1, aR 15 v1), (2, aI v2), (5, aI v5)]) dX1_longestLike_51 rfl (Nat.le_of_ble_eq_true rfl) rfl ?_
        refine j_sub [2, 3, 4, 0, 1, 5] (lv' := [(0, aR 15 v0), (1, aR 15 v1), (2, aI v2), (3, aI v5), (4, aI r1), (5, aI v5)]) rfl ?_
        exact jb1_longestLike_52 N K8 hK8 v0 v1 v2 v5 r1 v5 σ2
theorem jl1_longestLike_8 {Γ : jX} {tg : Int32 × rS} (N : Nat) : ∀ (n : Nat) (v0 : Nat) (v1 : Nat) (v2 : Int32) (v3 : Int32) (v4 : Int32) (v5 : Int32) (σ : rS), J Γ rm1_longestLike eI cX1_longestLike RX1 7 (some .int) tg 0 0 8 [(0, aR 15 v0), (1, aR 15 v1), (2, aI v2), (3, aI v3), (4, aI v4), (5, aI v5)] [] σ (L1_longestLike_8 N n v0 v1 v2 v3 v4 v5 σ) := by
  intro n
  induction n with
  | zero => intro v0 v1 v2 v3 v4 v5 σ; exact j_none
  | succ n ih => intro v0 v1 v2 v3 v4 v5 σ; exact jb1_longestLike_8 N (L1_longestLike_8 N n) ih v0 v1 v2 v3 v4 v5 σ
set_option maxRecDepth 20000 in
set_option maxHeartbeats 4000000 in
theorem j1_longestLike {Γ : jX} {tg : Int32 × rS} (N : Nat) (v0 : Nat) (v1 : Nat) (v2 : Int32) (σ : rS) : J Γ rm1_longestLike eI cX1_longestLike RX1 7 (some .int) tg 0 0 0 [(0, aR 15 v0), (1, aR 15 v1), (2, aI v2)] [] σ (f1_longestLike N v0 v1 v2 σ) := by
  unfold f1_longestLike
  refine j_iconst (pc := 0) (v := (-1)) (by decide) dX1_longestLike_0 ?_
  refine j_istore_n (pc := 1) (lv' := [(3, aI (-1)), (0, aR 15 v0), (1, aR 15 v1), (2, aI v2)]) dX1_longestLike_1 rfl (Nat.le_of_ble_eq_true rfl) rfl ?_
  refine j_iconst (pc := 2) (v := 3) (by decide) dX1_longestLike_2 ?_
  refine j_istore (pc := 3) (lv' := [(4, aI 3), (3, aI (-1)), (0, aR 15 v0), (1, aR 15 v1), (2, aI v2)]) dX1_longestLike_3 (Nat.le_of_ble_eq_true rfl) rfl ?_
  refine j_iconst (pc := 5) (v := 0) (by decide) dX1_longestLike_5 ?_
  refine j_istore (pc := 6) (lv' := [(5, aI 0), (4, aI 3), (3, aI (-1)), (0, aR 15 v0), (1, aR 15 v1), (2, aI v2)]) dX1_longestLike_6 (Nat.le_of_ble_eq_true rfl) rfl ?_
  refine j_sub [3, 4, 5, 2, 1, 0] (lv' := [(0, aR 15 v0), (1, aR 15 v1), (2, aI v2), (3, aI (-1)), (4, aI 3), (5, aI 0)]) rfl ?_
  exact jl1_longestLike_8 N  N v0 v1 v2 (-1) 3 0 σ
theorem c1_longestLike (l : Launch) (N : Nat) (v0 : Nat) (v1 : Nat) (v2 : Int32) : Ctr l yX1_longestLike cX1_longestLike 7 (some .int) rm1_longestLike eI [aR 15 v0, aR 15 v1, aI v2] (f1_longestLike N v0 v1 v2) := ctr_of (lv := [(0, aR 15 v0), (1, aR 15 v1), (2, aI v2)]) (by decide +kernel) (fun _ => rfl) (fun _ => (Nat.le_of_ble_eq_true rfl)) (fun _ h => lvl_als h rfl) (fun _ σ _ => j1_longestLike N v0 v1 v2 σ)
abbrev rm9_has : Room := { frames := 0, cells := 0, slots := 0, locals := 0 }
set_option maxRecDepth 20000 in
set_option maxHeartbeats 4000000 in
theorem j9_has {Γ : jX} {tg : Bool × rS} (v0 : Nat) (v1 : Int32) (σ : rS) : J Γ rm9_has eZ cX9_has RX9 2 (some .boolean) tg 0 0 0 [(0, aR 15 v0), (1, aI v1)] [] σ (f9_has v0 v1 σ) := by
  unfold f9_has
  refine j_iload_n (pc := 0) 1 dX9_has_0 rfl rfl ?_
  refine j_iflt (pc := 1) (tgt := 16) dX9_has_1 rfl (fun _ => ?_) (fun _ => ?_)
  · refine j_iconst (pc := 16) (v := 0) (by decide) dX9_has_16 ?_
    exact j_zret0 (pc := 17) rfl (Nat.le_of_ble_eq_true rfl) (Nat.le_of_ble_eq_true rfl) dX9_has_17
  · refine j_iload_n (pc := 4) 1 dX9_has_4 rfl rfl ?_
    refine j_aload_n (pc := 5) 0 dX9_has_5 rfl rfl ?_
    refine j_getI (pc := 6) fd_15_1 tw_2_140 dX9_has_6 ?_
    refine j_icmpge (pc := 9) (tgt := 16) dX9_has_9 rfl (fun _ => ?_) (fun _ => ?_)
    · refine j_iconst (pc := 16) (v := 0) (by decide) dX9_has_16 ?_
      exact j_zret0 (pc := 17) rfl (Nat.le_of_ble_eq_true rfl) (Nat.le_of_ble_eq_true rfl) dX9_has_17
    · refine j_iconst (pc := 12) (v := 1) (by decide) dX9_has_12 ?_
      refine j_goto (pc := 13) (tgt := 17) dX9_has_13 rfl ?_
      exact j_zret1 (pc := 17) rfl (Nat.le_of_ble_eq_true rfl) (Nat.le_of_ble_eq_true rfl) dX9_has_17
theorem c9_has (l : Launch) (v0 : Nat) (v1 : Int32) : Ctr l yX9_has cX9_has 2 (some .boolean) rm9_has eZ [aR 15 v0, aI v1] (f9_has v0 v1) := ctr_of (lv := [(0, aR 15 v0), (1, aI v1)]) (by decide +kernel) (fun _ => rfl) (fun _ => (Nat.le_of_ble_eq_true rfl)) (fun _ h => lvl_als h rfl) (fun _ σ _ => j9_has v0 v1 σ)
theorem cs_RX9_19 : CaV RX9 RX9 19 yX9_has cX9_has 2 (some .boolean) 1 := ⟨tw_3_12, tw_3_5, tw_3_6, tw_1_14, tw_3_7, rfl, by decide +kernel, by decide +kernel, by decide +kernel⟩
abbrev rm9_byteAt : Room := { frames := 1, cells := 0, slots := 0, locals := 21 }
set_option maxRecDepth 20000 in
set_option maxHeartbeats 4000000 in
theorem j9_byteAt {Γ : jX} {tg : Int32 × rS} (v0 : Nat) (v1 : Int32) (σ : rS) : J Γ rm9_byteAt eI cX9_byteAt RX9 2 (some .int) tg 0 0 0 [(0, aR 15 v0), (1, aI v1)] [] σ (f9_byteAt v0 v1 σ) := by
  unfold f9_byteAt
  refine j_aload_n (pc := 0) 0 dX9_byteAt_0 rfl rfl ?_
  refine j_iload_n (pc := 1) 1 dX9_byteAt_1 rfl rfl ?_
  refine j_callVZ (pc := 2) (As := [aI v1]) (st := []) (fun l => c9_has l v0 v1) cs_RX9_19 rfl rfl rfl rfl (Nat.le_of_ble_eq_true rfl) ⟨(Nat.le_of_ble_eq_true rfl), (Nat.le_of_ble_eq_true rfl)⟩ ⟨(Nat.le_of_ble_eq_true rfl), (Nat.le_of_ble_eq_true rfl)⟩ dX9_byteAt_2 (fun r1 σ2 => ?_)
  refine j_ifeqB (pc := 5) (tgt := 21) dX9_byteAt_5 rfl (fun _ => ?_) (fun _ => ?_)
  · refine j_iconst (pc := 21) (v := 0) (by decide) dX9_byteAt_21 ?_
    exact j_ireturn (pc := 22) rfl (Nat.le_of_ble_eq_true rfl) (Nat.le_of_ble_eq_true rfl) dX9_byteAt_22
  · refine j_aload_n (pc := 8) 0 dX9_byteAt_8 rfl rfl ?_
    refine j_getF (pc := 9) fd_15_0 tw_2_134 dX9_byteAt_9 ?_
    refine j_iload_n (pc := 12) 1 dX9_byteAt_12 rfl rfl ?_
    refine j_bald (pc := 13) rfl rfl rfl dX9_byteAt_13 (fun j3 => ?_)
    refine j_sipush (pc := 14) (v := 255) (by decide) dX9_byteAt_14 ?_
    refine j_iand (pc := 17) dX9_byteAt_17 ?_
    refine j_goto (pc := 18) (tgt := 22) dX9_byteAt_18 rfl ?_
    exact j_ireturn (pc := 22) rfl (Nat.le_of_ble_eq_true rfl) (Nat.le_of_ble_eq_true rfl) dX9_byteAt_22
theorem c9_byteAt (l : Launch) (v0 : Nat) (v1 : Int32) : Ctr l yX9_byteAt cX9_byteAt 2 (some .int) rm9_byteAt eI [aR 15 v0, aI v1] (f9_byteAt v0 v1) := ctr_of (lv := [(0, aR 15 v0), (1, aI v1)]) (by decide +kernel) (fun _ => rfl) (fun _ => (Nat.le_of_ble_eq_true rfl)) (fun _ h => lvl_als h rfl) (fun _ σ _ => j9_byteAt v0 v1 σ)
theorem cs_RX1_38 : CaS RX1 38 yX1_longestLike cX1_longestLike 7 (some .int) 3 := ⟨tw_3_221, tw_3_222, tw_1_17, tw_3_223, by decide +kernel, by decide +kernel, by decide +kernel⟩
theorem cs_RX1_42 : CaV RX1 RX9 42 yX9_byteAt cX9_byteAt 2 (some .int) 1 := ⟨tw_3_228, tw_3_9, tw_3_10, tw_1_14, tw_3_11, rfl, by decide +kernel, by decide +kernel, by decide +kernel⟩
theorem cs_RX1_46 : CaV RX1 RX1 46 yX1_addByte cX1_addByte 2 none 1 := ⟨tw_3_229, tw_3_231, tw_p18, tw_1_17, tw_3_232, rfl, by decide +kernel, by decide +kernel, by decide +kernel⟩
abbrev rm1_fill : Room := { frames := 3, cells := 0, slots := 0, locals := 72 }
set_option maxRecDepth 20000 in
set_option maxHeartbeats 4000000 in
theorem jb1_fill_85 {Γ : jX} {tg : Unit × rS} (N : Nat) (K5 : Nat → Nat → Nat → Int32 → Int32 → rS → Option (Unit × rS)) (hK5 : ∀ (v0 : Nat) (v1 : Nat) (v2 : Nat) (v3 : Int32) (v4 : Int32) (σ : rS), J Γ rm1_fill eV cX1_fill RX1 7 none tg 0 0 5 [(0, aR 22 v0), (1, aR 15 v1), (2, aR 15 v2), (3, aI v3), (4, aI v4)] [] σ (K5 v0 v1 v2 v3 v4 σ)) (v0 : Nat) (v1 : Nat) (v2 : Nat) (v3 : Int32) (v4 : Int32) (σ : rS) : J Γ rm1_fill eV cX1_fill RX1 7 none tg 0 0 85 [(0, aR 22 v0), (1, aR 15 v1), (2, aR 15 v2), (3, aI v3), (4, aI v4)] [] σ (B1_fill_85 N K5 v0 v1 v2 v3 v4 σ) := by
  unfold B1_fill_85
  refine j_iinc (pc := 85) (w := 1) (lv' := [(4, aI (v4 + 1)), (0, aR 22 v0), (1, aR 15 v1), (2, aR 15 v2), (3, aI v3)]) 4 dX1_fill_85 rfl (by decide) (Nat.le_of_ble_eq_true rfl) rfl ?_
  refine j_goto (pc := 88) (tgt := 5) dX1_fill_88 rfl ?_
  refine j_sub [1, 2, 3, 4, 0] (lv' := [(0, aR 22 v0), (1, aR 15 v1), (2, aR 15 v2), (3, aI v3), (4, aI (v4 + 1))]) rfl ?_
  exact hK5 v0 v1 v2 v3 (v4 + 1) σ
set_option maxRecDepth 20000 in
set_option maxHeartbeats 4000000 in
theorem jb1_fill_5 {Γ : jX} {tg : Unit × rS} (N : Nat) (K5 : Nat → Nat → Nat → Int32 → Int32 → rS → Option (Unit × rS)) (hK5 : ∀ (v0 : Nat) (v1 : Nat) (v2 : Nat) (v3 : Int32) (v4 : Int32) (σ : rS), J Γ rm1_fill eV cX1_fill RX1 7 none tg 0 0 5 [(0, aR 22 v0), (1, aR 15 v1), (2, aR 15 v2), (3, aI v3), (4, aI v4)] [] σ (K5 v0 v1 v2 v3 v4 σ)) (v0 : Nat) (v1 : Nat) (v2 : Nat) (v3 : Int32) (v4 : Int32) (σ : rS) : J Γ rm1_fill eV cX1_fill RX1 7 none tg 0 0 5 [(0, aR 22 v0), (1, aR 15 v1), (2, aR 15 v2), (3, aI v3), (4, aI v4)] [] σ (B1_fill_5 N K5 v0 v1 v2 v3 v4 σ) := by
  unfold B1_fill_5
  refine j_iload (pc := 5) 4 dX1_fill_5 rfl ?_
  refine j_aload_n (pc := 7) 2 dX1_fill_7 rfl rfl ?_
  refine j_getI (pc := 8) fd_15_1 tw_2_138 dX1_fill_8 ?_
  refine j_icmpge (pc := 11) (tgt := 91) dX1_fill_11 rfl (fun _ => ?_) (fun _ => ?_)
  · exact j_return (pc := 91) rfl (Nat.le_of_ble_eq_true rfl) (Nat.le_of_ble_eq_true rfl) dX1_fill_91
  · refine j_iload_n (pc := 14) 3 dX1_fill_14 rfl rfl ?_
    refine j_aload_n (pc := 15) 2 dX1_fill_15 rfl rfl ?_
    refine j_getI (pc := 16) fd_15_1 tw_2_138 dX1_fill_16 ?_
    refine j_icmpge (pc := 19) (tgt := 91) dX1_fill_19 rfl (fun _ => ?_) (fun _ => ?_)
    · exact j_return (pc := 91) rfl (Nat.le_of_ble_eq_true rfl) (Nat.le_of_ble_eq_true rfl) dX1_fill_91
    · refine j_aload_n (pc := 22) 1 dX1_fill_22 rfl rfl ?_
      refine j_aload_n (pc := 23) 2 dX1_fill_23 rfl rfl ?_
      refine j_iload_n (pc := 24) 3 dX1_fill_24 rfl rfl ?_
      refine j_callSI (pc := 25) (As := [aR 15 v1, aR 15 v2, aI v3]) (st := []) (fun l => c1_longestLike l N v1 v2 v3) cs_RX1_38 rfl rfl (Nat.le_of_ble_eq_true rfl) ⟨(Nat.le_of_ble_eq_true rfl), (Nat.le_of_ble_eq_true rfl)⟩ ⟨(Nat.le_of_ble_eq_true rfl), (Nat.le_of_ble_eq_true rfl)⟩ dX1_fill_25 (fun r1 σ2 => ?_)
      refine j_istore (pc := 28) (lv' := [(5, aI r1), (0, aR 22 v0), (1, aR 15 v1), (2, aR 15 v2), (3, aI v3), (4, aI v4)]) dX1_fill_28 (Nat.le_of_ble_eq_true rfl) rfl ?_
      refine j_iload (pc := 30) 0 dX1_fill_30 rfl ?_
      refine j_iconst (pc := 32) (v := (-1)) (by decide) dX1_fill_32 ?_
      refine j_icmpne (pc := 33) (tgt := 51) dX1_fill_33 rfl (fun _ => ?_) (fun _ => ?_)
      · refine j_aload_n (pc := 51) 2 dX1_fill_51 rfl rfl ?_
        refine j_iload (pc := 52) 0 dX1_fill_52 rfl ?_
        refine j_aload_n (pc := 54) 3 dX1_fill_54 rfl rfl ?_
        refine j_iload_n (pc := 55) 4 dX1_fill_55 rfl rfl ?_
        refine j_callSI (pc := 56) (As := [aR 15 v1, aI r1, aR 15 v2, aI v3]) (st := []) (fun l => c1_likeBytes l N v1 r1 v2 v3) cs_RX1_50 rfl rfl (Nat.le_of_ble_eq_true rfl) ⟨(Nat.le_of_ble_eq_true rfl), (Nat.le_of_ble_eq_true rfl)⟩ ⟨(Nat.le_of_ble_eq_true rfl), (Nat.le_of_ble_eq_true rfl)⟩ dX1_fill_56 (fun r3 σ4 => ?_)
        refine j_istore (pc := 59) (lv' := [(6, aI r3), (5, aI r1), (0, aR 22 v0), (1, aR 15 v1), (2, aR 15 v2), (3, aI v3), (4, aI v4)]) dX1_fill_59 (Nat.le_of_ble_eq_true rfl) rfl ?_
        refine j_aload_n (pc := 61) 2 dX1_fill_61 rfl rfl ?_
        refine j_iload (pc := 62) 1 dX1_fill_62 rfl ?_
        refine j_iload (pc := 64) 0 dX1_fill_64 rfl ?_
        refine j_callVV (pc := 66) (As := [aI r1, aI r3]) (st := []) (fun l => c1_newAct l v0 r1 r3) cs_RX1_54 rfl rfl rfl rfl (Nat.le_of_ble_eq_true rfl) ⟨(Nat.le_of_ble_eq_true rfl), (Nat.le_of_ble_eq_true rfl)⟩ ⟨(Nat.le_of_ble_eq_true rfl), (Nat.le_of_ble_eq_true rfl)⟩ dX1_fill_66 (fun r5 σ6 => ?_)
        refine j_aload_n (pc := 69) 2 dX1_fill_69 rfl rfl ?_
        refine j_dup (pc := 70) dX1_fill_70 rfl ?_
        refine j_getI (pc := 71) fd_22_7 tw_3_199 dX1_fill_71 ?_
        refine j_iload (pc := 74) 0 dX1_fill_74 rfl ?_
        refine j_iadd (pc := 76) dX1_fill_76 ?_
        refine j_putI (pc := 77) fd_22_7 rfl rfl tw_3_199 dX1_fill_77 ?_
        refine j_lets (fun σ7 => ?_)
        refine j_iload_n (pc := 80) 5 dX1_fill_80 rfl rfl ?_
        refine j_iload (pc := 81) 0 dX1_fill_81 rfl ?_
        refine j_iadd (pc := 83) dX1_fill_83 ?_
        refine j_leti (fun x8 => ?_)
        refine j_istore_n (pc := 84) (lv' := [(3, aI x8), (6, aI r3), (5, aI r1), (0, aR 22 v0), (1, aR 15 v1), (2, aR 15 v2), (4, aI v4)]) dX1_fill_84 rfl (Nat.le_of_ble_eq_true rfl) rfl ?_
        refine j_sub [0, 3, 4, 5, 6] (lv' := [(3, aI x8), (0, aR 22 v0), (1, aR 15 v1), (2, aR 15 v2), (4, aI v4)]) rfl ?_
        refine j_sub [1, 2, 3, 0, 4] (lv' := [(0, aR 22 v0), (1, aR 15 v1), (2, aR 15 v2), (3, aI x8), (4, aI v4)]) rfl ?_
        exact jb1_fill_85 N K5 hK5 v0 v1 v2 x8 v4 σ7
      · refine j_aload_n (pc := 36) 1 dX1_fill_36 rfl rfl ?_
        refine j_aload_n (pc := 37) 3 dX1_fill_37 rfl rfl ?_
        refine j_iload_n (pc := 38) 4 dX1_fill_38 rfl rfl ?_
        refine j_callVI (pc := 39) (As := [aI v3]) (st := [aR 22 v0]) (fun l => c9_byteAt l v2 v3) cs_RX1_42 rfl rfl rfl rfl (Nat.le_of_ble_eq_true rfl) ⟨(Nat.le_of_ble_eq_true rfl), (Nat.le_of_ble_eq_true rfl)⟩ ⟨(Nat.le_of_ble_eq_true rfl), (Nat.le_of_ble_eq_true rfl)⟩ dX1_fill_39 (fun r9 σ10 => ?_)
        refine j_callVV (pc := 42) (As := [aI r9]) (st := []) (fun l => c1_addByte l v0 r9) cs_RX1_46 rfl rfl rfl rfl (Nat.le_of_ble_eq_true rfl) ⟨(Nat.le_of_ble_eq_true rfl), (Nat.le_of_ble_eq_true rfl)⟩ ⟨(Nat.le_of_ble_eq_true rfl), (Nat.le_of_ble_eq_true rfl)⟩ dX1_fill_42 (fun r11 σ12 => ?_)
        refine j_iinc (pc := 45) (w := 1) (lv' := [(3, aI (v3 + 1)), (5, aI r1), (0, aR 22 v0), (1, aR 15 v1), (2, aR 15 v2), (4, aI v4)]) 4 dX1_fill_45 rfl (by decide) (Nat.le_of_ble_eq_true rfl) rfl ?_
        refine j_goto (pc := 48) (tgt := 85) dX1_fill_48 rfl ?_
        refine j_sub [2, 3, 4, 0, 5] (lv' := [(0, aR 22 v0), (1, aR 15 v1), (2, aR 15 v2), (3, aI (v3 + 1)), (4, aI v4)]) rfl ?_
        exact jb1_fill_85 N K5 hK5 v0 v1 v2 (v3 + 1) v4 σ12
theorem jl1_fill_5 {Γ : jX} {tg : Unit × rS} (N : Nat) : ∀ (n : Nat) (v0 : Nat) (v1 : Nat) (v2 : Nat) (v3 : Int32) (v4 : Int32) (σ : rS), J Γ rm1_fill eV cX1_fill RX1 7 none tg 0 0 5 [(0, aR 22 v0), (1, aR 15 v1), (2, aR 15 v2), (3, aI v3), (4, aI v4)] [] σ (L1_fill_5 N n v0 v1 v2 v3 v4 σ) := by
  intro n
  induction n with
  | zero => intro v0 v1 v2 v3 v4 σ; exact j_none
  | succ n ih => intro v0 v1 v2 v3 v4 σ; exact jb1_fill_5 N (L1_fill_5 N n) ih v0 v1 v2 v3 v4 σ
set_option maxRecDepth 20000 in
set_option maxHeartbeats 4000000 in
theorem j1_fill {Γ : jX} {tg : Unit × rS} (N : Nat) (v0 : Nat) (v1 : Nat) (v2 : Nat) (σ : rS) : J Γ rm1_fill eV cX1_fill RX1 7 none tg 0 0 0 [(0, aR 22 v0), (1, aR 15 v1), (2, aR 15 v2)] [] σ (f1_fill N v0 v1 v2 σ) := by
  unfold f1_fill
  refine j_iconst (pc := 0) (v := 0) (by decide) dX1_fill_0 ?_
  refine j_istore_n (pc := 1) (lv' := [(3, aI 0), (0, aR 22 v0), (1, aR 15 v1), (2, aR 15 v2)]) dX1_fill_1 rfl (Nat.le_of_ble_eq_true rfl) rfl ?_
  refine j_iconst (pc := 2) (v := 0) (by decide) dX1_fill_2 ?_
  refine j_istore (pc := 3) (lv' := [(4, aI 0), (3, aI 0), (0, aR 22 v0), (1, aR 15 v1), (2, aR 15 v2)]) dX1_fill_3 (Nat.le_of_ble_eq_true rfl) rfl ?_
  refine j_sub [2, 3, 4, 1, 0] (lv' := [(0, aR 22 v0), (1, aR 15 v1), (2, aR 15 v2), (3, aI 0), (4, aI 0)]) rfl ?_
  exact jl1_fill_5 N  N v0 v1 v2 0 0 σ
theorem c1_fill (l : Launch) (N : Nat) (v0 : Nat) (v1 : Nat) (v2 : Nat) : Ctr l yX1_fill cX1_fill 7 none rm1_fill eV [aR 22 v0, aR 15 v1, aR 15 v2] (f1_fill N v0 v1 v2) := ctr_of (lv := [(0, aR 22 v0), (1, aR 15 v1), (2, aR 15 v2)]) (by decide +kernel) (fun _ => rfl) (fun _ => (Nat.le_of_ble_eq_true rfl)) (fun _ h => lvl_als h rfl) (fun _ σ _ => j1_fill N v0 v1 v2 σ)
abbrev rm1_fits : Room := { frames := 2, cells := 0, slots := 0, locals := 45 }
set_option maxRecDepth 20000 in
set_option maxHeartbeats 4000000 in
theorem j1_fits {Γ : jX} {tg : Bool × rS} (N : Nat) (v0 : Nat) (v1 : Nat) (σ : rS) : J Γ rm1_fits eZ cX1_fits RX1 2 (some .boolean) tg 0 0 0 [(0, aR 22 v0), (1, aR 15 v1)] [] σ (f1_fits N v0 v1 σ) := by
  unfold f1_fits
  refine j_aload_n (pc := 0) 1 dX1_fits_0 rfl rfl ?_
  refine j_getI (pc := 1) fd_15_1 tw_2_138 dX1_fits_1 ?_
  refine j_aload_n (pc := 4) 0 dX1_fits_4 rfl rfl ?_
  refine j_getI (pc := 5) fd_22_0 tw_3_191 dX1_fits_5 ?_
  refine j_icmpne (pc := 8) (tgt := 31) dX1_fits_8 rfl (fun _ => ?_) (fun _ => ?_)
  · refine j_iconst (pc := 31) (v := 0) (by decide) dX1_fits_31 ?_
    exact j_zret0 (pc := 32) rfl (Nat.le_of_ble_eq_true rfl) (Nat.le_of_ble_eq_true rfl) dX1_fits_32
  · refine j_aload_n (pc := 11) 1 dX1_fits_11 rfl rfl ?_
    refine j_iconst (pc := 12) (v := 0) (by decide) dX1_fits_12 ?_
    refine j_aload_n (pc := 13) 1 dX1_fits_13 rfl rfl ?_
    refine j_getI (pc := 14) fd_15_1 tw_2_138 dX1_fits_14 ?_
    refine j_callVI (pc := 17) (As := [aI 0, aI (gI σ 15 v1 1)]) (st := []) (fun l => c9_sum l N v1 0 (gI σ 15 v1 1)) cs_RX1_20 rfl rfl rfl rfl (Nat.le_of_ble_eq_true rfl) ⟨(Nat.le_of_ble_eq_true rfl), (Nat.le_of_ble_eq_true rfl)⟩ ⟨(Nat.le_of_ble_eq_true rfl), (Nat.le_of_ble_eq_true rfl)⟩ dX1_fits_17 (fun r1 σ2 => ?_)
    refine j_aload_n (pc := 20) 0 dX1_fits_20 rfl rfl ?_
    refine j_getI (pc := 21) fd_22_1 tw_3_192 dX1_fits_21 ?_
    refine j_icmpne (pc := 24) (tgt := 31) dX1_fits_24 rfl (fun _ => ?_) (fun _ => ?_)
    · refine j_iconst (pc := 31) (v := 0) (by decide) dX1_fits_31 ?_
      exact j_zret0 (pc := 32) rfl (Nat.le_of_ble_eq_true rfl) (Nat.le_of_ble_eq_true rfl) dX1_fits_32
    · refine j_iconst (pc := 27) (v := 1) (by decide) dX1_fits_27 ?_
      refine j_goto (pc := 28) (tgt := 32) dX1_fits_28 rfl ?_
      exact j_zret1 (pc := 32) rfl (Nat.le_of_ble_eq_true rfl) (Nat.le_of_ble_eq_true rfl) dX1_fits_32
theorem c1_fits (l : Launch) (N : Nat) (v0 : Nat) (v1 : Nat) : Ctr l yX1_fits cX1_fits 2 (some .boolean) rm1_fits eZ [aR 22 v0, aR 15 v1] (f1_fits N v0 v1) := ctr_of (lv := [(0, aR 22 v0), (1, aR 15 v1)]) (by decide +kernel) (fun _ => rfl) (fun _ => (Nat.le_of_ble_eq_true rfl)) (fun _ h => lvl_als h rfl) (fun _ σ _ => j1_fits N v0 v1 σ)
abbrev rm9_append : Room := { frames := 0, cells := 0, slots := 0, locals := 0 }
set_option maxRecDepth 20000 in
set_option maxHeartbeats 4000000 in
theorem j9_append {Γ : jX} {tg : Unit × rS} (v0 : Nat) (v1 : Int32) (σ : rS) : J Γ rm9_append eV cX9_append RX9 2 none tg 0 0 0 [(0, aR 15 v0), (1, aI v1)] [] σ (f9_append v0 v1 σ) := by
  unfold f9_append
  refine j_aload_n (pc := 0) 0 dX9_append_0 rfl rfl ?_
  refine j_getI (pc := 1) fd_15_1 tw_2_140 dX9_append_1 ?_
  refine j_aload_n (pc := 4) 0 dX9_append_4 rfl rfl ?_
  refine j_getF (pc := 5) fd_15_0 tw_2_134 dX9_append_5 ?_
  refine j_alen (pc := 8) rfl (by decide) dX9_append_8 ?_
  refine j_icmplt (pc := 9) (tgt := 13) dX9_append_9 rfl (fun _ => ?_) (fun _ => ?_)
  · refine j_aload_n (pc := 13) 0 dX9_append_13 rfl rfl ?_
    refine j_getF (pc := 14) fd_15_0 tw_2_134 dX9_append_14 ?_
    refine j_aload_n (pc := 17) 0 dX9_append_17 rfl rfl ?_
    refine j_getI (pc := 18) fd_15_1 tw_2_140 dX9_append_18 ?_
    refine j_iload_n (pc := 21) 1 dX9_append_21 rfl rfl ?_
    refine j_i2b (pc := 22) dX9_append_22 ?_
    refine j_bast (pc := 23) rfl rfl rfl dX9_append_23 (fun j1 => ?_)
    refine j_lets (fun σ2 => ?_)
    refine j_aload_n (pc := 24) 0 dX9_append_24 rfl rfl ?_
    refine j_dup (pc := 25) dX9_append_25 rfl ?_
    refine j_getI (pc := 26) fd_15_1 tw_2_140 dX9_append_26 ?_
    refine j_iconst (pc := 29) (v := 1) (by decide) dX9_append_29 ?_
    refine j_iadd (pc := 30) dX9_append_30 ?_
    refine j_putI (pc := 31) fd_15_1 rfl rfl tw_2_140 dX9_append_31 ?_
    refine j_lets (fun σ3 => ?_)
    exact j_return (pc := 34) rfl (Nat.le_of_ble_eq_true rfl) (Nat.le_of_ble_eq_true rfl) dX9_append_34
  · exact j_return (pc := 12) rfl (Nat.le_of_ble_eq_true rfl) (Nat.le_of_ble_eq_true rfl) dX9_append_12
theorem c9_append (l : Launch) (v0 : Nat) (v1 : Int32) : Ctr l yX9_append cX9_append 2 none rm9_append eV [aR 15 v0, aI v1] (f9_append v0 v1) := ctr_of (lv := [(0, aR 15 v0), (1, aI v1)]) (by decide +kernel) (fun _ => rfl) (fun _ => (Nat.le_of_ble_eq_true rfl)) (fun _ h => lvl_als h rfl) (fun _ σ _ => j9_append v0 v1 σ)
theorem cs_RX9_23 : CaV RX9 RX9 23 yX9_append cX9_append 2 none 1 := ⟨tw_2_209, tw_2_202, tw_2_203, tw_1_14, tw_2_204, rfl, by decide +kernel, by decide +kernel, by decide +kernel⟩
abbrev rm9_appendAll : Room := { frames := 1, cells := 0, slots := 0, locals := 21 }
set_option maxRecDepth 20000 in
set_option maxHeartbeats 4000000 in
theorem jb9_appendAll_7 {Γ : jX} {tg : Unit × rS} (N : Nat) (k1 : Nat) (hk1 : lyO k1 = none ∧ lyA k1 = (1, 0) ∧ lyT k1 = .byte) (K7 : Nat → Nat → Int32 → Int32 → rS → Option (Unit × rS)) (hK7 : ∀ (v0 : Nat) (v1 : Nat) (v3 : Int32) (v4 : Int32) (σ : rS), J Γ rm9_appendAll eV cX9_appendAll RX9 5 none tg 0 0 7 [(0, aR 15 v0), (1, aR k1 v1), (3, aI v3), (4, aI v4)] [] σ (K7 v0 v1 v3 v4 σ)) (v0 : Nat) (v1 : Nat) (v3 : Int32) (v4 : Int32) (σ : rS) : J Γ rm9_appendAll eV cX9_appendAll RX9 5 none tg 0 0 7 [(0, aR 15 v0), (1, aR k1 v1), (3, aI v3), (4, aI v4)] [] σ (B9_appendAll_7 N k1 K7 v0 v1 v3 v4 σ) := by
  unfold B9_appendAll_7
  refine j_iload (pc := 7) 3 dX9_appendAll_7 rfl ?_
  refine j_iload_n (pc := 9) 2 dX9_appendAll_9 rfl rfl ?_
  refine j_icmpge (pc := 10) (tgt := 34) dX9_appendAll_10 rfl (fun _ => ?_) (fun _ => ?_)
  · exact j_return (pc := 34) rfl (Nat.le_of_ble_eq_true rfl) (Nat.le_of_ble_eq_true rfl) dX9_appendAll_34
  · refine j_iload (pc := 13) 3 dX9_appendAll_13 rfl ?_
    refine j_aload_n (pc := 15) 1 dX9_appendAll_15 rfl rfl ?_
    refine j_alen (pc := 16) hk1.1 (by rw [hk1.2.1]; decide) dX9_appendAll_16 ?_
    refine j_icmpge (pc := 17) (tgt := 34) dX9_appendAll_17 rfl (fun _ => ?_) (fun _ => ?_)
    · exact j_return (pc := 34) rfl (Nat.le_of_ble_eq_true rfl) (Nat.le_of_ble_eq_true rfl) dX9_appendAll_34
    · refine j_aload_n (pc := 20) 0 dX9_appendAll_20 rfl rfl ?_
      refine j_aload_n (pc := 21) 1 dX9_appendAll_21 rfl rfl ?_
      refine j_iload (pc := 22) 3 dX9_appendAll_22 rfl ?_
      refine j_bald (pc := 24) hk1.1 (by rw [hk1.2.1]) hk1.2.2 dX9_appendAll_24 (fun j1 => ?_)
      refine j_callVV (pc := 25) (As := [aI (gI σ k1 v1 j1)]) (st := []) (fun l => c9_append l v0 (gI σ k1 v1 j1)) cs_RX9_23 rfl rfl rfl rfl (Nat.le_of_ble_eq_true rfl) ⟨(Nat.le_of_ble_eq_true rfl), (Nat.le_of_ble_eq_true rfl)⟩ ⟨(Nat.le_of_ble_eq_true rfl), (Nat.le_of_ble_eq_true rfl)⟩ dX9_appendAll_25 (fun r2 σ3 => ?_)
      refine j_iinc (pc := 28) (w := 1) (lv' := [(4, aI (v4 + 1)), (0, aR 15 v0), (1, aR k1 v1), (3, aI v3)]) 3 dX9_appendAll_28 rfl (by decide) (Nat.le_of_ble_eq_true rfl) rfl ?_
      refine j_goto (pc := 31) (tgt := 7) dX9_appendAll_31 rfl ?_
      refine j_sub [1, 2, 3, 0] (lv' := [(0, aR 15 v0), (1, aR k1 v1), (3, aI v3), (4, aI (v4 + 1))]) rfl ?_
      exact hK7 v0 v1 v3 (v4 + 1) σ3
theorem jl9_appendAll_7 {Γ : jX} {tg : Unit × rS} (N : Nat) (k1 : Nat) (hk1 : lyO k1 = none ∧ lyA k1 = (1, 0) ∧ lyT k1 = .byte) : ∀ (n : Nat) (v0 : Nat) (v1 : Nat) (v3 : Int32) (v4 : Int32) (σ : rS), J Γ rm9_appendAll eV cX9_appendAll RX9 5 none tg 0 0 7 [(0, aR 15 v0), (1, aR k1 v1), (3, aI v3), (4, aI v4)] [] σ (L9_appendAll_7 N k1 n v0 v1 v3 v4 σ) := by
  intro n
  induction n with
  | zero => intro v0 v1 v3 v4 σ; exact j_none
  | succ n ih => intro v0 v1 v3 v4 σ; exact jb9_appendAll_7 N k1 hk1 (L9_appendAll_7 N k1 n) ih v0 v1 v3 v4 σ
set_option maxRecDepth 20000 in
set_option maxHeartbeats 4000000 in
theorem j9_appendAll {Γ : jX} {tg : Unit × rS} (N : Nat) (k1 : Nat) (hk1 : lyO k1 = none ∧ lyA k1 = (1, 0) ∧ lyT k1 = .byte) (v0 : Nat) (v1 : Nat) (v2 : Int32) (v3 : Int32) (σ : rS) : J Γ rm9_appendAll eV cX9_appendAll RX9 5 none tg 0 0 0 [(0, aR 15 v0), (1, aR k1 v1), (2, aI v2), (3, aI v3)] [] σ (f9_appendAll N k1 v0 v1 v2 v3 σ) := by
  unfold f9_appendAll
  refine j_iconst (pc := 0) (v := 0) (by decide) dX9_appendAll_0 ?_
  refine j_iload_n (pc := 1) 2 dX9_appendAll_1 rfl rfl ?_
  refine j_callSI (pc := 2) (As := [aI 0, aI v2]) (st := []) (fun l => cJ_max l 0 v2) cs_RX9_27 rfl rfl (Nat.le_of_ble_eq_true rfl) ⟨(Nat.le_of_ble_eq_true rfl), (Nat.le_of_ble_eq_true rfl)⟩ ⟨(Nat.le_of_ble_eq_true rfl), (Nat.le_of_ble_eq_true rfl)⟩ dX9_appendAll_2 (fun r1 σ2 => ?_)
  refine j_istore (pc := 5) (lv' := [(4, aI r1), (0, aR 15 v0), (1, aR k1 v1), (2, aI v2), (3, aI v3)]) dX9_appendAll_5 (Nat.le_of_ble_eq_true rfl) rfl ?_
  refine j_sub [0, 1, 2, 4] (lv' := [(4, aI r1), (0, aR 15 v0), (1, aR k1 v1), (3, aI v3)]) rfl ?_
  refine j_sub [1, 2, 3, 0] (lv' := [(0, aR 15 v0), (1, aR k1 v1), (3, aI v3), (4, aI r1)]) rfl ?_
  exact jl9_appendAll_7 N k1 hk1  N v0 v1 v3 r1 σ2
theorem c9_appendAll (l : Launch) (N : Nat) (k1 : Nat) (hk1 : lyO k1 = none ∧ lyA k1 = (1, 0) ∧ lyT k1 = .byte) (v0 : Nat) (v1 : Nat) (v2 : Int32) (v3 : Int32) : Ctr l yX9_appendAll cX9_appendAll 5 none rm9_appendAll eV [aR 15 v0, aR k1 v1, aI v2, aI v3] (f9_appendAll N k1 v0 v1 v2 v3) := ctr_of (lv := [(0, aR 15 v0), (1, aR k1 v1), (2, aI v2), (3, aI v3)]) (by decide +kernel) (fun _ => rfl) (fun _ => (Nat.le_of_ble_eq_true rfl)) (fun _ h => lvl_als h rfl) (fun _ σ _ => j9_appendAll N k1 hk1 v0 v1 v2 v3 σ)
theorem cs_RX1_75 : CaV RX1 RX9 75 yX9_appendAll cX9_appendAll 5 none 3 := ⟨tw_4_25, tw_2_211, tw_2_212, tw_1_14, tw_2_213, rfl, by decide +kernel, by decide +kernel, by decide +kernel⟩
abbrev rm1_make : Room := { frames := 2, cells := 0, slots := 0, locals := 45 }
set_option maxRecDepth 20000 in
set_option maxHeartbeats 4000000 in
theorem jb1_make_86 {Γ : jX} {tg : Unit × rS} (N : Nat) (K5 : Nat → Nat → Nat → Int32 → Int32 → rS → Option (Unit × rS)) (hK5 : ∀ (v0 : Nat) (v1 : Nat) (v2 : Nat) (v3 : Int32) (v4 : Int32) (σ : rS), J Γ rm1_make eV cX1_make RX1 5 none tg 0 0 5 [(0, aR 22 v0), (1, aR 15 v1), (2, aR 15 v2), (3, aI v3), (4, aI v4)] [] σ (K5 v0 v1 v2 v3 v4 σ)) (v0 : Nat) (v1 : Nat) (v2 : Nat) (v3 : Int32) (v4 : Int32) (σ : rS) : J Γ rm1_make eV cX1_make RX1 5 none tg 0 0 86 [(0, aR 22 v0), (1, aR 15 v1), (2, aR 15 v2), (3, aI v3), (4, aI v4)] [] σ (B1_make_86 N K5 v0 v1 v2 v3 v4 σ) := by
  unfold B1_make_86
  refine j_iinc (pc := 86) (w := 1) (lv' := [(4, aI (v4 + 1)), (0, aR 22 v0), (1, aR 15 v1), (2, aR 15 v2), (3, aI v3)]) 4 dX1_make_86 rfl (by decide) (Nat.le_of_ble_eq_true rfl) rfl ?_
  refine j_goto (pc := 89) (tgt := 5) dX1_make_89 rfl ?_
  refine j_sub [1, 2, 3, 4, 0] (lv' := [(0, aR 22 v0), (1, aR 15 v1), (2, aR 15 v2), (3, aI v3), (4, aI (v4 + 1))]) rfl ?_
  exact hK5 v0 v1 v2 v3 (v4 + 1) σ
set_option maxRecDepth 20000 in
set_option maxHeartbeats 4000000 in
theorem jb1_make_5 {Γ : jX} {tg : Unit × rS} (N : Nat) (K5 : Nat → Nat → Nat → Int32 → Int32 → rS → Option (Unit × rS)) (hK5 : ∀ (v0 : Nat) (v1 : Nat) (v2 : Nat) (v3 : Int32) (v4 : Int32) (σ : rS), J Γ rm1_make eV cX1_make RX1 5 none tg 0 0 5 [(0, aR 22 v0), (1, aR 15 v1), (2, aR 15 v2), (3, aI v3), (4, aI v4)] [] σ (K5 v0 v1 v2 v3 v4 σ)) (v0 : Nat) (v1 : Nat) (v2 : Nat) (v3 : Int32) (v4 : Int32) (σ : rS) : J Γ rm1_make eV cX1_make RX1 5 none tg 0 0 5 [(0, aR 22 v0), (1, aR 15 v1), (2, aR 15 v2), (3, aI v3), (4, aI v4)] [] σ (B1_make_5 N K5 v0 v1 v2 v3 v4 σ) := by
  unfold B1_make_5
  refine j_iload (pc := 5) 4 dX1_make_5 rfl ?_
  refine j_aload_n (pc := 7) 0 dX1_make_7 rfl rfl ?_
  refine j_getI (pc := 8) fd_22_5 tw_3_196 dX1_make_8 ?_
  refine j_icmpge (pc := 11) (tgt := 92) dX1_make_11 rfl (fun _ => ?_) (fun _ => ?_)
  · exact j_return (pc := 92) rfl (Nat.le_of_ble_eq_true rfl) (Nat.le_of_ble_eq_true rfl) dX1_make_92
  · refine j_aload_n (pc := 14) 0 dX1_make_14 rfl rfl ?_
    refine j_getF (pc := 15) fd_22_2 tw_3_193 dX1_make_15 ?_
    refine j_iload (pc := 18) 4 dX1_make_18 rfl ?_
    refine j_iald (pc := 20) rfl rfl rfl dX1_make_20 (fun j1 => ?_)
    refine j_iconst (pc := 21) (v := (-1)) (by decide) dX1_make_21 ?_
    refine j_icmpne (pc := 22) (tgt := 56) dX1_make_22 rfl (fun _ => ?_) (fun _ => ?_)
    · refine j_aload_n (pc := 56) 2 dX1_make_56 rfl rfl ?_
      refine j_aload_n (pc := 57) 1 dX1_make_57 rfl rfl ?_
      refine j_getF (pc := 58) fd_15_0 tw_2_136 dX1_make_58 ?_
      refine j_aload_n (pc := 61) 0 dX1_make_61 rfl rfl ?_
      refine j_getF (pc := 62) fd_22_2 tw_3_193 dX1_make_62 ?_
      refine j_iload (pc := 65) 4 dX1_make_65 rfl ?_
      refine j_iald (pc := 67) rfl rfl rfl dX1_make_67 (fun j2 => ?_)
      refine j_aload_n (pc := 68) 0 dX1_make_68 rfl rfl ?_
      refine j_getF (pc := 69) fd_22_2 tw_3_193 dX1_make_69 ?_
      refine j_iload (pc := 72) 4 dX1_make_72 rfl ?_
      refine j_iald (pc := 74) rfl rfl rfl dX1_make_74 (fun j3 => ?_)
      refine j_aload_n (pc := 75) 0 dX1_make_75 rfl rfl ?_
      refine j_getF (pc := 76) fd_22_3 tw_3_194 dX1_make_76 ?_
      refine j_iload (pc := 79) 4 dX1_make_79 rfl ?_
      refine j_iald (pc := 81) rfl rfl rfl dX1_make_81 (fun j4 => ?_)
      refine j_iadd (pc := 82) dX1_make_82 ?_
      refine j_callVV (pc := 83) (As := [aR 16 v1, aI (gI σ 23 v0 j2), aI ((gI σ 23 v0 j3) + (gI σ 24 v0 j4))]) (st := []) (fun l => c9_appendAll l N 16 ⟨rfl, rfl, rfl⟩ v2 v1 (gI σ 23 v0 j2) ((gI σ 23 v0 j3) + (gI σ 24 v0 j4))) cs_RX1_75 rfl rfl rfl rfl (Nat.le_of_ble_eq_true rfl) ⟨(Nat.le_of_ble_eq_true rfl), (Nat.le_of_ble_eq_true rfl)⟩ ⟨(Nat.le_of_ble_eq_true rfl), (Nat.le_of_ble_eq_true rfl)⟩ dX1_make_83 (fun r5 σ6 => ?_)
      exact jb1_make_86 N K5 hK5 v0 v1 v2 v3 v4 σ6
    · refine j_aload_n (pc := 25) 2 dX1_make_25 rfl rfl ?_
      refine j_aload_n (pc := 26) 0 dX1_make_26 rfl rfl ?_
      refine j_getF (pc := 27) fd_22_4 tw_3_195 dX1_make_27 ?_
      refine j_iload_n (pc := 30) 3 dX1_make_30 rfl rfl ?_
      refine j_iload_n (pc := 31) 3 dX1_make_31 rfl rfl ?_
      refine j_aload_n (pc := 32) 0 dX1_make_32 rfl rfl ?_
      refine j_getF (pc := 33) fd_22_3 tw_3_194 dX1_make_33 ?_
      refine j_iload (pc := 36) 4 dX1_make_36 rfl ?_
      refine j_iald (pc := 38) rfl rfl rfl dX1_make_38 (fun j7 => ?_)
      refine j_iadd (pc := 39) dX1_make_39 ?_
      refine j_callVV (pc := 40) (As := [aR 25 v0, aI v3, aI (v3 + (gI σ 24 v0 j7))]) (st := []) (fun l => c9_appendAll l N 25 ⟨rfl, rfl, rfl⟩ v2 v0 v3 (v3 + (gI σ 24 v0 j7))) cs_RX1_75 rfl rfl rfl rfl (Nat.le_of_ble_eq_true rfl) ⟨(Nat.le_of_ble_eq_true rfl), (Nat.le_of_ble_eq_true rfl)⟩ ⟨(Nat.le_of_ble_eq_true rfl), (Nat.le_of_ble_eq_true rfl)⟩ dX1_make_40 (fun r8 σ9 => ?_)
      refine j_iload_n (pc := 43) 3 dX1_make_43 rfl rfl ?_
      refine j_aload_n (pc := 44) 0 dX1_make_44 rfl rfl ?_
      refine j_getF (pc := 45) fd_22_3 tw_3_194 dX1_make_45 ?_
      refine j_iload (pc := 48) 4 dX1_make_48 rfl ?_
      refine j_iald (pc := 50) rfl rfl rfl dX1_make_50 (fun j10 => ?_)
      refine j_iadd (pc := 51) dX1_make_51 ?_
      refine j_leti (fun x11 => ?_)
      refine j_istore_n (pc := 52) (lv' := [(3, aI x11), (0, aR 22 v0), (1, aR 15 v1), (2, aR 15 v2), (4, aI v4)]) dX1_make_52 rfl (Nat.le_of_ble_eq_true rfl) rfl ?_
      refine j_goto (pc := 53) (tgt := 86) dX1_make_53 rfl ?_
      refine j_sub [1, 2, 3, 0, 4] (lv' := [(0, aR 22 v0), (1, aR 15 v1), (2, aR 15 v2), (3, aI x11), (4, aI v4)]) rfl ?_
      exact jb1_make_86 N K5 hK5 v0 v1 v2 x11 v4 σ9
theorem jl1_make_5 {Γ : jX} {tg : Unit × rS} (N : Nat) : ∀ (n : Nat) (v0 : Nat) (v1 : Nat) (v2 : Nat) (v3 : Int32) (v4 : Int32) (σ : rS), J Γ rm1_make eV cX1_make RX1 5 none tg 0 0 5 [(0, aR 22 v0), (1, aR 15 v1), (2, aR 15 v2), (3, aI v3), (4, aI v4)] [] σ (L1_make_5 N n v0 v1 v2 v3 v4 σ) := by
  intro n
  induction n with
  | zero => intro v0 v1 v2 v3 v4 σ; exact j_none
  | succ n ih => intro v0 v1 v2 v3 v4 σ; exact jb1_make_5 N (L1_make_5 N n) ih v0 v1 v2 v3 v4 σ
set_option maxRecDepth 20000 in
set_option maxHeartbeats 4000000 in
theorem j1_make {Γ : jX} {tg : Unit × rS} (N : Nat) (v0 : Nat) (v1 : Nat) (v2 : Nat) (σ : rS) : J Γ rm1_make eV cX1_make RX1 5 none tg 0 0 0 [(0, aR 22 v0), (1, aR 15 v1), (2, aR 15 v2)] [] σ (f1_make N v0 v1 v2 σ) := by
  unfold f1_make
  refine j_iconst (pc := 0) (v := 0) (by decide) dX1_make_0 ?_
  refine j_istore_n (pc := 1) (lv' := [(3, aI 0), (0, aR 22 v0), (1, aR 15 v1), (2, aR 15 v2)]) dX1_make_1 rfl (Nat.le_of_ble_eq_true rfl) rfl ?_
  refine j_iconst (pc := 2) (v := 0) (by decide) dX1_make_2 ?_
  refine j_istore (pc := 3) (lv' := [(4, aI 0), (3, aI 0), (0, aR 22 v0), (1, aR 15 v1), (2, aR 15 v2)]) dX1_make_3 (Nat.le_of_ble_eq_true rfl) rfl ?_
  refine j_sub [2, 3, 4, 1, 0] (lv' := [(0, aR 22 v0), (1, aR 15 v1), (2, aR 15 v2), (3, aI 0), (4, aI 0)]) rfl ?_
  exact jl1_make_5 N  N v0 v1 v2 0 0 σ
theorem c1_make (l : Launch) (N : Nat) (v0 : Nat) (v1 : Nat) (v2 : Nat) : Ctr l yX1_make cX1_make 5 none rm1_make eV [aR 22 v0, aR 15 v1, aR 15 v2] (f1_make N v0 v1 v2) := ctr_of (lv := [(0, aR 22 v0), (1, aR 15 v1), (2, aR 15 v2)]) (by decide +kernel) (fun _ => rfl) (fun _ => (Nat.le_of_ble_eq_true rfl)) (fun _ h => lvl_als h rfl) (fun _ σ _ => j1_make N v0 v1 v2 σ)
abbrev rm1_told : Room := { frames := 0, cells := 0, slots := 0, locals := 0 }
set_option maxRecDepth 20000 in
set_option maxHeartbeats 4000000 in
theorem j1_told {Γ : jX} {tg : Int32 × rS} (v0 : Nat) (v1 : Int32) (σ : rS) : J Γ rm1_told eI cX1_told RX1 2 (some .int) tg 0 0 0 [(0, aR 22 v0), (1, aI v1)] [] σ (f1_told v0 v1 σ) := by
  unfold f1_told
  refine j_iload_n (pc := 0) 1 dX1_told_0 rfl rfl ?_
  refine j_ifne (pc := 1) (tgt := 9) dX1_told_1 rfl (fun _ => ?_) (fun _ => ?_)
  · refine j_iload_n (pc := 9) 1 dX1_told_9 rfl rfl ?_
    refine j_iconst (pc := 10) (v := 1) (by decide) dX1_told_10 ?_
    refine j_icmpne (pc := 11) (tgt := 21) dX1_told_11 rfl (fun _ => ?_) (fun _ => ?_)
    · refine j_aload_n (pc := 21) 0 dX1_told_21 rfl rfl ?_
      refine j_getI (pc := 22) fd_22_6 tw_3_198 dX1_told_22 ?_
      exact j_ireturn (pc := 25) rfl (Nat.le_of_ble_eq_true rfl) (Nat.le_of_ble_eq_true rfl) dX1_told_25
    · refine j_aload_n (pc := 14) 0 dX1_told_14 rfl rfl ?_
      refine j_getI (pc := 15) fd_22_7 tw_3_199 dX1_told_15 ?_
      refine j_goto (pc := 18) (tgt := 25) dX1_told_18 rfl ?_
      exact j_ireturn (pc := 25) rfl (Nat.le_of_ble_eq_true rfl) (Nat.le_of_ble_eq_true rfl) dX1_told_25
  · refine j_aload_n (pc := 4) 0 dX1_told_4 rfl rfl ?_
    refine j_getI (pc := 5) fd_22_5 tw_3_196 dX1_told_5 ?_
    exact j_ireturn (pc := 8) rfl (Nat.le_of_ble_eq_true rfl) (Nat.le_of_ble_eq_true rfl) dX1_told_8
theorem c1_told (l : Launch) (v0 : Nat) (v1 : Int32) : Ctr l yX1_told cX1_told 2 (some .int) rm1_told eI [aR 22 v0, aI v1] (f1_told v0 v1) := ctr_of (lv := [(0, aR 22 v0), (1, aI v1)]) (by decide +kernel) (fun _ => rfl) (fun _ => (Nat.le_of_ble_eq_true rfl)) (fun _ h => lvl_als h rfl) (fun _ σ _ => j1_told v0 v1 σ)
abbrev rm1_toldOfAct : Room := { frames := 0, cells := 0, slots := 0, locals := 0 }
set_option maxRecDepth 20000 in
set_option maxHeartbeats 4000000 in
theorem j1_toldOfAct {Γ : jX} {tg : Int32 × rS} (v0 : Nat) (v1 : Int32) (v2 : Int32) (σ : rS) : J Γ rm1_toldOfAct eI cX1_toldOfAct RX1 3 (some .int) tg 0 0 0 [(0, aR 22 v0), (1, aI v1), (2, aI v2)] [] σ (f1_toldOfAct v0 v1 v2 σ) := by
  unfold f1_toldOfAct
  refine j_iload_n (pc := 0) 2 dX1_toldOfAct_0 rfl rfl ?_
  refine j_ifne (pc := 1) (tgt := 20) dX1_toldOfAct_1 rfl (fun _ => ?_) (fun _ => ?_)
  · refine j_iload_n (pc := 20) 2 dX1_toldOfAct_20 rfl rfl ?_
    refine j_iconst (pc := 21) (v := 1) (by decide) dX1_toldOfAct_21 ?_
    refine j_icmpne (pc := 22) (tgt := 34) dX1_toldOfAct_22 rfl (fun _ => ?_) (fun _ => ?_)
    · refine j_aload_n (pc := 34) 0 dX1_toldOfAct_34 rfl rfl ?_
      refine j_getF (pc := 35) fd_22_3 tw_3_194 dX1_toldOfAct_35 ?_
      refine j_iload_n (pc := 38) 1 dX1_toldOfAct_38 rfl rfl ?_
      refine j_iald (pc := 39) rfl rfl rfl dX1_toldOfAct_39 (fun j1 => ?_)
      exact j_ireturn (pc := 40) rfl (Nat.le_of_ble_eq_true rfl) (Nat.le_of_ble_eq_true rfl) dX1_toldOfAct_40
    · refine j_aload_n (pc := 25) 0 dX1_toldOfAct_25 rfl rfl ?_
      refine j_getF (pc := 26) fd_22_2 tw_3_193 dX1_toldOfAct_26 ?_
      refine j_iload_n (pc := 29) 1 dX1_toldOfAct_29 rfl rfl ?_
      refine j_iald (pc := 30) rfl rfl rfl dX1_toldOfAct_30 (fun j2 => ?_)
      refine j_goto (pc := 31) (tgt := 40) dX1_toldOfAct_31 rfl ?_
      exact j_ireturn (pc := 40) rfl (Nat.le_of_ble_eq_true rfl) (Nat.le_of_ble_eq_true rfl) dX1_toldOfAct_40
  · refine j_aload_n (pc := 4) 0 dX1_toldOfAct_4 rfl rfl ?_
    refine j_getF (pc := 5) fd_22_2 tw_3_193 dX1_toldOfAct_5 ?_
    refine j_iload_n (pc := 8) 1 dX1_toldOfAct_8 rfl rfl ?_
    refine j_iald (pc := 9) rfl rfl rfl dX1_toldOfAct_9 (fun j3 => ?_)
    refine j_iconst (pc := 10) (v := (-1)) (by decide) dX1_toldOfAct_10 ?_
    refine j_icmpne (pc := 11) (tgt := 18) dX1_toldOfAct_11 rfl (fun _ => ?_) (fun _ => ?_)
    · refine j_iconst (pc := 18) (v := 0) (by decide) dX1_toldOfAct_18 ?_
      exact j_ireturn (pc := 19) rfl (Nat.le_of_ble_eq_true rfl) (Nat.le_of_ble_eq_true rfl) dX1_toldOfAct_19
    · refine j_iconst (pc := 14) (v := 1) (by decide) dX1_toldOfAct_14 ?_
      refine j_goto (pc := 15) (tgt := 19) dX1_toldOfAct_15 rfl ?_
      exact j_ireturn (pc := 19) rfl (Nat.le_of_ble_eq_true rfl) (Nat.le_of_ble_eq_true rfl) dX1_toldOfAct_19
theorem c1_toldOfAct (l : Launch) (v0 : Nat) (v1 : Int32) (v2 : Int32) : Ctr l yX1_toldOfAct cX1_toldOfAct 3 (some .int) rm1_toldOfAct eI [aR 22 v0, aI v1, aI v2] (f1_toldOfAct v0 v1 v2) := ctr_of (lv := [(0, aR 22 v0), (1, aI v1), (2, aI v2)]) (by decide +kernel) (fun _ => rfl) (fun _ => (Nat.le_of_ble_eq_true rfl)) (fun _ h => lvl_als h rfl) (fun _ σ _ => j1_toldOfAct v0 v1 v2 σ)
abbrev rm10_streamNumbered : Room := { frames := 0, cells := 0, slots := 0, locals := 0 }
set_option maxRecDepth 20000 in
set_option maxHeartbeats 4000000 in
theorem j10_streamNumbered {Γ : jX} {tg : Option Nat × rS} (v0 : Nat) (v1 : Int32) (σ : rS) : J Γ rm10_streamNumbered (eR 15) cX10_streamNumbered RX10 2 (some (.object "PackDesk$Stream")) tg 0 0 0 [(0, aR 0 v0), (1, aI v1)] [] σ (f10_streamNumbered v0 v1 σ) := by
  unfold f10_streamNumbered
  refine j_iload_n (pc := 0) 1 dX10_streamNumbered_0 rfl rfl ?_
  refine j_iflt (pc := 1) (tgt := 21) dX10_streamNumbered_1 rfl (fun _ => ?_) (fun _ => ?_)
  · refine j_null (pc := 21) 15 dX10_streamNumbered_21 ?_
    exact j_areturn (pc := 22) rfl (Nat.le_of_ble_eq_true rfl) (Nat.le_of_ble_eq_true rfl) dX10_streamNumbered_22
  · refine j_iload_n (pc := 4) 1 dX10_streamNumbered_4 rfl rfl ?_
    refine j_aload_n (pc := 5) 0 dX10_streamNumbered_5 rfl rfl ?_
    refine j_getI (pc := 6) fd_0_9 tw_1_118 dX10_streamNumbered_6 ?_
    refine j_icmpge (pc := 9) (tgt := 21) dX10_streamNumbered_9 rfl (fun _ => ?_) (fun _ => ?_)
    · refine j_null (pc := 21) 15 dX10_streamNumbered_21 ?_
      exact j_areturn (pc := 22) rfl (Nat.le_of_ble_eq_true rfl) (Nat.le_of_ble_eq_true rfl) dX10_streamNumbered_22
    · refine j_aload_n (pc := 12) 0 dX10_streamNumbered_12 rfl rfl ?_
      refine j_getF (pc := 13) fd_0_1 tw_1_110 dX10_streamNumbered_13 ?_
      refine j_iload_n (pc := 16) 1 dX10_streamNumbered_16 rfl rfl ?_
      refine j_aald (pc := 17) rfl rfl rfl dX10_streamNumbered_17 (fun j1 o2 => ?_)
      refine j_goto (pc := 18) (tgt := 22) dX10_streamNumbered_18 rfl ?_
      exact j_areturn (pc := 22) rfl (Nat.le_of_ble_eq_true rfl) (Nat.le_of_ble_eq_true rfl) dX10_streamNumbered_22
theorem c10_streamNumbered (l : Launch) (v0 : Nat) (v1 : Int32) : Ctr l yX10_streamNumbered cX10_streamNumbered 2 (some (.object "PackDesk$Stream")) rm10_streamNumbered (eR 15) [aR 0 v0, aI v1] (f10_streamNumbered v0 v1) := ctr_of (lv := [(0, aR 0 v0), (1, aI v1)]) (by decide +kernel) (fun _ => rfl) (fun _ => (Nat.le_of_ble_eq_true rfl)) (fun _ h => lvl_als h rfl) (fun _ σ _ => j10_streamNumbered v0 v1 σ)
theorem cs_RX10_145 : CaV RX10 RX10 145 yX10_streamNumbered cX10_streamNumbered 2 (some (.object "PackDesk$Stream")) 1 := ⟨tw_2_158, tw_2_160, tw_p4, tw_1_1, tw_2_161, rfl, by decide +kernel, by decide +kernel, by decide +kernel⟩
theorem cs_RX10_174 : CaV RX10 RX9 174 yX9_sum cX9_sum 5 (some .int) 2 := ⟨tw_2_215, tw_2_216, tw_2_217, tw_1_14, tw_2_218, rfl, by decide +kernel, by decide +kernel, by decide +kernel⟩
abbrev rm10_about : Room := { frames := 2, cells := 0, slots := 0, locals := 45 }
set_option maxRecDepth 20000 in
set_option maxHeartbeats 4000000 in
theorem j10_about {Γ : jX} {tg : Int32 × rS} (N : Nat) (v0 : Nat) (v1 : Int32) (v2 : Int32) (σ : rS) : J Γ rm10_about eI cX10_about RX10 4 (some .int) tg 0 0 0 [(0, aR 0 v0), (1, aI v1), (2, aI v2)] [] σ (f10_about N v0 v1 v2 σ) := by
  unfold f10_about
  refine j_aload_n (pc := 0) 0 dX10_about_0 rfl rfl ?_
  refine j_iload_n (pc := 1) 1 dX10_about_1 rfl rfl ?_
  refine j_callVR (pc := 2) (As := [aI v1]) (st := []) (fun l => c10_streamNumbered l v0 v1) cs_RX10_145 rfl rfl rfl rfl (Nat.le_of_ble_eq_true rfl) ⟨(Nat.le_of_ble_eq_true rfl), (Nat.le_of_ble_eq_true rfl)⟩ ⟨(Nat.le_of_ble_eq_true rfl), (Nat.le_of_ble_eq_true rfl)⟩ dX10_about_2 (fun r1 σ2 => ?_)
  refine j_astore_n (pc := 5) (lv' := [(3, aO 15 r1), (0, aR 0 v0), (1, aI v1), (2, aI v2)]) dX10_about_5 rfl (Nat.le_of_ble_eq_true rfl) rfl ?_
  refine j_sub [0, 3] (lv' := [(3, aO 15 r1), (2, aI v2)]) rfl ?_
  refine j_aload_n (pc := 6) 0 dX10_about_6 rfl rfl ?_
  refine j_ifnonnull (pc := 7) (tgt := 13) dX10_about_7 rfl (fun hm => ?_) (fun i3 hm => ?_)
  · subst hm
    refine j_bipush (pc := 10) (v := (-101)) (by decide) dX10_about_10 ?_
    exact j_ireturn (pc := 12) rfl (Nat.le_of_ble_eq_true rfl) (Nat.le_of_ble_eq_true rfl) dX10_about_12
  · subst hm
    refine j_iload_n (pc := 13) 1 dX10_about_13 rfl rfl ?_
    refine j_case 0 (fun h0 => ?_) (fun h0 => ?_)
    · refine j_tableIn (pc := 14) (off := 30) (tgt := 44) dX10_about_14 (by rw [h0]; decide) (by rw [h0]; decide) (by rw [h0]; rfl) rfl ?_
      refine j_aload_n (pc := 44) 0 dX10_about_44 rfl rfl ?_
      refine j_getI (pc := 45) fd_15_1 tw_2_142 dX10_about_45 ?_
      exact j_ireturn (pc := 48) rfl (Nat.le_of_ble_eq_true rfl) (Nat.le_of_ble_eq_true rfl) dX10_about_48
    · refine j_case 1 (fun h1 => ?_) (fun h1 => ?_)
      · refine j_tableIn (pc := 14) (off := 35) (tgt := 49) dX10_about_14 (by rw [h1]; decide) (by rw [h1]; decide) (by rw [h1]; rfl) rfl ?_
        refine j_aload_n (pc := 49) 0 dX10_about_49 rfl rfl ?_
        refine j_getI (pc := 50) fd_15_2 tw_2_143 dX10_about_50 ?_
        exact j_ireturn (pc := 53) rfl (Nat.le_of_ble_eq_true rfl) (Nat.le_of_ble_eq_true rfl) dX10_about_53
      · refine j_case 2 (fun h2 => ?_) (fun h2 => ?_)
        · refine j_tableIn (pc := 14) (off := 40) (tgt := 54) dX10_about_14 (by rw [h2]; decide) (by rw [h2]; decide) (by rw [h2]; rfl) rfl ?_
          refine j_aload_n (pc := 54) 0 dX10_about_54 rfl rfl ?_
          refine j_getI (pc := 55) fd_15_3 tw_2_144 dX10_about_55 ?_
          refine j_ifeq (pc := 58) (tgt := 65) dX10_about_58 rfl (fun _ => ?_) (fun _ => ?_)
          · refine j_iconst (pc := 65) (v := 0) (by decide) dX10_about_65 ?_
            exact j_ireturn (pc := 66) rfl (Nat.le_of_ble_eq_true rfl) (Nat.le_of_ble_eq_true rfl) dX10_about_66
          · refine j_iconst (pc := 61) (v := 1) (by decide) dX10_about_61 ?_
            refine j_goto (pc := 62) (tgt := 66) dX10_about_62 rfl ?_
            exact j_ireturn (pc := 66) rfl (Nat.le_of_ble_eq_true rfl) (Nat.le_of_ble_eq_true rfl) dX10_about_66
        · refine j_case 3 (fun h3 => ?_) (fun h3 => ?_)
          · refine j_tableIn (pc := 14) (off := 53) (tgt := 67) dX10_about_14 (by rw [h3]; decide) (by rw [h3]; decide) (by rw [h3]; rfl) rfl ?_
            refine j_aload_n (pc := 67) 0 dX10_about_67 rfl rfl ?_
            refine j_iconst (pc := 68) (v := 0) (by decide) dX10_about_68 ?_
            refine j_aload_n (pc := 69) 0 dX10_about_69 rfl rfl ?_
            refine j_getI (pc := 70) fd_15_1 tw_2_142 dX10_about_70 ?_
            refine j_callVI (pc := 73) (As := [aI 0, aI (gI σ2 15 i3 1)]) (st := []) (fun l => c9_sum l N i3 0 (gI σ2 15 i3 1)) cs_RX10_174 rfl rfl rfl rfl (Nat.le_of_ble_eq_true rfl) ⟨(Nat.le_of_ble_eq_true rfl), (Nat.le_of_ble_eq_true rfl)⟩ ⟨(Nat.le_of_ble_eq_true rfl), (Nat.le_of_ble_eq_true rfl)⟩ dX10_about_73 (fun r4 σ5 => ?_)
            exact j_ireturn (pc := 76) rfl (Nat.le_of_ble_eq_true rfl) (Nat.le_of_ble_eq_true rfl) dX10_about_76
          · have g0 := lv_neT h0 (show ((0 : Int32)).toInt = 0 by decide)
            have g1 := lv_neT h1 (show ((1 : Int32)).toInt = 1 by decide)
            have g2 := lv_neT h2 (show ((2 : Int32)).toInt = 2 by decide)
            have g3 := lv_neT h3 (show ((3 : Int32)).toInt = 3 by decide)
            refine j_tableOut (pc := 14) (tgt := 77) dX10_about_14 (by omega) rfl ?_
            refine j_bipush (pc := 77) (v := (-102)) (by decide) dX10_about_77 ?_
            exact j_ireturn (pc := 79) rfl (Nat.le_of_ble_eq_true rfl) (Nat.le_of_ble_eq_true rfl) dX10_about_79
theorem c10_about (l : Launch) (N : Nat) (v0 : Nat) (v1 : Int32) (v2 : Int32) : Ctr l yX10_about cX10_about 4 (some .int) rm10_about eI [aR 0 v0, aI v1, aI v2] (f10_about N v0 v1 v2) := ctr_of (lv := [(0, aR 0 v0), (1, aI v1), (2, aI v2)]) (by decide +kernel) (fun _ => rfl) (fun _ => (Nat.le_of_ble_eq_true rfl)) (fun _ h => lvl_als h rfl) (fun _ σ _ => j10_about N v0 v1 v2 σ)
abbrev rm10_deltaNumbered : Room := { frames := 0, cells := 0, slots := 0, locals := 0 }
set_option maxRecDepth 20000 in
set_option maxHeartbeats 4000000 in
theorem j10_deltaNumbered {Γ : jX} {tg : Option Nat × rS} (v0 : Nat) (v1 : Int32) (σ : rS) : J Γ rm10_deltaNumbered (eR 22) cX10_deltaNumbered RX10 2 (some (.object "PackDesk$Delta")) tg 0 0 0 [(0, aR 0 v0), (1, aI v1)] [] σ (f10_deltaNumbered v0 v1 σ) := by
  unfold f10_deltaNumbered
  refine j_iload_n (pc := 0) 1 dX10_deltaNumbered_0 rfl rfl ?_
  refine j_iflt (pc := 1) (tgt := 21) dX10_deltaNumbered_1 rfl (fun _ => ?_) (fun _ => ?_)
  · refine j_null (pc := 21) 22 dX10_deltaNumbered_21 ?_
    exact j_areturn (pc := 22) rfl (Nat.le_of_ble_eq_true rfl) (Nat.le_of_ble_eq_true rfl) dX10_deltaNumbered_22
  · refine j_iload_n (pc := 4) 1 dX10_deltaNumbered_4 rfl rfl ?_
    refine j_aload_n (pc := 5) 0 dX10_deltaNumbered_5 rfl rfl ?_
    refine j_getI (pc := 6) fd_0_11 tw_1_120 dX10_deltaNumbered_6 ?_
    refine j_icmpge (pc := 9) (tgt := 21) dX10_deltaNumbered_9 rfl (fun _ => ?_) (fun _ => ?_)
    · refine j_null (pc := 21) 22 dX10_deltaNumbered_21 ?_
      exact j_areturn (pc := 22) rfl (Nat.le_of_ble_eq_true rfl) (Nat.le_of_ble_eq_true rfl) dX10_deltaNumbered_22
    · refine j_aload_n (pc := 12) 0 dX10_deltaNumbered_12 rfl rfl ?_
      refine j_getF (pc := 13) fd_0_3 tw_1_112 dX10_deltaNumbered_13 ?_
      refine j_iload_n (pc := 16) 1 dX10_deltaNumbered_16 rfl rfl ?_
      refine j_aald (pc := 17) rfl rfl rfl dX10_deltaNumbered_17 (fun j1 o2 => ?_)
      refine j_goto (pc := 18) (tgt := 22) dX10_deltaNumbered_18 rfl ?_
      exact j_areturn (pc := 22) rfl (Nat.le_of_ble_eq_true rfl) (Nat.le_of_ble_eq_true rfl) dX10_deltaNumbered_22
theorem c10_deltaNumbered (l : Launch) (v0 : Nat) (v1 : Int32) : Ctr l yX10_deltaNumbered cX10_deltaNumbered 2 (some (.object "PackDesk$Delta")) rm10_deltaNumbered (eR 22) [aR 0 v0, aI v1] (f10_deltaNumbered v0 v1) := ctr_of (lv := [(0, aR 0 v0), (1, aI v1)]) (by decide +kernel) (fun _ => rfl) (fun _ => (Nat.le_of_ble_eq_true rfl)) (fun _ h => lvl_als h rfl) (fun _ σ _ => j10_deltaNumbered v0 v1 σ)
abbrev rm10_found : Room := { frames := 0, cells := 0, slots := 0, locals := 0 }
set_option maxRecDepth 20000 in
set_option maxHeartbeats 4000000 in
theorem j10_found {Γ : jX} {tg : Int32 × rS} (v0 : Nat) (v1 : Int32) (σ : rS) : J Γ rm10_found eI cX10_found RX10 2 (some .int) tg 0 0 0 [(0, aR 0 v0), (1, aI v1)] [] σ (f10_found v0 v1 σ) := by
  unfold f10_found
  refine j_aload_n (pc := 0) 0 dX10_found_0 rfl rfl ?_
  refine j_iload_n (pc := 1) 1 dX10_found_1 rfl rfl ?_
  refine j_putI (pc := 2) fd_0_12 rfl rfl tw_1_121 dX10_found_2 ?_
  refine j_lets (fun σ1 => ?_)
  refine j_aload_n (pc := 5) 0 dX10_found_5 rfl rfl ?_
  refine j_getF (pc := 6) fd_0_7 tw_1_116 dX10_found_6 ?_
  refine j_iload_n (pc := 9) 1 dX10_found_9 rfl rfl ?_
  refine j_dup2 (pc := 10) dX10_found_10 rfl rfl ?_
  refine j_iald (pc := 11) rfl rfl rfl dX10_found_11 (fun j2 => ?_)
  refine j_iconst (pc := 12) (v := 1) (by decide) dX10_found_12 ?_
  refine j_iadd (pc := 13) dX10_found_13 ?_
  refine j_iast (pc := 14) rfl rfl rfl dX10_found_14 (fun j3 => ?_)
  refine j_lets (fun σ4 => ?_)
  refine j_bipush (pc := 15) (v := (-10)) (by decide) dX10_found_15 ?_
  refine j_iload_n (pc := 17) 1 dX10_found_17 rfl rfl ?_
  refine j_isub (pc := 18) dX10_found_18 ?_
  exact j_ireturn (pc := 19) rfl (Nat.le_of_ble_eq_true rfl) (Nat.le_of_ble_eq_true rfl) dX10_found_19
theorem c10_found (l : Launch) (v0 : Nat) (v1 : Int32) : Ctr l yX10_found cX10_found 2 (some .int) rm10_found eI [aR 0 v0, aI v1] (f10_found v0 v1) := ctr_of (lv := [(0, aR 0 v0), (1, aI v1)]) (by decide +kernel) (fun _ => rfl) (fun _ => (Nat.le_of_ble_eq_true rfl)) (fun _ h => lvl_als h rfl) (fun _ σ _ => j10_found v0 v1 σ)
theorem cs_RX10_265 : CaV RX10 RX10 265 yX10_deltaNumbered cX10_deltaNumbered 2 (some (.object "PackDesk$Delta")) 1 := ⟨tw_4_1, tw_4_3, tw_p20, tw_1_1, tw_4_4, rfl, by decide +kernel, by decide +kernel, by decide +kernel⟩
theorem cs_RX10_66 : CaV RX10 RX10 66 yX10_found cX10_found 2 (some .int) 1 := ⟨tw_1_160, tw_1_162, tw_p0, tw_1_1, tw_1_163, rfl, by decide +kernel, by decide +kernel, by decide +kernel⟩
theorem cs_RX10_274 : CaV RX10 RX1 274 yX1_toldOfAct cX1_toldOfAct 3 (some .int) 2 := ⟨tw_4_9, tw_4_10, tw_4_11, tw_1_17, tw_4_12, rfl, by decide +kernel, by decide +kernel, by decide +kernel⟩
theorem cs_RX10_272 : CaV RX10 RX1 272 yX1_told cX1_told 2 (some .int) 1 := ⟨tw_4_5, tw_4_6, tw_4_7, tw_1_17, tw_4_8, rfl, by decide +kernel, by decide +kernel, by decide +kernel⟩
abbrev rm10_act : Room := { frames := 1, cells := 0, slots := 0, locals := 22 }
set_option maxRecDepth 20000 in
set_option maxHeartbeats 4000000 in
theorem j10_act {Γ : jX} {tg : Int32 × rS} (v0 : Nat) (v1 : Int32) (v2 : Int32) (v3 : Int32) (σ : rS) : J Γ rm10_act eI cX10_act RX10 5 (some .int) tg 0 0 0 [(0, aR 0 v0), (1, aI v1), (2, aI v2), (3, aI v3)] [] σ (f10_act v0 v1 v2 v3 σ) := by
  unfold f10_act
  refine j_aload_n (pc := 0) 0 dX10_act_0 rfl rfl ?_
  refine j_iload_n (pc := 1) 1 dX10_act_1 rfl rfl ?_
  refine j_callVR (pc := 2) (As := [aI v1]) (st := []) (fun l => c10_deltaNumbered l v0 v1) cs_RX10_265 rfl rfl rfl rfl (Nat.le_of_ble_eq_true rfl) ⟨(Nat.le_of_ble_eq_true rfl), (Nat.le_of_ble_eq_true rfl)⟩ ⟨(Nat.le_of_ble_eq_true rfl), (Nat.le_of_ble_eq_true rfl)⟩ dX10_act_2 (fun r1 σ2 => ?_)
  refine j_astore (pc := 5) (lv' := [(4, aO 22 r1), (0, aR 0 v0), (1, aI v1), (2, aI v2), (3, aI v3)]) dX10_act_5 (Nat.le_of_ble_eq_true rfl) rfl ?_
  refine j_sub [0, 1, 3, 4] (lv' := [(4, aO 22 r1), (0, aR 0 v0), (2, aI v2), (3, aI v3)]) rfl ?_
  refine j_aload (pc := 7) 0 dX10_act_7 rfl ?_
  refine j_ifnonnull (pc := 9) (tgt := 15) dX10_act_9 rfl (fun hm => ?_) (fun i3 hm => ?_)
  · subst hm
    refine j_bipush (pc := 12) (v := (-101)) (by decide) dX10_act_12 ?_
    exact j_ireturn (pc := 14) rfl (Nat.le_of_ble_eq_true rfl) (Nat.le_of_ble_eq_true rfl) dX10_act_14
  · subst hm
    refine j_iload_n (pc := 15) 3 dX10_act_15 rfl rfl ?_
    refine j_iflt (pc := 16) (tgt := 24) dX10_act_16 rfl (fun _ => ?_) (fun _ => ?_)
    · refine j_bipush (pc := 24) (v := (-102)) (by decide) dX10_act_24 ?_
      exact j_ireturn (pc := 26) rfl (Nat.le_of_ble_eq_true rfl) (Nat.le_of_ble_eq_true rfl) dX10_act_26
    · refine j_iload_n (pc := 19) 3 dX10_act_19 rfl rfl ?_
      refine j_iconst (pc := 20) (v := 2) (by decide) dX10_act_20 ?_
      refine j_icmple (pc := 21) (tgt := 27) dX10_act_21 rfl (fun _ => ?_) (fun _ => ?_)
      · refine j_iload_n (pc := 27) 2 dX10_act_27 rfl rfl ?_
        refine j_iconst (pc := 28) (v := (-1)) (by decide) dX10_act_28 ?_
        refine j_icmplt (pc := 29) (tgt := 41) dX10_act_29 rfl (fun _ => ?_) (fun _ => ?_)
        · refine j_aload_n (pc := 41) 1 dX10_act_41 rfl rfl ?_
          refine j_iconst (pc := 42) (v := 2) (by decide) dX10_act_42 ?_
          refine j_callVI (pc := 43) (As := [aI 2]) (st := []) (fun l => c10_found l v0 2) cs_RX10_66 rfl rfl rfl rfl (Nat.le_of_ble_eq_true rfl) ⟨(Nat.le_of_ble_eq_true rfl), (Nat.le_of_ble_eq_true rfl)⟩ ⟨(Nat.le_of_ble_eq_true rfl), (Nat.le_of_ble_eq_true rfl)⟩ dX10_act_43 (fun r4 σ5 => ?_)
          exact j_ireturn (pc := 46) rfl (Nat.le_of_ble_eq_true rfl) (Nat.le_of_ble_eq_true rfl) dX10_act_46
        · refine j_iload_n (pc := 32) 2 dX10_act_32 rfl rfl ?_
          refine j_aload (pc := 33) 0 dX10_act_33 rfl ?_
          refine j_getI (pc := 35) fd_22_5 tw_3_197 dX10_act_35 ?_
          refine j_icmplt (pc := 38) (tgt := 47) dX10_act_38 rfl (fun _ => ?_) (fun _ => ?_)
          · refine j_iload_n (pc := 47) 2 dX10_act_47 rfl rfl ?_
            refine j_iconst (pc := 48) (v := (-1)) (by decide) dX10_act_48 ?_
            refine j_icmpne (pc := 49) (tgt := 61) dX10_act_49 rfl (fun _ => ?_) (fun _ => ?_)
            · refine j_aload (pc := 61) 0 dX10_act_61 rfl ?_
              refine j_iload_n (pc := 63) 2 dX10_act_63 rfl rfl ?_
              refine j_iload_n (pc := 64) 3 dX10_act_64 rfl rfl ?_
              refine j_callVI (pc := 65) (As := [aI v2, aI v3]) (st := []) (fun l => c1_toldOfAct l i3 v2 v3) cs_RX10_274 rfl rfl rfl rfl (Nat.le_of_ble_eq_true rfl) ⟨(Nat.le_of_ble_eq_true rfl), (Nat.le_of_ble_eq_true rfl)⟩ ⟨(Nat.le_of_ble_eq_true rfl), (Nat.le_of_ble_eq_true rfl)⟩ dX10_act_65 (fun r6 σ7 => ?_)
              exact j_ireturn (pc := 68) rfl (Nat.le_of_ble_eq_true rfl) (Nat.le_of_ble_eq_true rfl) dX10_act_68
            · refine j_aload (pc := 52) 0 dX10_act_52 rfl ?_
              refine j_iload_n (pc := 54) 3 dX10_act_54 rfl rfl ?_
              refine j_callVI (pc := 55) (As := [aI v3]) (st := []) (fun l => c1_told l i3 v3) cs_RX10_272 rfl rfl rfl rfl (Nat.le_of_ble_eq_true rfl) ⟨(Nat.le_of_ble_eq_true rfl), (Nat.le_of_ble_eq_true rfl)⟩ ⟨(Nat.le_of_ble_eq_true rfl), (Nat.le_of_ble_eq_true rfl)⟩ dX10_act_55 (fun r8 σ9 => ?_)
              refine j_goto (pc := 58) (tgt := 68) dX10_act_58 rfl ?_
              exact j_ireturn (pc := 68) rfl (Nat.le_of_ble_eq_true rfl) (Nat.le_of_ble_eq_true rfl) dX10_act_68
          · refine j_aload_n (pc := 41) 1 dX10_act_41 rfl rfl ?_
            refine j_iconst (pc := 42) (v := 2) (by decide) dX10_act_42 ?_
            refine j_callVI (pc := 43) (As := [aI 2]) (st := []) (fun l => c10_found l v0 2) cs_RX10_66 rfl rfl rfl rfl (Nat.le_of_ble_eq_true rfl) ⟨(Nat.le_of_ble_eq_true rfl), (Nat.le_of_ble_eq_true rfl)⟩ ⟨(Nat.le_of_ble_eq_true rfl), (Nat.le_of_ble_eq_true rfl)⟩ dX10_act_43 (fun r10 σ11 => ?_)
            exact j_ireturn (pc := 46) rfl (Nat.le_of_ble_eq_true rfl) (Nat.le_of_ble_eq_true rfl) dX10_act_46
      · refine j_bipush (pc := 24) (v := (-102)) (by decide) dX10_act_24 ?_
        exact j_ireturn (pc := 26) rfl (Nat.le_of_ble_eq_true rfl) (Nat.le_of_ble_eq_true rfl) dX10_act_26
theorem c10_act (l : Launch) (v0 : Nat) (v1 : Int32) (v2 : Int32) (v3 : Int32) : Ctr l yX10_act cX10_act 5 (some .int) rm10_act eI [aR 0 v0, aI v1, aI v2, aI v3] (f10_act v0 v1 v2 v3) := ctr_of (lv := [(0, aR 0 v0), (1, aI v1), (2, aI v2), (3, aI v3)]) (by decide +kernel) (fun _ => rfl) (fun _ => (Nat.le_of_ble_eq_true rfl)) (fun _ h => lvl_als h rfl) (fun _ σ _ => j10_act v0 v1 v2 v3 σ)
theorem cs_RX10_167 : CaV RX10 RX9 167 yX9_append cX9_append 2 none 1 := ⟨tw_2_201, tw_2_202, tw_2_203, tw_1_14, tw_2_204, rfl, by decide +kernel, by decide +kernel, by decide +kernel⟩
abbrev rm10_add : Room := { frames := 1, cells := 0, slots := 0, locals := 21 }
set_option maxRecDepth 20000 in
set_option maxHeartbeats 4000000 in
theorem j10_add {Γ : jX} {tg : Int32 × rS} (v0 : Nat) (v1 : Int32) (v2 : Int32) (σ : rS) : J Γ rm10_add eI cX10_add RX10 4 (some .int) tg 0 0 0 [(0, aR 0 v0), (1, aI v1), (2, aI v2)] [] σ (f10_add v0 v1 v2 σ) := by
  unfold f10_add
  refine j_aload_n (pc := 0) 0 dX10_add_0 rfl rfl ?_
  refine j_iload_n (pc := 1) 1 dX10_add_1 rfl rfl ?_
  refine j_callVR (pc := 2) (As := [aI v1]) (st := []) (fun l => c10_streamNumbered l v0 v1) cs_RX10_145 rfl rfl rfl rfl (Nat.le_of_ble_eq_true rfl) ⟨(Nat.le_of_ble_eq_true rfl), (Nat.le_of_ble_eq_true rfl)⟩ ⟨(Nat.le_of_ble_eq_true rfl), (Nat.le_of_ble_eq_true rfl)⟩ dX10_add_2 (fun r1 σ2 => ?_)
  refine j_astore_n (pc := 5) (lv' := [(3, aO 15 r1), (0, aR 0 v0), (1, aI v1), (2, aI v2)]) dX10_add_5 rfl (Nat.le_of_ble_eq_true rfl) rfl ?_
  refine j_sub [0, 3] (lv' := [(3, aO 15 r1), (2, aI v2)]) rfl ?_
  refine j_aload_n (pc := 6) 0 dX10_add_6 rfl rfl ?_
  refine j_ifnonnull (pc := 7) (tgt := 13) dX10_add_7 rfl (fun hm => ?_) (fun i3 hm => ?_)
  · subst hm
    refine j_bipush (pc := 10) (v := (-101)) (by decide) dX10_add_10 ?_
    exact j_ireturn (pc := 12) rfl (Nat.le_of_ble_eq_true rfl) (Nat.le_of_ble_eq_true rfl) dX10_add_12
  · subst hm
    refine j_aload_n (pc := 13) 0 dX10_add_13 rfl rfl ?_
    refine j_getI (pc := 14) fd_15_3 tw_2_144 dX10_add_14 ?_
    refine j_ifeq (pc := 17) (tgt := 23) dX10_add_17 rfl (fun _ => ?_) (fun _ => ?_)
    · refine j_aload_n (pc := 23) 0 dX10_add_23 rfl rfl ?_
      refine j_getI (pc := 24) fd_15_1 tw_2_142 dX10_add_24 ?_
      refine j_sipush (pc := 27) (v := 400) (by decide) dX10_add_27 ?_
      refine j_icmplt (pc := 30) (tgt := 36) dX10_add_30 rfl (fun _ => ?_) (fun _ => ?_)
      · refine j_aload_n (pc := 36) 0 dX10_add_36 rfl rfl ?_
        refine j_iload_n (pc := 37) 1 dX10_add_37 rfl rfl ?_
        refine j_callVV (pc := 38) (As := [aI v2]) (st := []) (fun l => c9_append l i3 v2) cs_RX10_167 rfl rfl rfl rfl (Nat.le_of_ble_eq_true rfl) ⟨(Nat.le_of_ble_eq_true rfl), (Nat.le_of_ble_eq_true rfl)⟩ ⟨(Nat.le_of_ble_eq_true rfl), (Nat.le_of_ble_eq_true rfl)⟩ dX10_add_38 (fun r4 σ5 => ?_)
        refine j_aload_n (pc := 41) 0 dX10_add_41 rfl rfl ?_
        refine j_getI (pc := 42) fd_15_1 tw_2_142 dX10_add_42 ?_
        exact j_ireturn (pc := 45) rfl (Nat.le_of_ble_eq_true rfl) (Nat.le_of_ble_eq_true rfl) dX10_add_45
      · refine j_bipush (pc := 33) (v := (-104)) (by decide) dX10_add_33 ?_
        exact j_ireturn (pc := 35) rfl (Nat.le_of_ble_eq_true rfl) (Nat.le_of_ble_eq_true rfl) dX10_add_35
    · refine j_bipush (pc := 20) (v := (-103)) (by decide) dX10_add_20 ?_
      exact j_ireturn (pc := 22) rfl (Nat.le_of_ble_eq_true rfl) (Nat.le_of_ble_eq_true rfl) dX10_add_22
theorem c10_add (l : Launch) (v0 : Nat) (v1 : Int32) (v2 : Int32) : Ctr l yX10_add cX10_add 4 (some .int) rm10_add eI [aR 0 v0, aI v1, aI v2] (f10_add v0 v1 v2) := ctr_of (lv := [(0, aR 0 v0), (1, aI v1), (2, aI v2)]) (by decide +kernel) (fun _ => rfl) (fun _ => (Nat.le_of_ble_eq_true rfl)) (fun _ h => lvl_als h rfl) (fun _ σ _ => j10_add v0 v1 v2 σ)
abbrev rm9_appendPair : Room := { frames := 1, cells := 0, slots := 0, locals := 21 }
set_option maxRecDepth 20000 in
set_option maxHeartbeats 4000000 in
theorem j9_appendPair {Γ : jX} {tg : Unit × rS} (v0 : Nat) (v1 : Int32) (σ : rS) : J Γ rm9_appendPair eV cX9_appendPair RX9 2 none tg 0 0 0 [(0, aR 15 v0), (1, aI v1)] [] σ (f9_appendPair v0 v1 σ) := by
  unfold f9_appendPair
  refine j_aload_n (pc := 0) 0 dX9_appendPair_0 rfl rfl ?_
  refine j_iload_n (pc := 1) 1 dX9_appendPair_1 rfl rfl ?_
  refine j_callVV (pc := 2) (As := [aI v1]) (st := []) (fun l => c9_append l v0 v1) cs_RX9_23 rfl rfl rfl rfl (Nat.le_of_ble_eq_true rfl) ⟨(Nat.le_of_ble_eq_true rfl), (Nat.le_of_ble_eq_true rfl)⟩ ⟨(Nat.le_of_ble_eq_true rfl), (Nat.le_of_ble_eq_true rfl)⟩ dX9_appendPair_2 (fun r1 σ2 => ?_)
  refine j_aload_n (pc := 5) 0 dX9_appendPair_5 rfl rfl ?_
  refine j_iload_n (pc := 6) 1 dX9_appendPair_6 rfl rfl ?_
  refine j_bipush (pc := 7) (v := 8) (by decide) dX9_appendPair_7 ?_
  refine j_ishr (pc := 9) dX9_appendPair_9 ?_
  refine j_callVV (pc := 10) (As := [aI (v1 >>> (8 &&& 31))]) (st := []) (fun l => c9_append l v0 (v1 >>> (8 &&& 31))) cs_RX9_23 rfl rfl rfl rfl (Nat.le_of_ble_eq_true rfl) ⟨(Nat.le_of_ble_eq_true rfl), (Nat.le_of_ble_eq_true rfl)⟩ ⟨(Nat.le_of_ble_eq_true rfl), (Nat.le_of_ble_eq_true rfl)⟩ dX9_appendPair_10 (fun r3 σ4 => ?_)
  exact j_return (pc := 13) rfl (Nat.le_of_ble_eq_true rfl) (Nat.le_of_ble_eq_true rfl) dX9_appendPair_13
theorem c9_appendPair (l : Launch) (v0 : Nat) (v1 : Int32) : Ctr l yX9_appendPair cX9_appendPair 2 none rm9_appendPair eV [aR 15 v0, aI v1] (f9_appendPair v0 v1) := ctr_of (lv := [(0, aR 15 v0), (1, aI v1)]) (by decide +kernel) (fun _ => rfl) (fun _ => (Nat.le_of_ble_eq_true rfl)) (fun _ h => lvl_als h rfl) (fun _ σ _ => j9_appendPair v0 v1 σ)
theorem cs_RX10_315 : CaV RX10 RX9 315 yX9_appendPair cX9_appendPair 2 none 1 := ⟨tw_2_205, tw_2_206, tw_2_207, tw_1_14, tw_2_208, rfl, by decide +kernel, by decide +kernel, by decide +kernel⟩
theorem cs_RX10_249 : CaV RX10 RX9 249 yX9_appendAll cX9_appendAll 5 none 3 := ⟨tw_2_210, tw_2_211, tw_2_212, tw_1_14, tw_2_213, rfl, by decide +kernel, by decide +kernel, by decide +kernel⟩
abbrev rm10_appendPiece : Room := { frames := 2, cells := 0, slots := 0, locals := 45 }
set_option maxRecDepth 20000 in
set_option maxHeartbeats 4000000 in
theorem j10_appendPiece {Γ : jX} {tg : Unit × rS} (N : Nat) (v0 : Nat) (v1 : Nat) (v2 : Int32) (v3 : Nat) (σ : rS) : J Γ rm10_appendPiece eV cX10_appendPiece RX10 5 none tg 0 0 0 [(0, aR 0 v0), (1, aR 15 v1), (2, aI v2), (3, aR 13 v3)] [] σ (f10_appendPiece N v0 v1 v2 v3 σ) := by
  unfold f10_appendPiece
  refine j_aload_n (pc := 0) 1 dX10_appendPiece_0 rfl rfl ?_
  refine j_getI (pc := 1) fd_15_1 tw_2_142 dX10_appendPiece_1 ?_
  refine j_leti (fun x1 => ?_)
  refine j_istore (pc := 4) (lv' := [(4, aI x1), (0, aR 0 v0), (1, aR 15 v1), (2, aI v2), (3, aR 13 v3)]) dX10_appendPiece_4 (Nat.le_of_ble_eq_true rfl) rfl ?_
  refine j_aload_n (pc := 6) 2 dX10_appendPiece_6 rfl rfl ?_
  refine j_sipush (pc := 7) (v := 160) (by decide) dX10_appendPiece_7 ?_
  refine j_iload_n (pc := 10) 3 dX10_appendPiece_10 rfl rfl ?_
  refine j_iadd (pc := 11) dX10_appendPiece_11 ?_
  refine j_callVV (pc := 12) (As := [aI (160 + v2)]) (st := []) (fun l => c9_append l v1 (160 + v2)) cs_RX10_167 rfl rfl rfl rfl (Nat.le_of_ble_eq_true rfl) ⟨(Nat.le_of_ble_eq_true rfl), (Nat.le_of_ble_eq_true rfl)⟩ ⟨(Nat.le_of_ble_eq_true rfl), (Nat.le_of_ble_eq_true rfl)⟩ dX10_appendPiece_12 (fun r2 σ3 => ?_)
  refine j_aload_n (pc := 15) 2 dX10_appendPiece_15 rfl rfl ?_
  refine j_aload_n (pc := 16) 4 dX10_appendPiece_16 rfl rfl ?_
  refine j_getI (pc := 17) fd_13_0 tw_1_174 dX10_appendPiece_17 ?_
  refine j_callVV (pc := 20) (As := [aI (gI σ3 13 v3 0)]) (st := []) (fun l => c9_append l v1 (gI σ3 13 v3 0)) cs_RX10_167 rfl rfl rfl rfl (Nat.le_of_ble_eq_true rfl) ⟨(Nat.le_of_ble_eq_true rfl), (Nat.le_of_ble_eq_true rfl)⟩ ⟨(Nat.le_of_ble_eq_true rfl), (Nat.le_of_ble_eq_true rfl)⟩ dX10_appendPiece_20 (fun r4 σ5 => ?_)
  refine j_aload_n (pc := 23) 2 dX10_appendPiece_23 rfl rfl ?_
  refine j_aload_n (pc := 24) 4 dX10_appendPiece_24 rfl rfl ?_
  refine j_getF (pc := 25) fd_13_1 tw_1_176 dX10_appendPiece_25 ?_
  refine j_alen (pc := 28) rfl (by decide) dX10_appendPiece_28 ?_
  refine j_callVV (pc := 29) (As := [aI (nI (gN σ5 14 v3))]) (st := []) (fun l => c9_append l v1 (nI (gN σ5 14 v3))) cs_RX10_167 rfl rfl rfl rfl (Nat.le_of_ble_eq_true rfl) ⟨(Nat.le_of_ble_eq_true rfl), (Nat.le_of_ble_eq_true rfl)⟩ ⟨(Nat.le_of_ble_eq_true rfl), (Nat.le_of_ble_eq_true rfl)⟩ dX10_appendPiece_29 (fun r6 σ7 => ?_)
  refine j_aload_n (pc := 32) 2 dX10_appendPiece_32 rfl rfl ?_
  refine j_aload_n (pc := 33) 1 dX10_appendPiece_33 rfl rfl ?_
  refine j_getF (pc := 34) fd_0_5 tw_1_114 dX10_appendPiece_34 ?_
  refine j_getI (pc := 37) fd_8_1 tw_1_63 dX10_appendPiece_37 ?_
  refine j_callVV (pc := 40) (As := [aI (gI σ7 8 v0 1)]) (st := []) (fun l => c9_appendPair l v1 (gI σ7 8 v0 1)) cs_RX10_315 rfl rfl rfl rfl (Nat.le_of_ble_eq_true rfl) ⟨(Nat.le_of_ble_eq_true rfl), (Nat.le_of_ble_eq_true rfl)⟩ ⟨(Nat.le_of_ble_eq_true rfl), (Nat.le_of_ble_eq_true rfl)⟩ dX10_appendPiece_40 (fun r8 σ9 => ?_)
  refine j_aload_n (pc := 43) 2 dX10_appendPiece_43 rfl rfl ?_
  refine j_aload_n (pc := 44) 1 dX10_appendPiece_44 rfl rfl ?_
  refine j_getF (pc := 45) fd_0_5 tw_1_114 dX10_appendPiece_45 ?_
  refine j_getF (pc := 48) fd_8_0 tw_1_61 dX10_appendPiece_48 ?_
  refine j_iconst (pc := 51) (v := 0) (by decide) dX10_appendPiece_51 ?_
  refine j_aload_n (pc := 52) 1 dX10_appendPiece_52 rfl rfl ?_
  refine j_getF (pc := 53) fd_0_5 tw_1_114 dX10_appendPiece_53 ?_
  refine j_getI (pc := 56) fd_8_1 tw_1_63 dX10_appendPiece_56 ?_
  refine j_callVV (pc := 59) (As := [aR 9 v0, aI 0, aI (gI σ9 8 v0 1)]) (st := []) (fun l => c9_appendAll l N 9 ⟨rfl, rfl, rfl⟩ v1 v0 0 (gI σ9 8 v0 1)) cs_RX10_249 rfl rfl rfl rfl (Nat.le_of_ble_eq_true rfl) ⟨(Nat.le_of_ble_eq_true rfl), (Nat.le_of_ble_eq_true rfl)⟩ ⟨(Nat.le_of_ble_eq_true rfl), (Nat.le_of_ble_eq_true rfl)⟩ dX10_appendPiece_59 (fun r10 σ11 => ?_)
  refine j_aload_n (pc := 62) 2 dX10_appendPiece_62 rfl rfl ?_
  refine j_aload_n (pc := 63) 2 dX10_appendPiece_63 rfl rfl ?_
  refine j_iload (pc := 64) 0 dX10_appendPiece_64 rfl ?_
  refine j_aload_n (pc := 66) 2 dX10_appendPiece_66 rfl rfl ?_
  refine j_getI (pc := 67) fd_15_1 tw_2_142 dX10_appendPiece_67 ?_
  refine j_callVI (pc := 70) (As := [aI x1, aI (gI σ11 15 v1 1)]) (st := [aR 15 v1]) (fun l => c9_sum l N v1 x1 (gI σ11 15 v1 1)) cs_RX10_174 rfl rfl rfl rfl (Nat.le_of_ble_eq_true rfl) ⟨(Nat.le_of_ble_eq_true rfl), (Nat.le_of_ble_eq_true rfl)⟩ ⟨(Nat.le_of_ble_eq_true rfl), (Nat.le_of_ble_eq_true rfl)⟩ dX10_appendPiece_70 (fun r12 σ13 => ?_)
  refine j_callVV (pc := 73) (As := [aI r12]) (st := []) (fun l => c9_appendPair l v1 r12) cs_RX10_315 rfl rfl rfl rfl (Nat.le_of_ble_eq_true rfl) ⟨(Nat.le_of_ble_eq_true rfl), (Nat.le_of_ble_eq_true rfl)⟩ ⟨(Nat.le_of_ble_eq_true rfl), (Nat.le_of_ble_eq_true rfl)⟩ dX10_appendPiece_73 (fun r14 σ15 => ?_)
  exact j_return (pc := 76) rfl (Nat.le_of_ble_eq_true rfl) (Nat.le_of_ble_eq_true rfl) dX10_appendPiece_76
theorem c10_appendPiece (l : Launch) (N : Nat) (v0 : Nat) (v1 : Nat) (v2 : Int32) (v3 : Nat) : Ctr l yX10_appendPiece cX10_appendPiece 5 none rm10_appendPiece eV [aR 0 v0, aR 15 v1, aI v2, aR 13 v3] (f10_appendPiece N v0 v1 v2 v3) := ctr_of (lv := [(0, aR 0 v0), (1, aR 15 v1), (2, aI v2), (3, aR 13 v3)]) (by decide +kernel) (fun _ => rfl) (fun _ => (Nat.le_of_ble_eq_true rfl)) (fun _ h => lvl_als h rfl) (fun _ σ _ => j10_appendPiece N v0 v1 v2 v3 σ)
abbrev rm10_newStream : Room := { frames := 2, cells := 2, slots := 404, locals := 50 }
set_option maxRecDepth 20000 in
set_option maxHeartbeats 4000000 in
theorem j10_newStream {Γ : jX} {tg : Int32 × rS} (v0 : Nat) (σ : rS) : J Γ rm10_newStream eI cX10_newStream RX10 1 (some .int) tg 0 0 0 [(0, aR 0 v0)] [] σ (f10_newStream v0 σ) := by
  unfold f10_newStream
  refine j_aload_n (pc := 0) 0 dX10_newStream_0 rfl rfl ?_
  refine j_getF (pc := 1) fd_0_1 tw_1_110 dX10_newStream_1 ?_
  refine j_aload_n (pc := 4) 0 dX10_newStream_4 rfl rfl ?_
  refine j_getI (pc := 5) fd_0_9 tw_1_118 dX10_newStream_5 ?_
  refine j_newStream10 (pc := 8) dX10_newStream_8 dX10_newStream_11 dX10_newStream_12 (Nat.le_of_ble_eq_true rfl) ⟨(Nat.le_of_ble_eq_true rfl), (Nat.le_of_ble_eq_true rfl)⟩ ⟨(Nat.le_of_ble_eq_true rfl), (Nat.le_of_ble_eq_true rfl)⟩ (fun i1 σ2 => ?_)
  refine j_aast (pc := 15) rfl rfl rfl rfl rfl dX10_newStream_15 (fun j3 => ?_)
  refine j_lets (fun σ4 => ?_)
  refine j_aload_n (pc := 16) 0 dX10_newStream_16 rfl rfl ?_
  refine j_dup (pc := 17) dX10_newStream_17 rfl ?_
  refine j_getI (pc := 18) fd_0_9 tw_1_118 dX10_newStream_18 ?_
  refine j_iconst (pc := 21) (v := 1) (by decide) dX10_newStream_21 ?_
  refine j_iadd (pc := 22) dX10_newStream_22 ?_
  refine j_putI (pc := 23) fd_0_9 rfl rfl tw_1_118 dX10_newStream_23 ?_
  refine j_lets (fun σ5 => ?_)
  refine j_aload_n (pc := 26) 0 dX10_newStream_26 rfl rfl ?_
  refine j_getI (pc := 27) fd_0_9 tw_1_118 dX10_newStream_27 ?_
  refine j_iconst (pc := 30) (v := 1) (by decide) dX10_newStream_30 ?_
  refine j_isub (pc := 31) dX10_newStream_31 ?_
  exact j_ireturn (pc := 32) rfl (Nat.le_of_ble_eq_true rfl) (Nat.le_of_ble_eq_true rfl) dX10_newStream_32
theorem c10_newStream (l : Launch) (v0 : Nat) : Ctr l yX10_newStream cX10_newStream 1 (some .int) rm10_newStream eI [aR 0 v0] (f10_newStream v0) := ctr_of (lv := [(0, aR 0 v0)]) (by decide +kernel) (fun _ => rfl) (fun _ => (Nat.le_of_ble_eq_true rfl)) (fun _ h => lvl_als h rfl) (fun _ σ _ => j10_newStream v0 σ)
theorem cs_RX10_277 : CaV RX10 RX1 277 yX1_fits cX1_fits 2 (some .boolean) 1 := ⟨tw_4_17, tw_4_18, tw_4_19, tw_1_17, tw_4_20, rfl, by decide +kernel, by decide +kernel, by decide +kernel⟩
theorem cs_RX10_142 : CaV RX10 RX10 142 yX10_newStream cX10_newStream 1 (some .int) 0 := ⟨tw_2_125, tw_2_127, tw_p3, tw_1_1, tw_2_128, rfl, by decide +kernel, by decide +kernel, by decide +kernel⟩
theorem cs_RX10_281 : CaV RX10 RX1 281 yX1_make cX1_make 5 none 2 := ⟨tw_4_21, tw_4_22, tw_4_23, tw_1_17, tw_4_24, rfl, by decide +kernel, by decide +kernel, by decide +kernel⟩
abbrev rm10_apply : Room := { frames := 3, cells := 2, slots := 404, locals := 70 }
set_option maxRecDepth 20000 in
set_option maxHeartbeats 4000000 in
theorem j10_apply {Γ : jX} {tg : Int32 × rS} (N : Nat) (v0 : Nat) (v1 : Int32) (v2 : Int32) (σ : rS) : J Γ rm10_apply eI cX10_apply RX10 6 (some .int) tg 0 0 0 [(0, aR 0 v0), (1, aI v1), (2, aI v2)] [] σ (f10_apply N v0 v1 v2 σ) := by
  unfold f10_apply
  refine j_aload_n (pc := 0) 0 dX10_apply_0 rfl rfl ?_
  refine j_iload_n (pc := 1) 1 dX10_apply_1 rfl rfl ?_
  refine j_callVR (pc := 2) (As := [aI v1]) (st := []) (fun l => c10_deltaNumbered l v0 v1) cs_RX10_265 rfl rfl rfl rfl (Nat.le_of_ble_eq_true rfl) ⟨(Nat.le_of_ble_eq_true rfl), (Nat.le_of_ble_eq_true rfl)⟩ ⟨(Nat.le_of_ble_eq_true rfl), (Nat.le_of_ble_eq_true rfl)⟩ dX10_apply_2 (fun r1 σ2 => ?_)
  refine j_astore_n (pc := 5) (lv' := [(3, aO 22 r1), (0, aR 0 v0), (1, aI v1), (2, aI v2)]) dX10_apply_5 rfl (Nat.le_of_ble_eq_true rfl) rfl ?_
  refine j_sub [0, 1, 3] (lv' := [(3, aO 22 r1), (0, aR 0 v0), (2, aI v2)]) rfl ?_
  refine j_aload_n (pc := 6) 1 dX10_apply_6 rfl rfl ?_
  refine j_iload_n (pc := 7) 2 dX10_apply_7 rfl rfl ?_
  refine j_callVR (pc := 8) (As := [aI v2]) (st := []) (fun l => c10_streamNumbered l v0 v2) cs_RX10_145 rfl rfl rfl rfl (Nat.le_of_ble_eq_true rfl) ⟨(Nat.le_of_ble_eq_true rfl), (Nat.le_of_ble_eq_true rfl)⟩ ⟨(Nat.le_of_ble_eq_true rfl), (Nat.le_of_ble_eq_true rfl)⟩ dX10_apply_8 (fun r3 σ4 => ?_)
  refine j_astore (pc := 11) (lv' := [(4, aO 15 r3), (3, aO 22 r1), (0, aR 0 v0), (2, aI v2)]) dX10_apply_11 (Nat.le_of_ble_eq_true rfl) rfl ?_
  refine j_sub [0, 1, 2] (lv' := [(4, aO 15 r3), (3, aO 22 r1), (0, aR 0 v0)]) rfl ?_
  refine j_aload_n (pc := 13) 1 dX10_apply_13 rfl rfl ?_
  refine j_ifnull (pc := 14) (tgt := 22) dX10_apply_14 rfl (fun hm => ?_) (fun i5 hm => ?_)
  · subst hm
    refine j_bipush (pc := 22) (v := (-101)) (by decide) dX10_apply_22 ?_
    exact j_ireturn (pc := 24) rfl (Nat.le_of_ble_eq_true rfl) (Nat.le_of_ble_eq_true rfl) dX10_apply_24
  · subst hm
    refine j_aload (pc := 17) 0 dX10_apply_17 rfl ?_
    refine j_ifnonnull (pc := 19) (tgt := 25) dX10_apply_19 rfl (fun hm => ?_) (fun i6 hm => ?_)
    · subst hm
      refine j_bipush (pc := 22) (v := (-101)) (by decide) dX10_apply_22 ?_
      exact j_ireturn (pc := 24) rfl (Nat.le_of_ble_eq_true rfl) (Nat.le_of_ble_eq_true rfl) dX10_apply_24
    · subst hm
      refine j_aload_n (pc := 25) 1 dX10_apply_25 rfl rfl ?_
      refine j_aload (pc := 26) 0 dX10_apply_26 rfl ?_
      refine j_callVZ (pc := 28) (As := [aR 15 i6]) (st := []) (fun l => c1_fits l N i5 i6) cs_RX10_277 rfl rfl rfl rfl (Nat.le_of_ble_eq_true rfl) ⟨(Nat.le_of_ble_eq_true rfl), (Nat.le_of_ble_eq_true rfl)⟩ ⟨(Nat.le_of_ble_eq_true rfl), (Nat.le_of_ble_eq_true rfl)⟩ dX10_apply_28 (fun r7 σ8 => ?_)
      refine j_ifneB (pc := 31) (tgt := 41) dX10_apply_31 rfl (fun _ => ?_) (fun _ => ?_)
      · refine j_aload_n (pc := 41) 2 dX10_apply_41 rfl rfl ?_
        refine j_getI (pc := 42) fd_0_9 tw_1_118 dX10_apply_42 ?_
        refine j_bipush (pc := 45) (v := 24) (by decide) dX10_apply_45 ?_
        refine j_icmplt (pc := 47) (tgt := 53) dX10_apply_47 rfl (fun _ => ?_) (fun _ => ?_)
        · refine j_aload_n (pc := 53) 2 dX10_apply_53 rfl rfl ?_
          refine j_callVI (pc := 54) (As := []) (st := []) (fun l => c10_newStream l v0) cs_RX10_142 rfl rfl rfl rfl (Nat.le_of_ble_eq_true rfl) ⟨(Nat.le_of_ble_eq_true rfl), (Nat.le_of_ble_eq_true rfl)⟩ ⟨(Nat.le_of_ble_eq_true rfl), (Nat.le_of_ble_eq_true rfl)⟩ dX10_apply_54 (fun r9 σ10 => ?_)
          refine j_istore (pc := 57) (lv' := [(5, aI r9), (4, aR 15 i6), (3, aR 22 i5), (0, aR 0 v0)]) dX10_apply_57 (Nat.le_of_ble_eq_true rfl) rfl ?_
          refine j_aload_n (pc := 59) 2 dX10_apply_59 rfl rfl ?_
          refine j_aload (pc := 60) 1 dX10_apply_60 rfl ?_
          refine j_aload_n (pc := 62) 3 dX10_apply_62 rfl rfl ?_
          refine j_getF (pc := 63) fd_0_1 tw_1_110 dX10_apply_63 ?_
          refine j_iload (pc := 66) 0 dX10_apply_66 rfl ?_
          refine j_aald (pc := 68) rfl rfl rfl dX10_apply_68 (fun j11 o12 => ?_)
          refine j_must (fun i13 hm => ?_)
          subst hm
          refine j_callVV (pc := 69) (As := [aR 15 i6, aR 15 i13]) (st := []) (fun l => c1_make l N i5 i6 i13) cs_RX10_281 rfl rfl rfl rfl (Nat.le_of_ble_eq_true rfl) ⟨(Nat.le_of_ble_eq_true rfl), (Nat.le_of_ble_eq_true rfl)⟩ ⟨(Nat.le_of_ble_eq_true rfl), (Nat.le_of_ble_eq_true rfl)⟩ dX10_apply_69 (fun r14 σ15 => ?_)
          refine j_iload (pc := 72) 0 dX10_apply_72 rfl ?_
          exact j_ireturn (pc := 74) rfl (Nat.le_of_ble_eq_true rfl) (Nat.le_of_ble_eq_true rfl) dX10_apply_74
        · refine j_bipush (pc := 50) (v := (-104)) (by decide) dX10_apply_50 ?_
          exact j_ireturn (pc := 52) rfl (Nat.le_of_ble_eq_true rfl) (Nat.le_of_ble_eq_true rfl) dX10_apply_52
      · refine j_aload_n (pc := 34) 2 dX10_apply_34 rfl rfl ?_
        refine j_bipush (pc := 35) (v := 9) (by decide) dX10_apply_35 ?_
        refine j_callVI (pc := 37) (As := [aI 9]) (st := []) (fun l => c10_found l v0 9) cs_RX10_66 rfl rfl rfl rfl (Nat.le_of_ble_eq_true rfl) ⟨(Nat.le_of_ble_eq_true rfl), (Nat.le_of_ble_eq_true rfl)⟩ ⟨(Nat.le_of_ble_eq_true rfl), (Nat.le_of_ble_eq_true rfl)⟩ dX10_apply_37 (fun r16 σ17 => ?_)
        exact j_ireturn (pc := 40) rfl (Nat.le_of_ble_eq_true rfl) (Nat.le_of_ble_eq_true rfl) dX10_apply_40
theorem c10_apply (l : Launch) (N : Nat) (v0 : Nat) (v1 : Int32) (v2 : Int32) : Ctr l yX10_apply cX10_apply 6 (some .int) rm10_apply eI [aR 0 v0, aI v1, aI v2] (f10_apply N v0 v1 v2) := ctr_of (lv := [(0, aR 0 v0), (1, aI v1), (2, aI v2)]) (by decide +kernel) (fun _ => rfl) (fun _ => (Nat.le_of_ble_eq_true rfl)) (fun _ h => lvl_als h rfl) (fun _ σ _ => j10_apply N v0 v1 v2 σ)
theorem cs_RX10_177 : CaV RX10 RX9 177 yX9_has cX9_has 2 (some .boolean) 1 := ⟨tw_3_4, tw_3_5, tw_3_6, tw_1_14, tw_3_7, rfl, by decide +kernel, by decide +kernel, by decide +kernel⟩
theorem cs_RX10_178 : CaV RX10 RX9 178 yX9_byteAt cX9_byteAt 2 (some .int) 1 := ⟨tw_3_8, tw_3_9, tw_3_10, tw_1_14, tw_3_11, rfl, by decide +kernel, by decide +kernel, by decide +kernel⟩
abbrev rm10_at : Room := { frames := 2, cells := 0, slots := 0, locals := 42 }
set_option maxRecDepth 20000 in
set_option maxHeartbeats 4000000 in
theorem j10_at {Γ : jX} {tg : Int32 × rS} (v0 : Nat) (v1 : Int32) (v2 : Int32) (σ : rS) : J Γ rm10_at eI cX10_at RX10 4 (some .int) tg 0 0 0 [(0, aR 0 v0), (1, aI v1), (2, aI v2)] [] σ (f10_at v0 v1 v2 σ) := by
  unfold f10_at
  refine j_aload_n (pc := 0) 0 dX10_at_0 rfl rfl ?_
  refine j_iload_n (pc := 1) 1 dX10_at_1 rfl rfl ?_
  refine j_callVR (pc := 2) (As := [aI v1]) (st := []) (fun l => c10_streamNumbered l v0 v1) cs_RX10_145 rfl rfl rfl rfl (Nat.le_of_ble_eq_true rfl) ⟨(Nat.le_of_ble_eq_true rfl), (Nat.le_of_ble_eq_true rfl)⟩ ⟨(Nat.le_of_ble_eq_true rfl), (Nat.le_of_ble_eq_true rfl)⟩ dX10_at_2 (fun r1 σ2 => ?_)
  refine j_astore_n (pc := 5) (lv' := [(3, aO 15 r1), (0, aR 0 v0), (1, aI v1), (2, aI v2)]) dX10_at_5 rfl (Nat.le_of_ble_eq_true rfl) rfl ?_
  refine j_sub [0, 1, 3] (lv' := [(3, aO 15 r1), (0, aR 0 v0), (2, aI v2)]) rfl ?_
  refine j_aload_n (pc := 6) 0 dX10_at_6 rfl rfl ?_
  refine j_ifnonnull (pc := 7) (tgt := 13) dX10_at_7 rfl (fun hm => ?_) (fun i3 hm => ?_)
  · subst hm
    refine j_bipush (pc := 10) (v := (-101)) (by decide) dX10_at_10 ?_
    exact j_ireturn (pc := 12) rfl (Nat.le_of_ble_eq_true rfl) (Nat.le_of_ble_eq_true rfl) dX10_at_12
  · subst hm
    refine j_aload_n (pc := 13) 0 dX10_at_13 rfl rfl ?_
    refine j_iload_n (pc := 14) 2 dX10_at_14 rfl rfl ?_
    refine j_callVZ (pc := 15) (As := [aI v2]) (st := []) (fun l => c9_has l i3 v2) cs_RX10_177 rfl rfl rfl rfl (Nat.le_of_ble_eq_true rfl) ⟨(Nat.le_of_ble_eq_true rfl), (Nat.le_of_ble_eq_true rfl)⟩ ⟨(Nat.le_of_ble_eq_true rfl), (Nat.le_of_ble_eq_true rfl)⟩ dX10_at_15 (fun r4 σ5 => ?_)
    refine j_ifneB (pc := 18) (tgt := 27) dX10_at_18 rfl (fun _ => ?_) (fun _ => ?_)
    · refine j_aload_n (pc := 27) 0 dX10_at_27 rfl rfl ?_
      refine j_iload_n (pc := 28) 2 dX10_at_28 rfl rfl ?_
      refine j_callVI (pc := 29) (As := [aI v2]) (st := []) (fun l => c9_byteAt l i3 v2) cs_RX10_178 rfl rfl rfl rfl (Nat.le_of_ble_eq_true rfl) ⟨(Nat.le_of_ble_eq_true rfl), (Nat.le_of_ble_eq_true rfl)⟩ ⟨(Nat.le_of_ble_eq_true rfl), (Nat.le_of_ble_eq_true rfl)⟩ dX10_at_29 (fun r6 σ7 => ?_)
      exact j_ireturn (pc := 32) rfl (Nat.le_of_ble_eq_true rfl) (Nat.le_of_ble_eq_true rfl) dX10_at_32
    · refine j_aload_n (pc := 21) 1 dX10_at_21 rfl rfl ?_
      refine j_iconst (pc := 22) (v := 2) (by decide) dX10_at_22 ?_
      refine j_callVI (pc := 23) (As := [aI 2]) (st := []) (fun l => c10_found l v0 2) cs_RX10_66 rfl rfl rfl rfl (Nat.le_of_ble_eq_true rfl) ⟨(Nat.le_of_ble_eq_true rfl), (Nat.le_of_ble_eq_true rfl)⟩ ⟨(Nat.le_of_ble_eq_true rfl), (Nat.le_of_ble_eq_true rfl)⟩ dX10_at_23 (fun r8 σ9 => ?_)
      exact j_ireturn (pc := 26) rfl (Nat.le_of_ble_eq_true rfl) (Nat.le_of_ble_eq_true rfl) dX10_at_26
theorem c10_at (l : Launch) (v0 : Nat) (v1 : Int32) (v2 : Int32) : Ctr l yX10_at cX10_at 4 (some .int) rm10_at eI [aR 0 v0, aI v1, aI v2] (f10_at v0 v1 v2) := ctr_of (lv := [(0, aR 0 v0), (1, aI v1), (2, aI v2)]) (by decide +kernel) (fun _ => rfl) (fun _ => (Nat.le_of_ble_eq_true rfl)) (fun _ h => lvl_als h rfl) (fun _ σ _ => j10_at v0 v1 v2 σ)
abbrev rm10_rowNumbered : Room := { frames := 0, cells := 0, slots := 0, locals := 0 }
set_option maxRecDepth 20000 in
set_option maxHeartbeats 4000000 in
theorem j10_rowNumbered {Γ : jX} {tg : Option Nat × rS} (v0 : Nat) (v1 : Int32) (σ : rS) : J Γ rm10_rowNumbered (eR 13) cX10_rowNumbered RX10 2 (some (.object "PackDesk$Row")) tg 0 0 0 [(0, aR 0 v0), (1, aI v1)] [] σ (f10_rowNumbered v0 v1 σ) := by
  unfold f10_rowNumbered
  refine j_iload_n (pc := 0) 1 dX10_rowNumbered_0 rfl rfl ?_
  refine j_iflt (pc := 1) (tgt := 21) dX10_rowNumbered_1 rfl (fun _ => ?_) (fun _ => ?_)
  · refine j_null (pc := 21) 13 dX10_rowNumbered_21 ?_
    exact j_areturn (pc := 22) rfl (Nat.le_of_ble_eq_true rfl) (Nat.le_of_ble_eq_true rfl) dX10_rowNumbered_22
  · refine j_iload_n (pc := 4) 1 dX10_rowNumbered_4 rfl rfl ?_
    refine j_aload_n (pc := 5) 0 dX10_rowNumbered_5 rfl rfl ?_
    refine j_getI (pc := 6) fd_0_8 tw_1_117 dX10_rowNumbered_6 ?_
    refine j_icmpge (pc := 9) (tgt := 21) dX10_rowNumbered_9 rfl (fun _ => ?_) (fun _ => ?_)
    · refine j_null (pc := 21) 13 dX10_rowNumbered_21 ?_
      exact j_areturn (pc := 22) rfl (Nat.le_of_ble_eq_true rfl) (Nat.le_of_ble_eq_true rfl) dX10_rowNumbered_22
    · refine j_aload_n (pc := 12) 0 dX10_rowNumbered_12 rfl rfl ?_
      refine j_getF (pc := 13) fd_0_0 tw_1_109 dX10_rowNumbered_13 ?_
      refine j_iload_n (pc := 16) 1 dX10_rowNumbered_16 rfl rfl ?_
      refine j_aald (pc := 17) rfl rfl rfl dX10_rowNumbered_17 (fun j1 o2 => ?_)
      refine j_goto (pc := 18) (tgt := 22) dX10_rowNumbered_18 rfl ?_
      exact j_areturn (pc := 22) rfl (Nat.le_of_ble_eq_true rfl) (Nat.le_of_ble_eq_true rfl) dX10_rowNumbered_22
theorem c10_rowNumbered (l : Launch) (v0 : Nat) (v1 : Int32) : Ctr l yX10_rowNumbered cX10_rowNumbered 2 (some (.object "PackDesk$Row")) rm10_rowNumbered (eR 13) [aR 0 v0, aI v1] (f10_rowNumbered v0 v1) := ctr_of (lv := [(0, aR 0 v0), (1, aI v1)]) (by decide +kernel) (fun _ => rfl) (fun _ => (Nat.le_of_ble_eq_true rfl)) (fun _ h => lvl_als h rfl) (fun _ σ _ => j10_rowNumbered v0 v1 σ)
abbrev rm5_makeSteps : Room := { frames := 0, cells := 0, slots := 0, locals := 0 }
set_option maxRecDepth 20000 in
set_option maxHeartbeats 4000000 in
theorem jb5_makeSteps_4 {Γ : jX} {tg : Unit × rS} (N : Nat) (K4 : Nat → Int32 → rS → Option (Unit × rS)) (hK4 : ∀ (v0 : Nat) (v2 : Int32) (σ : rS), J Γ rm5_makeSteps eV cX5_makeSteps RX5 3 none tg 0 0 4 [(0, aR 8 v0), (2, aI v2)] [] σ (K4 v0 v2 σ)) (v0 : Nat) (v2 : Int32) (σ : rS) : J Γ rm5_makeSteps eV cX5_makeSteps RX5 3 none tg 0 0 4 [(0, aR 8 v0), (2, aI v2)] [] σ (B5_makeSteps_4 N K4 v0 v2 σ) := by
  unfold B5_makeSteps_4
  refine j_iload_n (pc := 4) 1 dX5_makeSteps_4 rfl rfl ?_
  refine j_ifle (pc := 5) (tgt := 31) dX5_makeSteps_5 rfl (fun _ => ?_) (fun _ => ?_)
  · exact j_return (pc := 31) rfl (Nat.le_of_ble_eq_true rfl) (Nat.le_of_ble_eq_true rfl) dX5_makeSteps_31
  · refine j_aload_n (pc := 8) 0 dX5_makeSteps_8 rfl rfl ?_
    refine j_getF (pc := 9) fd_8_3 tw_1_66 dX5_makeSteps_9 ?_
    refine j_iload_n (pc := 12) 1 dX5_makeSteps_12 rfl rfl ?_
    refine j_dup2 (pc := 13) dX5_makeSteps_13 rfl rfl ?_
    refine j_lald (pc := 14) rfl rfl rfl dX5_makeSteps_14 (fun j1 => ?_)
    refine j_aload_n (pc := 15) 0 dX5_makeSteps_15 rfl rfl ?_
    refine j_getF (pc := 16) fd_8_3 tw_1_66 dX5_makeSteps_16 ?_
    refine j_iload_n (pc := 19) 1 dX5_makeSteps_19 rfl rfl ?_
    refine j_iconst (pc := 20) (v := 1) (by decide) dX5_makeSteps_20 ?_
    refine j_isub (pc := 21) dX5_makeSteps_21 ?_
    refine j_lald (pc := 22) rfl rfl rfl dX5_makeSteps_22 (fun j2 => ?_)
    refine j_lsub (pc := 23) dX5_makeSteps_23 ?_
    refine j_last (pc := 24) rfl rfl rfl dX5_makeSteps_24 (fun j3 => ?_)
    refine j_lets (fun σ4 => ?_)
    refine j_iinc (pc := 25) (w := (-1)) (lv' := [(2, aI (v2 + (-1))), (0, aR 8 v0)]) 1 dX5_makeSteps_25 rfl (by decide) (Nat.le_of_ble_eq_true rfl) rfl ?_
    refine j_goto (pc := 28) (tgt := 4) dX5_makeSteps_28 rfl ?_
    refine j_sub [1, 0] (lv' := [(0, aR 8 v0), (2, aI (v2 + (-1)))]) rfl ?_
    exact hK4 v0 (v2 + (-1)) σ4
theorem jl5_makeSteps_4 {Γ : jX} {tg : Unit × rS} (N : Nat) : ∀ (n : Nat) (v0 : Nat) (v2 : Int32) (σ : rS), J Γ rm5_makeSteps eV cX5_makeSteps RX5 3 none tg 0 0 4 [(0, aR 8 v0), (2, aI v2)] [] σ (L5_makeSteps_4 N n v0 v2 σ) := by
  intro n
  induction n with
  | zero => intro v0 v2 σ; exact j_none
  | succ n ih => intro v0 v2 σ; exact jb5_makeSteps_4 N (L5_makeSteps_4 N n) ih v0 v2 σ
set_option maxRecDepth 20000 in
set_option maxHeartbeats 4000000 in
theorem j5_makeSteps {Γ : jX} {tg : Unit × rS} (N : Nat) (v0 : Nat) (v1 : Int32) (σ : rS) : J Γ rm5_makeSteps eV cX5_makeSteps RX5 3 none tg 0 0 0 [(0, aR 8 v0), (1, aI v1)] [] σ (f5_makeSteps N v0 v1 σ) := by
  unfold f5_makeSteps
  refine j_iload_n (pc := 0) 1 dX5_makeSteps_0 rfl rfl ?_
  refine j_iconst (pc := 1) (v := 1) (by decide) dX5_makeSteps_1 ?_
  refine j_isub (pc := 2) dX5_makeSteps_2 ?_
  refine j_leti (fun x1 => ?_)
  refine j_istore_n (pc := 3) (lv' := [(2, aI x1), (0, aR 8 v0), (1, aI v1)]) dX5_makeSteps_3 rfl (Nat.le_of_ble_eq_true rfl) rfl ?_
  refine j_sub [0, 1] (lv' := [(2, aI x1), (0, aR 8 v0)]) rfl ?_
  refine j_sub [1, 0] (lv' := [(0, aR 8 v0), (2, aI x1)]) rfl ?_
  exact jl5_makeSteps_4 N  N v0 x1 σ
theorem c5_makeSteps (l : Launch) (N : Nat) (v0 : Nat) (v1 : Int32) : Ctr l yX5_makeSteps cX5_makeSteps 3 none rm5_makeSteps eV [aR 8 v0, aI v1] (f5_makeSteps N v0 v1) := ctr_of (lv := [(0, aR 8 v0), (1, aI v1)]) (by decide +kernel) (fun _ => rfl) (fun _ => (Nat.le_of_ble_eq_true rfl)) (fun _ h => lvl_als h rfl) (fun _ σ _ => j5_makeSteps N v0 v1 σ)
abbrev rm5_packByte : Room := { frames := 0, cells := 0, slots := 0, locals := 0 }
set_option maxRecDepth 20000 in
set_option maxHeartbeats 4000000 in
theorem j5_packByte {Γ : jX} {tg : Unit × rS} (v0 : Nat) (v1 : Int64) (σ : rS) : J Γ rm5_packByte eV cX5_packByte RX5 3 none tg 0 0 0 [(0, aR 8 v0), (1, aL v1)] [] σ (f5_packByte v0 v1 σ) := by
  unfold f5_packByte
  refine j_aload_n (pc := 0) 0 dX5_packByte_0 rfl rfl ?_
  refine j_getI (pc := 1) fd_8_1 tw_1_62 dX5_packByte_1 ?_
  refine j_aload_n (pc := 4) 0 dX5_packByte_4 rfl rfl ?_
  refine j_getF (pc := 5) fd_8_0 tw_1_60 dX5_packByte_5 ?_
  refine j_alen (pc := 8) rfl (by decide) dX5_packByte_8 ?_
  refine j_icmplt (pc := 9) (tgt := 13) dX5_packByte_9 rfl (fun _ => ?_) (fun _ => ?_)
  · refine j_aload_n (pc := 13) 0 dX5_packByte_13 rfl rfl ?_
    refine j_getF (pc := 14) fd_8_0 tw_1_60 dX5_packByte_14 ?_
    refine j_aload_n (pc := 17) 0 dX5_packByte_17 rfl rfl ?_
    refine j_getI (pc := 18) fd_8_1 tw_1_62 dX5_packByte_18 ?_
    refine j_lload_n (pc := 21) 1 dX5_packByte_21 rfl rfl ?_
    refine j_l2i (pc := 22) dX5_packByte_22 ?_
    refine j_i2b (pc := 23) dX5_packByte_23 ?_
    refine j_bast (pc := 24) rfl rfl rfl dX5_packByte_24 (fun j1 => ?_)
    refine j_lets (fun σ2 => ?_)
    refine j_aload_n (pc := 25) 0 dX5_packByte_25 rfl rfl ?_
    refine j_dup (pc := 26) dX5_packByte_26 rfl ?_
    refine j_getI (pc := 27) fd_8_1 tw_1_62 dX5_packByte_27 ?_
    refine j_iconst (pc := 30) (v := 1) (by decide) dX5_packByte_30 ?_
    refine j_iadd (pc := 31) dX5_packByte_31 ?_
    refine j_putI (pc := 32) fd_8_1 rfl rfl tw_1_62 dX5_packByte_32 ?_
    refine j_lets (fun σ3 => ?_)
    exact j_return (pc := 35) rfl (Nat.le_of_ble_eq_true rfl) (Nat.le_of_ble_eq_true rfl) dX5_packByte_35
  · exact j_return (pc := 12) rfl (Nat.le_of_ble_eq_true rfl) (Nat.le_of_ble_eq_true rfl) dX5_packByte_12
theorem c5_packByte (l : Launch) (v0 : Nat) (v1 : Int64) : Ctr l yX5_packByte cX5_packByte 3 none rm5_packByte eV [aR 8 v0, aL v1] (f5_packByte v0 v1) := ctr_of (lv := [(0, aR 8 v0), (1, aL v1)]) (by decide +kernel) (fun _ => rfl) (fun _ => (Nat.le_of_ble_eq_true rfl)) (fun _ h => lvl_als h rfl) (fun _ σ _ => j5_packByte v0 v1 σ)
theorem cs_RX5_50 : CaV RX5 RX5 50 yX5_packByte cX5_packByte 3 none 1 := ⟨tw_2_184, tw_2_186, tw_p8, tw_1_3, tw_2_187, rfl, by decide +kernel, by decide +kernel, by decide +kernel⟩
abbrev rm5_packPlain : Room := { frames := 1, cells := 0, slots := 0, locals := 22 }
set_option maxRecDepth 20000 in
set_option maxHeartbeats 4000000 in
theorem jb5_packPlain_12 {Γ : jX} {tg : Unit × rS} (N : Nat) (K12 : Nat → Int64 → Int32 → rS → Option (Unit × rS)) (hK12 : ∀ (v0 : Nat) (v3 : Int64) (v5 : Int32) (σ : rS), J Γ rm5_packPlain eV cX5_packPlain RX5 6 none tg 0 0 12 [(0, aR 8 v0), (3, aL v3), (5, aI v5)] [] σ (K12 v0 v3 v5 σ)) (v0 : Nat) (v3 : Int64) (v5 : Int32) (σ : rS) : J Γ rm5_packPlain eV cX5_packPlain RX5 6 none tg 0 0 12 [(0, aR 8 v0), (3, aL v3), (5, aI v5)] [] σ (B5_packPlain_12 N K12 v0 v3 v5 σ) := by
  unfold B5_packPlain_12
  refine j_iload (pc := 12) 2 dX5_packPlain_12 rfl ?_
  refine j_bipush (pc := 14) (v := 9) (by decide) dX5_packPlain_14 ?_
  refine j_icmpge (pc := 16) (tgt := 52) dX5_packPlain_16 rfl (fun _ => ?_) (fun _ => ?_)
  · refine j_aload_n (pc := 52) 0 dX5_packPlain_52 rfl rfl ?_
    refine j_lload_n (pc := 53) 1 dX5_packPlain_53 rfl rfl ?_
    refine j_callVV (pc := 54) (As := [aL v3]) (st := []) (fun l => c5_packByte l v0 v3) cs_RX5_50 rfl rfl rfl rfl (Nat.le_of_ble_eq_true rfl) ⟨(Nat.le_of_ble_eq_true rfl), (Nat.le_of_ble_eq_true rfl)⟩ ⟨(Nat.le_of_ble_eq_true rfl), (Nat.le_of_ble_eq_true rfl)⟩ dX5_packPlain_54 (fun r1 σ2 => ?_)
    exact j_return (pc := 57) rfl (Nat.le_of_ble_eq_true rfl) (Nat.le_of_ble_eq_true rfl) dX5_packPlain_57
  · refine j_lload_n (pc := 19) 1 dX5_packPlain_19 rfl rfl ?_
    refine j_bipush (pc := 20) (v := 7) (by decide) dX5_packPlain_20 ?_
    refine j_lushr (pc := 22) dX5_packPlain_22 ?_
    refine j_lconst (pc := 23) (v := 0) (by decide) dX5_packPlain_23 ?_
    refine j_lcmpeq (pc := 24) (tgt := 52) dX5_packPlain_24 dX5_packPlain_25 rfl (fun _ => ?_) (fun _ => ?_)
    · refine j_aload_n (pc := 52) 0 dX5_packPlain_52 rfl rfl ?_
      refine j_lload_n (pc := 53) 1 dX5_packPlain_53 rfl rfl ?_
      refine j_callVV (pc := 54) (As := [aL v3]) (st := []) (fun l => c5_packByte l v0 v3) cs_RX5_50 rfl rfl rfl rfl (Nat.le_of_ble_eq_true rfl) ⟨(Nat.le_of_ble_eq_true rfl), (Nat.le_of_ble_eq_true rfl)⟩ ⟨(Nat.le_of_ble_eq_true rfl), (Nat.le_of_ble_eq_true rfl)⟩ dX5_packPlain_54 (fun r3 σ4 => ?_)
      exact j_return (pc := 57) rfl (Nat.le_of_ble_eq_true rfl) (Nat.le_of_ble_eq_true rfl) dX5_packPlain_57
    · refine j_aload_n (pc := 28) 0 dX5_packPlain_28 rfl rfl ?_
      refine j_lload_n (pc := 29) 1 dX5_packPlain_29 rfl rfl ?_
      refine j_ldc2 (pc := 30) tw_2_182 dX5_packPlain_30 ?_
      refine j_land (pc := 33) dX5_packPlain_33 ?_
      refine j_ldc2 (pc := 34) tw_2_183 dX5_packPlain_34 ?_
      refine j_lor (pc := 37) dX5_packPlain_37 ?_
      refine j_callVV (pc := 38) (As := [aL ((v3 &&& 127) ||| 128)]) (st := []) (fun l => c5_packByte l v0 ((v3 &&& 127) ||| 128)) cs_RX5_50 rfl rfl rfl rfl (Nat.le_of_ble_eq_true rfl) ⟨(Nat.le_of_ble_eq_true rfl), (Nat.le_of_ble_eq_true rfl)⟩ ⟨(Nat.le_of_ble_eq_true rfl), (Nat.le_of_ble_eq_true rfl)⟩ dX5_packPlain_38 (fun r5 σ6 => ?_)
      refine j_lload_n (pc := 41) 1 dX5_packPlain_41 rfl rfl ?_
      refine j_bipush (pc := 42) (v := 7) (by decide) dX5_packPlain_42 ?_
      refine j_lushr (pc := 44) dX5_packPlain_44 ?_
      refine j_letl (fun x7 => ?_)
      refine j_lstore_n (pc := 45) (lv' := [(3, aL x7), (0, aR 8 v0), (5, aI v5)]) dX5_packPlain_45 rfl (Nat.le_of_ble_eq_true rfl) rfl ?_
      refine j_iinc (pc := 46) (w := 1) (lv' := [(5, aI (v5 + 1)), (3, aL x7), (0, aR 8 v0)]) 2 dX5_packPlain_46 rfl (by decide) (Nat.le_of_ble_eq_true rfl) rfl ?_
      refine j_goto (pc := 49) (tgt := 12) dX5_packPlain_49 rfl ?_
      refine j_sub [2, 1, 0] (lv' := [(0, aR 8 v0), (3, aL x7), (5, aI (v5 + 1))]) rfl ?_
      exact hK12 v0 x7 (v5 + 1) σ6
theorem jl5_packPlain_12 {Γ : jX} {tg : Unit × rS} (N : Nat) : ∀ (n : Nat) (v0 : Nat) (v3 : Int64) (v5 : Int32) (σ : rS), J Γ rm5_packPlain eV cX5_packPlain RX5 6 none tg 0 0 12 [(0, aR 8 v0), (3, aL v3), (5, aI v5)] [] σ (L5_packPlain_12 N n v0 v3 v5 σ) := by
  intro n
  induction n with
  | zero => intro v0 v3 v5 σ; exact j_none
  | succ n ih => intro v0 v3 v5 σ; exact jb5_packPlain_12 N (L5_packPlain_12 N n) ih v0 v3 v5 σ
set_option maxRecDepth 20000 in
set_option maxHeartbeats 4000000 in
theorem j5_packPlain {Γ : jX} {tg : Unit × rS} (N : Nat) (v0 : Nat) (v1 : Int64) (σ : rS) : J Γ rm5_packPlain eV cX5_packPlain RX5 6 none tg 0 0 0 [(0, aR 8 v0), (1, aL v1)] [] σ (f5_packPlain N v0 v1 σ) := by
  unfold f5_packPlain
  refine j_lload_n (pc := 0) 1 dX5_packPlain_0 rfl rfl ?_
  refine j_iconst (pc := 1) (v := 1) (by decide) dX5_packPlain_1 ?_
  refine j_lshl (pc := 2) dX5_packPlain_2 ?_
  refine j_lload_n (pc := 3) 1 dX5_packPlain_3 rfl rfl ?_
  refine j_bipush (pc := 4) (v := 63) (by decide) dX5_packPlain_4 ?_
  refine j_lshr (pc := 6) dX5_packPlain_6 ?_
  refine j_lxor (pc := 7) dX5_packPlain_7 ?_
  refine j_letl (fun x1 => ?_)
  refine j_lstore_n (pc := 8) (lv' := [(3, aL x1), (0, aR 8 v0), (1, aL v1)]) dX5_packPlain_8 rfl (Nat.le_of_ble_eq_true rfl) rfl ?_
  refine j_sub [0, 1] (lv' := [(3, aL x1), (0, aR 8 v0)]) rfl ?_
  refine j_iconst (pc := 9) (v := 0) (by decide) dX5_packPlain_9 ?_
  refine j_istore (pc := 10) (lv' := [(5, aI 0), (3, aL x1), (0, aR 8 v0)]) dX5_packPlain_10 (Nat.le_of_ble_eq_true rfl) rfl ?_
  refine j_sub [2, 1, 0] (lv' := [(0, aR 8 v0), (3, aL x1), (5, aI 0)]) rfl ?_
  exact jl5_packPlain_12 N  N v0 x1 0 σ
theorem c5_packPlain (l : Launch) (N : Nat) (v0 : Nat) (v1 : Int64) : Ctr l yX5_packPlain cX5_packPlain 6 none rm5_packPlain eV [aR 8 v0, aL v1] (f5_packPlain N v0 v1) := ctr_of (lv := [(0, aR 8 v0), (1, aL v1)]) (by decide +kernel) (fun _ => rfl) (fun _ => (Nat.le_of_ble_eq_true rfl)) (fun _ h => lvl_als h rfl) (fun _ σ _ => j5_packPlain N v0 v1 σ)
theorem cs_RX5_42 : CaV RX5 RX5 42 yX5_packPlain cX5_packPlain 6 none 1 := ⟨tw_2_178, tw_2_180, tw_p7, tw_1_3, tw_2_181, rfl, by decide +kernel, by decide +kernel, by decide +kernel⟩
abbrev rm5_packRuns : Room := { frames := 2, cells := 0, slots := 0, locals := 47 }
set_option maxRecDepth 20000 in
set_option maxHeartbeats 4000000 in
theorem jb5_packRuns_55 {Γ : jX} {tg : Unit × rS} (N : Nat) (K4 : Nat → Int32 → Int32 → Int32 → rS → Option (Unit × rS)) (hK4 : ∀ (v0 : Nat) (v1 : Int32) (v2 : Int32) (v3 : Int32) (σ : rS), J Γ rm5_packRuns eV cX5_packRuns RX5 4 none tg 0 0 4 [(0, aR 8 v0), (1, aI v1), (2, aI v2), (3, aI v3)] [] σ (K4 v0 v1 v2 v3 σ)) (v0 : Nat) (v1 : Int32) (v2 : Int32) (v3 : Int32) (σ : rS) : J Γ rm5_packRuns eV cX5_packRuns RX5 4 none tg 0 0 55 [(0, aR 8 v0), (1, aI v1), (2, aI v2), (3, aI v3)] [] σ (B5_packRuns_55 N K4 v0 v1 v2 v3 σ) := by
  unfold B5_packRuns_55
  refine j_iinc (pc := 55) (w := 1) (lv' := [(3, aI (v3 + 1)), (0, aR 8 v0), (1, aI v1), (2, aI v2)]) 3 dX5_packRuns_55 rfl (by decide) (Nat.le_of_ble_eq_true rfl) rfl ?_
  refine j_goto (pc := 58) (tgt := 4) dX5_packRuns_58 rfl ?_
  refine j_sub [1, 2, 3, 0] (lv' := [(0, aR 8 v0), (1, aI v1), (2, aI v2), (3, aI (v3 + 1))]) rfl ?_
  exact hK4 v0 v1 v2 (v3 + 1) σ
set_option maxRecDepth 20000 in
set_option maxHeartbeats 4000000 in
theorem jb5_packRuns_33 {Γ : jX} {tg : Unit × rS} (N : Nat) (K4 : Nat → Int32 → Int32 → Int32 → rS → Option (Unit × rS)) (hK4 : ∀ (v0 : Nat) (v1 : Int32) (v2 : Int32) (v3 : Int32) (σ : rS), J Γ rm5_packRuns eV cX5_packRuns RX5 4 none tg 0 0 4 [(0, aR 8 v0), (1, aI v1), (2, aI v2), (3, aI v3)] [] σ (K4 v0 v1 v2 v3 σ)) (v0 : Nat) (v1 : Int32) (v2 : Int32) (v3 : Int32) (σ : rS) : J Γ rm5_packRuns eV cX5_packRuns RX5 4 none tg 0 0 33 [(0, aR 8 v0), (1, aI v1), (2, aI v2), (3, aI v3)] [] σ (B5_packRuns_33 N K4 v0 v1 v2 v3 σ) := by
  unfold B5_packRuns_33
  refine j_aload_n (pc := 33) 0 dX5_packRuns_33 rfl rfl ?_
  refine j_aload_n (pc := 34) 0 dX5_packRuns_34 rfl rfl ?_
  refine j_getF (pc := 35) fd_8_3 tw_1_66 dX5_packRuns_35 ?_
  refine j_iload_n (pc := 38) 2 dX5_packRuns_38 rfl rfl ?_
  refine j_lald (pc := 39) rfl rfl rfl dX5_packRuns_39 (fun j1 => ?_)
  refine j_callVV (pc := 40) (As := [aL (gL σ 11 v0 j1)]) (st := []) (fun l => c5_packPlain l N v0 (gL σ 11 v0 j1)) cs_RX5_42 rfl rfl rfl rfl (Nat.le_of_ble_eq_true rfl) ⟨(Nat.le_of_ble_eq_true rfl), (Nat.le_of_ble_eq_true rfl)⟩ ⟨(Nat.le_of_ble_eq_true rfl), (Nat.le_of_ble_eq_true rfl)⟩ dX5_packRuns_40 (fun r2 σ3 => ?_)
  refine j_aload_n (pc := 43) 0 dX5_packRuns_43 rfl rfl ?_
  refine j_iload_n (pc := 44) 3 dX5_packRuns_44 rfl rfl ?_
  refine j_iload_n (pc := 45) 2 dX5_packRuns_45 rfl rfl ?_
  refine j_isub (pc := 46) dX5_packRuns_46 ?_
  refine j_iconst (pc := 47) (v := 1) (by decide) dX5_packRuns_47 ?_
  refine j_isub (pc := 48) dX5_packRuns_48 ?_
  refine j_i2l (pc := 49) dX5_packRuns_49 ?_
  refine j_callVV (pc := 50) (As := [aL (Int32.toInt64 ((v3 - v2) - 1))]) (st := []) (fun l => c5_packPlain l N v0 (Int32.toInt64 ((v3 - v2) - 1))) cs_RX5_42 rfl rfl rfl rfl (Nat.le_of_ble_eq_true rfl) ⟨(Nat.le_of_ble_eq_true rfl), (Nat.le_of_ble_eq_true rfl)⟩ ⟨(Nat.le_of_ble_eq_true rfl), (Nat.le_of_ble_eq_true rfl)⟩ dX5_packRuns_50 (fun r4 σ5 => ?_)
  refine j_iload_n (pc := 53) 3 dX5_packRuns_53 rfl rfl ?_
  refine j_istore_n (pc := 54) (lv' := [(2, aI v3), (0, aR 8 v0), (1, aI v1), (3, aI v3)]) dX5_packRuns_54 rfl (Nat.le_of_ble_eq_true rfl) rfl ?_
  refine j_sub [1, 2, 0, 3] (lv' := [(0, aR 8 v0), (1, aI v1), (2, aI v3), (3, aI v3)]) rfl ?_
  exact jb5_packRuns_55 N K4 hK4 v0 v1 v3 v3 σ5
set_option maxRecDepth 20000 in
set_option maxHeartbeats 4000000 in
theorem jb5_packRuns_4 {Γ : jX} {tg : Unit × rS} (N : Nat) (K4 : Nat → Int32 → Int32 → Int32 → rS → Option (Unit × rS)) (hK4 : ∀ (v0 : Nat) (v1 : Int32) (v2 : Int32) (v3 : Int32) (σ : rS), J Γ rm5_packRuns eV cX5_packRuns RX5 4 none tg 0 0 4 [(0, aR 8 v0), (1, aI v1), (2, aI v2), (3, aI v3)] [] σ (K4 v0 v1 v2 v3 σ)) (v0 : Nat) (v1 : Int32) (v2 : Int32) (v3 : Int32) (σ : rS) : J Γ rm5_packRuns eV cX5_packRuns RX5 4 none tg 0 0 4 [(0, aR 8 v0), (1, aI v1), (2, aI v2), (3, aI v3)] [] σ (B5_packRuns_4 N K4 v0 v1 v2 v3 σ) := by
  unfold B5_packRuns_4
  refine j_iload_n (pc := 4) 3 dX5_packRuns_4 rfl rfl ?_
  refine j_iload_n (pc := 5) 1 dX5_packRuns_5 rfl rfl ?_
  refine j_icmpgt (pc := 6) (tgt := 61) dX5_packRuns_6 rfl (fun _ => ?_) (fun _ => ?_)
  · exact j_return (pc := 61) rfl (Nat.le_of_ble_eq_true rfl) (Nat.le_of_ble_eq_true rfl) dX5_packRuns_61
  · refine j_iload_n (pc := 9) 3 dX5_packRuns_9 rfl rfl ?_
    refine j_iload_n (pc := 10) 1 dX5_packRuns_10 rfl rfl ?_
    refine j_icmpge (pc := 11) (tgt := 33) dX5_packRuns_11 rfl (fun _ => ?_) (fun _ => ?_)
    · exact jb5_packRuns_33 N K4 hK4 v0 v1 v2 v3 σ
    · refine j_aload_n (pc := 14) 0 dX5_packRuns_14 rfl rfl ?_
      refine j_getF (pc := 15) fd_8_3 tw_1_66 dX5_packRuns_15 ?_
      refine j_iload_n (pc := 18) 3 dX5_packRuns_18 rfl rfl ?_
      refine j_lald (pc := 19) rfl rfl rfl dX5_packRuns_19 (fun j1 => ?_)
      refine j_aload_n (pc := 20) 0 dX5_packRuns_20 rfl rfl ?_
      refine j_getF (pc := 21) fd_8_3 tw_1_66 dX5_packRuns_21 ?_
      refine j_iload_n (pc := 24) 2 dX5_packRuns_24 rfl rfl ?_
      refine j_lald (pc := 25) rfl rfl rfl dX5_packRuns_25 (fun j2 => ?_)
      refine j_lcmpne (pc := 26) (tgt := 33) dX5_packRuns_26 dX5_packRuns_27 rfl (fun _ => ?_) (fun _ => ?_)
      · exact jb5_packRuns_33 N K4 hK4 v0 v1 v2 v3 σ
      · refine j_goto (pc := 30) (tgt := 55) dX5_packRuns_30 rfl ?_
        exact jb5_packRuns_55 N K4 hK4 v0 v1 v2 v3 σ
theorem jl5_packRuns_4 {Γ : jX} {tg : Unit × rS} (N : Nat) : ∀ (n : Nat) (v0 : Nat) (v1 : Int32) (v2 : Int32) (v3 : Int32) (σ : rS), J Γ rm5_packRuns eV cX5_packRuns RX5 4 none tg 0 0 4 [(0, aR 8 v0), (1, aI v1), (2, aI v2), (3, aI v3)] [] σ (L5_packRuns_4 N n v0 v1 v2 v3 σ) := by
  intro n
  induction n with
  | zero => intro v0 v1 v2 v3 σ; exact j_none
  | succ n ih => intro v0 v1 v2 v3 σ; exact jb5_packRuns_4 N (L5_packRuns_4 N n) ih v0 v1 v2 v3 σ
set_option maxRecDepth 20000 in
set_option maxHeartbeats 4000000 in
theorem j5_packRuns {Γ : jX} {tg : Unit × rS} (N : Nat) (v0 : Nat) (v1 : Int32) (σ : rS) : J Γ rm5_packRuns eV cX5_packRuns RX5 4 none tg 0 0 0 [(0, aR 8 v0), (1, aI v1)] [] σ (f5_packRuns N v0 v1 σ) := by
  unfold f5_packRuns
  refine j_iconst (pc := 0) (v := 0) (by decide) dX5_packRuns_0 ?_
  refine j_istore_n (pc := 1) (lv' := [(2, aI 0), (0, aR 8 v0), (1, aI v1)]) dX5_packRuns_1 rfl (Nat.le_of_ble_eq_true rfl) rfl ?_
  refine j_iconst (pc := 2) (v := 1) (by decide) dX5_packRuns_2 ?_
  refine j_istore_n (pc := 3) (lv' := [(3, aI 1), (2, aI 0), (0, aR 8 v0), (1, aI v1)]) dX5_packRuns_3 rfl (Nat.le_of_ble_eq_true rfl) rfl ?_
  refine j_sub [2, 3, 1, 0] (lv' := [(0, aR 8 v0), (1, aI v1), (2, aI 0), (3, aI 1)]) rfl ?_
  exact jl5_packRuns_4 N  N v0 v1 0 1 σ
theorem c5_packRuns (l : Launch) (N : Nat) (v0 : Nat) (v1 : Int32) : Ctr l yX5_packRuns cX5_packRuns 4 none rm5_packRuns eV [aR 8 v0, aI v1] (f5_packRuns N v0 v1) := ctr_of (lv := [(0, aR 8 v0), (1, aI v1)]) (by decide +kernel) (fun _ => rfl) (fun _ => (Nat.le_of_ble_eq_true rfl)) (fun _ h => lvl_als h rfl) (fun _ σ _ => j5_packRuns N v0 v1 σ)
