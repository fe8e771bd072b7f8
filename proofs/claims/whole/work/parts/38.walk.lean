abbrev rm11_seen : Room := { frames := 0, cells := 0, slots := 0, locals := 0 }
set_option maxRecDepth 20000 in
set_option maxHeartbeats 4000000 in
theorem j11_seen {Γ : jX} {tg : Int64 × rS} (v0 : Nat) (σ : rS) : J Γ rm11_seen eL cX11_seen RX11 1 (some .long) tg 0 0 0 [(0, aR 29 v0)] [] σ (f11_seen v0 σ) := by
  unfold f11_seen
  refine j_aload_n (pc := 0) 0 dX11_seen_0 rfl rfl ?_
  refine j_getL (pc := 1) fd_29_2 tw_4_65 dX11_seen_1 ?_
  exact j_lreturn (pc := 4) rfl (Nat.le_of_ble_eq_true rfl) (Nat.le_of_ble_eq_true rfl) dX11_seen_4
theorem c11_seen (l : Launch) (v0 : Nat) : Ctr l yX11_seen cX11_seen 1 (some .long) rm11_seen eL [aR 29 v0] (f11_seen v0) := ctr_of (lv := [(0, aR 29 v0)]) (by decide +kernel) (fun _ => rfl) (fun _ => (Nat.le_of_ble_eq_true rfl)) (fun _ h => lvl_als h rfl) (fun _ σ _ => j11_seen v0 σ)
theorem cs_RX11_192 : CaS RX11 192 yX11_rounded cX11_rounded 14 (some .long) 3 := ⟨tw_5_52, tw_5_53, tw_1_5, tw_5_54, by decide +kernel, by decide +kernel, by decide +kernel⟩
abbrev rm11_shapedReal : Room := { frames := 4, cells := 0, slots := 0, locals := 116 }
set_option maxRecDepth 20000 in
set_option maxHeartbeats 4000000 in
theorem j11_shapedReal {Γ : jX} {tg : Int64 × rS} (v0 : Int32) (v1 : Int64) (v3 : Int32) (σ : rS) : J Γ rm11_shapedReal eL cX11_shapedReal RX11 4 (some .long) tg 0 0 0 [(0, aI v0), (1, aL v1), (3, aI v3)] [] σ (f11_shapedReal v0 v1 v3 σ) := by
  unfold f11_shapedReal
  refine j_iload_n (pc := 0) 0 dX11_shapedReal_0 rfl rfl ?_
  refine j_lload_n (pc := 1) 1 dX11_shapedReal_1 rfl rfl ?_
  refine j_callSZ (pc := 2) (As := [aI v0, aL v1]) (st := []) (fun l => c11_isGap l v0 v1) cs_RX11_99 rfl rfl (Nat.le_of_ble_eq_true rfl) ⟨(Nat.le_of_ble_eq_true rfl), (Nat.le_of_ble_eq_true rfl)⟩ ⟨(Nat.le_of_ble_eq_true rfl), (Nat.le_of_ble_eq_true rfl)⟩ dX11_shapedReal_2 (fun r1 σ2 => ?_)
  refine j_ifeqB (pc := 5) (tgt := 10) dX11_shapedReal_5 rfl (fun _ => ?_) (fun _ => ?_)
  · refine j_iload_n (pc := 10) 2 dX11_shapedReal_10 rfl rfl ?_
    refine j_ifne (pc := 11) (tgt := 34) dX11_shapedReal_11 rfl (fun _ => ?_) (fun _ => ?_)
    · refine j_iload_n (pc := 34) 2 dX11_shapedReal_34 rfl rfl ?_
      refine j_iconst (pc := 35) (v := 5) (by decide) dX11_shapedReal_35 ?_
      refine j_icmpne (pc := 36) (tgt := 46) dX11_shapedReal_36 rfl (fun _ => ?_) (fun _ => ?_)
      · refine j_iload_n (pc := 46) 2 dX11_shapedReal_46 rfl rfl ?_
        refine j_iconst (pc := 47) (v := 4) (by decide) dX11_shapedReal_47 ?_
        refine j_icmpne (pc := 48) (tgt := 83) dX11_shapedReal_48 rfl (fun _ => ?_) (fun _ => ?_)
        · refine j_iload_n (pc := 83) 0 dX11_shapedReal_83 rfl rfl ?_
          refine j_lload_n (pc := 84) 1 dX11_shapedReal_84 rfl rfl ?_
          refine j_iload_n (pc := 85) 2 dX11_shapedReal_85 rfl rfl ?_
          refine j_callSL (pc := 86) (As := [aI v0, aL v1, aI v3]) (st := []) (fun l => c11_rounded l v0 v1 v3) cs_RX11_192 rfl rfl (Nat.le_of_ble_eq_true rfl) ⟨(Nat.le_of_ble_eq_true rfl), (Nat.le_of_ble_eq_true rfl)⟩ ⟨(Nat.le_of_ble_eq_true rfl), (Nat.le_of_ble_eq_true rfl)⟩ dX11_shapedReal_86 (fun r3 σ4 => ?_)
          exact j_lreturn (pc := 89) rfl (Nat.le_of_ble_eq_true rfl) (Nat.le_of_ble_eq_true rfl) dX11_shapedReal_89
        · refine j_iload_n (pc := 51) 0 dX11_shapedReal_51 rfl rfl ?_
          refine j_lload_n (pc := 52) 1 dX11_shapedReal_52 rfl rfl ?_
          refine j_callSD (pc := 53) (As := [aI v0, aL v1]) (st := []) (fun l => c11_real l v0 v1) cs_RX11_131 rfl rfl (Nat.le_of_ble_eq_true rfl) ⟨(Nat.le_of_ble_eq_true rfl), (Nat.le_of_ble_eq_true rfl)⟩ ⟨(Nat.le_of_ble_eq_true rfl), (Nat.le_of_ble_eq_true rfl)⟩ dX11_shapedReal_53 (fun r5 σ6 => ?_)
          refine j_dconst0 (pc := 56) dX11_shapedReal_56 ?_
          refine j_dcmp (pc := 57) dX11_shapedReal_57 ?_
          refine j_ifne (pc := 58) (tgt := 65) dX11_shapedReal_58 rfl (fun _ => ?_) (fun _ => ?_)
          · refine j_iload_n (pc := 65) 0 dX11_shapedReal_65 rfl rfl ?_
            refine j_lload_n (pc := 66) 1 dX11_shapedReal_66 rfl rfl ?_
            refine j_lconst (pc := 67) (v := 0) (by decide) dX11_shapedReal_67 ?_
            refine j_lcmpge (pc := 68) (tgt := 78) dX11_shapedReal_68 dX11_shapedReal_69 rfl (fun _ => ?_) (fun _ => ?_)
            · refine j_dconst1 (pc := 78) dX11_shapedReal_78 ?_
              refine j_callSL (pc := 79) (As := [aI v0, aD 0x3ff0000000000000]) (st := []) (fun l => c11_wordOf l v0 0x3ff0000000000000) cs_RX11_186 rfl rfl (Nat.le_of_ble_eq_true rfl) ⟨(Nat.le_of_ble_eq_true rfl), (Nat.le_of_ble_eq_true rfl)⟩ ⟨(Nat.le_of_ble_eq_true rfl), (Nat.le_of_ble_eq_true rfl)⟩ dX11_shapedReal_79 (fun r7 σ8 => ?_)
              exact j_lreturn (pc := 82) rfl (Nat.le_of_ble_eq_true rfl) (Nat.le_of_ble_eq_true rfl) dX11_shapedReal_82
            · refine j_ldc2d (pc := 72) tw_5_28 dX11_shapedReal_72 ?_
              refine j_goto (pc := 75) (tgt := 79) dX11_shapedReal_75 rfl ?_
              refine j_callSL (pc := 79) (As := [aI v0, aD 13830554455654793216]) (st := []) (fun l => c11_wordOf l v0 13830554455654793216) cs_RX11_186 rfl rfl (Nat.le_of_ble_eq_true rfl) ⟨(Nat.le_of_ble_eq_true rfl), (Nat.le_of_ble_eq_true rfl)⟩ ⟨(Nat.le_of_ble_eq_true rfl), (Nat.le_of_ble_eq_true rfl)⟩ dX11_shapedReal_79 (fun r9 σ10 => ?_)
              exact j_lreturn (pc := 82) rfl (Nat.le_of_ble_eq_true rfl) (Nat.le_of_ble_eq_true rfl) dX11_shapedReal_82
          · refine j_lload_n (pc := 61) 1 dX11_shapedReal_61 rfl rfl ?_
            refine j_goto (pc := 62) (tgt := 82) dX11_shapedReal_62 rfl ?_
            exact j_lreturn (pc := 82) rfl (Nat.le_of_ble_eq_true rfl) (Nat.le_of_ble_eq_true rfl) dX11_shapedReal_82
      · refine j_lload_n (pc := 39) 1 dX11_shapedReal_39 rfl rfl ?_
        refine j_iload_n (pc := 40) 0 dX11_shapedReal_40 rfl rfl ?_
        refine j_callSL (pc := 41) (As := [aI v0]) (st := [aL v1]) (fun l => c11_signOf l v0) cs_RX11_182 rfl rfl (Nat.le_of_ble_eq_true rfl) ⟨(Nat.le_of_ble_eq_true rfl), (Nat.le_of_ble_eq_true rfl)⟩ ⟨(Nat.le_of_ble_eq_true rfl), (Nat.le_of_ble_eq_true rfl)⟩ dX11_shapedReal_41 (fun r11 σ12 => ?_)
        refine j_lxor (pc := 44) dX11_shapedReal_44 ?_
        exact j_lreturn (pc := 45) rfl (Nat.le_of_ble_eq_true rfl) (Nat.le_of_ble_eq_true rfl) dX11_shapedReal_45
    · refine j_iload_n (pc := 14) 0 dX11_shapedReal_14 rfl rfl ?_
      refine j_bipush (pc := 15) (v := 6) (by decide) dX11_shapedReal_15 ?_
      refine j_icmpne (pc := 17) (tgt := 28) dX11_shapedReal_17 rfl (fun _ => ?_) (fun _ => ?_)
      · refine j_lload_n (pc := 28) 1 dX11_shapedReal_28 rfl rfl ?_
        refine j_ldc2 (pc := 29) tw_4_224 dX11_shapedReal_29 ?_
        refine j_land (pc := 32) dX11_shapedReal_32 ?_
        exact j_lreturn (pc := 33) rfl (Nat.le_of_ble_eq_true rfl) (Nat.le_of_ble_eq_true rfl) dX11_shapedReal_33
      · refine j_lload_n (pc := 20) 1 dX11_shapedReal_20 rfl rfl ?_
        refine j_ldc2 (pc := 21) tw_4_222 dX11_shapedReal_21 ?_
        refine j_land (pc := 24) dX11_shapedReal_24 ?_
        refine j_goto (pc := 25) (tgt := 33) dX11_shapedReal_25 rfl ?_
        exact j_lreturn (pc := 33) rfl (Nat.le_of_ble_eq_true rfl) (Nat.le_of_ble_eq_true rfl) dX11_shapedReal_33
  · refine j_lload_n (pc := 8) 1 dX11_shapedReal_8 rfl rfl ?_
    exact j_lreturn (pc := 9) rfl (Nat.le_of_ble_eq_true rfl) (Nat.le_of_ble_eq_true rfl) dX11_shapedReal_9
theorem c11_shapedReal (l : Launch) (v0 : Int32) (v1 : Int64) (v3 : Int32) : Ctr l yX11_shapedReal cX11_shapedReal 4 (some .long) rm11_shapedReal eL [aI v0, aL v1, aI v3] (f11_shapedReal v0 v1 v3) := ctr_of (lv := [(0, aI v0), (1, aL v1), (3, aI v3)]) (by decide +kernel) (fun _ => rfl) (fun _ => (Nat.le_of_ble_eq_true rfl)) (fun _ h => lvl_als h rfl) (fun _ σ _ => j11_shapedReal v0 v1 v3 σ)
theorem cs_RX11_198 : CaS RX11 198 yX11_shapedReal cX11_shapedReal 4 (some .long) 3 := ⟨tw_5_20, tw_5_21, tw_1_5, tw_5_22, by decide +kernel, by decide +kernel, by decide +kernel⟩
abbrev rm11_shape : Room := { frames := 5, cells := 0, slots := 0, locals := 139 }
set_option maxRecDepth 20000 in
set_option maxHeartbeats 4000000 in
theorem jb11_shape_142 {Γ : jX} {tg : Int32 × rS} (v4 : Int32) (v6 : Int64) (s0 : Nat) (σ : rS) : J Γ rm11_shape eI cX11_shape RX11 8 (some .int) tg 0 0 142 [(4, aI v4), (6, aL v6)] [aR 29 s0] σ (B11_shape_142 v4 v6 s0 σ) := by
  unfold B11_shape_142
  refine j_iload (pc := 142) 0 dX11_shape_142 rfl ?_
  refine j_lload (pc := 144) 1 dX11_shape_144 rfl ?_
  refine j_lneg (pc := 146) dX11_shape_146 ?_
  refine j_callSL (pc := 147) (As := [aI v4, aL (-v6)]) (st := [aR 29 s0]) (fun l => c11_cut l v4 (-v6)) cs_RX11_127 rfl rfl (Nat.le_of_ble_eq_true rfl) ⟨(Nat.le_of_ble_eq_true rfl), (Nat.le_of_ble_eq_true rfl)⟩ ⟨(Nat.le_of_ble_eq_true rfl), (Nat.le_of_ble_eq_true rfl)⟩ dX11_shape_147 (fun r1 σ2 => ?_)
  refine j_goto (pc := 150) (tgt := 155) dX11_shape_150 rfl ?_
  refine j_putL (pc := 155) fd_29_2 tw_4_65 dX11_shape_155 ?_
  refine j_lets (fun σ3 => ?_)
  refine j_iconst (pc := 158) (v := 0) (by decide) dX11_shape_158 ?_
  exact j_ireturn (pc := 159) rfl (Nat.le_of_ble_eq_true rfl) (Nat.le_of_ble_eq_true rfl) dX11_shape_159
set_option maxRecDepth 20000 in
set_option maxHeartbeats 4000000 in
theorem jb11_shape_53 {Γ : jX} {tg : Int32 × rS} (v0 : Nat) (v1 : Int32) (v2 : Int32) (v3 : Int32) (v4 : Int32) (σ : rS) : J Γ rm11_shape eI cX11_shape RX11 8 (some .int) tg 0 0 53 [(0, aR 29 v0), (1, aI v1), (2, aI v2), (3, aI v3), (4, aI v4)] [] σ (B11_shape_53 v0 v1 v2 v3 v4 σ) := by
  unfold B11_shape_53
  refine j_aload_n (pc := 53) 0 dX11_shape_53 rfl rfl ?_
  refine j_iload_n (pc := 54) 1 dX11_shape_54 rfl rfl ?_
  refine j_iload_n (pc := 55) 2 dX11_shape_55 rfl rfl ?_
  refine j_callVI (pc := 56) (As := [aI v1, aI v2]) (st := []) (fun l => c11_against l v0 v1 v2) cs_RX11_158 rfl rfl rfl rfl (Nat.le_of_ble_eq_true rfl) ⟨(Nat.le_of_ble_eq_true rfl), (Nat.le_of_ble_eq_true rfl)⟩ ⟨(Nat.le_of_ble_eq_true rfl), (Nat.le_of_ble_eq_true rfl)⟩ dX11_shape_56 (fun r1 σ2 => ?_)
  refine j_istore (pc := 59) (lv' := [(5, aI r1), (0, aR 29 v0), (1, aI v1), (2, aI v2), (3, aI v3), (4, aI v4)]) dX11_shape_59 (Nat.le_of_ble_eq_true rfl) rfl ?_
  refine j_iload (pc := 61) 0 dX11_shape_61 rfl ?_
  refine j_ifeq (pc := 63) (tgt := 69) dX11_shape_63 rfl (fun _ => ?_) (fun _ => ?_)
  · refine j_aload_n (pc := 69) 1 dX11_shape_69 rfl rfl ?_
    refine j_getF (pc := 70) fd_29_7 tw_4_70 dX11_shape_70 ?_
    refine j_bipush (pc := 73) (v := 24) (by decide) dX11_shape_73 ?_
    refine j_iload_n (pc := 75) 2 dX11_shape_75 rfl rfl ?_
    refine j_imul (pc := 76) dX11_shape_76 ?_
    refine j_iload_n (pc := 77) 3 dX11_shape_77 rfl rfl ?_
    refine j_iadd (pc := 78) dX11_shape_78 ?_
    refine j_lald (pc := 79) rfl rfl rfl dX11_shape_79 (fun j3 => ?_)
    refine j_letl (fun x4 => ?_)
    refine j_lstore (pc := 80) (lv' := [(6, aL x4), (5, aI r1), (0, aR 29 v0), (1, aI v1), (2, aI v2), (3, aI v3), (4, aI v4)]) dX11_shape_80 (Nat.le_of_ble_eq_true rfl) rfl ?_
    refine j_sub [0, 2, 5, 6] (lv' := [(6, aL x4), (0, aR 29 v0), (3, aI v3), (4, aI v4)]) rfl ?_
    refine j_iload (pc := 82) 3 dX11_shape_82 rfl ?_
    refine j_bipush (pc := 84) (v := 6) (by decide) dX11_shape_84 ?_
    refine j_icmplt (pc := 86) (tgt := 104) dX11_shape_86 rfl (fun _ => ?_) (fun _ => ?_)
    · refine j_iload (pc := 104) 3 dX11_shape_104 rfl ?_
      refine j_ifne (pc := 106) (tgt := 129) dX11_shape_106 rfl (fun _ => ?_) (fun _ => ?_)
      · refine j_aload_n (pc := 129) 1 dX11_shape_129 rfl rfl ?_
        refine j_iload_n (pc := 130) 2 dX11_shape_130 rfl rfl ?_
        refine j_iconst (pc := 131) (v := 5) (by decide) dX11_shape_131 ?_
        refine j_icmpeq (pc := 132) (tgt := 142) dX11_shape_132 rfl (fun _ => ?_) (fun _ => ?_)
        · refine j_sub [3, 0] (lv' := [(4, aI v4), (6, aL x4)]) rfl ?_
          exact jb11_shape_142   v4 x4 v0 σ2
        · refine j_lload (pc := 135) 0 dX11_shape_135 rfl ?_
          refine j_lconst (pc := 137) (v := 0) (by decide) dX11_shape_137 ?_
          refine j_lcmpge (pc := 138) (tgt := 153) dX11_shape_138 dX11_shape_139 rfl (fun _ => ?_) (fun _ => ?_)
          · refine j_lload (pc := 153) 0 dX11_shape_153 rfl ?_
            refine j_putL (pc := 155) fd_29_2 tw_4_65 dX11_shape_155 ?_
            refine j_lets (fun σ5 => ?_)
            refine j_iconst (pc := 158) (v := 0) (by decide) dX11_shape_158 ?_
            exact j_ireturn (pc := 159) rfl (Nat.le_of_ble_eq_true rfl) (Nat.le_of_ble_eq_true rfl) dX11_shape_159
          · refine j_sub [3, 0] (lv' := [(4, aI v4), (6, aL x4)]) rfl ?_
            exact jb11_shape_142   v4 x4 v0 σ2
      · refine j_aload_n (pc := 109) 1 dX11_shape_109 rfl rfl ?_
        refine j_iload_n (pc := 110) 2 dX11_shape_110 rfl rfl ?_
        refine j_ifne (pc := 111) (tgt := 119) dX11_shape_111 rfl (fun _ => ?_) (fun _ => ?_)
        · refine j_lconst (pc := 119) (v := 1) (by decide) dX11_shape_119 ?_
          refine j_lload (pc := 120) 0 dX11_shape_120 rfl ?_
          refine j_lsub (pc := 122) dX11_shape_122 ?_
          refine j_putL (pc := 123) fd_29_2 tw_4_65 dX11_shape_123 ?_
          refine j_lets (fun σ6 => ?_)
          refine j_goto (pc := 126) (tgt := 158) dX11_shape_126 rfl ?_
          refine j_iconst (pc := 158) (v := 0) (by decide) dX11_shape_158 ?_
          exact j_ireturn (pc := 159) rfl (Nat.le_of_ble_eq_true rfl) (Nat.le_of_ble_eq_true rfl) dX11_shape_159
        · refine j_lload (pc := 114) 0 dX11_shape_114 rfl ?_
          refine j_goto (pc := 116) (tgt := 123) dX11_shape_116 rfl ?_
          refine j_putL (pc := 123) fd_29_2 tw_4_65 dX11_shape_123 ?_
          refine j_lets (fun σ7 => ?_)
          refine j_goto (pc := 126) (tgt := 158) dX11_shape_126 rfl ?_
          refine j_iconst (pc := 158) (v := 0) (by decide) dX11_shape_158 ?_
          exact j_ireturn (pc := 159) rfl (Nat.le_of_ble_eq_true rfl) (Nat.le_of_ble_eq_true rfl) dX11_shape_159
    · refine j_aload_n (pc := 89) 1 dX11_shape_89 rfl rfl ?_
      refine j_iload (pc := 90) 3 dX11_shape_90 rfl ?_
      refine j_lload (pc := 92) 0 dX11_shape_92 rfl ?_
      refine j_iload_n (pc := 94) 2 dX11_shape_94 rfl rfl ?_
      refine j_callSL (pc := 95) (As := [aI v4, aL x4, aI v3]) (st := [aR 29 v0]) (fun l => c11_shapedReal l v4 x4 v3) cs_RX11_198 rfl rfl (Nat.le_of_ble_eq_true rfl) ⟨(Nat.le_of_ble_eq_true rfl), (Nat.le_of_ble_eq_true rfl)⟩ ⟨(Nat.le_of_ble_eq_true rfl), (Nat.le_of_ble_eq_true rfl)⟩ dX11_shape_95 (fun r8 σ9 => ?_)
      refine j_putL (pc := 98) fd_29_2 tw_4_65 dX11_shape_98 ?_
      refine j_lets (fun σ10 => ?_)
      refine j_goto (pc := 101) (tgt := 158) dX11_shape_101 rfl ?_
      refine j_iconst (pc := 158) (v := 0) (by decide) dX11_shape_158 ?_
      exact j_ireturn (pc := 159) rfl (Nat.le_of_ble_eq_true rfl) (Nat.le_of_ble_eq_true rfl) dX11_shape_159
  · refine j_iload (pc := 66) 0 dX11_shape_66 rfl ?_
    exact j_ireturn (pc := 68) rfl (Nat.le_of_ble_eq_true rfl) (Nat.le_of_ble_eq_true rfl) dX11_shape_68
set_option maxRecDepth 20000 in
set_option maxHeartbeats 4000000 in
theorem j11_shape {Γ : jX} {tg : Int32 × rS} (v0 : Nat) (v1 : Int32) (v2 : Int32) (v3 : Int32) (σ : rS) : J Γ rm11_shape eI cX11_shape RX11 8 (some .int) tg 0 0 0 [(0, aR 29 v0), (1, aI v1), (2, aI v2), (3, aI v3)] [] σ (f11_shape v0 v1 v2 v3 σ) := by
  unfold f11_shape
  refine j_aload_n (pc := 0) 0 dX11_shape_0 rfl rfl ?_
  refine j_iload_n (pc := 1) 1 dX11_shape_1 rfl rfl ?_
  refine j_callVZ (pc := 2) (As := [aI v1]) (st := []) (fun l => c11_isRow l v0 v1) cs_RX11_154 rfl rfl rfl rfl (Nat.le_of_ble_eq_true rfl) ⟨(Nat.le_of_ble_eq_true rfl), (Nat.le_of_ble_eq_true rfl)⟩ ⟨(Nat.le_of_ble_eq_true rfl), (Nat.le_of_ble_eq_true rfl)⟩ dX11_shape_2 (fun r1 σ2 => ?_)
  refine j_ifneB (pc := 5) (tgt := 11) dX11_shape_5 rfl (fun _ => ?_) (fun _ => ?_)
  · refine j_iload_n (pc := 11) 3 dX11_shape_11 rfl rfl ?_
    refine j_i2l (pc := 12) dX11_shape_12 ?_
    refine j_lconst (pc := 13) (v := 0) (by decide) dX11_shape_13 ?_
    refine j_ldc2 (pc := 14) tw_5_19 dX11_shape_14 ?_
    refine j_callSZ (pc := 17) (As := [aL (Int32.toInt64 v3), aL 0, aL 5]) (st := []) (fun l => c11_in l (Int32.toInt64 v3) 0 5) cs_RX11_140 rfl rfl (Nat.le_of_ble_eq_true rfl) ⟨(Nat.le_of_ble_eq_true rfl), (Nat.le_of_ble_eq_true rfl)⟩ ⟨(Nat.le_of_ble_eq_true rfl), (Nat.le_of_ble_eq_true rfl)⟩ dX11_shape_17 (fun r3 σ4 => ?_)
    refine j_ifneB (pc := 20) (tgt := 26) dX11_shape_20 rfl (fun _ => ?_) (fun _ => ?_)
    · refine j_aload_n (pc := 26) 0 dX11_shape_26 rfl rfl ?_
      refine j_getF (pc := 27) fd_29_4 tw_4_67 dX11_shape_27 ?_
      refine j_iload_n (pc := 30) 1 dX11_shape_30 rfl rfl ?_
      refine j_iald (pc := 31) rfl rfl rfl dX11_shape_31 (fun j5 => ?_)
      refine j_leti (fun x6 => ?_)
      refine j_istore (pc := 32) (lv' := [(4, aI x6), (0, aR 29 v0), (1, aI v1), (2, aI v2), (3, aI v3)]) dX11_shape_32 (Nat.le_of_ble_eq_true rfl) rfl ?_
      refine j_iload_n (pc := 34) 4 dX11_shape_34 rfl rfl ?_
      refine j_ifeq (pc := 35) (tgt := 53) dX11_shape_35 rfl (fun _ => ?_) (fun _ => ?_)
      · refine j_sub [1, 2, 3, 4, 0] (lv' := [(0, aR 29 v0), (1, aI v1), (2, aI v2), (3, aI v3), (4, aI x6)]) rfl ?_
        exact jb11_shape_53   v0 v1 v2 v3 x6 σ4
      · refine j_iload_n (pc := 38) 4 dX11_shape_38 rfl rfl ?_
        refine j_iconst (pc := 39) (v := 5) (by decide) dX11_shape_39 ?_
        refine j_icmpeq (pc := 40) (tgt := 53) dX11_shape_40 rfl (fun _ => ?_) (fun _ => ?_)
        · refine j_sub [1, 2, 3, 4, 0] (lv' := [(0, aR 29 v0), (1, aI v1), (2, aI v2), (3, aI v3), (4, aI x6)]) rfl ?_
          exact jb11_shape_53   v0 v1 v2 v3 x6 σ4
        · refine j_iload (pc := 43) 0 dX11_shape_43 rfl ?_
          refine j_bipush (pc := 45) (v := 6) (by decide) dX11_shape_45 ?_
          refine j_icmpge (pc := 47) (tgt := 53) dX11_shape_47 rfl (fun _ => ?_) (fun _ => ?_)
          · refine j_sub [1, 2, 3, 4, 0] (lv' := [(0, aR 29 v0), (1, aI v1), (2, aI v2), (3, aI v3), (4, aI x6)]) rfl ?_
            exact jb11_shape_53   v0 v1 v2 v3 x6 σ4
          · refine j_bipush (pc := 50) (v := (-103)) (by decide) dX11_shape_50 ?_
            exact j_ireturn (pc := 52) rfl (Nat.le_of_ble_eq_true rfl) (Nat.le_of_ble_eq_true rfl) dX11_shape_52
    · refine j_bipush (pc := 23) (v := (-102)) (by decide) dX11_shape_23 ?_
      exact j_ireturn (pc := 25) rfl (Nat.le_of_ble_eq_true rfl) (Nat.le_of_ble_eq_true rfl) dX11_shape_25
  · refine j_bipush (pc := 8) (v := (-101)) (by decide) dX11_shape_8 ?_
    exact j_ireturn (pc := 10) rfl (Nat.le_of_ble_eq_true rfl) (Nat.le_of_ble_eq_true rfl) dX11_shape_10
theorem c11_shape (l : Launch) (v0 : Nat) (v1 : Int32) (v2 : Int32) (v3 : Int32) : Ctr l yX11_shape cX11_shape 8 (some .int) rm11_shape eI [aR 29 v0, aI v1, aI v2, aI v3] (f11_shape v0 v1 v2 v3) := ctr_of (lv := [(0, aR 29 v0), (1, aI v1), (2, aI v2), (3, aI v3)]) (by decide +kernel) (fun _ => rfl) (fun _ => (Nat.le_of_ble_eq_true rfl)) (fun _ h => lvl_als h rfl) (fun _ σ _ => j11_shape v0 v1 v2 v3 σ)
abbrev rm11_stream : Room := { frames := 1, cells := 0, slots := 0, locals := 20 }
set_option maxRecDepth 20000 in
set_option maxHeartbeats 4000000 in
theorem j11_stream {Γ : jX} {tg : Int32 × rS} (v0 : Nat) (σ : rS) : J Γ rm11_stream eI cX11_stream RX11 1 (some .int) tg 0 0 0 [(0, aR 29 v0)] [] σ (f11_stream v0 σ) := by
  unfold f11_stream
  refine j_aload_n (pc := 0) 0 dX11_stream_0 rfl rfl ?_
  refine j_getI (pc := 1) fd_29_13 tw_4_76 dX11_stream_1 ?_
  refine j_bipush (pc := 4) (v := 24) (by decide) dX11_stream_4 ?_
  refine j_icmpne (pc := 6) (tgt := 14) dX11_stream_6 rfl (fun _ => ?_) (fun _ => ?_)
  · refine j_aload_n (pc := 14) 0 dX11_stream_14 rfl rfl ?_
    refine j_callVI (pc := 15) (As := []) (st := []) (fun l => c11_newStream l v0) cs_RX11_243 rfl rfl rfl rfl (Nat.le_of_ble_eq_true rfl) ⟨(Nat.le_of_ble_eq_true rfl), (Nat.le_of_ble_eq_true rfl)⟩ ⟨(Nat.le_of_ble_eq_true rfl), (Nat.le_of_ble_eq_true rfl)⟩ dX11_stream_15 (fun r1 σ2 => ?_)
    exact j_ireturn (pc := 18) rfl (Nat.le_of_ble_eq_true rfl) (Nat.le_of_ble_eq_true rfl) dX11_stream_18
  · refine j_bipush (pc := 9) (v := (-104)) (by decide) dX11_stream_9 ?_
    refine j_goto (pc := 11) (tgt := 18) dX11_stream_11 rfl ?_
    exact j_ireturn (pc := 18) rfl (Nat.le_of_ble_eq_true rfl) (Nat.le_of_ble_eq_true rfl) dX11_stream_18
theorem c11_stream (l : Launch) (v0 : Nat) : Ctr l yX11_stream cX11_stream 1 (some .int) rm11_stream eI [aR 29 v0] (f11_stream v0) := ctr_of (lv := [(0, aR 29 v0)]) (by decide +kernel) (fun _ => rfl) (fun _ => (Nat.le_of_ble_eq_true rfl)) (fun _ h => lvl_als h rfl) (fun _ σ _ => j11_stream v0 σ)
abbrev rm11_take : Room := { frames := 2, cells := 0, slots := 0, locals := 46 }
set_option maxRecDepth 20000 in
set_option maxHeartbeats 4000000 in
theorem jb11_take_67 {Γ : jX} {tg : Int32 × rS} (N : Nat) (K67 : Nat → Int32 → Int32 → Int32 → rS → Option (Int32 × rS)) (hK67 : ∀ (v0 : Nat) (v5 : Int32) (v6 : Int32) (v7 : Int32) (σ : rS), J Γ rm11_take eI cX11_take RX11 8 (some .int) tg 0 0 67 [(0, aR 29 v0), (5, aI v5), (6, aI v6), (7, aI v7)] [] σ (K67 v0 v5 v6 v7 σ)) (v0 : Nat) (v5 : Int32) (v6 : Int32) (v7 : Int32) (σ : rS) : J Γ rm11_take eI cX11_take RX11 8 (some .int) tg 0 0 67 [(0, aR 29 v0), (5, aI v5), (6, aI v6), (7, aI v7)] [] σ (B11_take_67 N K67 v0 v5 v6 v7 σ) := by
  unfold B11_take_67
  refine j_iload (pc := 67) 3 dX11_take_67 rfl ?_
  refine j_aload_n (pc := 69) 0 dX11_take_69 rfl rfl ?_
  refine j_getF (pc := 70) fd_29_22 tw_4_85 dX11_take_70 ?_
  refine j_iload (pc := 73) 2 dX11_take_73 rfl ?_
  refine j_iald (pc := 75) rfl rfl rfl dX11_take_75 (fun j1 => ?_)
  refine j_icmpge (pc := 76) (tgt := 105) dX11_take_76 rfl (fun _ => ?_) (fun _ => ?_)
  · refine j_aload_n (pc := 105) 0 dX11_take_105 rfl rfl ?_
    refine j_getF (pc := 106) fd_29_17 tw_4_80 dX11_take_106 ?_
    refine j_iload (pc := 109) 1 dX11_take_109 rfl ?_
    refine j_iconst (pc := 111) (v := 1) (by decide) dX11_take_111 ?_
    refine j_zast (pc := 112) rfl rfl rfl dX11_take_112 (fun j2 => ?_)
    refine j_lets (fun σ3 => ?_)
    refine j_iload (pc := 113) 1 dX11_take_113 rfl ?_
    exact j_ireturn (pc := 115) rfl (Nat.le_of_ble_eq_true rfl) (Nat.le_of_ble_eq_true rfl) dX11_take_115
  · refine j_aload_n (pc := 79) 0 dX11_take_79 rfl rfl ?_
    refine j_iload (pc := 80) 1 dX11_take_80 rfl ?_
    refine j_aload_n (pc := 82) 0 dX11_take_82 rfl rfl ?_
    refine j_getF (pc := 83) fd_29_24 tw_4_87 dX11_take_83 ?_
    refine j_sipush (pc := 86) (v := 400) (by decide) dX11_take_86 ?_
    refine j_iload (pc := 89) 2 dX11_take_89 rfl ?_
    refine j_imul (pc := 91) dX11_take_91 ?_
    refine j_iload (pc := 92) 3 dX11_take_92 rfl ?_
    refine j_iadd (pc := 94) dX11_take_94 ?_
    refine j_iald (pc := 95) rfl rfl rfl dX11_take_95 (fun j4 => ?_)
    refine j_callVV (pc := 96) (As := [aI v5, aI (gI σ 54 v0 j4)]) (st := []) (fun l => c11_lay l v0 v5 (gI σ 54 v0 j4)) cs_RX11_256 rfl rfl rfl rfl (Nat.le_of_ble_eq_true rfl) ⟨(Nat.le_of_ble_eq_true rfl), (Nat.le_of_ble_eq_true rfl)⟩ ⟨(Nat.le_of_ble_eq_true rfl), (Nat.le_of_ble_eq_true rfl)⟩ dX11_take_96 (fun r5 σ6 => ?_)
    refine j_iinc (pc := 99) (w := 1) (lv' := [(7, aI (v7 + 1)), (0, aR 29 v0), (5, aI v5), (6, aI v6)]) 3 dX11_take_99 rfl (by decide) (Nat.le_of_ble_eq_true rfl) rfl ?_
    refine j_goto (pc := 102) (tgt := 67) dX11_take_102 rfl ?_
    refine j_sub [1, 2, 3, 0] (lv' := [(0, aR 29 v0), (5, aI v5), (6, aI v6), (7, aI (v7 + 1))]) rfl ?_
    exact hK67 v0 v5 v6 (v7 + 1) σ6
theorem jl11_take_67 {Γ : jX} {tg : Int32 × rS} (N : Nat) : ∀ (n : Nat) (v0 : Nat) (v5 : Int32) (v6 : Int32) (v7 : Int32) (σ : rS), J Γ rm11_take eI cX11_take RX11 8 (some .int) tg 0 0 67 [(0, aR 29 v0), (5, aI v5), (6, aI v6), (7, aI v7)] [] σ (L11_take_67 N n v0 v5 v6 v7 σ) := by
  intro n
  induction n with
  | zero => intro v0 v5 v6 v7 σ; exact j_none
  | succ n ih => intro v0 v5 v6 v7 σ; exact jb11_take_67 N (L11_take_67 N n) ih v0 v5 v6 v7 σ
set_option maxRecDepth 20000 in
set_option maxHeartbeats 4000000 in
theorem j11_take {Γ : jX} {tg : Int32 × rS} (N : Nat) (v0 : Nat) (v1 : Int32) (v2 : Int64) (σ : rS) : J Γ rm11_take eI cX11_take RX11 8 (some .int) tg 0 0 0 [(0, aR 29 v0), (1, aI v1), (2, aL v2)] [] σ (f11_take N v0 v1 v2 σ) := by
  unfold f11_take
  refine j_aload_n (pc := 0) 0 dX11_take_0 rfl rfl ?_
  refine j_iload_n (pc := 1) 1 dX11_take_1 rfl rfl ?_
  refine j_callVZ (pc := 2) (As := [aI v1]) (st := []) (fun l => c11_isHouse l v0 v1) cs_RX11_287 rfl rfl rfl rfl (Nat.le_of_ble_eq_true rfl) ⟨(Nat.le_of_ble_eq_true rfl), (Nat.le_of_ble_eq_true rfl)⟩ ⟨(Nat.le_of_ble_eq_true rfl), (Nat.le_of_ble_eq_true rfl)⟩ dX11_take_2 (fun r1 σ2 => ?_)
  refine j_ifneB (pc := 5) (tgt := 11) dX11_take_5 rfl (fun _ => ?_) (fun _ => ?_)
  · refine j_lload_n (pc := 11) 2 dX11_take_11 rfl rfl ?_
    refine j_lconst (pc := 12) (v := 0) (by decide) dX11_take_12 ?_
    refine j_lcmpge (pc := 13) (tgt := 20) dX11_take_13 dX11_take_14 rfl (fun _ => ?_) (fun _ => ?_)
    · refine j_aload_n (pc := 20) 0 dX11_take_20 rfl rfl ?_
      refine j_iload_n (pc := 21) 1 dX11_take_21 rfl rfl ?_
      refine j_lload_n (pc := 22) 2 dX11_take_22 rfl rfl ?_
      refine j_callVI (pc := 23) (As := [aI v1, aL v2]) (st := []) (fun l => c11_entry l N v0 v1 v2) cs_RX11_290 rfl rfl rfl rfl (Nat.le_of_ble_eq_true rfl) ⟨(Nat.le_of_ble_eq_true rfl), (Nat.le_of_ble_eq_true rfl)⟩ ⟨(Nat.le_of_ble_eq_true rfl), (Nat.le_of_ble_eq_true rfl)⟩ dX11_take_23 (fun r3 σ4 => ?_)
      refine j_istore (pc := 26) (lv' := [(4, aI r3), (0, aR 29 v0), (1, aI v1), (2, aL v2)]) dX11_take_26 (Nat.le_of_ble_eq_true rfl) rfl ?_
      refine j_sub [0, 1] (lv' := [(4, aI r3), (0, aR 29 v0)]) rfl ?_
      refine j_iload (pc := 28) 0 dX11_take_28 rfl ?_
      refine j_iconst (pc := 30) (v := (-1)) (by decide) dX11_take_30 ?_
      refine j_icmpne (pc := 31) (tgt := 37) dX11_take_31 rfl (fun _ => ?_) (fun _ => ?_)
      · refine j_aload_n (pc := 37) 1 dX11_take_37 rfl rfl ?_
        refine j_getI (pc := 38) fd_29_13 tw_4_76 dX11_take_38 ?_
        refine j_bipush (pc := 41) (v := 24) (by decide) dX11_take_41 ?_
        refine j_icmpne (pc := 43) (tgt := 49) dX11_take_43 rfl (fun _ => ?_) (fun _ => ?_)
        · refine j_aload_n (pc := 49) 1 dX11_take_49 rfl rfl ?_
          refine j_callVI (pc := 50) (As := []) (st := []) (fun l => c11_newStream l v0) cs_RX11_243 rfl rfl rfl rfl (Nat.le_of_ble_eq_true rfl) ⟨(Nat.le_of_ble_eq_true rfl), (Nat.le_of_ble_eq_true rfl)⟩ ⟨(Nat.le_of_ble_eq_true rfl), (Nat.le_of_ble_eq_true rfl)⟩ dX11_take_50 (fun r5 σ6 => ?_)
          refine j_istore (pc := 53) (lv' := [(5, aI r5), (4, aI r3), (0, aR 29 v0)]) dX11_take_53 (Nat.le_of_ble_eq_true rfl) rfl ?_
          refine j_aload_n (pc := 55) 2 dX11_take_55 rfl rfl ?_
          refine j_getF (pc := 56) fd_29_29 tw_4_92 dX11_take_56 ?_
          refine j_iload (pc := 59) 1 dX11_take_59 rfl ?_
          refine j_iald (pc := 61) rfl rfl rfl dX11_take_61 (fun j7 => ?_)
          refine j_leti (fun x8 => ?_)
          refine j_istore (pc := 62) (lv' := [(6, aI x8), (5, aI r5), (4, aI r3), (0, aR 29 v0)]) dX11_take_62 (Nat.le_of_ble_eq_true rfl) rfl ?_
          refine j_sub [0, 1, 3] (lv' := [(6, aI x8), (5, aI r5), (0, aR 29 v0)]) rfl ?_
          refine j_iconst (pc := 64) (v := 0) (by decide) dX11_take_64 ?_
          refine j_istore (pc := 65) (lv' := [(7, aI 0), (6, aI x8), (5, aI r5), (0, aR 29 v0)]) dX11_take_65 (Nat.le_of_ble_eq_true rfl) rfl ?_
          refine j_sub [3, 2, 1, 0] (lv' := [(0, aR 29 v0), (5, aI r5), (6, aI x8), (7, aI 0)]) rfl ?_
          exact jl11_take_67 N  N v0 r5 x8 0 σ6
        · refine j_bipush (pc := 46) (v := (-104)) (by decide) dX11_take_46 ?_
          exact j_ireturn (pc := 48) rfl (Nat.le_of_ble_eq_true rfl) (Nat.le_of_ble_eq_true rfl) dX11_take_48
      · refine j_bipush (pc := 34) (v := (-103)) (by decide) dX11_take_34 ?_
        exact j_ireturn (pc := 36) rfl (Nat.le_of_ble_eq_true rfl) (Nat.le_of_ble_eq_true rfl) dX11_take_36
    · refine j_bipush (pc := 17) (v := (-102)) (by decide) dX11_take_17 ?_
      exact j_ireturn (pc := 19) rfl (Nat.le_of_ble_eq_true rfl) (Nat.le_of_ble_eq_true rfl) dX11_take_19
  · refine j_bipush (pc := 8) (v := (-101)) (by decide) dX11_take_8 ?_
    exact j_ireturn (pc := 10) rfl (Nat.le_of_ble_eq_true rfl) (Nat.le_of_ble_eq_true rfl) dX11_take_10
theorem c11_take (l : Launch) (N : Nat) (v0 : Nat) (v1 : Int32) (v2 : Int64) : Ctr l yX11_take cX11_take 8 (some .int) rm11_take eI [aR 29 v0, aI v1, aL v2] (f11_take N v0 v1 v2) := ctr_of (lv := [(0, aR 29 v0), (1, aI v1), (2, aL v2)]) (by decide +kernel) (fun _ => rfl) (fun _ => (Nat.le_of_ble_eq_true rfl)) (fun _ h => lvl_als h rfl) (fun _ σ _ => j11_take N v0 v1 v2 σ)
abbrev rm11_uses : Room := { frames := 0, cells := 0, slots := 0, locals := 0 }
set_option maxRecDepth 20000 in
set_option maxHeartbeats 4000000 in
theorem jb11_uses_34 {Γ : jX} {tg : Int32 × rS} (N : Nat) (K4 : Nat → Int32 → Int32 → Int32 → rS → Option (Int32 × rS)) (hK4 : ∀ (v0 : Nat) (v1 : Int32) (v2 : Int32) (v3 : Int32) (σ : rS), J Γ rm11_uses eI cX11_uses RX11 4 (some .int) tg 0 0 4 [(0, aR 29 v0), (1, aI v1), (2, aI v2), (3, aI v3)] [] σ (K4 v0 v1 v2 v3 σ)) (v0 : Nat) (v1 : Int32) (v3 : Int32) (s0 : Int32) (σ : rS) : J Γ rm11_uses eI cX11_uses RX11 4 (some .int) tg 0 0 34 [(0, aR 29 v0), (1, aI v1), (3, aI v3)] [aI s0] σ (B11_uses_34 N K4 v0 v1 v3 s0 σ) := by
  unfold B11_uses_34
  refine j_istore_n (pc := 34) (lv' := [(2, aI s0), (0, aR 29 v0), (1, aI v1), (3, aI v3)]) dX11_uses_34 rfl (Nat.le_of_ble_eq_true rfl) rfl ?_
  refine j_iinc (pc := 35) (w := 1) (lv' := [(3, aI (v3 + 1)), (2, aI s0), (0, aR 29 v0), (1, aI v1)]) 3 dX11_uses_35 rfl (by decide) (Nat.le_of_ble_eq_true rfl) rfl ?_
  refine j_goto (pc := 38) (tgt := 4) dX11_uses_38 rfl ?_
  refine j_sub [2, 3, 1, 0] (lv' := [(0, aR 29 v0), (1, aI v1), (2, aI s0), (3, aI (v3 + 1))]) rfl ?_
  exact hK4 v0 v1 s0 (v3 + 1) σ
set_option maxRecDepth 20000 in
set_option maxHeartbeats 4000000 in
theorem jb11_uses_33 {Γ : jX} {tg : Int32 × rS} (N : Nat) (K4 : Nat → Int32 → Int32 → Int32 → rS → Option (Int32 × rS)) (hK4 : ∀ (v0 : Nat) (v1 : Int32) (v2 : Int32) (v3 : Int32) (σ : rS), J Γ rm11_uses eI cX11_uses RX11 4 (some .int) tg 0 0 4 [(0, aR 29 v0), (1, aI v1), (2, aI v2), (3, aI v3)] [] σ (K4 v0 v1 v2 v3 σ)) (v0 : Nat) (v1 : Int32) (v2 : Int32) (v3 : Int32) (σ : rS) : J Γ rm11_uses eI cX11_uses RX11 4 (some .int) tg 0 0 33 [(0, aR 29 v0), (1, aI v1), (2, aI v2), (3, aI v3)] [] σ (B11_uses_33 N K4 v0 v1 v2 v3 σ) := by
  unfold B11_uses_33
  refine j_iload_n (pc := 33) 2 dX11_uses_33 rfl rfl ?_
  refine j_sub [0, 1, 3] (lv' := [(0, aR 29 v0), (1, aI v1), (3, aI v3)]) rfl ?_
  exact jb11_uses_34 N K4 hK4 v0 v1 v3 v2 σ
set_option maxRecDepth 20000 in
set_option maxHeartbeats 4000000 in
theorem jb11_uses_4 {Γ : jX} {tg : Int32 × rS} (N : Nat) (K4 : Nat → Int32 → Int32 → Int32 → rS → Option (Int32 × rS)) (hK4 : ∀ (v0 : Nat) (v1 : Int32) (v2 : Int32) (v3 : Int32) (σ : rS), J Γ rm11_uses eI cX11_uses RX11 4 (some .int) tg 0 0 4 [(0, aR 29 v0), (1, aI v1), (2, aI v2), (3, aI v3)] [] σ (K4 v0 v1 v2 v3 σ)) (v0 : Nat) (v1 : Int32) (v2 : Int32) (v3 : Int32) (σ : rS) : J Γ rm11_uses eI cX11_uses RX11 4 (some .int) tg 0 0 4 [(0, aR 29 v0), (1, aI v1), (2, aI v2), (3, aI v3)] [] σ (B11_uses_4 N K4 v0 v1 v2 v3 σ) := by
  unfold B11_uses_4
  refine j_iload_n (pc := 4) 3 dX11_uses_4 rfl rfl ?_
  refine j_bipush (pc := 5) (v := 30) (by decide) dX11_uses_5 ?_
  refine j_icmpge (pc := 7) (tgt := 41) dX11_uses_7 rfl (fun _ => ?_) (fun _ => ?_)
  · refine j_iload_n (pc := 41) 2 dX11_uses_41 rfl rfl ?_
    exact j_ireturn (pc := 42) rfl (Nat.le_of_ble_eq_true rfl) (Nat.le_of_ble_eq_true rfl) dX11_uses_42
  · refine j_iload_n (pc := 10) 1 dX11_uses_10 rfl rfl ?_
    refine j_iflt (pc := 11) (tgt := 33) dX11_uses_11 rfl (fun _ => ?_) (fun _ => ?_)
    · exact jb11_uses_33 N K4 hK4 v0 v1 v2 v3 σ
    · refine j_aload_n (pc := 14) 0 dX11_uses_14 rfl rfl ?_
      refine j_getF (pc := 15) fd_29_21 tw_4_84 dX11_uses_15 ?_
      refine j_iload_n (pc := 18) 3 dX11_uses_18 rfl rfl ?_
      refine j_iald (pc := 19) rfl rfl rfl dX11_uses_19 (fun j1 => ?_)
      refine j_iload_n (pc := 20) 1 dX11_uses_20 rfl rfl ?_
      refine j_icmpne (pc := 21) (tgt := 33) dX11_uses_21 rfl (fun _ => ?_) (fun _ => ?_)
      · exact jb11_uses_33 N K4 hK4 v0 v1 v2 v3 σ
      · refine j_aload_n (pc := 24) 0 dX11_uses_24 rfl rfl ?_
        refine j_getF (pc := 25) fd_29_23 tw_4_86 dX11_uses_25 ?_
        refine j_iload_n (pc := 28) 3 dX11_uses_28 rfl rfl ?_
        refine j_iald (pc := 29) rfl rfl rfl dX11_uses_29 (fun j2 => ?_)
        refine j_goto (pc := 30) (tgt := 34) dX11_uses_30 rfl ?_
        refine j_sub [0, 1, 3] (lv' := [(0, aR 29 v0), (1, aI v1), (3, aI v3)]) rfl ?_
        exact jb11_uses_34 N K4 hK4 v0 v1 v3 (gI σ 53 v0 j2) σ
theorem jl11_uses_4 {Γ : jX} {tg : Int32 × rS} (N : Nat) : ∀ (n : Nat) (v0 : Nat) (v1 : Int32) (v2 : Int32) (v3 : Int32) (σ : rS), J Γ rm11_uses eI cX11_uses RX11 4 (some .int) tg 0 0 4 [(0, aR 29 v0), (1, aI v1), (2, aI v2), (3, aI v3)] [] σ (L11_uses_4 N n v0 v1 v2 v3 σ) := by
  intro n
  induction n with
  | zero => intro v0 v1 v2 v3 σ; exact j_none
  | succ n ih => intro v0 v1 v2 v3 σ; exact jb11_uses_4 N (L11_uses_4 N n) ih v0 v1 v2 v3 σ
set_option maxRecDepth 20000 in
set_option maxHeartbeats 4000000 in
theorem j11_uses {Γ : jX} {tg : Int32 × rS} (N : Nat) (v0 : Nat) (v1 : Int32) (σ : rS) : J Γ rm11_uses eI cX11_uses RX11 4 (some .int) tg 0 0 0 [(0, aR 29 v0), (1, aI v1)] [] σ (f11_uses N v0 v1 σ) := by
  unfold f11_uses
  refine j_iconst (pc := 0) (v := 0) (by decide) dX11_uses_0 ?_
  refine j_istore_n (pc := 1) (lv' := [(2, aI 0), (0, aR 29 v0), (1, aI v1)]) dX11_uses_1 rfl (Nat.le_of_ble_eq_true rfl) rfl ?_
  refine j_iconst (pc := 2) (v := 0) (by decide) dX11_uses_2 ?_
  refine j_istore_n (pc := 3) (lv' := [(3, aI 0), (2, aI 0), (0, aR 29 v0), (1, aI v1)]) dX11_uses_3 rfl (Nat.le_of_ble_eq_true rfl) rfl ?_
  refine j_sub [2, 3, 1, 0] (lv' := [(0, aR 29 v0), (1, aI v1), (2, aI 0), (3, aI 0)]) rfl ?_
  exact jl11_uses_4 N  N v0 v1 0 0 σ
theorem c11_uses (l : Launch) (N : Nat) (v0 : Nat) (v1 : Int32) : Ctr l yX11_uses cX11_uses 4 (some .int) rm11_uses eI [aR 29 v0, aI v1] (f11_uses N v0 v1) := ctr_of (lv := [(0, aR 29 v0), (1, aI v1)]) (by decide +kernel) (fun _ => rfl) (fun _ => (Nat.le_of_ble_eq_true rfl)) (fun _ h => lvl_als h rfl) (fun _ σ _ => j11_uses N v0 v1 σ)
abbrev rm11_write : Room := { frames := 3, cells := 0, slots := 0, locals := 70 }
set_option maxRecDepth 20000 in
set_option maxHeartbeats 4000000 in
theorem jb11_write_158 {Γ : jX} {tg : Int32 × rS} (N : Nat) (K158 : Nat → Int32 → Int32 → Int32 → rS → Option (Int32 × rS)) (hK158 : ∀ (v0 : Nat) (v1 : Int32) (v4 : Int32) (v5 : Int32) (σ : rS), J Γ rm11_write eI cX11_write RX11 6 (some .int) tg 0 0 158 [(0, aR 29 v0), (1, aI v1), (4, aI v4), (5, aI v5)] [] σ (K158 v0 v1 v4 v5 σ)) (v0 : Nat) (v1 : Int32) (v4 : Int32) (v5 : Int32) (σ : rS) : J Γ rm11_write eI cX11_write RX11 6 (some .int) tg 0 0 158 [(0, aR 29 v0), (1, aI v1), (4, aI v4), (5, aI v5)] [] σ (B11_write_158 N K158 v0 v1 v4 v5 σ) := by
  unfold B11_write_158
  refine j_iload (pc := 158) 3 dX11_write_158 rfl ?_
  refine j_aload_n (pc := 160) 0 dX11_write_160 rfl rfl ?_
  refine j_getI (pc := 161) fd_29_12 tw_4_75 dX11_write_161 ?_
  refine j_icmpge (pc := 164) (tgt := 185) dX11_write_164 rfl (fun _ => ?_) (fun _ => ?_)
  · refine j_aload_n (pc := 185) 0 dX11_write_185 rfl rfl ?_
    refine j_iload_n (pc := 186) 1 dX11_write_186 rfl rfl ?_
    refine j_iload (pc := 187) 2 dX11_write_187 rfl ?_
    refine j_aload_n (pc := 189) 0 dX11_write_189 rfl rfl ?_
    refine j_getF (pc := 190) fd_29_15 tw_4_78 dX11_write_190 ?_
    refine j_iload_n (pc := 193) 1 dX11_write_193 rfl rfl ?_
    refine j_iald (pc := 194) rfl rfl rfl dX11_write_194 (fun j1 => ?_)
    refine j_callVI (pc := 195) (As := [aI v1, aI v4, aI (gI σ 45 v0 j1)]) (st := []) (fun l => c11_sumOf l N v0 v1 v4 (gI σ 45 v0 j1)) cs_RX11_259 rfl rfl rfl rfl (Nat.le_of_ble_eq_true rfl) ⟨(Nat.le_of_ble_eq_true rfl), (Nat.le_of_ble_eq_true rfl)⟩ ⟨(Nat.le_of_ble_eq_true rfl), (Nat.le_of_ble_eq_true rfl)⟩ dX11_write_195 (fun r2 σ3 => ?_)
    refine j_istore (pc := 198) (lv' := [(5, aI r2), (0, aR 29 v0), (1, aI v1), (4, aI v4)]) dX11_write_198 (Nat.le_of_ble_eq_true rfl) rfl ?_
    refine j_sub [0, 1, 2] (lv' := [(5, aI r2), (0, aR 29 v0), (1, aI v1)]) rfl ?_
    refine j_aload_n (pc := 200) 1 dX11_write_200 rfl rfl ?_
    refine j_iload_n (pc := 201) 2 dX11_write_201 rfl rfl ?_
    refine j_iload (pc := 202) 0 dX11_write_202 rfl ?_
    refine j_sipush (pc := 204) (v := 255) (by decide) dX11_write_204 ?_
    refine j_iand (pc := 207) dX11_write_207 ?_
    refine j_callVV (pc := 208) (As := [aI v1, aI (r2 &&& 255)]) (st := []) (fun l => c11_lay l v0 v1 (r2 &&& 255)) cs_RX11_256 rfl rfl rfl rfl (Nat.le_of_ble_eq_true rfl) ⟨(Nat.le_of_ble_eq_true rfl), (Nat.le_of_ble_eq_true rfl)⟩ ⟨(Nat.le_of_ble_eq_true rfl), (Nat.le_of_ble_eq_true rfl)⟩ dX11_write_208 (fun r4 σ5 => ?_)
    refine j_aload_n (pc := 211) 1 dX11_write_211 rfl rfl ?_
    refine j_iload_n (pc := 212) 2 dX11_write_212 rfl rfl ?_
    refine j_iload (pc := 213) 0 dX11_write_213 rfl ?_
    refine j_bipush (pc := 215) (v := 8) (by decide) dX11_write_215 ?_
    refine j_ishr (pc := 217) dX11_write_217 ?_
    refine j_callVV (pc := 218) (As := [aI v1, aI (r2 >>> (8 &&& 31))]) (st := []) (fun l => c11_lay l v0 v1 (r2 >>> (8 &&& 31))) cs_RX11_256 rfl rfl rfl rfl (Nat.le_of_ble_eq_true rfl) ⟨(Nat.le_of_ble_eq_true rfl), (Nat.le_of_ble_eq_true rfl)⟩ ⟨(Nat.le_of_ble_eq_true rfl), (Nat.le_of_ble_eq_true rfl)⟩ dX11_write_218 (fun r6 σ7 => ?_)
    refine j_aload_n (pc := 221) 1 dX11_write_221 rfl rfl ?_
    refine j_getF (pc := 222) fd_29_15 tw_4_78 dX11_write_222 ?_
    refine j_iload_n (pc := 225) 2 dX11_write_225 rfl rfl ?_
    refine j_iald (pc := 226) rfl rfl rfl dX11_write_226 (fun j8 => ?_)
    exact j_ireturn (pc := 227) rfl (Nat.le_of_ble_eq_true rfl) (Nat.le_of_ble_eq_true rfl) dX11_write_227
  · refine j_aload_n (pc := 167) 0 dX11_write_167 rfl rfl ?_
    refine j_iload_n (pc := 168) 1 dX11_write_168 rfl rfl ?_
    refine j_aload_n (pc := 169) 0 dX11_write_169 rfl rfl ?_
    refine j_getF (pc := 170) fd_29_11 tw_4_74 dX11_write_170 ?_
    refine j_iload (pc := 173) 3 dX11_write_173 rfl ?_
    refine j_iald (pc := 175) rfl rfl rfl dX11_write_175 (fun j9 => ?_)
    refine j_callVV (pc := 176) (As := [aI v1, aI (gI σ 41 v0 j9)]) (st := []) (fun l => c11_lay l v0 v1 (gI σ 41 v0 j9)) cs_RX11_256 rfl rfl rfl rfl (Nat.le_of_ble_eq_true rfl) ⟨(Nat.le_of_ble_eq_true rfl), (Nat.le_of_ble_eq_true rfl)⟩ ⟨(Nat.le_of_ble_eq_true rfl), (Nat.le_of_ble_eq_true rfl)⟩ dX11_write_176 (fun r10 σ11 => ?_)
    refine j_iinc (pc := 179) (w := 1) (lv' := [(5, aI (v5 + 1)), (0, aR 29 v0), (1, aI v1), (4, aI v4)]) 3 dX11_write_179 rfl (by decide) (Nat.le_of_ble_eq_true rfl) rfl ?_
    refine j_goto (pc := 182) (tgt := 158) dX11_write_182 rfl ?_
    refine j_sub [1, 2, 3, 0] (lv' := [(0, aR 29 v0), (1, aI v1), (4, aI v4), (5, aI (v5 + 1))]) rfl ?_
    exact hK158 v0 v1 v4 (v5 + 1) σ11
theorem jl11_write_158 {Γ : jX} {tg : Int32 × rS} (N : Nat) : ∀ (n : Nat) (v0 : Nat) (v1 : Int32) (v4 : Int32) (v5 : Int32) (σ : rS), J Γ rm11_write eI cX11_write RX11 6 (some .int) tg 0 0 158 [(0, aR 29 v0), (1, aI v1), (4, aI v4), (5, aI v5)] [] σ (L11_write_158 N n v0 v1 v4 v5 σ) := by
  intro n
  induction n with
  | zero => intro v0 v1 v4 v5 σ; exact j_none
  | succ n ih => intro v0 v1 v4 v5 σ; exact jb11_write_158 N (L11_write_158 N n) ih v0 v1 v4 v5 σ
set_option maxRecDepth 20000 in
set_option maxHeartbeats 4000000 in
theorem j11_write {Γ : jX} {tg : Int32 × rS} (N : Nat) (v0 : Nat) (v1 : Int32) (v2 : Int32) (v3 : Int32) (σ : rS) : J Γ rm11_write eI cX11_write RX11 6 (some .int) tg 0 0 0 [(0, aR 29 v0), (1, aI v1), (2, aI v2), (3, aI v3)] [] σ (f11_write N v0 v1 v2 v3 σ) := by
  unfold f11_write
  refine j_aload_n (pc := 0) 0 dX11_write_0 rfl rfl ?_
  refine j_iload_n (pc := 1) 1 dX11_write_1 rfl rfl ?_
  refine j_callVZ (pc := 2) (As := [aI v1]) (st := []) (fun l => c11_isStream l v0 v1) cs_RX11_247 rfl rfl rfl rfl (Nat.le_of_ble_eq_true rfl) ⟨(Nat.le_of_ble_eq_true rfl), (Nat.le_of_ble_eq_true rfl)⟩ ⟨(Nat.le_of_ble_eq_true rfl), (Nat.le_of_ble_eq_true rfl)⟩ dX11_write_2 (fun r1 σ2 => ?_)
  refine j_ifeqB (pc := 5) (tgt := 16) dX11_write_5 rfl (fun _ => ?_) (fun _ => ?_)
  · refine j_bipush (pc := 16) (v := (-101)) (by decide) dX11_write_16 ?_
    exact j_ireturn (pc := 18) rfl (Nat.le_of_ble_eq_true rfl) (Nat.le_of_ble_eq_true rfl) dX11_write_18
  · refine j_aload_n (pc := 8) 0 dX11_write_8 rfl rfl ?_
    refine j_iload_n (pc := 9) 2 dX11_write_9 rfl rfl ?_
    refine j_callVZ (pc := 10) (As := [aI v2]) (st := []) (fun l => c11_isRow l v0 v2) cs_RX11_154 rfl rfl rfl rfl (Nat.le_of_ble_eq_true rfl) ⟨(Nat.le_of_ble_eq_true rfl), (Nat.le_of_ble_eq_true rfl)⟩ ⟨(Nat.le_of_ble_eq_true rfl), (Nat.le_of_ble_eq_true rfl)⟩ dX11_write_10 (fun r3 σ4 => ?_)
    refine j_ifneB (pc := 13) (tgt := 19) dX11_write_13 rfl (fun _ => ?_) (fun _ => ?_)
    · refine j_iload_n (pc := 19) 3 dX11_write_19 rfl rfl ?_
      refine j_i2l (pc := 20) dX11_write_20 ?_
      refine j_lconst (pc := 21) (v := 0) (by decide) dX11_write_21 ?_
      refine j_ldc2 (pc := 22) tw_5_97 dX11_write_22 ?_
      refine j_callSZ (pc := 25) (As := [aL (Int32.toInt64 v3), aL 0, aL 4]) (st := []) (fun l => c11_in l (Int32.toInt64 v3) 0 4) cs_RX11_140 rfl rfl (Nat.le_of_ble_eq_true rfl) ⟨(Nat.le_of_ble_eq_true rfl), (Nat.le_of_ble_eq_true rfl)⟩ ⟨(Nat.le_of_ble_eq_true rfl), (Nat.le_of_ble_eq_true rfl)⟩ dX11_write_25 (fun r5 σ6 => ?_)
      refine j_ifneB (pc := 28) (tgt := 34) dX11_write_28 rfl (fun _ => ?_) (fun _ => ?_)
      · refine j_aload_n (pc := 34) 0 dX11_write_34 rfl rfl ?_
        refine j_getF (pc := 35) fd_29_17 tw_4_80 dX11_write_35 ?_
        refine j_iload_n (pc := 38) 1 dX11_write_38 rfl rfl ?_
        refine j_zald (pc := 39) rfl rfl rfl dX11_write_39 (fun j7 => ?_)
        refine j_ifeq (pc := 40) (tgt := 46) dX11_write_40 rfl (fun _ => ?_) (fun _ => ?_)
        · refine j_aload_n (pc := 46) 0 dX11_write_46 rfl rfl ?_
          refine j_getF (pc := 47) fd_29_6 tw_4_69 dX11_write_47 ?_
          refine j_iload_n (pc := 50) 2 dX11_write_50 rfl rfl ?_
          refine j_zald (pc := 51) rfl rfl rfl dX11_write_51 (fun j8 => ?_)
          refine j_ifeq (pc := 52) (tgt := 61) dX11_write_52 rfl (fun _ => ?_) (fun _ => ?_)
          · refine j_aload_n (pc := 61) 0 dX11_write_61 rfl rfl ?_
            refine j_iload_n (pc := 62) 2 dX11_write_62 rfl rfl ?_
            refine j_iload_n (pc := 63) 3 dX11_write_63 rfl rfl ?_
            refine j_callVV (pc := 64) (As := [aI v2, aI v3]) (st := []) (fun l => c11_codeRow l N v0 v2 v3) cs_RX11_252 rfl rfl rfl rfl (Nat.le_of_ble_eq_true rfl) ⟨(Nat.le_of_ble_eq_true rfl), (Nat.le_of_ble_eq_true rfl)⟩ ⟨(Nat.le_of_ble_eq_true rfl), (Nat.le_of_ble_eq_true rfl)⟩ dX11_write_64 (fun r9 σ10 => ?_)
            refine j_aload_n (pc := 67) 0 dX11_write_67 rfl rfl ?_
            refine j_getF (pc := 68) fd_29_15 tw_4_78 dX11_write_68 ?_
            refine j_iload_n (pc := 71) 1 dX11_write_71 rfl rfl ?_
            refine j_iald (pc := 72) rfl rfl rfl dX11_write_72 (fun j11 => ?_)
            refine j_aload_n (pc := 73) 0 dX11_write_73 rfl rfl ?_
            refine j_getI (pc := 74) fd_29_12 tw_4_75 dX11_write_74 ?_
            refine j_iadd (pc := 77) dX11_write_77 ?_
            refine j_bipush (pc := 78) (v := 7) (by decide) dX11_write_78 ?_
            refine j_iadd (pc := 80) dX11_write_80 ?_
            refine j_sipush (pc := 81) (v := 400) (by decide) dX11_write_81 ?_
            refine j_icmple (pc := 84) (tgt := 90) dX11_write_84 rfl (fun _ => ?_) (fun _ => ?_)
            · refine j_aload_n (pc := 90) 0 dX11_write_90 rfl rfl ?_
              refine j_getF (pc := 91) fd_29_15 tw_4_78 dX11_write_91 ?_
              refine j_iload_n (pc := 94) 1 dX11_write_94 rfl rfl ?_
              refine j_iald (pc := 95) rfl rfl rfl dX11_write_95 (fun j12 => ?_)
              refine j_leti (fun x13 => ?_)
              refine j_istore (pc := 96) (lv' := [(4, aI x13), (0, aR 29 v0), (1, aI v1), (2, aI v2), (3, aI v3)]) dX11_write_96 (Nat.le_of_ble_eq_true rfl) rfl ?_
              refine j_aload_n (pc := 98) 1 dX11_write_98 rfl rfl ?_
              refine j_iload_n (pc := 99) 2 dX11_write_99 rfl rfl ?_
              refine j_sipush (pc := 100) (v := 160) (by decide) dX11_write_100 ?_
              refine j_iload_n (pc := 103) 4 dX11_write_103 rfl rfl ?_
              refine j_iadd (pc := 104) dX11_write_104 ?_
              refine j_callVV (pc := 105) (As := [aI v1, aI (160 + v3)]) (st := []) (fun l => c11_lay l v0 v1 (160 + v3)) cs_RX11_256 rfl rfl rfl rfl (Nat.le_of_ble_eq_true rfl) ⟨(Nat.le_of_ble_eq_true rfl), (Nat.le_of_ble_eq_true rfl)⟩ ⟨(Nat.le_of_ble_eq_true rfl), (Nat.le_of_ble_eq_true rfl)⟩ dX11_write_105 (fun r14 σ15 => ?_)
              refine j_aload_n (pc := 108) 1 dX11_write_108 rfl rfl ?_
              refine j_iload_n (pc := 109) 2 dX11_write_109 rfl rfl ?_
              refine j_aload_n (pc := 110) 1 dX11_write_110 rfl rfl ?_
              refine j_getF (pc := 111) fd_29_4 tw_4_67 dX11_write_111 ?_
              refine j_iload_n (pc := 114) 3 dX11_write_114 rfl rfl ?_
              refine j_iald (pc := 115) rfl rfl rfl dX11_write_115 (fun j16 => ?_)
              refine j_callVV (pc := 116) (As := [aI v1, aI (gI σ15 34 v0 j16)]) (st := []) (fun l => c11_lay l v0 v1 (gI σ15 34 v0 j16)) cs_RX11_256 rfl rfl rfl rfl (Nat.le_of_ble_eq_true rfl) ⟨(Nat.le_of_ble_eq_true rfl), (Nat.le_of_ble_eq_true rfl)⟩ ⟨(Nat.le_of_ble_eq_true rfl), (Nat.le_of_ble_eq_true rfl)⟩ dX11_write_116 (fun r17 σ18 => ?_)
              refine j_aload_n (pc := 119) 1 dX11_write_119 rfl rfl ?_
              refine j_iload_n (pc := 120) 2 dX11_write_120 rfl rfl ?_
              refine j_aload_n (pc := 121) 1 dX11_write_121 rfl rfl ?_
              refine j_getF (pc := 122) fd_29_5 tw_4_68 dX11_write_122 ?_
              refine j_iload_n (pc := 125) 3 dX11_write_125 rfl rfl ?_
              refine j_iald (pc := 126) rfl rfl rfl dX11_write_126 (fun j19 => ?_)
              refine j_callVV (pc := 127) (As := [aI v1, aI (gI σ18 35 v0 j19)]) (st := []) (fun l => c11_lay l v0 v1 (gI σ18 35 v0 j19)) cs_RX11_256 rfl rfl rfl rfl (Nat.le_of_ble_eq_true rfl) ⟨(Nat.le_of_ble_eq_true rfl), (Nat.le_of_ble_eq_true rfl)⟩ ⟨(Nat.le_of_ble_eq_true rfl), (Nat.le_of_ble_eq_true rfl)⟩ dX11_write_127 (fun r20 σ21 => ?_)
              refine j_aload_n (pc := 130) 1 dX11_write_130 rfl rfl ?_
              refine j_iload_n (pc := 131) 2 dX11_write_131 rfl rfl ?_
              refine j_aload_n (pc := 132) 1 dX11_write_132 rfl rfl ?_
              refine j_getI (pc := 133) fd_29_12 tw_4_75 dX11_write_133 ?_
              refine j_sipush (pc := 136) (v := 255) (by decide) dX11_write_136 ?_
              refine j_iand (pc := 139) dX11_write_139 ?_
              refine j_callVV (pc := 140) (As := [aI v1, aI ((gI σ21 29 v0 12) &&& 255)]) (st := []) (fun l => c11_lay l v0 v1 ((gI σ21 29 v0 12) &&& 255)) cs_RX11_256 rfl rfl rfl rfl (Nat.le_of_ble_eq_true rfl) ⟨(Nat.le_of_ble_eq_true rfl), (Nat.le_of_ble_eq_true rfl)⟩ ⟨(Nat.le_of_ble_eq_true rfl), (Nat.le_of_ble_eq_true rfl)⟩ dX11_write_140 (fun r22 σ23 => ?_)
              refine j_aload_n (pc := 143) 1 dX11_write_143 rfl rfl ?_
              refine j_iload_n (pc := 144) 2 dX11_write_144 rfl rfl ?_
              refine j_aload_n (pc := 145) 1 dX11_write_145 rfl rfl ?_
              refine j_getI (pc := 146) fd_29_12 tw_4_75 dX11_write_146 ?_
              refine j_bipush (pc := 149) (v := 8) (by decide) dX11_write_149 ?_
              refine j_ishr (pc := 151) dX11_write_151 ?_
              refine j_callVV (pc := 152) (As := [aI v1, aI ((gI σ23 29 v0 12) >>> (8 &&& 31))]) (st := []) (fun l => c11_lay l v0 v1 ((gI σ23 29 v0 12) >>> (8 &&& 31))) cs_RX11_256 rfl rfl rfl rfl (Nat.le_of_ble_eq_true rfl) ⟨(Nat.le_of_ble_eq_true rfl), (Nat.le_of_ble_eq_true rfl)⟩ ⟨(Nat.le_of_ble_eq_true rfl), (Nat.le_of_ble_eq_true rfl)⟩ dX11_write_152 (fun r24 σ25 => ?_)
              refine j_iconst (pc := 155) (v := 0) (by decide) dX11_write_155 ?_
              refine j_istore (pc := 156) (lv' := [(5, aI 0), (4, aI x13), (0, aR 29 v0), (1, aI v1), (2, aI v2), (3, aI v3)]) dX11_write_156 (Nat.le_of_ble_eq_true rfl) rfl ?_
              refine j_sub [0, 1, 2, 3] (lv' := [(5, aI 0), (4, aI x13), (0, aR 29 v0), (1, aI v1)]) rfl ?_
              refine j_sub [2, 3, 1, 0] (lv' := [(0, aR 29 v0), (1, aI v1), (4, aI x13), (5, aI 0)]) rfl ?_
              exact jl11_write_158 N  N v0 v1 x13 0 σ25
            · refine j_bipush (pc := 87) (v := (-104)) (by decide) dX11_write_87 ?_
              exact j_ireturn (pc := 89) rfl (Nat.le_of_ble_eq_true rfl) (Nat.le_of_ble_eq_true rfl) dX11_write_89
          · refine j_aload_n (pc := 55) 0 dX11_write_55 rfl rfl ?_
            refine j_iconst (pc := 56) (v := 1) (by decide) dX11_write_56 ?_
            refine j_callVI (pc := 57) (As := [aI 1]) (st := []) (fun l => c11_meets l v0 1) cs_RX11_146 rfl rfl rfl rfl (Nat.le_of_ble_eq_true rfl) ⟨(Nat.le_of_ble_eq_true rfl), (Nat.le_of_ble_eq_true rfl)⟩ ⟨(Nat.le_of_ble_eq_true rfl), (Nat.le_of_ble_eq_true rfl)⟩ dX11_write_57 (fun r26 σ27 => ?_)
            exact j_ireturn (pc := 60) rfl (Nat.le_of_ble_eq_true rfl) (Nat.le_of_ble_eq_true rfl) dX11_write_60
        · refine j_bipush (pc := 43) (v := (-103)) (by decide) dX11_write_43 ?_
          exact j_ireturn (pc := 45) rfl (Nat.le_of_ble_eq_true rfl) (Nat.le_of_ble_eq_true rfl) dX11_write_45
      · refine j_bipush (pc := 31) (v := (-102)) (by decide) dX11_write_31 ?_
        exact j_ireturn (pc := 33) rfl (Nat.le_of_ble_eq_true rfl) (Nat.le_of_ble_eq_true rfl) dX11_write_33
    · refine j_bipush (pc := 16) (v := (-101)) (by decide) dX11_write_16 ?_
      exact j_ireturn (pc := 18) rfl (Nat.le_of_ble_eq_true rfl) (Nat.le_of_ble_eq_true rfl) dX11_write_18
theorem c11_write (l : Launch) (N : Nat) (v0 : Nat) (v1 : Int32) (v2 : Int32) (v3 : Int32) : Ctr l yX11_write cX11_write 6 (some .int) rm11_write eI [aR 29 v0, aI v1, aI v2, aI v3] (f11_write N v0 v1 v2 v3) := ctr_of (lv := [(0, aR 29 v0), (1, aI v1), (2, aI v2), (3, aI v3)]) (by decide +kernel) (fun _ => rfl) (fun _ => (Nat.le_of_ble_eq_true rfl)) (fun _ h => lvl_als h rfl) (fun _ σ _ => j11_write N v0 v1 v2 v3 σ)
