theorem cs_RX9_33 : CaV RX9 RX9 33 yX9_byteAt cX9_byteAt 2 (some .int) 1 := ⟨tw_3_36, tw_3_12, tw_3_13, tw_1_14, tw_3_14, rfl, by decide +kernel, by decide +kernel, by decide +kernel⟩
abbrev rm9_pairAt : Room := { frames := 2, cells := 0, slots := 0, locals := 42 }
set_option maxRecDepth 20000 in
set_option maxHeartbeats 4000000 in
theorem j9_pairAt {Γ : jX} {tg : Int32 × rS} (v0 : Nat) (v1 : Int32) (σ : rS) : J Γ rm9_pairAt eI cX9_pairAt RX9 2 (some .int) tg 0 0 0 [(0, aR 15 v0), (1, aI v1)] [] σ (f9_pairAt v0 v1 σ) := by
  unfold f9_pairAt
  refine j_aload_n (pc := 0) 0 dX9_pairAt_0 rfl rfl ?_
  refine j_iload_n (pc := 1) 1 dX9_pairAt_1 rfl rfl ?_
  refine j_callVI (pc := 2) (As := [aI v1]) (st := []) (fun l => c9_byteAt l v0 v1) cs_RX9_33 rfl rfl rfl rfl (Nat.le_of_ble_eq_true rfl) ⟨(Nat.le_of_ble_eq_true rfl), (Nat.le_of_ble_eq_true rfl)⟩ ⟨(Nat.le_of_ble_eq_true rfl), (Nat.le_of_ble_eq_true rfl)⟩ dX9_pairAt_2 (fun r1 σ2 => ?_)
  refine j_aload_n (pc := 5) 0 dX9_pairAt_5 rfl rfl ?_
  refine j_iload_n (pc := 6) 1 dX9_pairAt_6 rfl rfl ?_
  refine j_iconst (pc := 7) (v := 1) (by decide) dX9_pairAt_7 ?_
  refine j_iadd (pc := 8) dX9_pairAt_8 ?_
  refine j_callVI (pc := 9) (As := [aI (v1 + 1)]) (st := [aI r1]) (fun l => c9_byteAt l v0 (v1 + 1)) cs_RX9_33 rfl rfl rfl rfl (Nat.le_of_ble_eq_true rfl) ⟨(Nat.le_of_ble_eq_true rfl), (Nat.le_of_ble_eq_true rfl)⟩ ⟨(Nat.le_of_ble_eq_true rfl), (Nat.le_of_ble_eq_true rfl)⟩ dX9_pairAt_9 (fun r3 σ4 => ?_)
  refine j_bipush (pc := 12) (v := 8) (by decide) dX9_pairAt_12 ?_
  refine j_ishl (pc := 14) dX9_pairAt_14 ?_
  refine j_iadd (pc := 15) dX9_pairAt_15 ?_
  exact j_ireturn (pc := 16) rfl (Nat.le_of_ble_eq_true rfl) (Nat.le_of_ble_eq_true rfl) dX9_pairAt_16
theorem c9_pairAt (l : Launch) (v0 : Nat) (v1 : Int32) : Ctr l yX9_pairAt cX9_pairAt 2 (some .int) rm9_pairAt eI [aR 15 v0, aI v1] (f9_pairAt v0 v1) := ctr_of (lv := [(0, aR 15 v0), (1, aI v1)]) (by decide +kernel) (fun _ => rfl) (fun _ => (Nat.le_of_ble_eq_true rfl)) (fun _ h => lvl_als h rfl) (fun _ σ _ => j9_pairAt v0 v1 σ)
theorem cs_RX6_21 : CaV RX6 RX9 21 yX9_pairAt cX9_pairAt 2 (some .int) 1 := ⟨tw_3_32, tw_3_33, tw_3_34, tw_1_14, tw_3_35, rfl, by decide +kernel, by decide +kernel, by decide +kernel⟩
theorem cs_RX6_25 : CaV RX6 RX9 25 yX9_byteAt cX9_byteAt 2 (some .int) 1 := ⟨tw_3_37, tw_3_12, tw_3_13, tw_1_14, tw_3_14, rfl, by decide +kernel, by decide +kernel, by decide +kernel⟩
theorem cs_RX6_41 : CaV RX6 RX9 41 yX9_sum cX9_sum 5 (some .int) 2 := ⟨tw_3_40, tw_2_219, tw_2_220, tw_1_14, tw_2_221, rfl, by decide +kernel, by decide +kernel, by decide +kernel⟩
theorem cs_RX6_45 : CaV RX6 RX5 45 yX5_unpack cX5_unpack 8 (some .boolean) 6 := ⟨tw_3_41, tw_3_42, tw_3_43, tw_1_3, tw_3_44, rfl, by decide +kernel, by decide +kernel, by decide +kernel⟩
abbrev rm6_examine : Room := { frames := 6, cells := 0, slots := 0, locals := 140 }
set_option maxRecDepth 20000 in
set_option maxHeartbeats 4000000 in
theorem j6_examine {Γ : jX} {tg : Int32 × rS} (N : Nat) (v0 : Nat) (v1 : Nat) (v2 : Int32) (σ : rS) : J Γ rm6_examine eI cX6_examine RX6 8 (some .int) tg 0 0 0 [(0, aR 12 v0), (1, aR 15 v1), (2, aI v2)] [] σ (f6_examine N v0 v1 v2 σ) := by
  unfold f6_examine
  refine j_aload_n (pc := 0) 1 dX6_examine_0 rfl rfl ?_
  refine j_getI (pc := 1) fd_15_1 tw_2_142 dX6_examine_1 ?_
  refine j_iload_n (pc := 4) 2 dX6_examine_4 rfl rfl ?_
  refine j_isub (pc := 5) dX6_examine_5 ?_
  refine j_leti (fun x1 => ?_)
  refine j_istore_n (pc := 6) (lv' := [(3, aI x1), (0, aR 12 v0), (1, aR 15 v1), (2, aI v2)]) dX6_examine_6 rfl (Nat.le_of_ble_eq_true rfl) rfl ?_
  refine j_iload_n (pc := 7) 0 dX6_examine_7 rfl rfl ?_
  refine j_ifne (pc := 8) (tgt := 14) dX6_examine_8 rfl (fun _ => ?_) (fun _ => ?_)
  · refine j_iload_n (pc := 14) 0 dX6_examine_14 rfl rfl ?_
    refine j_bipush (pc := 15) (v := 7) (by decide) dX6_examine_15 ?_
    refine j_icmpge (pc := 17) (tgt := 23) dX6_examine_17 rfl (fun _ => ?_) (fun _ => ?_)
    · refine j_aload_n (pc := 23) 2 dX6_examine_23 rfl rfl ?_
      refine j_iload_n (pc := 24) 3 dX6_examine_24 rfl rfl ?_
      refine j_iconst (pc := 25) (v := 3) (by decide) dX6_examine_25 ?_
      refine j_iadd (pc := 26) dX6_examine_26 ?_
      refine j_callVI (pc := 27) (As := [aI (v2 + 3)]) (st := []) (fun l => c9_pairAt l v1 (v2 + 3)) cs_RX6_21 rfl rfl rfl rfl (Nat.le_of_ble_eq_true rfl) ⟨(Nat.le_of_ble_eq_true rfl), (Nat.le_of_ble_eq_true rfl)⟩ ⟨(Nat.le_of_ble_eq_true rfl), (Nat.le_of_ble_eq_true rfl)⟩ dX6_examine_27 (fun r2 σ3 => ?_)
      refine j_istore (pc := 30) (lv' := [(4, aI r2), (3, aI x1), (0, aR 12 v0), (1, aR 15 v1), (2, aI v2)]) dX6_examine_30 (Nat.le_of_ble_eq_true rfl) rfl ?_
      refine j_iload_n (pc := 32) 1 dX6_examine_32 rfl rfl ?_
      refine j_bipush (pc := 33) (v := 7) (by decide) dX6_examine_33 ?_
      refine j_iload (pc := 35) 0 dX6_examine_35 rfl ?_
      refine j_iadd (pc := 37) dX6_examine_37 ?_
      refine j_icmpge (pc := 38) (tgt := 44) dX6_examine_38 rfl (fun _ => ?_) (fun _ => ?_)
      · refine j_aload_n (pc := 44) 3 dX6_examine_44 rfl rfl ?_
        refine j_iload_n (pc := 45) 4 dX6_examine_45 rfl rfl ?_
        refine j_callVI (pc := 46) (As := [aI v2]) (st := []) (fun l => c9_byteAt l v1 v2) cs_RX6_25 rfl rfl rfl rfl (Nat.le_of_ble_eq_true rfl) ⟨(Nat.le_of_ble_eq_true rfl), (Nat.le_of_ble_eq_true rfl)⟩ ⟨(Nat.le_of_ble_eq_true rfl), (Nat.le_of_ble_eq_true rfl)⟩ dX6_examine_46 (fun r4 σ5 => ?_)
        refine j_sipush (pc := 49) (v := 160) (by decide) dX6_examine_49 ?_
        refine j_isub (pc := 52) dX6_examine_52 ?_
        refine j_leti (fun x6 => ?_)
        refine j_istore (pc := 53) (lv' := [(5, aI x6), (4, aI r2), (3, aI x1), (0, aR 12 v0), (1, aR 15 v1), (2, aI v2)]) dX6_examine_53 (Nat.le_of_ble_eq_true rfl) rfl ?_
        refine j_sub [0, 1, 3, 4, 5] (lv' := [(5, aI x6), (4, aI r2), (0, aR 12 v0), (1, aR 15 v1), (2, aI v2)]) rfl ?_
        refine j_aload_n (pc := 55) 2 dX6_examine_55 rfl rfl ?_
        refine j_aload_n (pc := 56) 3 dX6_examine_56 rfl rfl ?_
        refine j_iload_n (pc := 57) 4 dX6_examine_57 rfl rfl ?_
        refine j_iconst (pc := 58) (v := 1) (by decide) dX6_examine_58 ?_
        refine j_iadd (pc := 59) dX6_examine_59 ?_
        refine j_callVI (pc := 60) (As := [aI (v2 + 1)]) (st := [aR 12 v0]) (fun l => c9_byteAt l v1 (v2 + 1)) cs_RX6_25 rfl rfl rfl rfl (Nat.le_of_ble_eq_true rfl) ⟨(Nat.le_of_ble_eq_true rfl), (Nat.le_of_ble_eq_true rfl)⟩ ⟨(Nat.le_of_ble_eq_true rfl), (Nat.le_of_ble_eq_true rfl)⟩ dX6_examine_60 (fun r7 σ8 => ?_)
        refine j_putI (pc := 63) fd_12_1 rfl rfl tw_1_97 dX6_examine_63 ?_
        refine j_lets (fun σ9 => ?_)
        refine j_aload_n (pc := 66) 2 dX6_examine_66 rfl rfl ?_
        refine j_aload_n (pc := 67) 3 dX6_examine_67 rfl rfl ?_
        refine j_iload_n (pc := 68) 4 dX6_examine_68 rfl rfl ?_
        refine j_iconst (pc := 69) (v := 2) (by decide) dX6_examine_69 ?_
        refine j_iadd (pc := 70) dX6_examine_70 ?_
        refine j_callVI (pc := 71) (As := [aI (v2 + 2)]) (st := [aR 12 v0]) (fun l => c9_byteAt l v1 (v2 + 2)) cs_RX6_25 rfl rfl rfl rfl (Nat.le_of_ble_eq_true rfl) ⟨(Nat.le_of_ble_eq_true rfl), (Nat.le_of_ble_eq_true rfl)⟩ ⟨(Nat.le_of_ble_eq_true rfl), (Nat.le_of_ble_eq_true rfl)⟩ dX6_examine_71 (fun r10 σ11 => ?_)
        refine j_putI (pc := 74) fd_12_2 rfl rfl tw_1_99 dX6_examine_74 ?_
        refine j_lets (fun σ12 => ?_)
        refine j_iload (pc := 77) 0 dX6_examine_77 rfl ?_
        refine j_callNZ (pc := 79) (n := 1) (As := [aI x6]) (st := []) (fun l => c10_isCoder l x6) (fun _ _ _ h => h.2.2.2.2.2.1) tw_2_166 tw_1_1 tw_2_167 ⟨by decide +kernel, by decide +kernel, by decide +kernel⟩ rfl rfl (Nat.le_of_ble_eq_true rfl) ⟨(Nat.le_of_ble_eq_true rfl), (Nat.le_of_ble_eq_true rfl)⟩ ⟨(Nat.le_of_ble_eq_true rfl), (Nat.le_of_ble_eq_true rfl)⟩ dX6_examine_79 (fun r13 σ14 => ?_)
        refine j_ifeqB (pc := 82) (tgt := 104) dX6_examine_82 rfl (fun _ => ?_) (fun _ => ?_)
        · refine j_bipush (pc := 104) (v := 8) (by decide) dX6_examine_104 ?_
          exact j_ireturn (pc := 106) rfl (Nat.le_of_ble_eq_true rfl) (Nat.le_of_ble_eq_true rfl) dX6_examine_106
        · refine j_aload_n (pc := 85) 2 dX6_examine_85 rfl rfl ?_
          refine j_getI (pc := 86) fd_12_1 tw_1_97 dX6_examine_86 ?_
          refine j_callNZ (pc := 89) (n := 1) (As := [aI (gI σ14 12 v0 1)]) (st := []) (fun l => c10_isKind l (gI σ14 12 v0 1)) (fun _ _ _ h => h.2.2.2.2.2.2.1) tw_1_161 tw_1_1 tw_1_162 ⟨by decide +kernel, by decide +kernel, by decide +kernel⟩ rfl rfl (Nat.le_of_ble_eq_true rfl) ⟨(Nat.le_of_ble_eq_true rfl), (Nat.le_of_ble_eq_true rfl)⟩ ⟨(Nat.le_of_ble_eq_true rfl), (Nat.le_of_ble_eq_true rfl)⟩ dX6_examine_89 (fun r15 σ16 => ?_)
          refine j_ifeqB (pc := 92) (tgt := 104) dX6_examine_92 rfl (fun _ => ?_) (fun _ => ?_)
          · refine j_bipush (pc := 104) (v := 8) (by decide) dX6_examine_104 ?_
            exact j_ireturn (pc := 106) rfl (Nat.le_of_ble_eq_true rfl) (Nat.le_of_ble_eq_true rfl) dX6_examine_106
          · refine j_aload_n (pc := 95) 2 dX6_examine_95 rfl rfl ?_
            refine j_getI (pc := 96) fd_12_2 tw_1_99 dX6_examine_96 ?_
            refine j_bipush (pc := 99) (v := 24) (by decide) dX6_examine_99 ?_
            refine j_icmple (pc := 101) (tgt := 107) dX6_examine_101 rfl (fun _ => ?_) (fun _ => ?_)
            · refine j_iload_n (pc := 107) 4 dX6_examine_107 rfl rfl ?_
              refine j_iconst (pc := 108) (v := 5) (by decide) dX6_examine_108 ?_
              refine j_iadd (pc := 109) dX6_examine_109 ?_
              refine j_leti (fun x17 => ?_)
              refine j_istore (pc := 110) (lv' := [(6, aI x17), (5, aI x6), (4, aI r2), (0, aR 12 v0), (1, aR 15 v1), (2, aI v2)]) dX6_examine_110 (Nat.le_of_ble_eq_true rfl) rfl ?_
              refine j_iload (pc := 112) 0 dX6_examine_112 rfl ?_
              refine j_iload (pc := 114) 2 dX6_examine_114 rfl ?_
              refine j_iadd (pc := 116) dX6_examine_116 ?_
              refine j_leti (fun x18 => ?_)
              refine j_istore (pc := 117) (lv' := [(7, aI x18), (6, aI x17), (5, aI x6), (4, aI r2), (0, aR 12 v0), (1, aR 15 v1), (2, aI v2)]) dX6_examine_117 (Nat.le_of_ble_eq_true rfl) rfl ?_
              refine j_aload_n (pc := 119) 5 dX6_examine_119 rfl rfl ?_
              refine j_iload_n (pc := 120) 6 dX6_examine_120 rfl rfl ?_
              refine j_iload (pc := 121) 0 dX6_examine_121 rfl ?_
              refine j_callVI (pc := 123) (As := [aI v2, aI x18]) (st := []) (fun l => c9_sum l N v1 v2 x18) cs_RX6_41 rfl rfl rfl rfl (Nat.le_of_ble_eq_true rfl) ⟨(Nat.le_of_ble_eq_true rfl), (Nat.le_of_ble_eq_true rfl)⟩ ⟨(Nat.le_of_ble_eq_true rfl), (Nat.le_of_ble_eq_true rfl)⟩ dX6_examine_123 (fun r19 σ20 => ?_)
              refine j_aload_n (pc := 126) 5 dX6_examine_126 rfl rfl ?_
              refine j_iload (pc := 127) 0 dX6_examine_127 rfl ?_
              refine j_callVI (pc := 129) (As := [aI x18]) (st := [aI r19]) (fun l => c9_pairAt l v1 x18) cs_RX6_21 rfl rfl rfl rfl (Nat.le_of_ble_eq_true rfl) ⟨(Nat.le_of_ble_eq_true rfl), (Nat.le_of_ble_eq_true rfl)⟩ ⟨(Nat.le_of_ble_eq_true rfl), (Nat.le_of_ble_eq_true rfl)⟩ dX6_examine_129 (fun r21 σ22 => ?_)
              refine j_icmpeq (pc := 132) (tgt := 138) dX6_examine_132 rfl (fun _ => ?_) (fun _ => ?_)
              · refine j_aload_n (pc := 138) 4 dX6_examine_138 rfl rfl ?_
                refine j_getF (pc := 139) fd_12_0 tw_1_96 dX6_examine_139 ?_
                refine j_iload (pc := 142) 2 dX6_examine_142 rfl ?_
                refine j_aload_n (pc := 144) 4 dX6_examine_144 rfl rfl ?_
                refine j_getI (pc := 145) fd_12_1 tw_1_97 dX6_examine_145 ?_
                refine j_aload_n (pc := 148) 4 dX6_examine_148 rfl rfl ?_
                refine j_getI (pc := 149) fd_12_2 tw_1_99 dX6_examine_149 ?_
                refine j_aload_n (pc := 152) 5 dX6_examine_152 rfl rfl ?_
                refine j_iload (pc := 153) 1 dX6_examine_153 rfl ?_
                refine j_iload (pc := 155) 0 dX6_examine_155 rfl ?_
                refine j_callVZ (pc := 157) (As := [aI x6, aI (gI σ22 12 v0 1), aI (gI σ22 12 v0 2), aR 15 v1, aI x17, aI x18]) (st := []) (fun l => c5_unpack l N v0 x6 (gI σ22 12 v0 1) (gI σ22 12 v0 2) v1 x17 x18) cs_RX6_45 rfl rfl rfl rfl (Nat.le_of_ble_eq_true rfl) ⟨(Nat.le_of_ble_eq_true rfl), (Nat.le_of_ble_eq_true rfl)⟩ ⟨(Nat.le_of_ble_eq_true rfl), (Nat.le_of_ble_eq_true rfl)⟩ dX6_examine_157 (fun r23 σ24 => ?_)
                refine j_ifneB (pc := 160) (tgt := 166) dX6_examine_160 rfl (fun _ => ?_) (fun _ => ?_)
                · refine j_aload_n (pc := 166) 4 dX6_examine_166 rfl rfl ?_
                  refine j_iload_n (pc := 167) 6 dX6_examine_167 rfl rfl ?_
                  refine j_bipush (pc := 168) (v := 7) (by decide) dX6_examine_168 ?_
                  refine j_iadd (pc := 170) dX6_examine_170 ?_
                  refine j_iload (pc := 171) 3 dX6_examine_171 rfl ?_
                  refine j_iadd (pc := 173) dX6_examine_173 ?_
                  refine j_putI (pc := 174) fd_12_3 rfl rfl tw_1_101 dX6_examine_174 ?_
                  refine j_lets (fun σ25 => ?_)
                  refine j_iconst (pc := 177) (v := 0) (by decide) dX6_examine_177 ?_
                  exact j_ireturn (pc := 178) rfl (Nat.le_of_ble_eq_true rfl) (Nat.le_of_ble_eq_true rfl) dX6_examine_178
                · refine j_bipush (pc := 163) (v := 8) (by decide) dX6_examine_163 ?_
                  exact j_ireturn (pc := 165) rfl (Nat.le_of_ble_eq_true rfl) (Nat.le_of_ble_eq_true rfl) dX6_examine_165
              · refine j_bipush (pc := 135) (v := 8) (by decide) dX6_examine_135 ?_
                exact j_ireturn (pc := 137) rfl (Nat.le_of_ble_eq_true rfl) (Nat.le_of_ble_eq_true rfl) dX6_examine_137
            · refine j_bipush (pc := 104) (v := 8) (by decide) dX6_examine_104 ?_
              exact j_ireturn (pc := 106) rfl (Nat.le_of_ble_eq_true rfl) (Nat.le_of_ble_eq_true rfl) dX6_examine_106
      · refine j_bipush (pc := 41) (v := 7) (by decide) dX6_examine_41 ?_
        exact j_ireturn (pc := 43) rfl (Nat.le_of_ble_eq_true rfl) (Nat.le_of_ble_eq_true rfl) dX6_examine_43
    · refine j_bipush (pc := 20) (v := 7) (by decide) dX6_examine_20 ?_
      exact j_ireturn (pc := 22) rfl (Nat.le_of_ble_eq_true rfl) (Nat.le_of_ble_eq_true rfl) dX6_examine_22
  · refine j_bipush (pc := 11) (v := 6) (by decide) dX6_examine_11 ?_
    exact j_ireturn (pc := 13) rfl (Nat.le_of_ble_eq_true rfl) (Nat.le_of_ble_eq_true rfl) dX6_examine_13
theorem c6_examine (l : Launch) (N : Nat) (v0 : Nat) (v1 : Nat) (v2 : Int32) : Ctr l yX6_examine cX6_examine 8 (some .int) rm6_examine eI [aR 12 v0, aR 15 v1, aI v2] (f6_examine N v0 v1 v2) := ctr_of (lv := [(0, aR 12 v0), (1, aR 15 v1), (2, aI v2)]) (by decide +kernel) (fun _ => rfl) (fun _ => (Nat.le_of_ble_eq_true rfl)) (fun _ h => lvl_als h rfl) (fun _ σ _ => j6_examine N v0 v1 v2 σ)
theorem cs_RX10_187 : CaV RX10 RX6 187 yX6_examine cX6_examine 8 (some .int) 2 := ⟨tw_3_28, tw_3_29, tw_3_30, tw_1_4, tw_3_31, rfl, by decide +kernel, by decide +kernel, by decide +kernel⟩
abbrev rm10_pieces : Room := { frames := 7, cells := 0, slots := 0, locals := 167 }
set_option maxRecDepth 20000 in
set_option maxHeartbeats 4000000 in
theorem jb10_pieces_18 {Γ : jX} {tg : Int32 × rS} (N : Nat) (K18 : Nat → Nat → Int32 → Int32 → rS → Option (Int32 × rS)) (hK18 : ∀ (v0 : Nat) (v2 : Nat) (v3 : Int32) (v4 : Int32) (σ : rS), J Γ rm10_pieces eI cX10_pieces RX10 5 (some .int) tg 0 0 18 [(0, aR 0 v0), (2, aR 15 v2), (3, aI v3), (4, aI v4)] [] σ (K18 v0 v2 v3 v4 σ)) (v0 : Nat) (v2 : Nat) (v3 : Int32) (v4 : Int32) (σ : rS) : J Γ rm10_pieces eI cX10_pieces RX10 5 (some .int) tg 0 0 18 [(0, aR 0 v0), (2, aR 15 v2), (3, aI v3), (4, aI v4)] [] σ (B10_pieces_18 N K18 v0 v2 v3 v4 σ) := by
  unfold B10_pieces_18
  refine j_iload_n (pc := 18) 2 dX10_pieces_18 rfl rfl ?_
  refine j_sipush (pc := 19) (v := 400) (by decide) dX10_pieces_19 ?_
  refine j_icmpge (pc := 22) (tgt := 53) dX10_pieces_22 rfl (fun _ => ?_) (fun _ => ?_)
  · refine j_iload_n (pc := 53) 2 dX10_pieces_53 rfl rfl ?_
    exact j_ireturn (pc := 54) rfl (Nat.le_of_ble_eq_true rfl) (Nat.le_of_ble_eq_true rfl) dX10_pieces_54
  · refine j_aload_n (pc := 25) 0 dX10_pieces_25 rfl rfl ?_
    refine j_getF (pc := 26) fd_0_6 tw_1_118 dX10_pieces_26 ?_
    refine j_aload_n (pc := 29) 1 dX10_pieces_29 rfl rfl ?_
    refine j_iload (pc := 30) 3 dX10_pieces_30 rfl ?_
    refine j_callVI (pc := 32) (As := [aR 15 v2, aI v4]) (st := []) (fun l => c6_examine l N v0 v2 v4) cs_RX10_187 rfl rfl rfl rfl (Nat.le_of_ble_eq_true rfl) ⟨(Nat.le_of_ble_eq_true rfl), (Nat.le_of_ble_eq_true rfl)⟩ ⟨(Nat.le_of_ble_eq_true rfl), (Nat.le_of_ble_eq_true rfl)⟩ dX10_pieces_32 (fun r1 σ2 => ?_)
    refine j_ifne (pc := 35) (tgt := 53) dX10_pieces_35 rfl (fun _ => ?_) (fun _ => ?_)
    · refine j_iload_n (pc := 53) 2 dX10_pieces_53 rfl rfl ?_
      exact j_ireturn (pc := 54) rfl (Nat.le_of_ble_eq_true rfl) (Nat.le_of_ble_eq_true rfl) dX10_pieces_54
    · refine j_iinc (pc := 38) (w := 1) (lv' := [(3, aI (v3 + 1)), (0, aR 0 v0), (2, aR 15 v2), (4, aI v4)]) 2 dX10_pieces_38 rfl (by decide) (Nat.le_of_ble_eq_true rfl) rfl ?_
      refine j_aload_n (pc := 41) 1 dX10_pieces_41 rfl rfl ?_
      refine j_getF (pc := 42) fd_0_6 tw_1_118 dX10_pieces_42 ?_
      refine j_getI (pc := 45) fd_12_3 tw_1_102 dX10_pieces_45 ?_
      refine j_leti (fun x3 => ?_)
      refine j_istore (pc := 48) (lv' := [(4, aI x3), (3, aI (v3 + 1)), (0, aR 0 v0), (2, aR 15 v2)]) dX10_pieces_48 (Nat.le_of_ble_eq_true rfl) rfl ?_
      refine j_goto (pc := 50) (tgt := 18) dX10_pieces_50 rfl ?_
      refine j_sub [2, 3, 1, 0] (lv' := [(0, aR 0 v0), (2, aR 15 v2), (3, aI (v3 + 1)), (4, aI x3)]) rfl ?_
      exact hK18 v0 v2 (v3 + 1) x3 σ2
theorem jl10_pieces_18 {Γ : jX} {tg : Int32 × rS} (N : Nat) : ∀ (n : Nat) (v0 : Nat) (v2 : Nat) (v3 : Int32) (v4 : Int32) (σ : rS), J Γ rm10_pieces eI cX10_pieces RX10 5 (some .int) tg 0 0 18 [(0, aR 0 v0), (2, aR 15 v2), (3, aI v3), (4, aI v4)] [] σ (L10_pieces_18 N n v0 v2 v3 v4 σ) := by
  intro n
  induction n with
  | zero => intro v0 v2 v3 v4 σ; exact j_none
  | succ n ih => intro v0 v2 v3 v4 σ; exact jb10_pieces_18 N (L10_pieces_18 N n) ih v0 v2 v3 v4 σ
set_option maxRecDepth 20000 in
set_option maxHeartbeats 4000000 in
theorem j10_pieces {Γ : jX} {tg : Int32 × rS} (N : Nat) (v0 : Nat) (v1 : Int32) (σ : rS) : J Γ rm10_pieces eI cX10_pieces RX10 5 (some .int) tg 0 0 0 [(0, aR 0 v0), (1, aI v1)] [] σ (f10_pieces N v0 v1 σ) := by
  unfold f10_pieces
  refine j_aload_n (pc := 0) 0 dX10_pieces_0 rfl rfl ?_
  refine j_iload_n (pc := 1) 1 dX10_pieces_1 rfl rfl ?_
  refine j_callVR (pc := 2) (As := [aI v1]) (st := []) (fun l => c10_streamNumbered l v0 v1) cs_RX10_147 rfl rfl rfl rfl (Nat.le_of_ble_eq_true rfl) ⟨(Nat.le_of_ble_eq_true rfl), (Nat.le_of_ble_eq_true rfl)⟩ ⟨(Nat.le_of_ble_eq_true rfl), (Nat.le_of_ble_eq_true rfl)⟩ dX10_pieces_2 (fun r1 σ2 => ?_)
  refine j_astore_n (pc := 5) (lv' := [(2, aO 15 r1), (0, aR 0 v0), (1, aI v1)]) dX10_pieces_5 rfl (Nat.le_of_ble_eq_true rfl) rfl ?_
  refine j_sub [0, 1] (lv' := [(2, aO 15 r1), (0, aR 0 v0)]) rfl ?_
  refine j_aload_n (pc := 6) 0 dX10_pieces_6 rfl rfl ?_
  refine j_ifnonnull (pc := 7) (tgt := 13) dX10_pieces_7 rfl (fun hm => ?_) (fun i3 hm => ?_)
  · subst hm
    refine j_bipush (pc := 10) (v := (-101)) (by decide) dX10_pieces_10 ?_
    exact j_ireturn (pc := 12) rfl (Nat.le_of_ble_eq_true rfl) (Nat.le_of_ble_eq_true rfl) dX10_pieces_12
  · subst hm
    refine j_iconst (pc := 13) (v := 0) (by decide) dX10_pieces_13 ?_
    refine j_istore_n (pc := 14) (lv' := [(3, aI 0), (2, aR 15 i3), (0, aR 0 v0)]) dX10_pieces_14 rfl (Nat.le_of_ble_eq_true rfl) rfl ?_
    refine j_iconst (pc := 15) (v := 0) (by decide) dX10_pieces_15 ?_
    refine j_istore (pc := 16) (lv' := [(4, aI 0), (3, aI 0), (2, aR 15 i3), (0, aR 0 v0)]) dX10_pieces_16 (Nat.le_of_ble_eq_true rfl) rfl ?_
    refine j_sub [3, 2, 1, 0] (lv' := [(0, aR 0 v0), (2, aR 15 i3), (3, aI 0), (4, aI 0)]) rfl ?_
    exact jl10_pieces_18 N  N v0 i3 0 0 σ2
theorem c10_pieces (l : Launch) (N : Nat) (v0 : Nat) (v1 : Int32) : Ctr l yX10_pieces cX10_pieces 5 (some .int) rm10_pieces eI [aR 0 v0, aI v1] (f10_pieces N v0 v1) := ctr_of (lv := [(0, aR 0 v0), (1, aI v1)]) (by decide +kernel) (fun _ => rfl) (fun _ => (Nat.le_of_ble_eq_true rfl)) (fun _ h => lvl_als h rfl) (fun _ σ _ => j10_pieces N v0 v1 σ)
theorem cs_RX10_94 : CaS RX10 94 yX4_told cX4_told 3 (some .long) 2 := ⟨tw_1_212, tw_1_213, tw_1_7, tw_1_214, by decide +kernel, by decide +kernel, by decide +kernel⟩
abbrev rm10_put : Room := { frames := 3, cells := 0, slots := 0, locals := 66 }
set_option maxRecDepth 20000 in
set_option maxHeartbeats 4000000 in
theorem j10_put {Γ : jX} {tg : Int32 × rS} (v0 : Nat) (v1 : Int32) (v2 : Int32) (v3 : Int64) (σ : rS) : J Γ rm10_put eI cX10_put RX10 6 (some .int) tg 0 0 0 [(0, aR 0 v0), (1, aI v1), (2, aI v2), (3, aL v3)] [] σ (f10_put v0 v1 v2 v3 σ) := by
  unfold f10_put
  refine j_aload_n (pc := 0) 0 dX10_put_0 rfl rfl ?_
  refine j_iload_n (pc := 1) 1 dX10_put_1 rfl rfl ?_
  refine j_callVR (pc := 2) (As := [aI v1]) (st := []) (fun l => c10_rowNumbered l v0 v1) cs_RX10_76 rfl rfl rfl rfl (Nat.le_of_ble_eq_true rfl) ⟨(Nat.le_of_ble_eq_true rfl), (Nat.le_of_ble_eq_true rfl)⟩ ⟨(Nat.le_of_ble_eq_true rfl), (Nat.le_of_ble_eq_true rfl)⟩ dX10_put_2 (fun r1 σ2 => ?_)
  refine j_astore (pc := 5) (lv' := [(5, aO 13 r1), (0, aR 0 v0), (1, aI v1), (2, aI v2), (3, aL v3)]) dX10_put_5 (Nat.le_of_ble_eq_true rfl) rfl ?_
  refine j_sub [0, 1, 3, 4] (lv' := [(5, aO 13 r1), (0, aR 0 v0), (2, aI v2), (3, aL v3)]) rfl ?_
  refine j_aload (pc := 7) 0 dX10_put_7 rfl ?_
  refine j_ifnonnull (pc := 9) (tgt := 15) dX10_put_9 rfl (fun hm => ?_) (fun i3 hm => ?_)
  · subst hm
    refine j_bipush (pc := 12) (v := (-101)) (by decide) dX10_put_12 ?_
    exact j_ireturn (pc := 14) rfl (Nat.le_of_ble_eq_true rfl) (Nat.le_of_ble_eq_true rfl) dX10_put_14
  · subst hm
    refine j_aload (pc := 15) 0 dX10_put_15 rfl ?_
    refine j_getI (pc := 17) fd_13_2 tw_1_180 dX10_put_17 ?_
    refine j_ifeq (pc := 20) (tgt := 29) dX10_put_20 rfl (fun _ => ?_) (fun _ => ?_)
    · refine j_aload (pc := 29) 0 dX10_put_29 rfl ?_
      refine j_iload_n (pc := 31) 2 dX10_put_31 rfl rfl ?_
      refine j_callVZ (pc := 32) (As := [aI v2]) (st := []) (fun l => c7_has l i3 v2) cs_RX10_91 rfl rfl rfl rfl (Nat.le_of_ble_eq_true rfl) ⟨(Nat.le_of_ble_eq_true rfl), (Nat.le_of_ble_eq_true rfl)⟩ ⟨(Nat.le_of_ble_eq_true rfl), (Nat.le_of_ble_eq_true rfl)⟩ dX10_put_32 (fun r4 σ5 => ?_)
      refine j_ifneB (pc := 35) (tgt := 44) dX10_put_35 rfl (fun _ => ?_) (fun _ => ?_)
      · refine j_aload (pc := 44) 0 dX10_put_44 rfl ?_
        refine j_getF (pc := 46) fd_13_1 tw_1_179 dX10_put_46 ?_
        refine j_iload_n (pc := 49) 2 dX10_put_49 rfl rfl ?_
        refine j_aload (pc := 50) 0 dX10_put_50 rfl ?_
        refine j_getI (pc := 52) fd_13_0 tw_1_177 dX10_put_52 ?_
        refine j_lload_n (pc := 55) 3 dX10_put_55 rfl rfl ?_
        refine j_callSL (pc := 56) (As := [aI (gI σ5 13 i3 0), aL v3]) (st := [aI v2, aR 14 i3]) (fun l => c4_told l (gI σ5 13 i3 0) v3) cs_RX10_94 rfl rfl (Nat.le_of_ble_eq_true rfl) ⟨(Nat.le_of_ble_eq_true rfl), (Nat.le_of_ble_eq_true rfl)⟩ ⟨(Nat.le_of_ble_eq_true rfl), (Nat.le_of_ble_eq_true rfl)⟩ dX10_put_56 (fun r6 σ7 => ?_)
        refine j_last (pc := 59) rfl rfl rfl dX10_put_59 (fun j8 => ?_)
        refine j_lets (fun σ9 => ?_)
        refine j_iconst (pc := 60) (v := 0) (by decide) dX10_put_60 ?_
        exact j_ireturn (pc := 61) rfl (Nat.le_of_ble_eq_true rfl) (Nat.le_of_ble_eq_true rfl) dX10_put_61
      · refine j_aload_n (pc := 38) 1 dX10_put_38 rfl rfl ?_
        refine j_iconst (pc := 39) (v := 2) (by decide) dX10_put_39 ?_
        refine j_callVI (pc := 40) (As := [aI 2]) (st := []) (fun l => c10_found l v0 2) cs_RX10_68 rfl rfl rfl rfl (Nat.le_of_ble_eq_true rfl) ⟨(Nat.le_of_ble_eq_true rfl), (Nat.le_of_ble_eq_true rfl)⟩ ⟨(Nat.le_of_ble_eq_true rfl), (Nat.le_of_ble_eq_true rfl)⟩ dX10_put_40 (fun r10 σ11 => ?_)
        exact j_ireturn (pc := 43) rfl (Nat.le_of_ble_eq_true rfl) (Nat.le_of_ble_eq_true rfl) dX10_put_43
    · refine j_aload_n (pc := 23) 1 dX10_put_23 rfl rfl ?_
      refine j_iconst (pc := 24) (v := 1) (by decide) dX10_put_24 ?_
      refine j_callVI (pc := 25) (As := [aI 1]) (st := []) (fun l => c10_found l v0 1) cs_RX10_68 rfl rfl rfl rfl (Nat.le_of_ble_eq_true rfl) ⟨(Nat.le_of_ble_eq_true rfl), (Nat.le_of_ble_eq_true rfl)⟩ ⟨(Nat.le_of_ble_eq_true rfl), (Nat.le_of_ble_eq_true rfl)⟩ dX10_put_25 (fun r12 σ13 => ?_)
      exact j_ireturn (pc := 28) rfl (Nat.le_of_ble_eq_true rfl) (Nat.le_of_ble_eq_true rfl) dX10_put_28
theorem c10_put (l : Launch) (v0 : Nat) (v1 : Int32) (v2 : Int32) (v3 : Int64) : Ctr l yX10_put cX10_put 6 (some .int) rm10_put eI [aR 0 v0, aI v1, aI v2, aL v3] (f10_put v0 v1 v2 v3) := ctr_of (lv := [(0, aR 0 v0), (1, aI v1), (2, aI v2), (3, aL v3)]) (by decide +kernel) (fun _ => rfl) (fun _ => (Nat.le_of_ble_eq_true rfl)) (fun _ h => lvl_als h rfl) (fun _ σ _ => j10_put v0 v1 v2 v3 σ)
theorem cs_RX2_65 : CaS RX2 65 yX2_isNone cX2_isNone 3 (some .boolean) 2 := ⟨tw_2_84, tw_2_19, tw_1_8, tw_2_20, by decide +kernel, by decide +kernel, by decide +kernel⟩
abbrev rm2_leaveRest : Room := { frames := 2, cells := 0, slots := 0, locals := 44 }
set_option maxRecDepth 20000 in
set_option maxHeartbeats 4000000 in
theorem j2_leaveRest {Γ : jX} {tg : Bool × rS} (v0 : Int32) (v1 : Int64) (v3 : Int64) (σ : rS) : J Γ rm2_leaveRest eZ cX2_leaveRest RX2 5 (some .boolean) tg 0 0 0 [(0, aI v0), (1, aL v1), (3, aL v3)] [] σ (f2_leaveRest v0 v1 v3 σ) := by
  unfold f2_leaveRest
  refine j_iload_n (pc := 0) 0 dX2_leaveRest_0 rfl rfl ?_
  refine j_lload_n (pc := 1) 2 dX2_leaveRest_1 rfl rfl ?_
  refine j_callSZ (pc := 2) (As := [aI v0, aL v3]) (st := []) (fun l => c2_isNone l v0 v3) cs_RX2_65 rfl rfl (Nat.le_of_ble_eq_true rfl) ⟨(Nat.le_of_ble_eq_true rfl), (Nat.le_of_ble_eq_true rfl)⟩ ⟨(Nat.le_of_ble_eq_true rfl), (Nat.le_of_ble_eq_true rfl)⟩ dX2_leaveRest_2 (fun r1 σ2 => ?_)
  refine j_ifneB (pc := 5) (tgt := 35) dX2_leaveRest_5 rfl (fun _ => ?_) (fun _ => ?_)
  · refine j_iconst (pc := 35) (v := 0) (by decide) dX2_leaveRest_35 ?_
    exact j_zret0 (pc := 36) rfl (Nat.le_of_ble_eq_true rfl) (Nat.le_of_ble_eq_true rfl) dX2_leaveRest_36
  · refine j_iload_n (pc := 8) 0 dX2_leaveRest_8 rfl rfl ?_
    refine j_lload_n (pc := 9) 2 dX2_leaveRest_9 rfl rfl ?_
    refine j_callSL (pc := 10) (As := [aI v0, aL v3]) (st := []) (fun l => c2_sizeOf l v0 v3) cs_RX2_34 rfl rfl (Nat.le_of_ble_eq_true rfl) ⟨(Nat.le_of_ble_eq_true rfl), (Nat.le_of_ble_eq_true rfl)⟩ ⟨(Nat.le_of_ble_eq_true rfl), (Nat.le_of_ble_eq_true rfl)⟩ dX2_leaveRest_10 (fun r3 σ4 => ?_)
    refine j_lconst (pc := 13) (v := 0) (by decide) dX2_leaveRest_13 ?_
    refine j_lcmpeq (pc := 14) (tgt := 35) dX2_leaveRest_14 dX2_leaveRest_15 rfl (fun _ => ?_) (fun _ => ?_)
    · refine j_iconst (pc := 35) (v := 0) (by decide) dX2_leaveRest_35 ?_
      exact j_zret0 (pc := 36) rfl (Nat.le_of_ble_eq_true rfl) (Nat.le_of_ble_eq_true rfl) dX2_leaveRest_36
    · refine j_iload_n (pc := 18) 0 dX2_leaveRest_18 rfl rfl ?_
      refine j_lload_n (pc := 19) 1 dX2_leaveRest_19 rfl rfl ?_
      refine j_callSL (pc := 20) (As := [aI v0, aL v1]) (st := []) (fun l => c2_sizeOf l v0 v1) cs_RX2_34 rfl rfl (Nat.le_of_ble_eq_true rfl) ⟨(Nat.le_of_ble_eq_true rfl), (Nat.le_of_ble_eq_true rfl)⟩ ⟨(Nat.le_of_ble_eq_true rfl), (Nat.le_of_ble_eq_true rfl)⟩ dX2_leaveRest_20 (fun r5 σ6 => ?_)
      refine j_iload_n (pc := 23) 0 dX2_leaveRest_23 rfl rfl ?_
      refine j_callSL (pc := 24) (As := [aI v0]) (st := [aL r5]) (fun l => c2_endless l v0) cs_RX2_38 rfl rfl (Nat.le_of_ble_eq_true rfl) ⟨(Nat.le_of_ble_eq_true rfl), (Nat.le_of_ble_eq_true rfl)⟩ ⟨(Nat.le_of_ble_eq_true rfl), (Nat.le_of_ble_eq_true rfl)⟩ dX2_leaveRest_24 (fun r7 σ8 => ?_)
      refine j_lcmpge (pc := 27) (tgt := 35) dX2_leaveRest_27 dX2_leaveRest_28 rfl (fun _ => ?_) (fun _ => ?_)
      · refine j_iconst (pc := 35) (v := 0) (by decide) dX2_leaveRest_35 ?_
        exact j_zret0 (pc := 36) rfl (Nat.le_of_ble_eq_true rfl) (Nat.le_of_ble_eq_true rfl) dX2_leaveRest_36
      · refine j_iconst (pc := 31) (v := 1) (by decide) dX2_leaveRest_31 ?_
        refine j_goto (pc := 32) (tgt := 36) dX2_leaveRest_32 rfl ?_
        exact j_zret1 (pc := 36) rfl (Nat.le_of_ble_eq_true rfl) (Nat.le_of_ble_eq_true rfl) dX2_leaveRest_36
theorem c2_leaveRest (l : Launch) (v0 : Int32) (v1 : Int64) (v3 : Int64) : Ctr l yX2_leaveRest cX2_leaveRest 5 (some .boolean) rm2_leaveRest eZ [aI v0, aL v1, aL v3] (f2_leaveRest v0 v1 v3) := ctr_of (lv := [(0, aI v0), (1, aL v1), (3, aL v3)]) (by decide +kernel) (fun _ => rfl) (fun _ => (Nat.le_of_ble_eq_true rfl)) (fun _ h => lvl_als h rfl) (fun _ σ _ => j2_leaveRest v0 v1 v3 σ)
theorem cs_RX4_59 : CaS RX4 59 yX2_leaveRest cX2_leaveRest 5 (some .boolean) 3 := ⟨tw_2_81, tw_2_82, tw_1_8, tw_2_83, by decide +kernel, by decide +kernel, by decide +kernel⟩
abbrev rm4_leaveRest : Room := { frames := 3, cells := 0, slots := 0, locals := 68 }
set_option maxRecDepth 20000 in
set_option maxHeartbeats 4000000 in
theorem j4_leaveRest {Γ : jX} {tg : Bool × rS} (v0 : Int32) (v1 : Int64) (v3 : Int64) (σ : rS) : J Γ rm4_leaveRest eZ cX4_leaveRest RX4 5 (some .boolean) tg 0 0 0 [(0, aI v0), (1, aL v1), (3, aL v3)] [] σ (f4_leaveRest v0 v1 v3 σ) := by
  unfold f4_leaveRest
  refine j_iload_n (pc := 0) 0 dX4_leaveRest_0 rfl rfl ?_
  refine j_callSZ (pc := 1) (As := [aI v0]) (st := []) (fun l => c4_areFloating l v0) cs_RX4_15 rfl rfl (Nat.le_of_ble_eq_true rfl) ⟨(Nat.le_of_ble_eq_true rfl), (Nat.le_of_ble_eq_true rfl)⟩ ⟨(Nat.le_of_ble_eq_true rfl), (Nat.le_of_ble_eq_true rfl)⟩ dX4_leaveRest_1 (fun r1 σ2 => ?_)
  refine j_ifeqB (pc := 4) (tgt := 16) dX4_leaveRest_4 rfl (fun _ => ?_) (fun _ => ?_)
  · refine j_lload_n (pc := 16) 2 dX4_leaveRest_16 rfl rfl ?_
    refine j_lconst (pc := 17) (v := 0) (by decide) dX4_leaveRest_17 ?_
    refine j_lcmpeq (pc := 18) (tgt := 26) dX4_leaveRest_18 dX4_leaveRest_19 rfl (fun _ => ?_) (fun _ => ?_)
    · refine j_iconst (pc := 26) (v := 0) (by decide) dX4_leaveRest_26 ?_
      exact j_zret0 (pc := 27) rfl (Nat.le_of_ble_eq_true rfl) (Nat.le_of_ble_eq_true rfl) dX4_leaveRest_27
    · refine j_iconst (pc := 22) (v := 1) (by decide) dX4_leaveRest_22 ?_
      refine j_goto (pc := 23) (tgt := 27) dX4_leaveRest_23 rfl ?_
      exact j_zret1 (pc := 27) rfl (Nat.le_of_ble_eq_true rfl) (Nat.le_of_ble_eq_true rfl) dX4_leaveRest_27
  · refine j_iload_n (pc := 7) 0 dX4_leaveRest_7 rfl rfl ?_
    refine j_lload_n (pc := 8) 1 dX4_leaveRest_8 rfl rfl ?_
    refine j_lload_n (pc := 9) 2 dX4_leaveRest_9 rfl rfl ?_
    refine j_callSZ (pc := 10) (As := [aI v0, aL v1, aL v3]) (st := []) (fun l => c2_leaveRest l v0 v1 v3) cs_RX4_59 rfl rfl (Nat.le_of_ble_eq_true rfl) ⟨(Nat.le_of_ble_eq_true rfl), (Nat.le_of_ble_eq_true rfl)⟩ ⟨(Nat.le_of_ble_eq_true rfl), (Nat.le_of_ble_eq_true rfl)⟩ dX4_leaveRest_10 (fun r3 σ4 => ?_)
    refine j_goto (pc := 13) (tgt := 27) dX4_leaveRest_13 rfl ?_
    exact j_zretB (pc := 27) rfl (Nat.le_of_ble_eq_true rfl) (Nat.le_of_ble_eq_true rfl) dX4_leaveRest_27
theorem c4_leaveRest (l : Launch) (v0 : Int32) (v1 : Int64) (v3 : Int64) : Ctr l yX4_leaveRest cX4_leaveRest 5 (some .boolean) rm4_leaveRest eZ [aI v0, aL v1, aL v3] (f4_leaveRest v0 v1 v3) := ctr_of (lv := [(0, aI v0), (1, aL v1), (3, aL v3)]) (by decide +kernel) (fun _ => rfl) (fun _ => (Nat.le_of_ble_eq_true rfl)) (fun _ h => lvl_als h rfl) (fun _ σ _ => j4_leaveRest v0 v1 v3 σ)
abbrev rm2_fractionBits : Room := { frames := 0, cells := 0, slots := 0, locals := 0 }
set_option maxRecDepth 20000 in
set_option maxHeartbeats 4000000 in
theorem j2_fractionBits {Γ : jX} {tg : Int32 × rS} (v0 : Int32) (σ : rS) : J Γ rm2_fractionBits eI cX2_fractionBits RX2 1 (some .int) tg 0 0 0 [(0, aI v0)] [] σ (f2_fractionBits v0 σ) := by
  unfold f2_fractionBits
  refine j_iload_n (pc := 0) 0 dX2_fractionBits_0 rfl rfl ?_
  refine j_bipush (pc := 1) (v := 6) (by decide) dX2_fractionBits_1 ?_
  refine j_icmpne (pc := 3) (tgt := 11) dX2_fractionBits_3 rfl (fun _ => ?_) (fun _ => ?_)
  · refine j_bipush (pc := 11) (v := 52) (by decide) dX2_fractionBits_11 ?_
    exact j_ireturn (pc := 13) rfl (Nat.le_of_ble_eq_true rfl) (Nat.le_of_ble_eq_true rfl) dX2_fractionBits_13
  · refine j_bipush (pc := 6) (v := 23) (by decide) dX2_fractionBits_6 ?_
    refine j_goto (pc := 8) (tgt := 13) dX2_fractionBits_8 rfl ?_
    exact j_ireturn (pc := 13) rfl (Nat.le_of_ble_eq_true rfl) (Nat.le_of_ble_eq_true rfl) dX2_fractionBits_13
theorem c2_fractionBits (l : Launch) (v0 : Int32) : Ctr l yX2_fractionBits cX2_fractionBits 1 (some .int) rm2_fractionBits eI [aI v0] (f2_fractionBits v0) := ctr_of (lv := [(0, aI v0)]) (by decide +kernel) (fun _ => rfl) (fun _ => (Nat.le_of_ble_eq_true rfl)) (fun _ h => lvl_als h rfl) (fun _ σ _ => j2_fractionBits v0 σ)
theorem cs_RX2_23 : CaS RX2 23 yX2_fractionBits cX2_fractionBits 1 (some .int) 1 := ⟨tw_2_57, tw_2_58, tw_1_8, tw_2_59, by decide +kernel, by decide +kernel, by decide +kernel⟩
theorem cs_RX2_86 : CaS RX2 86 yJ9_max_7cf53 cJ9_max_7cf53 2 (some .int) 2 := ⟨tw_2_97, tw_2_98, tw_1_13, tw_2_99, by decide +kernel, by decide +kernel, by decide +kernel⟩
abbrev rm2_scaleOf : Room := { frames := 1, cells := 0, slots := 0, locals := 21 }
set_option maxRecDepth 20000 in
set_option maxHeartbeats 4000000 in
theorem j2_scaleOf {Γ : jX} {tg : Int32 × rS} (v0 : Int32) (v1 : Int64) (σ : rS) : J Γ rm2_scaleOf eI cX2_scaleOf RX2 3 (some .int) tg 0 0 0 [(0, aI v0), (1, aL v1)] [] σ (f2_scaleOf v0 v1 σ) := by
  unfold f2_scaleOf
  refine j_iconst (pc := 0) (v := 1) (by decide) dX2_scaleOf_0 ?_
  refine j_lload_n (pc := 1) 1 dX2_scaleOf_1 rfl rfl ?_
  refine j_iload_n (pc := 2) 0 dX2_scaleOf_2 rfl rfl ?_
  refine j_callSI (pc := 3) (As := [aI v0]) (st := [aL v1, aI 1]) (fun l => c2_fractionBits l v0) cs_RX2_23 rfl rfl (Nat.le_of_ble_eq_true rfl) ⟨(Nat.le_of_ble_eq_true rfl), (Nat.le_of_ble_eq_true rfl)⟩ ⟨(Nat.le_of_ble_eq_true rfl), (Nat.le_of_ble_eq_true rfl)⟩ dX2_scaleOf_3 (fun r1 σ2 => ?_)
  refine j_lshr (pc := 6) dX2_scaleOf_6 ?_
  refine j_l2i (pc := 7) dX2_scaleOf_7 ?_
  refine j_callSI (pc := 8) (As := [aI 1, aI (Int64.toInt32 (v1 >>> (Int32.toInt64 r1 &&& 63)))]) (st := []) (fun l => cJ_max l 1 (Int64.toInt32 (v1 >>> (Int32.toInt64 r1 &&& 63)))) cs_RX2_86 rfl rfl (Nat.le_of_ble_eq_true rfl) ⟨(Nat.le_of_ble_eq_true rfl), (Nat.le_of_ble_eq_true rfl)⟩ ⟨(Nat.le_of_ble_eq_true rfl), (Nat.le_of_ble_eq_true rfl)⟩ dX2_scaleOf_8 (fun r3 σ4 => ?_)
  exact j_ireturn (pc := 11) rfl (Nat.le_of_ble_eq_true rfl) (Nat.le_of_ble_eq_true rfl) dX2_scaleOf_11
theorem c2_scaleOf (l : Launch) (v0 : Int32) (v1 : Int64) : Ctr l yX2_scaleOf cX2_scaleOf 3 (some .int) rm2_scaleOf eI [aI v0, aL v1] (f2_scaleOf v0 v1) := ctr_of (lv := [(0, aI v0), (1, aL v1)]) (by decide +kernel) (fun _ => rfl) (fun _ => (Nat.le_of_ble_eq_true rfl)) (fun _ h => lvl_als h rfl) (fun _ σ _ => j2_scaleOf v0 v1 σ)
abbrev rm2_scaledFraction : Room := { frames := 1, cells := 0, slots := 0, locals := 20 }
set_option maxRecDepth 20000 in
set_option maxHeartbeats 4000000 in
theorem j2_scaledFraction {Γ : jX} {tg : Int64 × rS} (v0 : Int32) (v1 : Int64) (σ : rS) : J Γ rm2_scaledFraction eL cX2_scaledFraction RX2 7 (some .long) tg 0 0 0 [(0, aI v0), (1, aL v1)] [] σ (f2_scaledFraction v0 v1 σ) := by
  unfold f2_scaledFraction
  refine j_lconst (pc := 0) (v := 1) (by decide) dX2_scaledFraction_0 ?_
  refine j_iload_n (pc := 1) 0 dX2_scaledFraction_1 rfl rfl ?_
  refine j_callSI (pc := 2) (As := [aI v0]) (st := [aL 1]) (fun l => c2_fractionBits l v0) cs_RX2_23 rfl rfl (Nat.le_of_ble_eq_true rfl) ⟨(Nat.le_of_ble_eq_true rfl), (Nat.le_of_ble_eq_true rfl)⟩ ⟨(Nat.le_of_ble_eq_true rfl), (Nat.le_of_ble_eq_true rfl)⟩ dX2_scaledFraction_2 (fun r1 σ2 => ?_)
  refine j_lshl (pc := 5) dX2_scaledFraction_5 ?_
  refine j_letl (fun x3 => ?_)
  refine j_lstore_n (pc := 6) (lv' := [(3, aL x3), (0, aI v0), (1, aL v1)]) dX2_scaledFraction_6 rfl (Nat.le_of_ble_eq_true rfl) rfl ?_
  refine j_sub [0, 2] (lv' := [(3, aL x3), (1, aL v1)]) rfl ?_
  refine j_lload_n (pc := 7) 1 dX2_scaledFraction_7 rfl rfl ?_
  refine j_lload_n (pc := 8) 0 dX2_scaledFraction_8 rfl rfl ?_
  refine j_lconst (pc := 9) (v := 1) (by decide) dX2_scaledFraction_9 ?_
  refine j_lsub (pc := 10) dX2_scaledFraction_10 ?_
  refine j_land (pc := 11) dX2_scaledFraction_11 ?_
  refine j_letl (fun x4 => ?_)
  refine j_lstore (pc := 12) (lv' := [(5, aL x4), (3, aL x3), (1, aL v1)]) dX2_scaledFraction_12 (Nat.le_of_ble_eq_true rfl) rfl ?_
  refine j_lload_n (pc := 14) 2 dX2_scaledFraction_14 rfl rfl ?_
  refine j_lload_n (pc := 15) 1 dX2_scaledFraction_15 rfl rfl ?_
  refine j_lcmpge (pc := 16) (tgt := 25) dX2_scaledFraction_16 dX2_scaledFraction_17 rfl (fun _ => ?_) (fun _ => ?_)
  · refine j_lload (pc := 25) 0 dX2_scaledFraction_25 rfl ?_
    refine j_lload_n (pc := 27) 1 dX2_scaledFraction_27 rfl rfl ?_
    refine j_ladd (pc := 28) dX2_scaledFraction_28 ?_
    exact j_lreturn (pc := 29) rfl (Nat.le_of_ble_eq_true rfl) (Nat.le_of_ble_eq_true rfl) dX2_scaledFraction_29
  · refine j_lload (pc := 20) 0 dX2_scaledFraction_20 rfl ?_
    refine j_goto (pc := 22) (tgt := 29) dX2_scaledFraction_22 rfl ?_
    exact j_lreturn (pc := 29) rfl (Nat.le_of_ble_eq_true rfl) (Nat.le_of_ble_eq_true rfl) dX2_scaledFraction_29
theorem c2_scaledFraction (l : Launch) (v0 : Int32) (v1 : Int64) : Ctr l yX2_scaledFraction cX2_scaledFraction 7 (some .long) rm2_scaledFraction eL [aI v0, aL v1] (f2_scaledFraction v0 v1) := ctr_of (lv := [(0, aI v0), (1, aL v1)]) (by decide +kernel) (fun _ => rfl) (fun _ => (Nat.le_of_ble_eq_true rfl)) (fun _ h => lvl_als h rfl) (fun _ σ _ => j2_scaledFraction v0 v1 σ)
abbrev rm2_sizeFrom : Room := { frames := 1, cells := 0, slots := 0, locals := 20 }
set_option maxRecDepth 20000 in
set_option maxHeartbeats 4000000 in
theorem jb2_sizeFrom_57 {Γ : jX} {tg : Int64 × rS} (N : Nat) (v0 : Int32) (v1 : Int64) (v6 : Int32) (σ : rS) : J Γ rm2_sizeFrom eL cX2_sizeFrom RX2 8 (some .long) tg 0 0 57 [(0, aI v0), (1, aL v1), (6, aI v6)] [] σ (B2_sizeFrom_57 N v0 v1 v6 σ) := by
  unfold B2_sizeFrom_57
  refine j_iload (pc := 57) 2 dX2_sizeFrom_57 rfl ?_
  refine j_iconst (pc := 59) (v := 1) (by decide) dX2_sizeFrom_59 ?_
  refine j_isub (pc := 60) dX2_sizeFrom_60 ?_
  refine j_i2l (pc := 61) dX2_sizeFrom_61 ?_
  refine j_iload_n (pc := 62) 0 dX2_sizeFrom_62 rfl rfl ?_
  refine j_callSI (pc := 63) (As := [aI v0]) (st := [aL (Int32.toInt64 (v6 - 1))]) (fun l => c2_fractionBits l v0) cs_RX2_23 rfl rfl (Nat.le_of_ble_eq_true rfl) ⟨(Nat.le_of_ble_eq_true rfl), (Nat.le_of_ble_eq_true rfl)⟩ ⟨(Nat.le_of_ble_eq_true rfl), (Nat.le_of_ble_eq_true rfl)⟩ dX2_sizeFrom_63 (fun r1 σ2 => ?_)
  refine j_lshl (pc := 66) dX2_sizeFrom_66 ?_
  refine j_lload_n (pc := 67) 1 dX2_sizeFrom_67 rfl rfl ?_
  refine j_ladd (pc := 68) dX2_sizeFrom_68 ?_
  exact j_lreturn (pc := 69) rfl (Nat.le_of_ble_eq_true rfl) (Nat.le_of_ble_eq_true rfl) dX2_sizeFrom_69
set_option maxRecDepth 20000 in
set_option maxHeartbeats 4000000 in
theorem jb2_sizeFrom_22 {Γ : jX} {tg : Int64 × rS} (N : Nat) (K22 : Int32 → Int64 → Int64 → Int32 → Int32 → rS → Option (Int64 × rS)) (hK22 : ∀ (v0 : Int32) (v1 : Int64) (v4 : Int64) (v6 : Int32) (v7 : Int32) (σ : rS), J Γ rm2_sizeFrom eL cX2_sizeFrom RX2 8 (some .long) tg 0 0 22 [(0, aI v0), (1, aL v1), (4, aL v4), (6, aI v6), (7, aI v7)] [] σ (K22 v0 v1 v4 v6 v7 σ)) (v0 : Int32) (v1 : Int64) (v4 : Int64) (v6 : Int32) (v7 : Int32) (σ : rS) : J Γ rm2_sizeFrom eL cX2_sizeFrom RX2 8 (some .long) tg 0 0 22 [(0, aI v0), (1, aL v1), (4, aL v4), (6, aI v6), (7, aI v7)] [] σ (B2_sizeFrom_22 N K22 v0 v1 v4 v6 v7 σ) := by
  unfold B2_sizeFrom_22
  refine j_iload (pc := 22) 4 dX2_sizeFrom_22 rfl ?_
  refine j_iload_n (pc := 24) 0 dX2_sizeFrom_24 rfl rfl ?_
  refine j_callSI (pc := 25) (As := [aI v0]) (st := [aI v7]) (fun l => c2_fractionBits l v0) cs_RX2_23 rfl rfl (Nat.le_of_ble_eq_true rfl) ⟨(Nat.le_of_ble_eq_true rfl), (Nat.le_of_ble_eq_true rfl)⟩ ⟨(Nat.le_of_ble_eq_true rfl), (Nat.le_of_ble_eq_true rfl)⟩ dX2_sizeFrom_25 (fun r1 σ2 => ?_)
  refine j_icmpge (pc := 28) (tgt := 57) dX2_sizeFrom_28 rfl (fun _ => ?_) (fun _ => ?_)
  · refine j_sub [0, 1, 3] (lv' := [(0, aI v0), (1, aL v1), (6, aI v6)]) rfl ?_
    exact jb2_sizeFrom_57 N  v0 v1 v6 σ2
  · refine j_lload_n (pc := 31) 1 dX2_sizeFrom_31 rfl rfl ?_
    refine j_lload (pc := 32) 2 dX2_sizeFrom_32 rfl ?_
    refine j_lcmpge (pc := 34) (tgt := 57) dX2_sizeFrom_34 dX2_sizeFrom_35 rfl (fun _ => ?_) (fun _ => ?_)
    · refine j_sub [0, 1, 3] (lv' := [(0, aI v0), (1, aL v1), (6, aI v6)]) rfl ?_
      exact jb2_sizeFrom_57 N  v0 v1 v6 σ2
    · refine j_iload (pc := 38) 3 dX2_sizeFrom_38 rfl ?_
      refine j_iconst (pc := 40) (v := 1) (by decide) dX2_sizeFrom_40 ?_
      refine j_icmple (pc := 41) (tgt := 57) dX2_sizeFrom_41 rfl (fun _ => ?_) (fun _ => ?_)
      · refine j_sub [0, 1, 3] (lv' := [(0, aI v0), (1, aL v1), (6, aI v6)]) rfl ?_
        exact jb2_sizeFrom_57 N  v0 v1 v6 σ2
      · refine j_lload_n (pc := 44) 1 dX2_sizeFrom_44 rfl rfl ?_
        refine j_iconst (pc := 45) (v := 1) (by decide) dX2_sizeFrom_45 ?_
        refine j_lshl (pc := 46) dX2_sizeFrom_46 ?_
        refine j_letl (fun x3 => ?_)
        refine j_lstore_n (pc := 47) (lv' := [(1, aL x3), (0, aI v0), (4, aL v4), (6, aI v6), (7, aI v7)]) dX2_sizeFrom_47 rfl (Nat.le_of_ble_eq_true rfl) rfl ?_
        refine j_iinc (pc := 48) (w := (-1)) (lv' := [(6, aI (v6 + (-1))), (1, aL x3), (0, aI v0), (4, aL v4), (7, aI v7)]) 3 dX2_sizeFrom_48 rfl (by decide) (Nat.le_of_ble_eq_true rfl) rfl ?_
        refine j_iinc (pc := 51) (w := 1) (lv' := [(7, aI (v7 + 1)), (6, aI (v6 + (-1))), (1, aL x3), (0, aI v0), (4, aL v4)]) 4 dX2_sizeFrom_51 rfl (by decide) (Nat.le_of_ble_eq_true rfl) rfl ?_
        refine j_goto (pc := 54) (tgt := 22) dX2_sizeFrom_54 rfl ?_
        refine j_sub [3, 2, 4, 1, 0] (lv' := [(0, aI v0), (1, aL x3), (4, aL v4), (6, aI (v6 + (-1))), (7, aI (v7 + 1))]) rfl ?_
        exact hK22 v0 x3 v4 (v6 + (-1)) (v7 + 1) σ2
theorem jl2_sizeFrom_22 {Γ : jX} {tg : Int64 × rS} (N : Nat) : ∀ (n : Nat) (v0 : Int32) (v1 : Int64) (v4 : Int64) (v6 : Int32) (v7 : Int32) (σ : rS), J Γ rm2_sizeFrom eL cX2_sizeFrom RX2 8 (some .long) tg 0 0 22 [(0, aI v0), (1, aL v1), (4, aL v4), (6, aI v6), (7, aI v7)] [] σ (L2_sizeFrom_22 N n v0 v1 v4 v6 v7 σ) := by
  intro n
  induction n with
  | zero => intro v0 v1 v4 v6 v7 σ; exact j_none
  | succ n ih => intro v0 v1 v4 v6 v7 σ; exact jb2_sizeFrom_22 N (L2_sizeFrom_22 N n) ih v0 v1 v4 v6 v7 σ
set_option maxRecDepth 20000 in
set_option maxHeartbeats 4000000 in
theorem j2_sizeFrom {Γ : jX} {tg : Int64 × rS} (N : Nat) (v0 : Int32) (v1 : Int64) (v3 : Int32) (σ : rS) : J Γ rm2_sizeFrom eL cX2_sizeFrom RX2 8 (some .long) tg 0 0 0 [(0, aI v0), (1, aL v1), (3, aI v3)] [] σ (f2_sizeFrom N v0 v1 v3 σ) := by
  unfold f2_sizeFrom
  refine j_lload_n (pc := 0) 1 dX2_sizeFrom_0 rfl rfl ?_
  refine j_lconst (pc := 1) (v := 0) (by decide) dX2_sizeFrom_1 ?_
  refine j_lcmpne (pc := 2) (tgt := 8) dX2_sizeFrom_2 dX2_sizeFrom_3 rfl (fun _ => ?_) (fun _ => ?_)
  · refine j_lconst (pc := 8) (v := 1) (by decide) dX2_sizeFrom_8 ?_
    refine j_iload_n (pc := 9) 0 dX2_sizeFrom_9 rfl rfl ?_
    refine j_callSI (pc := 10) (As := [aI v0]) (st := [aL 1]) (fun l => c2_fractionBits l v0) cs_RX2_23 rfl rfl (Nat.le_of_ble_eq_true rfl) ⟨(Nat.le_of_ble_eq_true rfl), (Nat.le_of_ble_eq_true rfl)⟩ ⟨(Nat.le_of_ble_eq_true rfl), (Nat.le_of_ble_eq_true rfl)⟩ dX2_sizeFrom_10 (fun r1 σ2 => ?_)
    refine j_lshl (pc := 13) dX2_sizeFrom_13 ?_
    refine j_letl (fun x3 => ?_)
    refine j_lstore (pc := 14) (lv' := [(4, aL x3), (0, aI v0), (1, aL v1), (3, aI v3)]) dX2_sizeFrom_14 (Nat.le_of_ble_eq_true rfl) rfl ?_
    refine j_iload_n (pc := 16) 3 dX2_sizeFrom_16 rfl rfl ?_
    refine j_istore (pc := 17) (lv' := [(6, aI v3), (4, aL x3), (0, aI v0), (1, aL v1), (3, aI v3)]) dX2_sizeFrom_17 (Nat.le_of_ble_eq_true rfl) rfl ?_
    refine j_sub [0, 1, 2, 3] (lv' := [(6, aI v3), (4, aL x3), (0, aI v0), (1, aL v1)]) rfl ?_
    refine j_iconst (pc := 19) (v := 0) (by decide) dX2_sizeFrom_19 ?_
    refine j_istore (pc := 20) (lv' := [(7, aI 0), (6, aI v3), (4, aL x3), (0, aI v0), (1, aL v1)]) dX2_sizeFrom_20 (Nat.le_of_ble_eq_true rfl) rfl ?_
    refine j_sub [3, 4, 2, 1, 0] (lv' := [(0, aI v0), (1, aL v1), (4, aL x3), (6, aI v3), (7, aI 0)]) rfl ?_
    exact jl2_sizeFrom_22 N  N v0 v1 x3 v3 0 σ2
  · refine j_lconst (pc := 6) (v := 0) (by decide) dX2_sizeFrom_6 ?_
    exact j_lreturn (pc := 7) rfl (Nat.le_of_ble_eq_true rfl) (Nat.le_of_ble_eq_true rfl) dX2_sizeFrom_7
theorem c2_sizeFrom (l : Launch) (N : Nat) (v0 : Int32) (v1 : Int64) (v3 : Int32) : Ctr l yX2_sizeFrom cX2_sizeFrom 8 (some .long) rm2_sizeFrom eL [aI v0, aL v1, aI v3] (f2_sizeFrom N v0 v1 v3) := ctr_of (lv := [(0, aI v0), (1, aL v1), (3, aI v3)]) (by decide +kernel) (fun _ => rfl) (fun _ => (Nat.le_of_ble_eq_true rfl)) (fun _ h => lvl_als h rfl) (fun _ σ _ => j2_sizeFrom N v0 v1 v3 σ)
theorem cs_RX2_30 : CaS RX2 30 yX2_signBit cX2_signBit 1 (some .long) 1 := ⟨tw_2_63, tw_2_25, tw_1_8, tw_2_26, by decide +kernel, by decide +kernel, by decide +kernel⟩
abbrev rm2_withSign : Room := { frames := 1, cells := 0, slots := 0, locals := 20 }
set_option maxRecDepth 20000 in
set_option maxHeartbeats 4000000 in
theorem j2_withSign {Γ : jX} {tg : Int64 × rS} (v0 : Int32) (v1 : Int64) (v3 : Bool) (σ : rS) : J Γ rm2_withSign eL cX2_withSign RX2 4 (some .long) tg 0 0 0 [(0, aI v0), (1, aL v1), (3, aI (bi v3))] [] σ (f2_withSign v0 v1 v3 σ) := by
  unfold f2_withSign
  refine j_iload_n (pc := 0) 2 dX2_withSign_0 rfl rfl ?_
  refine j_ifeqB (pc := 1) (tgt := 13) dX2_withSign_1 rfl (fun _ => ?_) (fun _ => ?_)
  · refine j_lload_n (pc := 13) 1 dX2_withSign_13 rfl rfl ?_
    exact j_lreturn (pc := 14) rfl (Nat.le_of_ble_eq_true rfl) (Nat.le_of_ble_eq_true rfl) dX2_withSign_14
  · refine j_lload_n (pc := 4) 1 dX2_withSign_4 rfl rfl ?_
    refine j_iload_n (pc := 5) 0 dX2_withSign_5 rfl rfl ?_
    refine j_callSL (pc := 6) (As := [aI v0]) (st := [aL v1]) (fun l => c2_signBit l v0) cs_RX2_30 rfl rfl (Nat.le_of_ble_eq_true rfl) ⟨(Nat.le_of_ble_eq_true rfl), (Nat.le_of_ble_eq_true rfl)⟩ ⟨(Nat.le_of_ble_eq_true rfl), (Nat.le_of_ble_eq_true rfl)⟩ dX2_withSign_6 (fun r1 σ2 => ?_)
    refine j_lxor (pc := 9) dX2_withSign_9 ?_
    refine j_goto (pc := 10) (tgt := 14) dX2_withSign_10 rfl ?_
    exact j_lreturn (pc := 14) rfl (Nat.le_of_ble_eq_true rfl) (Nat.le_of_ble_eq_true rfl) dX2_withSign_14
theorem c2_withSign (l : Launch) (v0 : Int32) (v1 : Int64) (v3 : Bool) : Ctr l yX2_withSign cX2_withSign 4 (some .long) rm2_withSign eL [aI v0, aL v1, aI (bi v3)] (f2_withSign v0 v1 v3) := ctr_of (lv := [(0, aI v0), (1, aL v1), (3, aI (bi v3))]) (by decide +kernel) (fun _ => rfl) (fun _ => (Nat.le_of_ble_eq_true rfl)) (fun _ h => lvl_als h rfl) (fun _ σ _ => j2_withSign v0 v1 v3 σ)
theorem cs_RX2_82 : CaS RX2 82 yX2_sizeFrom cX2_sizeFrom 8 (some .long) 3 := ⟨tw_2_103, tw_2_104, tw_1_8, tw_2_105, by decide +kernel, by decide +kernel, by decide +kernel⟩
theorem cs_RX2_48 : CaS RX2 48 yX2_withSign cX2_withSign 4 (some .long) 3 := ⟨tw_2_60, tw_2_61, tw_1_8, tw_2_62, by decide +kernel, by decide +kernel, by decide +kernel⟩
theorem cs_RX2_76 : CaS RX2 76 yJ9_min_7cf53 cJ9_min_7cf53 2 (some .int) 2 := ⟨tw_2_100, tw_2_101, tw_1_13, tw_2_102, by decide +kernel, by decide +kernel, by decide +kernel⟩
theorem cs_RX2_69 : CaS RX2 69 yX2_scaledFraction cX2_scaledFraction 7 (some .long) 2 := ⟨tw_2_91, tw_2_92, tw_1_8, tw_2_93, by decide +kernel, by decide +kernel, by decide +kernel⟩
theorem cs_RX2_72 : CaS RX2 72 yX2_scaleOf cX2_scaleOf 3 (some .int) 2 := ⟨tw_2_94, tw_2_95, tw_1_8, tw_2_96, by decide +kernel, by decide +kernel, by decide +kernel⟩
abbrev rm2_restOf : Room := { frames := 2, cells := 0, slots := 0, locals := 47 }
set_option maxRecDepth 20000 in
set_option maxHeartbeats 4000000 in
theorem jb2_restOf_71 {Γ : jX} {tg : Int64 × rS} (N : Nat) (K71 : Int32 → Int64 → Int64 → Int32 → Int64 → Int32 → rS → Option (Int64 × rS)) (hK71 : ∀ (v0 : Int32) (v1 : Int64) (v9 : Int64) (v11 : Int32) (v12 : Int64) (v14 : Int32) (σ : rS), J Γ rm2_restOf eL cX2_restOf RX2 16 (some .long) tg 0 0 71 [(0, aI v0), (1, aL v1), (9, aL v9), (11, aI v11), (12, aL v12), (14, aI v14)] [] σ (K71 v0 v1 v9 v11 v12 v14 σ)) (v0 : Int32) (v1 : Int64) (v9 : Int64) (v11 : Int32) (v12 : Int64) (v14 : Int32) (σ : rS) : J Γ rm2_restOf eL cX2_restOf RX2 16 (some .long) tg 0 0 71 [(0, aI v0), (1, aL v1), (9, aL v9), (11, aI v11), (12, aL v12), (14, aI v14)] [] σ (B2_restOf_71 N K71 v0 v1 v9 v11 v12 v14 σ) := by
  unfold B2_restOf_71
  refine j_iload (pc := 71) 5 dX2_restOf_71 rfl ?_
  refine j_ifle (pc := 73) (tgt := 105) dX2_restOf_73 rfl (fun _ => ?_) (fun _ => ?_)
  · refine j_iload_n (pc := 105) 0 dX2_restOf_105 rfl rfl ?_
    refine j_iload_n (pc := 106) 0 dX2_restOf_106 rfl rfl ?_
    refine j_lload (pc := 107) 4 dX2_restOf_107 rfl ?_
    refine j_iload (pc := 109) 3 dX2_restOf_109 rfl ?_
    refine j_callSL (pc := 111) (As := [aI v0, aL v12, aI v11]) (st := [aI v0]) (fun l => c2_sizeFrom l N v0 v12 v11) cs_RX2_82 rfl rfl (Nat.le_of_ble_eq_true rfl) ⟨(Nat.le_of_ble_eq_true rfl), (Nat.le_of_ble_eq_true rfl)⟩ ⟨(Nat.le_of_ble_eq_true rfl), (Nat.le_of_ble_eq_true rfl)⟩ dX2_restOf_111 (fun r1 σ2 => ?_)
    refine j_lload_n (pc := 114) 1 dX2_restOf_114 rfl rfl ?_
    refine j_lconst (pc := 115) (v := 0) (by decide) dX2_restOf_115 ?_
    refine j_lcmpge (pc := 116) (tgt := 124) dX2_restOf_116 dX2_restOf_117 rfl (fun _ => ?_) (fun _ => ?_)
    · refine j_iconst (pc := 124) (v := 0) (by decide) dX2_restOf_124 ?_
      refine j_callSL (pc := 125) (As := [aI v0, aL r1, aI (bi false)]) (st := []) (fun l => c2_withSign l v0 r1 false) cs_RX2_48 rfl rfl (Nat.le_of_ble_eq_true rfl) ⟨(Nat.le_of_ble_eq_true rfl), (Nat.le_of_ble_eq_true rfl)⟩ ⟨(Nat.le_of_ble_eq_true rfl), (Nat.le_of_ble_eq_true rfl)⟩ dX2_restOf_125 (fun r3 σ4 => ?_)
      exact j_lreturn (pc := 128) rfl (Nat.le_of_ble_eq_true rfl) (Nat.le_of_ble_eq_true rfl) dX2_restOf_128
    · refine j_iconst (pc := 120) (v := 1) (by decide) dX2_restOf_120 ?_
      refine j_goto (pc := 121) (tgt := 125) dX2_restOf_121 rfl ?_
      refine j_callSL (pc := 125) (As := [aI v0, aL r1, aI (bi true)]) (st := []) (fun l => c2_withSign l v0 r1 true) cs_RX2_48 rfl rfl (Nat.le_of_ble_eq_true rfl) ⟨(Nat.le_of_ble_eq_true rfl), (Nat.le_of_ble_eq_true rfl)⟩ ⟨(Nat.le_of_ble_eq_true rfl), (Nat.le_of_ble_eq_true rfl)⟩ dX2_restOf_125 (fun r5 σ6 => ?_)
      exact j_lreturn (pc := 128) rfl (Nat.le_of_ble_eq_true rfl) (Nat.le_of_ble_eq_true rfl) dX2_restOf_128
  · refine j_iload (pc := 76) 5 dX2_restOf_76 rfl ?_
    refine j_bipush (pc := 78) (v := 10) (by decide) dX2_restOf_78 ?_
    refine j_callSI (pc := 80) (As := [aI v14, aI 10]) (st := []) (fun l => cJ_min l v14 10) cs_RX2_76 rfl rfl (Nat.le_of_ble_eq_true rfl) ⟨(Nat.le_of_ble_eq_true rfl), (Nat.le_of_ble_eq_true rfl)⟩ ⟨(Nat.le_of_ble_eq_true rfl), (Nat.le_of_ble_eq_true rfl)⟩ dX2_restOf_80 (fun r7 σ8 => ?_)
    refine j_istore (pc := 83) (lv' := [(15, aI r7), (0, aI v0), (1, aL v1), (9, aL v9), (11, aI v11), (12, aL v12), (14, aI v14)]) dX2_restOf_83 (Nat.le_of_ble_eq_true rfl) rfl ?_
    refine j_lload (pc := 85) 5 dX2_restOf_85 rfl ?_
    refine j_iload (pc := 87) 0 dX2_restOf_87 rfl ?_
    refine j_lshl (pc := 89) dX2_restOf_89 ?_
    refine j_lload (pc := 90) 3 dX2_restOf_90 rfl ?_
    refine j_ock (fun hn => ?_)
    refine j_lrem (pc := 92) dX2_restOf_92 hn ?_
    refine j_letl (fun x9 => ?_)
    refine j_lstore (pc := 93) (lv' := [(12, aL x9), (15, aI r7), (0, aI v0), (1, aL v1), (9, aL v9), (11, aI v11), (14, aI v14)]) dX2_restOf_93 (Nat.le_of_ble_eq_true rfl) rfl ?_
    refine j_iload (pc := 95) 6 dX2_restOf_95 rfl ?_
    refine j_iload (pc := 97) 1 dX2_restOf_97 rfl ?_
    refine j_isub (pc := 99) dX2_restOf_99 ?_
    refine j_leti (fun x10 => ?_)
    refine j_istore (pc := 100) (lv' := [(14, aI x10), (12, aL x9), (15, aI r7), (0, aI v0), (1, aL v1), (9, aL v9), (11, aI v11)]) dX2_restOf_100 (Nat.le_of_ble_eq_true rfl) rfl ?_
    refine j_sub [0, 1, 3, 4, 5, 6] (lv' := [(14, aI x10), (12, aL x9), (0, aI v0), (1, aL v1), (9, aL v9), (11, aI v11)]) rfl ?_
    refine j_goto (pc := 102) (tgt := 71) dX2_restOf_102 rfl ?_
    refine j_sub [2, 3, 4, 5, 1, 0] (lv' := [(0, aI v0), (1, aL v1), (9, aL v9), (11, aI v11), (12, aL x9), (14, aI x10)]) rfl ?_
    exact hK71 v0 v1 v9 v11 x9 x10 σ8
theorem jl2_restOf_71 {Γ : jX} {tg : Int64 × rS} (N : Nat) : ∀ (n : Nat) (v0 : Int32) (v1 : Int64) (v9 : Int64) (v11 : Int32) (v12 : Int64) (v14 : Int32) (σ : rS), J Γ rm2_restOf eL cX2_restOf RX2 16 (some .long) tg 0 0 71 [(0, aI v0), (1, aL v1), (9, aL v9), (11, aI v11), (12, aL v12), (14, aI v14)] [] σ (L2_restOf_71 N n v0 v1 v9 v11 v12 v14 σ) := by
  intro n
  induction n with
  | zero => intro v0 v1 v9 v11 v12 v14 σ; exact j_none
  | succ n ih => intro v0 v1 v9 v11 v12 v14 σ; exact jb2_restOf_71 N (L2_restOf_71 N n) ih v0 v1 v9 v11 v12 v14 σ
set_option maxRecDepth 20000 in
set_option maxHeartbeats 4000000 in
theorem j2_restOf {Γ : jX} {tg : Int64 × rS} (N : Nat) (v0 : Int32) (v1 : Int64) (v3 : Int64) (σ : rS) : J Γ rm2_restOf eL cX2_restOf RX2 16 (some .long) tg 0 0 0 [(0, aI v0), (1, aL v1), (3, aL v3)] [] σ (f2_restOf N v0 v1 v3 σ) := by
  unfold f2_restOf
  refine j_iload_n (pc := 0) 0 dX2_restOf_0 rfl rfl ?_
  refine j_lload_n (pc := 1) 1 dX2_restOf_1 rfl rfl ?_
  refine j_callSL (pc := 2) (As := [aI v0, aL v1]) (st := []) (fun l => c2_sizeOf l v0 v1) cs_RX2_34 rfl rfl (Nat.le_of_ble_eq_true rfl) ⟨(Nat.le_of_ble_eq_true rfl), (Nat.le_of_ble_eq_true rfl)⟩ ⟨(Nat.le_of_ble_eq_true rfl), (Nat.le_of_ble_eq_true rfl)⟩ dX2_restOf_2 (fun r1 σ2 => ?_)
  refine j_lstore (pc := 5) (lv' := [(5, aL r1), (0, aI v0), (1, aL v1), (3, aL v3)]) dX2_restOf_5 (Nat.le_of_ble_eq_true rfl) rfl ?_
  refine j_iload_n (pc := 7) 1 dX2_restOf_7 rfl rfl ?_
  refine j_lload_n (pc := 8) 3 dX2_restOf_8 rfl rfl ?_
  refine j_callSL (pc := 9) (As := [aI v0, aL v3]) (st := []) (fun l => c2_sizeOf l v0 v3) cs_RX2_34 rfl rfl (Nat.le_of_ble_eq_true rfl) ⟨(Nat.le_of_ble_eq_true rfl), (Nat.le_of_ble_eq_true rfl)⟩ ⟨(Nat.le_of_ble_eq_true rfl), (Nat.le_of_ble_eq_true rfl)⟩ dX2_restOf_9 (fun r3 σ4 => ?_)
  refine j_lstore (pc := 12) (lv' := [(7, aL r3), (5, aL r1), (0, aI v0), (1, aL v1), (3, aL v3)]) dX2_restOf_12 (Nat.le_of_ble_eq_true rfl) rfl ?_
  refine j_sub [0, 1, 2, 3] (lv' := [(7, aL r3), (5, aL r1), (0, aI v0), (1, aL v1)]) rfl ?_
  refine j_lload (pc := 14) 1 dX2_restOf_14 rfl ?_
  refine j_lload (pc := 16) 0 dX2_restOf_16 rfl ?_
  refine j_lcmpge (pc := 18) (tgt := 24) dX2_restOf_18 dX2_restOf_19 rfl (fun _ => ?_) (fun _ => ?_)
  · refine j_iload_n (pc := 24) 2 dX2_restOf_24 rfl rfl ?_
    refine j_lload (pc := 25) 0 dX2_restOf_25 rfl ?_
    refine j_callSL (pc := 27) (As := [aI v0, aL r3]) (st := []) (fun l => c2_scaledFraction l v0 r3) cs_RX2_69 rfl rfl (Nat.le_of_ble_eq_true rfl) ⟨(Nat.le_of_ble_eq_true rfl), (Nat.le_of_ble_eq_true rfl)⟩ ⟨(Nat.le_of_ble_eq_true rfl), (Nat.le_of_ble_eq_true rfl)⟩ dX2_restOf_27 (fun r5 σ6 => ?_)
    refine j_lstore (pc := 30) (lv' := [(9, aL r5), (7, aL r3), (5, aL r1), (0, aI v0), (1, aL v1)]) dX2_restOf_30 (Nat.le_of_ble_eq_true rfl) rfl ?_
    refine j_lload (pc := 32) 0 dX2_restOf_32 rfl ?_
    refine j_lconst (pc := 34) (v := 0) (by decide) dX2_restOf_34 ?_
    refine j_lcmpne (pc := 35) (tgt := 41) dX2_restOf_35 dX2_restOf_36 rfl (fun _ => ?_) (fun _ => ?_)
    · refine j_iload_n (pc := 41) 3 dX2_restOf_41 rfl rfl ?_
      refine j_lload (pc := 42) 1 dX2_restOf_42 rfl ?_
      refine j_callSI (pc := 44) (As := [aI v0, aL r3]) (st := []) (fun l => c2_scaleOf l v0 r3) cs_RX2_72 rfl rfl (Nat.le_of_ble_eq_true rfl) ⟨(Nat.le_of_ble_eq_true rfl), (Nat.le_of_ble_eq_true rfl)⟩ ⟨(Nat.le_of_ble_eq_true rfl), (Nat.le_of_ble_eq_true rfl)⟩ dX2_restOf_44 (fun r7 σ8 => ?_)
      refine j_istore (pc := 47) (lv' := [(11, aI r7), (9, aL r5), (7, aL r3), (5, aL r1), (0, aI v0), (1, aL v1)]) dX2_restOf_47 (Nat.le_of_ble_eq_true rfl) rfl ?_
      refine j_sub [0, 1, 3, 4, 5] (lv' := [(11, aI r7), (9, aL r5), (5, aL r1), (0, aI v0), (1, aL v1)]) rfl ?_
      refine j_iload_n (pc := 49) 3 dX2_restOf_49 rfl rfl ?_
      refine j_lload (pc := 50) 2 dX2_restOf_50 rfl ?_
      refine j_callSL (pc := 52) (As := [aI v0, aL r1]) (st := []) (fun l => c2_scaledFraction l v0 r1) cs_RX2_69 rfl rfl (Nat.le_of_ble_eq_true rfl) ⟨(Nat.le_of_ble_eq_true rfl), (Nat.le_of_ble_eq_true rfl)⟩ ⟨(Nat.le_of_ble_eq_true rfl), (Nat.le_of_ble_eq_true rfl)⟩ dX2_restOf_52 (fun r9 σ10 => ?_)
      refine j_lload (pc := 55) 1 dX2_restOf_55 rfl ?_
      refine j_ock (fun hn => ?_)
      refine j_lrem (pc := 57) dX2_restOf_57 hn ?_
      refine j_letl (fun x11 => ?_)
      refine j_lstore (pc := 58) (lv' := [(12, aL x11), (11, aI r7), (9, aL r5), (5, aL r1), (0, aI v0), (1, aL v1)]) dX2_restOf_58 (Nat.le_of_ble_eq_true rfl) rfl ?_
      refine j_iload_n (pc := 60) 4 dX2_restOf_60 rfl rfl ?_
      refine j_lload (pc := 61) 3 dX2_restOf_61 rfl ?_
      refine j_callSI (pc := 63) (As := [aI v0, aL r1]) (st := []) (fun l => c2_scaleOf l v0 r1) cs_RX2_72 rfl rfl (Nat.le_of_ble_eq_true rfl) ⟨(Nat.le_of_ble_eq_true rfl), (Nat.le_of_ble_eq_true rfl)⟩ ⟨(Nat.le_of_ble_eq_true rfl), (Nat.le_of_ble_eq_true rfl)⟩ dX2_restOf_63 (fun r12 σ13 => ?_)
      refine j_iload (pc := 66) 1 dX2_restOf_66 rfl ?_
      refine j_isub (pc := 68) dX2_restOf_68 ?_
      refine j_leti (fun x14 => ?_)
      refine j_istore (pc := 69) (lv' := [(14, aI x14), (12, aL x11), (11, aI r7), (9, aL r5), (5, aL r1), (0, aI v0), (1, aL v1)]) dX2_restOf_69 (Nat.le_of_ble_eq_true rfl) rfl ?_
      refine j_sub [0, 1, 2, 3, 5, 6] (lv' := [(14, aI x14), (12, aL x11), (11, aI r7), (9, aL r5), (0, aI v0), (1, aL v1)]) rfl ?_
      refine j_sub [4, 5, 3, 2, 1, 0] (lv' := [(0, aI v0), (1, aL v1), (9, aL r5), (11, aI r7), (12, aL x11), (14, aI x14)]) rfl ?_
      exact jl2_restOf_71 N  N v0 v1 r5 r7 x11 x14 σ13
    · refine j_lload_n (pc := 39) 4 dX2_restOf_39 rfl rfl ?_
      exact j_lreturn (pc := 40) rfl (Nat.le_of_ble_eq_true rfl) (Nat.le_of_ble_eq_true rfl) dX2_restOf_40
  · refine j_lload_n (pc := 22) 3 dX2_restOf_22 rfl rfl ?_
    exact j_lreturn (pc := 23) rfl (Nat.le_of_ble_eq_true rfl) (Nat.le_of_ble_eq_true rfl) dX2_restOf_23
theorem c2_restOf (l : Launch) (N : Nat) (v0 : Int32) (v1 : Int64) (v3 : Int64) : Ctr l yX2_restOf cX2_restOf 16 (some .long) rm2_restOf eL [aI v0, aL v1, aL v3] (f2_restOf N v0 v1 v3) := ctr_of (lv := [(0, aI v0), (1, aL v1), (3, aL v3)]) (by decide +kernel) (fun _ => rfl) (fun _ => (Nat.le_of_ble_eq_true rfl)) (fun _ h => lvl_als h rfl) (fun _ σ _ => j2_restOf N v0 v1 v3 σ)
theorem cs_RX4_63 : CaS RX4 63 yX2_restOf cX2_restOf 16 (some .long) 3 := ⟨tw_2_88, tw_2_89, tw_1_8, tw_2_90, by decide +kernel, by decide +kernel, by decide +kernel⟩
abbrev rm4_restOf : Room := { frames := 3, cells := 0, slots := 0, locals := 82 }
set_option maxRecDepth 20000 in
set_option maxHeartbeats 4000000 in
theorem j4_restOf {Γ : jX} {tg : Int64 × rS} (N : Nat) (v0 : Int32) (v1 : Int64) (v3 : Int64) (σ : rS) : J Γ rm4_restOf eL cX4_restOf RX4 5 (some .long) tg 0 0 0 [(0, aI v0), (1, aL v1), (3, aL v3)] [] σ (f4_restOf N v0 v1 v3 σ) := by
  unfold f4_restOf
  refine j_iload_n (pc := 0) 0 dX4_restOf_0 rfl rfl ?_
  refine j_callSZ (pc := 1) (As := [aI v0]) (st := []) (fun l => c4_areFloating l v0) cs_RX4_15 rfl rfl (Nat.le_of_ble_eq_true rfl) ⟨(Nat.le_of_ble_eq_true rfl), (Nat.le_of_ble_eq_true rfl)⟩ ⟨(Nat.le_of_ble_eq_true rfl), (Nat.le_of_ble_eq_true rfl)⟩ dX4_restOf_1 (fun r1 σ2 => ?_)
  refine j_ifeqB (pc := 4) (tgt := 14) dX4_restOf_4 rfl (fun _ => ?_) (fun _ => ?_)
  · refine j_lload_n (pc := 14) 2 dX4_restOf_14 rfl rfl ?_
    refine j_lconst (pc := 15) (v := 0) (by decide) dX4_restOf_15 ?_
    refine j_lcmpne (pc := 16) (tgt := 24) dX4_restOf_16 dX4_restOf_17 rfl (fun _ => ?_) (fun _ => ?_)
    · refine j_lload_n (pc := 24) 1 dX4_restOf_24 rfl rfl ?_
      refine j_lload_n (pc := 25) 2 dX4_restOf_25 rfl rfl ?_
      refine j_ock (fun hn => ?_)
      refine j_lrem (pc := 26) dX4_restOf_26 hn ?_
      exact j_lreturn (pc := 27) rfl (Nat.le_of_ble_eq_true rfl) (Nat.le_of_ble_eq_true rfl) dX4_restOf_27
    · refine j_lconst (pc := 20) (v := 0) (by decide) dX4_restOf_20 ?_
      refine j_goto (pc := 21) (tgt := 27) dX4_restOf_21 rfl ?_
      exact j_lreturn (pc := 27) rfl (Nat.le_of_ble_eq_true rfl) (Nat.le_of_ble_eq_true rfl) dX4_restOf_27
  · refine j_iload_n (pc := 7) 0 dX4_restOf_7 rfl rfl ?_
    refine j_lload_n (pc := 8) 1 dX4_restOf_8 rfl rfl ?_
    refine j_lload_n (pc := 9) 2 dX4_restOf_9 rfl rfl ?_
    refine j_callSL (pc := 10) (As := [aI v0, aL v1, aL v3]) (st := []) (fun l => c2_restOf l N v0 v1 v3) cs_RX4_63 rfl rfl (Nat.le_of_ble_eq_true rfl) ⟨(Nat.le_of_ble_eq_true rfl), (Nat.le_of_ble_eq_true rfl)⟩ ⟨(Nat.le_of_ble_eq_true rfl), (Nat.le_of_ble_eq_true rfl)⟩ dX4_restOf_10 (fun r3 σ4 => ?_)
    exact j_lreturn (pc := 13) rfl (Nat.le_of_ble_eq_true rfl) (Nat.le_of_ble_eq_true rfl) dX4_restOf_13
theorem c4_restOf (l : Launch) (N : Nat) (v0 : Int32) (v1 : Int64) (v3 : Int64) : Ctr l yX4_restOf cX4_restOf 5 (some .long) rm4_restOf eL [aI v0, aL v1, aL v3] (f4_restOf N v0 v1 v3) := ctr_of (lv := [(0, aI v0), (1, aL v1), (3, aL v3)]) (by decide +kernel) (fun _ => rfl) (fun _ => (Nat.le_of_ble_eq_true rfl)) (fun _ h => lvl_als h rfl) (fun _ σ _ => j4_restOf N v0 v1 v3 σ)
theorem cs_RX10_125 : CaS RX10 125 yX4_leaveRest cX4_leaveRest 5 (some .boolean) 3 := ⟨tw_2_78, tw_2_79, tw_1_7, tw_2_80, by decide +kernel, by decide +kernel, by decide +kernel⟩
theorem cs_RX10_129 : CaS RX10 129 yX4_restOf cX4_restOf 5 (some .long) 3 := ⟨tw_2_85, tw_2_86, tw_1_7, tw_2_87, by decide +kernel, by decide +kernel, by decide +kernel⟩
abbrev rm10_rest : Room := { frames := 4, cells := 0, slots := 0, locals := 106 }
set_option maxRecDepth 20000 in
set_option maxHeartbeats 4000000 in
theorem j10_rest {Γ : jX} {tg : Int32 × rS} (N : Nat) (v0 : Nat) (v1 : Int32) (v2 : Int32) (v3 : Int32) (σ : rS) : J Γ rm10_rest eI cX10_rest RX10 5 (some .int) tg 0 0 0 [(0, aR 0 v0), (1, aI v1), (2, aI v2), (3, aI v3)] [] σ (f10_rest N v0 v1 v2 v3 σ) := by
  unfold f10_rest
  refine j_aload_n (pc := 0) 0 dX10_rest_0 rfl rfl ?_
  refine j_iload_n (pc := 1) 1 dX10_rest_1 rfl rfl ?_
  refine j_callVR (pc := 2) (As := [aI v1]) (st := []) (fun l => c10_rowNumbered l v0 v1) cs_RX10_76 rfl rfl rfl rfl (Nat.le_of_ble_eq_true rfl) ⟨(Nat.le_of_ble_eq_true rfl), (Nat.le_of_ble_eq_true rfl)⟩ ⟨(Nat.le_of_ble_eq_true rfl), (Nat.le_of_ble_eq_true rfl)⟩ dX10_rest_2 (fun r1 σ2 => ?_)
  refine j_astore (pc := 5) (lv' := [(4, aO 13 r1), (0, aR 0 v0), (1, aI v1), (2, aI v2), (3, aI v3)]) dX10_rest_5 (Nat.le_of_ble_eq_true rfl) rfl ?_
  refine j_sub [0, 1, 3, 4] (lv' := [(4, aO 13 r1), (0, aR 0 v0), (2, aI v2), (3, aI v3)]) rfl ?_
  refine j_aload (pc := 7) 0 dX10_rest_7 rfl ?_
  refine j_ifnonnull (pc := 9) (tgt := 15) dX10_rest_9 rfl (fun hm => ?_) (fun i3 hm => ?_)
  · subst hm
    refine j_bipush (pc := 12) (v := (-101)) (by decide) dX10_rest_12 ?_
    exact j_ireturn (pc := 14) rfl (Nat.le_of_ble_eq_true rfl) (Nat.le_of_ble_eq_true rfl) dX10_rest_14
  · subst hm
    refine j_aload (pc := 15) 0 dX10_rest_15 rfl ?_
    refine j_getI (pc := 17) fd_13_2 tw_1_180 dX10_rest_17 ?_
    refine j_ifeq (pc := 20) (tgt := 29) dX10_rest_20 rfl (fun _ => ?_) (fun _ => ?_)
    · refine j_aload (pc := 29) 0 dX10_rest_29 rfl ?_
      refine j_iload_n (pc := 31) 2 dX10_rest_31 rfl rfl ?_
      refine j_callVZ (pc := 32) (As := [aI v2]) (st := []) (fun l => c7_has l i3 v2) cs_RX10_91 rfl rfl rfl rfl (Nat.le_of_ble_eq_true rfl) ⟨(Nat.le_of_ble_eq_true rfl), (Nat.le_of_ble_eq_true rfl)⟩ ⟨(Nat.le_of_ble_eq_true rfl), (Nat.le_of_ble_eq_true rfl)⟩ dX10_rest_32 (fun r4 σ5 => ?_)
      refine j_ifeqB (pc := 35) (tgt := 47) dX10_rest_35 rfl (fun _ => ?_) (fun _ => ?_)
      · refine j_aload_n (pc := 47) 1 dX10_rest_47 rfl rfl ?_
        refine j_iconst (pc := 48) (v := 2) (by decide) dX10_rest_48 ?_
        refine j_callVI (pc := 49) (As := [aI 2]) (st := []) (fun l => c10_found l v0 2) cs_RX10_68 rfl rfl rfl rfl (Nat.le_of_ble_eq_true rfl) ⟨(Nat.le_of_ble_eq_true rfl), (Nat.le_of_ble_eq_true rfl)⟩ ⟨(Nat.le_of_ble_eq_true rfl), (Nat.le_of_ble_eq_true rfl)⟩ dX10_rest_49 (fun r6 σ7 => ?_)
        exact j_ireturn (pc := 52) rfl (Nat.le_of_ble_eq_true rfl) (Nat.le_of_ble_eq_true rfl) dX10_rest_52
      · refine j_aload (pc := 38) 0 dX10_rest_38 rfl ?_
        refine j_iload_n (pc := 40) 3 dX10_rest_40 rfl rfl ?_
        refine j_callVZ (pc := 41) (As := [aI v3]) (st := []) (fun l => c7_has l i3 v3) cs_RX10_91 rfl rfl rfl rfl (Nat.le_of_ble_eq_true rfl) ⟨(Nat.le_of_ble_eq_true rfl), (Nat.le_of_ble_eq_true rfl)⟩ ⟨(Nat.le_of_ble_eq_true rfl), (Nat.le_of_ble_eq_true rfl)⟩ dX10_rest_41 (fun r8 σ9 => ?_)
        refine j_ifneB (pc := 44) (tgt := 53) dX10_rest_44 rfl (fun _ => ?_) (fun _ => ?_)
        · refine j_aload (pc := 53) 0 dX10_rest_53 rfl ?_
          refine j_getI (pc := 55) fd_13_0 tw_1_177 dX10_rest_55 ?_
          refine j_aload (pc := 58) 0 dX10_rest_58 rfl ?_
          refine j_getF (pc := 60) fd_13_1 tw_1_179 dX10_rest_60 ?_
          refine j_iload_n (pc := 63) 2 dX10_rest_63 rfl rfl ?_
          refine j_lald (pc := 64) rfl rfl rfl dX10_rest_64 (fun j10 => ?_)
          refine j_aload (pc := 65) 0 dX10_rest_65 rfl ?_
          refine j_getF (pc := 67) fd_13_1 tw_1_179 dX10_rest_67 ?_
          refine j_iload_n (pc := 70) 3 dX10_rest_70 rfl rfl ?_
          refine j_lald (pc := 71) rfl rfl rfl dX10_rest_71 (fun j11 => ?_)
          refine j_callSZ (pc := 72) (As := [aI (gI σ9 13 i3 0), aL (gL σ9 14 i3 j10), aL (gL σ9 14 i3 j11)]) (st := []) (fun l => c4_leaveRest l (gI σ9 13 i3 0) (gL σ9 14 i3 j10) (gL σ9 14 i3 j11)) cs_RX10_125 rfl rfl (Nat.le_of_ble_eq_true rfl) ⟨(Nat.le_of_ble_eq_true rfl), (Nat.le_of_ble_eq_true rfl)⟩ ⟨(Nat.le_of_ble_eq_true rfl), (Nat.le_of_ble_eq_true rfl)⟩ dX10_rest_72 (fun r12 σ13 => ?_)
          refine j_ifneB (pc := 75) (tgt := 84) dX10_rest_75 rfl (fun _ => ?_) (fun _ => ?_)
          · refine j_aload_n (pc := 84) 1 dX10_rest_84 rfl rfl ?_
            refine j_aload (pc := 85) 0 dX10_rest_85 rfl ?_
            refine j_getI (pc := 87) fd_13_0 tw_1_177 dX10_rest_87 ?_
            refine j_aload (pc := 90) 0 dX10_rest_90 rfl ?_
            refine j_getF (pc := 92) fd_13_1 tw_1_179 dX10_rest_92 ?_
            refine j_iload_n (pc := 95) 2 dX10_rest_95 rfl rfl ?_
            refine j_lald (pc := 96) rfl rfl rfl dX10_rest_96 (fun j14 => ?_)
            refine j_aload (pc := 97) 0 dX10_rest_97 rfl ?_
            refine j_getF (pc := 99) fd_13_1 tw_1_179 dX10_rest_99 ?_
            refine j_iload_n (pc := 102) 3 dX10_rest_102 rfl rfl ?_
            refine j_lald (pc := 103) rfl rfl rfl dX10_rest_103 (fun j15 => ?_)
            refine j_callSL (pc := 104) (As := [aI (gI σ13 13 i3 0), aL (gL σ13 14 i3 j14), aL (gL σ13 14 i3 j15)]) (st := [aR 0 v0]) (fun l => c4_restOf l N (gI σ13 13 i3 0) (gL σ13 14 i3 j14) (gL σ13 14 i3 j15)) cs_RX10_129 rfl rfl (Nat.le_of_ble_eq_true rfl) ⟨(Nat.le_of_ble_eq_true rfl), (Nat.le_of_ble_eq_true rfl)⟩ ⟨(Nat.le_of_ble_eq_true rfl), (Nat.le_of_ble_eq_true rfl)⟩ dX10_rest_104 (fun r16 σ17 => ?_)
            refine j_putL (pc := 107) fd_0_13 tw_1_125 dX10_rest_107 ?_
            refine j_lets (fun σ18 => ?_)
            refine j_iconst (pc := 110) (v := 0) (by decide) dX10_rest_110 ?_
            exact j_ireturn (pc := 111) rfl (Nat.le_of_ble_eq_true rfl) (Nat.le_of_ble_eq_true rfl) dX10_rest_111
          · refine j_aload_n (pc := 78) 1 dX10_rest_78 rfl rfl ?_
            refine j_iconst (pc := 79) (v := 5) (by decide) dX10_rest_79 ?_
            refine j_callVI (pc := 80) (As := [aI 5]) (st := []) (fun l => c10_found l v0 5) cs_RX10_68 rfl rfl rfl rfl (Nat.le_of_ble_eq_true rfl) ⟨(Nat.le_of_ble_eq_true rfl), (Nat.le_of_ble_eq_true rfl)⟩ ⟨(Nat.le_of_ble_eq_true rfl), (Nat.le_of_ble_eq_true rfl)⟩ dX10_rest_80 (fun r19 σ20 => ?_)
            exact j_ireturn (pc := 83) rfl (Nat.le_of_ble_eq_true rfl) (Nat.le_of_ble_eq_true rfl) dX10_rest_83
        · refine j_aload_n (pc := 47) 1 dX10_rest_47 rfl rfl ?_
          refine j_iconst (pc := 48) (v := 2) (by decide) dX10_rest_48 ?_
          refine j_callVI (pc := 49) (As := [aI 2]) (st := []) (fun l => c10_found l v0 2) cs_RX10_68 rfl rfl rfl rfl (Nat.le_of_ble_eq_true rfl) ⟨(Nat.le_of_ble_eq_true rfl), (Nat.le_of_ble_eq_true rfl)⟩ ⟨(Nat.le_of_ble_eq_true rfl), (Nat.le_of_ble_eq_true rfl)⟩ dX10_rest_49 (fun r21 σ22 => ?_)
          exact j_ireturn (pc := 52) rfl (Nat.le_of_ble_eq_true rfl) (Nat.le_of_ble_eq_true rfl) dX10_rest_52
    · refine j_aload_n (pc := 23) 1 dX10_rest_23 rfl rfl ?_
      refine j_iconst (pc := 24) (v := 1) (by decide) dX10_rest_24 ?_
      refine j_callVI (pc := 25) (As := [aI 1]) (st := []) (fun l => c10_found l v0 1) cs_RX10_68 rfl rfl rfl rfl (Nat.le_of_ble_eq_true rfl) ⟨(Nat.le_of_ble_eq_true rfl), (Nat.le_of_ble_eq_true rfl)⟩ ⟨(Nat.le_of_ble_eq_true rfl), (Nat.le_of_ble_eq_true rfl)⟩ dX10_rest_25 (fun r23 σ24 => ?_)
      exact j_ireturn (pc := 28) rfl (Nat.le_of_ble_eq_true rfl) (Nat.le_of_ble_eq_true rfl) dX10_rest_28
theorem c10_rest (l : Launch) (N : Nat) (v0 : Nat) (v1 : Int32) (v2 : Int32) (v3 : Int32) : Ctr l yX10_rest cX10_rest 5 (some .int) rm10_rest eI [aR 0 v0, aI v1, aI v2, aI v3] (f10_rest N v0 v1 v2 v3) := ctr_of (lv := [(0, aR 0 v0), (1, aI v1), (2, aI v2), (3, aI v3)]) (by decide +kernel) (fun _ => rfl) (fun _ => (Nat.le_of_ble_eq_true rfl)) (fun _ h => lvl_als h rfl) (fun _ σ _ => j10_rest N v0 v1 v2 v3 σ)
abbrev rm10_seek : Room := { frames := 1, cells := 0, slots := 0, locals := 21 }
set_option maxRecDepth 20000 in
set_option maxHeartbeats 4000000 in
theorem j10_seek {Γ : jX} {tg : Int32 × rS} (v0 : Nat) (v1 : Int32) (v2 : Int32) (σ : rS) : J Γ rm10_seek eI cX10_seek RX10 5 (some .int) tg 0 0 0 [(0, aR 0 v0), (1, aI v1), (2, aI v2)] [] σ (f10_seek v0 v1 v2 σ) := by
  unfold f10_seek
  refine j_aload_n (pc := 0) 0 dX10_seek_0 rfl rfl ?_
  refine j_iload_n (pc := 1) 1 dX10_seek_1 rfl rfl ?_
  refine j_callVR (pc := 2) (As := [aI v1]) (st := []) (fun l => c10_streamNumbered l v0 v1) cs_RX10_147 rfl rfl rfl rfl (Nat.le_of_ble_eq_true rfl) ⟨(Nat.le_of_ble_eq_true rfl), (Nat.le_of_ble_eq_true rfl)⟩ ⟨(Nat.le_of_ble_eq_true rfl), (Nat.le_of_ble_eq_true rfl)⟩ dX10_seek_2 (fun r1 σ2 => ?_)
  refine j_astore_n (pc := 5) (lv' := [(3, aO 15 r1), (0, aR 0 v0), (1, aI v1), (2, aI v2)]) dX10_seek_5 rfl (Nat.le_of_ble_eq_true rfl) rfl ?_
  refine j_sub [0, 1, 3] (lv' := [(3, aO 15 r1), (0, aR 0 v0), (2, aI v2)]) rfl ?_
  refine j_aload_n (pc := 6) 0 dX10_seek_6 rfl rfl ?_
  refine j_ifnonnull (pc := 7) (tgt := 13) dX10_seek_7 rfl (fun hm => ?_) (fun i3 hm => ?_)
  · subst hm
    refine j_bipush (pc := 10) (v := (-101)) (by decide) dX10_seek_10 ?_
    exact j_ireturn (pc := 12) rfl (Nat.le_of_ble_eq_true rfl) (Nat.le_of_ble_eq_true rfl) dX10_seek_12
  · subst hm
    refine j_iload_n (pc := 13) 2 dX10_seek_13 rfl rfl ?_
    refine j_iflt (pc := 14) (tgt := 25) dX10_seek_14 rfl (fun _ => ?_) (fun _ => ?_)
    · refine j_aload_n (pc := 25) 1 dX10_seek_25 rfl rfl ?_
      refine j_iconst (pc := 26) (v := 2) (by decide) dX10_seek_26 ?_
      refine j_callVI (pc := 27) (As := [aI 2]) (st := []) (fun l => c10_found l v0 2) cs_RX10_68 rfl rfl rfl rfl (Nat.le_of_ble_eq_true rfl) ⟨(Nat.le_of_ble_eq_true rfl), (Nat.le_of_ble_eq_true rfl)⟩ ⟨(Nat.le_of_ble_eq_true rfl), (Nat.le_of_ble_eq_true rfl)⟩ dX10_seek_27 (fun r4 σ5 => ?_)
      exact j_ireturn (pc := 30) rfl (Nat.le_of_ble_eq_true rfl) (Nat.le_of_ble_eq_true rfl) dX10_seek_30
    · refine j_iload_n (pc := 17) 2 dX10_seek_17 rfl rfl ?_
      refine j_aload_n (pc := 18) 0 dX10_seek_18 rfl rfl ?_
      refine j_getI (pc := 19) fd_15_1 tw_2_145 dX10_seek_19 ?_
      refine j_icmple (pc := 22) (tgt := 31) dX10_seek_22 rfl (fun _ => ?_) (fun _ => ?_)
      · refine j_aload_n (pc := 31) 0 dX10_seek_31 rfl rfl ?_
        refine j_getI (pc := 32) fd_15_2 tw_2_146 dX10_seek_32 ?_
        refine j_leti (fun x6 => ?_)
        refine j_istore (pc := 35) (lv' := [(4, aI x6), (3, aR 15 i3), (0, aR 0 v0), (2, aI v2)]) dX10_seek_35 (Nat.le_of_ble_eq_true rfl) rfl ?_
        refine j_sub [0, 1, 3] (lv' := [(4, aI x6), (3, aR 15 i3), (2, aI v2)]) rfl ?_
        refine j_aload_n (pc := 37) 1 dX10_seek_37 rfl rfl ?_
        refine j_iload_n (pc := 38) 2 dX10_seek_38 rfl rfl ?_
        refine j_putI (pc := 39) fd_15_2 rfl rfl tw_2_146 dX10_seek_39 ?_
        refine j_lets (fun σ7 => ?_)
        refine j_iload (pc := 42) 0 dX10_seek_42 rfl ?_
        exact j_ireturn (pc := 44) rfl (Nat.le_of_ble_eq_true rfl) (Nat.le_of_ble_eq_true rfl) dX10_seek_44
      · refine j_aload_n (pc := 25) 1 dX10_seek_25 rfl rfl ?_
        refine j_iconst (pc := 26) (v := 2) (by decide) dX10_seek_26 ?_
        refine j_callVI (pc := 27) (As := [aI 2]) (st := []) (fun l => c10_found l v0 2) cs_RX10_68 rfl rfl rfl rfl (Nat.le_of_ble_eq_true rfl) ⟨(Nat.le_of_ble_eq_true rfl), (Nat.le_of_ble_eq_true rfl)⟩ ⟨(Nat.le_of_ble_eq_true rfl), (Nat.le_of_ble_eq_true rfl)⟩ dX10_seek_27 (fun r8 σ9 => ?_)
        exact j_ireturn (pc := 30) rfl (Nat.le_of_ble_eq_true rfl) (Nat.le_of_ble_eq_true rfl) dX10_seek_30
theorem c10_seek (l : Launch) (v0 : Nat) (v1 : Int32) (v2 : Int32) : Ctr l yX10_seek cX10_seek 5 (some .int) rm10_seek eI [aR 0 v0, aI v1, aI v2] (f10_seek v0 v1 v2) := ctr_of (lv := [(0, aR 0 v0), (1, aI v1), (2, aI v2)]) (by decide +kernel) (fun _ => rfl) (fun _ => (Nat.le_of_ble_eq_true rfl)) (fun _ h => lvl_als h rfl) (fun _ σ _ => j10_seek v0 v1 v2 σ)
abbrev rm10_seen : Room := { frames := 0, cells := 0, slots := 0, locals := 0 }
set_option maxRecDepth 20000 in
set_option maxHeartbeats 4000000 in
theorem j10_seen {Γ : jX} {tg : Int64 × rS} (v0 : Nat) (σ : rS) : J Γ rm10_seen eL cX10_seen RX10 1 (some .long) tg 0 0 0 [(0, aR 0 v0)] [] σ (f10_seen v0 σ) := by
  unfold f10_seen
  refine j_aload_n (pc := 0) 0 dX10_seen_0 rfl rfl ?_
  refine j_getL (pc := 1) fd_0_13 tw_1_125 dX10_seen_1 ?_
  exact j_lreturn (pc := 4) rfl (Nat.le_of_ble_eq_true rfl) (Nat.le_of_ble_eq_true rfl) dX10_seen_4
theorem c10_seen (l : Launch) (v0 : Nat) : Ctr l yX10_seen cX10_seen 1 (some .long) rm10_seen eL [aR 0 v0] (f10_seen v0) := ctr_of (lv := [(0, aR 0 v0)]) (by decide +kernel) (fun _ => rfl) (fun _ => (Nat.le_of_ble_eq_true rfl)) (fun _ h => lvl_als h rfl) (fun _ σ _ => j10_seen v0 σ)
abbrev rm2_bias : Room := { frames := 0, cells := 0, slots := 0, locals := 0 }
set_option maxRecDepth 20000 in
set_option maxHeartbeats 4000000 in
theorem j2_bias {Γ : jX} {tg : Int32 × rS} (v0 : Int32) (σ : rS) : J Γ rm2_bias eI cX2_bias RX2 1 (some .int) tg 0 0 0 [(0, aI v0)] [] σ (f2_bias v0 σ) := by
  unfold f2_bias
  refine j_iload_n (pc := 0) 0 dX2_bias_0 rfl rfl ?_
  refine j_bipush (pc := 1) (v := 6) (by decide) dX2_bias_1 ?_
  refine j_icmpne (pc := 3) (tgt := 11) dX2_bias_3 rfl (fun _ => ?_) (fun _ => ?_)
  · refine j_sipush (pc := 11) (v := 1023) (by decide) dX2_bias_11 ?_
    exact j_ireturn (pc := 14) rfl (Nat.le_of_ble_eq_true rfl) (Nat.le_of_ble_eq_true rfl) dX2_bias_14
  · refine j_bipush (pc := 6) (v := 127) (by decide) dX2_bias_6 ?_
    refine j_goto (pc := 8) (tgt := 14) dX2_bias_8 rfl ?_
    exact j_ireturn (pc := 14) rfl (Nat.le_of_ble_eq_true rfl) (Nat.le_of_ble_eq_true rfl) dX2_bias_14
theorem c2_bias (l : Launch) (v0 : Int32) : Ctr l yX2_bias cX2_bias 1 (some .int) rm2_bias eI [aI v0] (f2_bias v0) := ctr_of (lv := [(0, aI v0)]) (by decide +kernel) (fun _ => rfl) (fun _ => (Nat.le_of_ble_eq_true rfl)) (fun _ h => lvl_als h rfl) (fun _ σ _ => j2_bias v0 σ)
abbrev rm2_goesUp : Room := { frames := 0, cells := 0, slots := 0, locals := 0 }
set_option maxRecDepth 20000 in
set_option maxHeartbeats 4000000 in
theorem j2_goesUp {Γ : jX} {tg : Bool × rS} (v0 : Int32) (v1 : Bool) (v2 : Int32) (v3 : Bool) (σ : rS) : J Γ rm2_goesUp eZ cX2_goesUp RX2 4 (some .boolean) tg 0 0 0 [(0, aI v0), (1, aI (bi v1)), (2, aI v2), (3, aI (bi v3))] [] σ (f2_goesUp v0 v1 v2 v3 σ) := by
  unfold f2_goesUp
  refine j_iload_n (pc := 0) 0 dX2_goesUp_0 rfl rfl ?_
  refine j_iconst (pc := 1) (v := 1) (by decide) dX2_goesUp_1 ?_
  refine j_icmpne (pc := 2) (tgt := 7) dX2_goesUp_2 rfl (fun _ => ?_) (fun _ => ?_)
  · refine j_iload_n (pc := 7) 0 dX2_goesUp_7 rfl rfl ?_
    refine j_iconst (pc := 8) (v := 2) (by decide) dX2_goesUp_8 ?_
    refine j_icmpne (pc := 9) (tgt := 22) dX2_goesUp_9 rfl (fun _ => ?_) (fun _ => ?_)
    · refine j_iload_n (pc := 22) 2 dX2_goesUp_22 rfl rfl ?_
      refine j_ifgt (pc := 23) (tgt := 34) dX2_goesUp_23 rfl (fun _ => ?_) (fun _ => ?_)
      · refine j_iconst (pc := 34) (v := 1) (by decide) dX2_goesUp_34 ?_
        refine j_goto (pc := 35) (tgt := 39) dX2_goesUp_35 rfl ?_
        exact j_zret1 (pc := 39) rfl (Nat.le_of_ble_eq_true rfl) (Nat.le_of_ble_eq_true rfl) dX2_goesUp_39
      · refine j_iload_n (pc := 26) 2 dX2_goesUp_26 rfl rfl ?_
        refine j_ifne (pc := 27) (tgt := 38) dX2_goesUp_27 rfl (fun _ => ?_) (fun _ => ?_)
        · refine j_iconst (pc := 38) (v := 0) (by decide) dX2_goesUp_38 ?_
          exact j_zret0 (pc := 39) rfl (Nat.le_of_ble_eq_true rfl) (Nat.le_of_ble_eq_true rfl) dX2_goesUp_39
        · refine j_iload_n (pc := 30) 3 dX2_goesUp_30 rfl rfl ?_
          refine j_ifeqB (pc := 31) (tgt := 38) dX2_goesUp_31 rfl (fun _ => ?_) (fun _ => ?_)
          · refine j_iconst (pc := 38) (v := 0) (by decide) dX2_goesUp_38 ?_
            exact j_zret0 (pc := 39) rfl (Nat.le_of_ble_eq_true rfl) (Nat.le_of_ble_eq_true rfl) dX2_goesUp_39
          · refine j_iconst (pc := 34) (v := 1) (by decide) dX2_goesUp_34 ?_
            refine j_goto (pc := 35) (tgt := 39) dX2_goesUp_35 rfl ?_
            exact j_zret1 (pc := 39) rfl (Nat.le_of_ble_eq_true rfl) (Nat.le_of_ble_eq_true rfl) dX2_goesUp_39
    · refine j_iload_n (pc := 12) 1 dX2_goesUp_12 rfl rfl ?_
      refine j_ifneB (pc := 13) (tgt := 20) dX2_goesUp_13 rfl (fun _ => ?_) (fun _ => ?_)
      · refine j_iconst (pc := 20) (v := 0) (by decide) dX2_goesUp_20 ?_
        exact j_zret0 (pc := 21) rfl (Nat.le_of_ble_eq_true rfl) (Nat.le_of_ble_eq_true rfl) dX2_goesUp_21
      · refine j_iconst (pc := 16) (v := 1) (by decide) dX2_goesUp_16 ?_
        refine j_goto (pc := 17) (tgt := 21) dX2_goesUp_17 rfl ?_
        exact j_zret1 (pc := 21) rfl (Nat.le_of_ble_eq_true rfl) (Nat.le_of_ble_eq_true rfl) dX2_goesUp_21
  · refine j_iload_n (pc := 5) 1 dX2_goesUp_5 rfl rfl ?_
    exact j_zretB (pc := 6) rfl (Nat.le_of_ble_eq_true rfl) (Nat.le_of_ble_eq_true rfl) dX2_goesUp_6
theorem c2_goesUp (l : Launch) (v0 : Int32) (v1 : Bool) (v2 : Int32) (v3 : Bool) : Ctr l yX2_goesUp cX2_goesUp 4 (some .boolean) rm2_goesUp eZ [aI v0, aI (bi v1), aI v2, aI (bi v3)] (f2_goesUp v0 v1 v2 v3) := ctr_of (lv := [(0, aI v0), (1, aI (bi v1)), (2, aI v2), (3, aI (bi v3))]) (by decide +kernel) (fun _ => rfl) (fun _ => (Nat.le_of_ble_eq_true rfl)) (fun _ h => lvl_als h rfl) (fun _ σ _ => j2_goesUp v0 v1 v2 v3 σ)
theorem cs_RX2_17 : CaS RX2 17 yX2_bias cX2_bias 1 (some .int) 1 := ⟨tw_2_54, tw_2_55, tw_1_8, tw_2_56, by decide +kernel, by decide +kernel, by decide +kernel⟩
abbrev rm2_halfOf : Room := { frames := 1, cells := 0, slots := 0, locals := 20 }
set_option maxRecDepth 20000 in
set_option maxHeartbeats 4000000 in
theorem j2_halfOf {Γ : jX} {tg : Int64 × rS} (v0 : Int32) (σ : rS) : J Γ rm2_halfOf eL cX2_halfOf RX2 1 (some .long) tg 0 0 0 [(0, aI v0)] [] σ (f2_halfOf v0 σ) := by
  unfold f2_halfOf
  refine j_iload_n (pc := 0) 0 dX2_halfOf_0 rfl rfl ?_
  refine j_callSI (pc := 1) (As := [aI v0]) (st := []) (fun l => c2_bias l v0) cs_RX2_17 rfl rfl (Nat.le_of_ble_eq_true rfl) ⟨(Nat.le_of_ble_eq_true rfl), (Nat.le_of_ble_eq_true rfl)⟩ ⟨(Nat.le_of_ble_eq_true rfl), (Nat.le_of_ble_eq_true rfl)⟩ dX2_halfOf_1 (fun r1 σ2 => ?_)
  refine j_iconst (pc := 4) (v := 1) (by decide) dX2_halfOf_4 ?_
  refine j_isub (pc := 5) dX2_halfOf_5 ?_
  refine j_i2l (pc := 6) dX2_halfOf_6 ?_
  refine j_iload_n (pc := 7) 0 dX2_halfOf_7 rfl rfl ?_
  refine j_callSI (pc := 8) (As := [aI v0]) (st := [aL (Int32.toInt64 (r1 - 1))]) (fun l => c2_fractionBits l v0) cs_RX2_23 rfl rfl (Nat.le_of_ble_eq_true rfl) ⟨(Nat.le_of_ble_eq_true rfl), (Nat.le_of_ble_eq_true rfl)⟩ ⟨(Nat.le_of_ble_eq_true rfl), (Nat.le_of_ble_eq_true rfl)⟩ dX2_halfOf_8 (fun r3 σ4 => ?_)
  refine j_lshl (pc := 11) dX2_halfOf_11 ?_
  exact j_lreturn (pc := 12) rfl (Nat.le_of_ble_eq_true rfl) (Nat.le_of_ble_eq_true rfl) dX2_halfOf_12
theorem c2_halfOf (l : Launch) (v0 : Int32) : Ctr l yX2_halfOf cX2_halfOf 1 (some .long) rm2_halfOf eL [aI v0] (f2_halfOf v0) := ctr_of (lv := [(0, aI v0)]) (by decide +kernel) (fun _ => rfl) (fun _ => (Nat.le_of_ble_eq_true rfl)) (fun _ h => lvl_als h rfl) (fun _ σ _ => j2_halfOf v0 σ)
abbrev rm2_oneOf : Room := { frames := 1, cells := 0, slots := 0, locals := 20 }
set_option maxRecDepth 20000 in
set_option maxHeartbeats 4000000 in
theorem j2_oneOf {Γ : jX} {tg : Int64 × rS} (v0 : Int32) (σ : rS) : J Γ rm2_oneOf eL cX2_oneOf RX2 1 (some .long) tg 0 0 0 [(0, aI v0)] [] σ (f2_oneOf v0 σ) := by
  unfold f2_oneOf
  refine j_iload_n (pc := 0) 0 dX2_oneOf_0 rfl rfl ?_
  refine j_callSI (pc := 1) (As := [aI v0]) (st := []) (fun l => c2_bias l v0) cs_RX2_17 rfl rfl (Nat.le_of_ble_eq_true rfl) ⟨(Nat.le_of_ble_eq_true rfl), (Nat.le_of_ble_eq_true rfl)⟩ ⟨(Nat.le_of_ble_eq_true rfl), (Nat.le_of_ble_eq_true rfl)⟩ dX2_oneOf_1 (fun r1 σ2 => ?_)
  refine j_i2l (pc := 4) dX2_oneOf_4 ?_
  refine j_iload_n (pc := 5) 0 dX2_oneOf_5 rfl rfl ?_
  refine j_callSI (pc := 6) (As := [aI v0]) (st := [aL (Int32.toInt64 r1)]) (fun l => c2_fractionBits l v0) cs_RX2_23 rfl rfl (Nat.le_of_ble_eq_true rfl) ⟨(Nat.le_of_ble_eq_true rfl), (Nat.le_of_ble_eq_true rfl)⟩ ⟨(Nat.le_of_ble_eq_true rfl), (Nat.le_of_ble_eq_true rfl)⟩ dX2_oneOf_6 (fun r3 σ4 => ?_)
  refine j_lshl (pc := 9) dX2_oneOf_9 ?_
  exact j_lreturn (pc := 10) rfl (Nat.le_of_ble_eq_true rfl) (Nat.le_of_ble_eq_true rfl) dX2_oneOf_10
theorem c2_oneOf (l : Launch) (v0 : Int32) : Ctr l yX2_oneOf cX2_oneOf 1 (some .long) rm2_oneOf eL [aI v0] (f2_oneOf v0) := ctr_of (lv := [(0, aI v0)]) (by decide +kernel) (fun _ => rfl) (fun _ => (Nat.le_of_ble_eq_true rfl)) (fun _ h => lvl_als h rfl) (fun _ σ _ => j2_oneOf v0 σ)
theorem cs_RX2_55 : CaS RX2 55 yJ13_compare_74951 cJ13_compare_74951 4 (some .int) 2 := ⟨tw_2_70, tw_2_34, tw_1_10, tw_2_35, by decide +kernel, by decide +kernel, by decide +kernel⟩
theorem cs_RX2_61 : CaS RX2 61 yX2_goesUp cX2_goesUp 4 (some .boolean) 4 := ⟨tw_2_71, tw_2_72, tw_1_8, tw_2_73, by decide +kernel, by decide +kernel, by decide +kernel⟩
theorem cs_RX2_52 : CaS RX2 52 yX2_halfOf cX2_halfOf 1 (some .long) 1 := ⟨tw_2_67, tw_2_68, tw_1_8, tw_2_69, by decide +kernel, by decide +kernel, by decide +kernel⟩
theorem cs_RX2_45 : CaS RX2 45 yX2_oneOf cX2_oneOf 1 (some .long) 1 := ⟨tw_2_51, tw_2_52, tw_1_8, tw_2_53, by decide +kernel, by decide +kernel, by decide +kernel⟩
abbrev rm2_rounded : Room := { frames := 2, cells := 0, slots := 0, locals := 43 }
set_option maxRecDepth 20000 in
set_option maxHeartbeats 4000000 in
theorem jb2_rounded_144 {Γ : jX} {tg : Int64 × rS} (v0 : Int32) (v3 : Int32) (v4 : Int64) (v6 : Bool) (v9 : Int64) (v11 : Int64) (s0 : Bool) (σ : rS) : J Γ rm2_rounded eL cX2_rounded RX2 15 (some .long) tg 0 0 144 [(0, aI v0), (3, aI v3), (4, aL v4), (6, aI (bi v6)), (9, aL v9), (11, aL v11)] [aI (bi s0)] σ (B2_rounded_144 v0 v3 v4 v6 v9 v11 s0 σ) := by
  unfold B2_rounded_144
  refine j_istore (pc := 144) (lv' := [(13, aI (bi s0)), (0, aI v0), (3, aI v3), (4, aL v4), (6, aI (bi v6)), (9, aL v9), (11, aL v11)]) dX2_rounded_144 (Nat.le_of_ble_eq_true rfl) rfl ?_
  refine j_iload_n (pc := 146) 2 dX2_rounded_146 rfl rfl ?_
  refine j_iload (pc := 147) 4 dX2_rounded_147 rfl ?_
  refine j_lload (pc := 149) 6 dX2_rounded_149 rfl ?_
  refine j_lload (pc := 151) 5 dX2_rounded_151 rfl ?_
  refine j_iconst (pc := 153) (v := 1) (by decide) dX2_rounded_153 ?_
  refine j_lshr (pc := 154) dX2_rounded_154 ?_
  refine j_callSI (pc := 155) (As := [aL v11, aL (v9 >>> (Int32.toInt64 1 &&& 63))]) (st := [aI (bi v6), aI v3]) (fun l => cJ_cmp l v11 (v9 >>> (Int32.toInt64 1 &&& 63))) cs_RX2_55 rfl rfl (Nat.le_of_ble_eq_true rfl) ⟨(Nat.le_of_ble_eq_true rfl), (Nat.le_of_ble_eq_true rfl)⟩ ⟨(Nat.le_of_ble_eq_true rfl), (Nat.le_of_ble_eq_true rfl)⟩ dX2_rounded_155 (fun r1 σ2 => ?_)
  refine j_iload (pc := 158) 0 dX2_rounded_158 rfl ?_
  refine j_callSZ (pc := 160) (As := [aI v3, aI (bi v6), aI r1, aI (bi s0)]) (st := []) (fun l => c2_goesUp l v3 v6 r1 s0) cs_RX2_61 rfl rfl (Nat.le_of_ble_eq_true rfl) ⟨(Nat.le_of_ble_eq_true rfl), (Nat.le_of_ble_eq_true rfl)⟩ ⟨(Nat.le_of_ble_eq_true rfl), (Nat.le_of_ble_eq_true rfl)⟩ dX2_rounded_160 (fun r3 σ4 => ?_)
  refine j_istore (pc := 163) (lv' := [(14, aI (bi r3)), (13, aI (bi s0)), (0, aI v0), (3, aI v3), (4, aL v4), (6, aI (bi v6)), (9, aL v9), (11, aL v11)]) dX2_rounded_163 (Nat.le_of_ble_eq_true rfl) rfl ?_
  refine j_sub [0, 2, 4, 5, 6, 7] (lv' := [(14, aI (bi r3)), (0, aI v0), (4, aL v4), (6, aI (bi v6)), (9, aL v9), (11, aL v11)]) rfl ?_
  refine j_iload_n (pc := 165) 1 dX2_rounded_165 rfl rfl ?_
  refine j_lload (pc := 166) 2 dX2_rounded_166 rfl ?_
  refine j_lload (pc := 168) 5 dX2_rounded_168 rfl ?_
  refine j_lsub (pc := 170) dX2_rounded_170 ?_
  refine j_iload (pc := 171) 0 dX2_rounded_171 rfl ?_
  refine j_ifeqB (pc := 173) (tgt := 181) dX2_rounded_173 rfl (fun _ => ?_) (fun _ => ?_)
  · refine j_lconst (pc := 181) (v := 0) (by decide) dX2_rounded_181 ?_
    refine j_ladd (pc := 182) dX2_rounded_182 ?_
    refine j_iload (pc := 183) 3 dX2_rounded_183 rfl ?_
    refine j_callSL (pc := 185) (As := [aI v0, aL ((v4 - v11) + 0), aI (bi v6)]) (st := []) (fun l => c2_withSign l v0 ((v4 - v11) + 0) v6) cs_RX2_48 rfl rfl (Nat.le_of_ble_eq_true rfl) ⟨(Nat.le_of_ble_eq_true rfl), (Nat.le_of_ble_eq_true rfl)⟩ ⟨(Nat.le_of_ble_eq_true rfl), (Nat.le_of_ble_eq_true rfl)⟩ dX2_rounded_185 (fun r5 σ6 => ?_)
    exact j_lreturn (pc := 188) rfl (Nat.le_of_ble_eq_true rfl) (Nat.le_of_ble_eq_true rfl) dX2_rounded_188
  · refine j_lload (pc := 176) 4 dX2_rounded_176 rfl ?_
    refine j_goto (pc := 178) (tgt := 182) dX2_rounded_178 rfl ?_
    refine j_ladd (pc := 182) dX2_rounded_182 ?_
    refine j_iload (pc := 183) 3 dX2_rounded_183 rfl ?_
    refine j_callSL (pc := 185) (As := [aI v0, aL ((v4 - v11) + v9), aI (bi v6)]) (st := []) (fun l => c2_withSign l v0 ((v4 - v11) + v9) v6) cs_RX2_48 rfl rfl (Nat.le_of_ble_eq_true rfl) ⟨(Nat.le_of_ble_eq_true rfl), (Nat.le_of_ble_eq_true rfl)⟩ ⟨(Nat.le_of_ble_eq_true rfl), (Nat.le_of_ble_eq_true rfl)⟩ dX2_rounded_185 (fun r7 σ8 => ?_)
    exact j_lreturn (pc := 188) rfl (Nat.le_of_ble_eq_true rfl) (Nat.le_of_ble_eq_true rfl) dX2_rounded_188
set_option maxRecDepth 20000 in
set_option maxHeartbeats 4000000 in
theorem jb2_rounded_18 {Γ : jX} {tg : Int64 × rS} (v0 : Int32) (v1 : Int64) (v3 : Int32) (v4 : Int64) (s0 : Bool) (σ : rS) : J Γ rm2_rounded eL cX2_rounded RX2 15 (some .long) tg 0 0 18 [(0, aI v0), (1, aL v1), (3, aI v3), (4, aL v4)] [aI (bi s0)] σ (B2_rounded_18 v0 v1 v3 v4 s0 σ) := by
  unfold B2_rounded_18
  refine j_istore (pc := 18) (lv' := [(6, aI (bi s0)), (0, aI v0), (1, aL v1), (3, aI v3), (4, aL v4)]) dX2_rounded_18 (Nat.le_of_ble_eq_true rfl) rfl ?_
  refine j_lload (pc := 20) 4 dX2_rounded_20 rfl ?_
  refine j_iload_n (pc := 22) 1 dX2_rounded_22 rfl rfl ?_
  refine j_callSI (pc := 23) (As := [aI v0]) (st := [aL v4]) (fun l => c2_fractionBits l v0) cs_RX2_23 rfl rfl (Nat.le_of_ble_eq_true rfl) ⟨(Nat.le_of_ble_eq_true rfl), (Nat.le_of_ble_eq_true rfl)⟩ ⟨(Nat.le_of_ble_eq_true rfl), (Nat.le_of_ble_eq_true rfl)⟩ dX2_rounded_23 (fun r1 σ2 => ?_)
  refine j_lshr (pc := 26) dX2_rounded_26 ?_
  refine j_l2i (pc := 27) dX2_rounded_27 ?_
  refine j_iload_n (pc := 28) 1 dX2_rounded_28 rfl rfl ?_
  refine j_callSI (pc := 29) (As := [aI v0]) (st := [aI (Int64.toInt32 (v4 >>> (Int32.toInt64 r1 &&& 63)))]) (fun l => c2_bias l v0) cs_RX2_17 rfl rfl (Nat.le_of_ble_eq_true rfl) ⟨(Nat.le_of_ble_eq_true rfl), (Nat.le_of_ble_eq_true rfl)⟩ ⟨(Nat.le_of_ble_eq_true rfl), (Nat.le_of_ble_eq_true rfl)⟩ dX2_rounded_29 (fun r3 σ4 => ?_)
  refine j_isub (pc := 32) dX2_rounded_32 ?_
  refine j_leti (fun x5 => ?_)
  refine j_istore (pc := 33) (lv' := [(7, aI x5), (6, aI (bi s0)), (0, aI v0), (1, aL v1), (3, aI v3), (4, aL v4)]) dX2_rounded_33 (Nat.le_of_ble_eq_true rfl) rfl ?_
  refine j_lload (pc := 35) 5 dX2_rounded_35 rfl ?_
  refine j_lconst (pc := 37) (v := 0) (by decide) dX2_rounded_37 ?_
  refine j_lcmpeq (pc := 38) (tgt := 51) dX2_rounded_38 dX2_rounded_39 rfl (fun _ => ?_) (fun _ => ?_)
  · refine j_lload_n (pc := 51) 3 dX2_rounded_51 rfl rfl ?_
    exact j_lreturn (pc := 52) rfl (Nat.le_of_ble_eq_true rfl) (Nat.le_of_ble_eq_true rfl) dX2_rounded_52
  · refine j_iload (pc := 42) 0 dX2_rounded_42 rfl ?_
    refine j_iload_n (pc := 44) 2 dX2_rounded_44 rfl rfl ?_
    refine j_callSI (pc := 45) (As := [aI v0]) (st := [aI x5]) (fun l => c2_fractionBits l v0) cs_RX2_23 rfl rfl (Nat.le_of_ble_eq_true rfl) ⟨(Nat.le_of_ble_eq_true rfl), (Nat.le_of_ble_eq_true rfl)⟩ ⟨(Nat.le_of_ble_eq_true rfl), (Nat.le_of_ble_eq_true rfl)⟩ dX2_rounded_45 (fun r6 σ7 => ?_)
    refine j_icmplt (pc := 48) (tgt := 53) dX2_rounded_48 rfl (fun _ => ?_) (fun _ => ?_)
    · refine j_iload (pc := 53) 0 dX2_rounded_53 rfl ?_
      refine j_ifge (pc := 55) (tgt := 96) dX2_rounded_55 rfl (fun _ => ?_) (fun _ => ?_)
      · refine j_iload_n (pc := 96) 2 dX2_rounded_96 rfl rfl ?_
        refine j_callSI (pc := 97) (As := [aI v0]) (st := []) (fun l => c2_fractionBits l v0) cs_RX2_23 rfl rfl (Nat.le_of_ble_eq_true rfl) ⟨(Nat.le_of_ble_eq_true rfl), (Nat.le_of_ble_eq_true rfl)⟩ ⟨(Nat.le_of_ble_eq_true rfl), (Nat.le_of_ble_eq_true rfl)⟩ dX2_rounded_97 (fun r8 σ9 => ?_)
        refine j_iload (pc := 100) 0 dX2_rounded_100 rfl ?_
        refine j_isub (pc := 102) dX2_rounded_102 ?_
        refine j_leti (fun x10 => ?_)
        refine j_istore (pc := 103) (lv' := [(8, aI x10), (7, aI x5), (6, aI (bi s0)), (0, aI v0), (1, aL v1), (3, aI v3), (4, aL v4)]) dX2_rounded_103 (Nat.le_of_ble_eq_true rfl) rfl ?_
        refine j_sub [0, 2, 3, 4, 5, 6] (lv' := [(8, aI x10), (6, aI (bi s0)), (0, aI v0), (1, aL v1), (3, aI v3), (4, aL v4)]) rfl ?_
        refine j_lconst (pc := 105) (v := 1) (by decide) dX2_rounded_105 ?_
        refine j_iload (pc := 106) 0 dX2_rounded_106 rfl ?_
        refine j_lshl (pc := 108) dX2_rounded_108 ?_
        refine j_letl (fun x11 => ?_)
        refine j_lstore (pc := 109) (lv' := [(9, aL x11), (8, aI x10), (6, aI (bi s0)), (0, aI v0), (1, aL v1), (3, aI v3), (4, aL v4)]) dX2_rounded_109 (Nat.le_of_ble_eq_true rfl) rfl ?_
        refine j_sub [0, 2, 3, 4, 5, 6] (lv' := [(9, aL x11), (6, aI (bi s0)), (0, aI v0), (1, aL v1), (3, aI v3), (4, aL v4)]) rfl ?_
        refine j_lload (pc := 111) 5 dX2_rounded_111 rfl ?_
        refine j_lload (pc := 113) 0 dX2_rounded_113 rfl ?_
        refine j_lconst (pc := 115) (v := 1) (by decide) dX2_rounded_115 ?_
        refine j_lsub (pc := 116) dX2_rounded_116 ?_
        refine j_land (pc := 117) dX2_rounded_117 ?_
        refine j_letl (fun x12 => ?_)
        refine j_lstore (pc := 118) (lv' := [(11, aL x12), (9, aL x11), (6, aI (bi s0)), (0, aI v0), (1, aL v1), (3, aI v3), (4, aL v4)]) dX2_rounded_118 (Nat.le_of_ble_eq_true rfl) rfl ?_
        refine j_lload (pc := 120) 0 dX2_rounded_120 rfl ?_
        refine j_lconst (pc := 122) (v := 0) (by decide) dX2_rounded_122 ?_
        refine j_lcmpne (pc := 123) (tgt := 129) dX2_rounded_123 dX2_rounded_124 rfl (fun _ => ?_) (fun _ => ?_)
        · refine j_lload (pc := 129) 6 dX2_rounded_129 rfl ?_
          refine j_lload (pc := 131) 1 dX2_rounded_131 rfl ?_
          refine j_land (pc := 133) dX2_rounded_133 ?_
          refine j_lconst (pc := 134) (v := 0) (by decide) dX2_rounded_134 ?_
          refine j_lcmpeq (pc := 135) (tgt := 143) dX2_rounded_135 dX2_rounded_136 rfl (fun _ => ?_) (fun _ => ?_)
          · refine j_iconst (pc := 143) (v := 0) (by decide) dX2_rounded_143 ?_
            refine j_sub [3, 5, 6, 2, 1, 0] (lv' := [(0, aI v0), (3, aI v3), (4, aL v4), (6, aI (bi s0)), (9, aL x11), (11, aL x12)]) rfl ?_
            exact jb2_rounded_144   v0 v3 v4 s0 x11 x12 false σ9
          · refine j_iconst (pc := 139) (v := 1) (by decide) dX2_rounded_139 ?_
            refine j_goto (pc := 140) (tgt := 144) dX2_rounded_140 rfl ?_
            refine j_sub [3, 5, 6, 2, 1, 0] (lv' := [(0, aI v0), (3, aI v3), (4, aL v4), (6, aI (bi s0)), (9, aL x11), (11, aL x12)]) rfl ?_
            exact jb2_rounded_144   v0 v3 v4 s0 x11 x12 true σ9
        · refine j_lload_n (pc := 127) 4 dX2_rounded_127 rfl rfl ?_
          exact j_lreturn (pc := 128) rfl (Nat.le_of_ble_eq_true rfl) (Nat.le_of_ble_eq_true rfl) dX2_rounded_128
      · refine j_iload_n (pc := 58) 4 dX2_rounded_58 rfl rfl ?_
        refine j_iload (pc := 59) 1 dX2_rounded_59 rfl ?_
        refine j_lload (pc := 61) 5 dX2_rounded_61 rfl ?_
        refine j_iload_n (pc := 63) 2 dX2_rounded_63 rfl rfl ?_
        refine j_callSL (pc := 64) (As := [aI v0]) (st := [aL v4, aI (bi s0), aI v3]) (fun l => c2_halfOf l v0) cs_RX2_52 rfl rfl (Nat.le_of_ble_eq_true rfl) ⟨(Nat.le_of_ble_eq_true rfl), (Nat.le_of_ble_eq_true rfl)⟩ ⟨(Nat.le_of_ble_eq_true rfl), (Nat.le_of_ble_eq_true rfl)⟩ dX2_rounded_64 (fun r13 σ14 => ?_)
        refine j_callSI (pc := 67) (As := [aL v4, aL r13]) (st := [aI (bi s0), aI v3]) (fun l => cJ_cmp l v4 r13) cs_RX2_55 rfl rfl (Nat.le_of_ble_eq_true rfl) ⟨(Nat.le_of_ble_eq_true rfl), (Nat.le_of_ble_eq_true rfl)⟩ ⟨(Nat.le_of_ble_eq_true rfl), (Nat.le_of_ble_eq_true rfl)⟩ dX2_rounded_67 (fun r15 σ16 => ?_)
        refine j_iconst (pc := 70) (v := 0) (by decide) dX2_rounded_70 ?_
        refine j_callSZ (pc := 71) (As := [aI v3, aI (bi s0), aI r15, aI (bi false)]) (st := []) (fun l => c2_goesUp l v3 s0 r15 false) cs_RX2_61 rfl rfl (Nat.le_of_ble_eq_true rfl) ⟨(Nat.le_of_ble_eq_true rfl), (Nat.le_of_ble_eq_true rfl)⟩ ⟨(Nat.le_of_ble_eq_true rfl), (Nat.le_of_ble_eq_true rfl)⟩ dX2_rounded_71 (fun r17 σ18 => ?_)
        refine j_istore (pc := 74) (lv' := [(8, aI (bi r17)), (7, aI x5), (6, aI (bi s0)), (0, aI v0), (1, aL v1), (3, aI v3), (4, aL v4)]) dX2_rounded_74 (Nat.le_of_ble_eq_true rfl) rfl ?_
        refine j_sub [0, 2, 3] (lv' := [(8, aI (bi r17)), (6, aI (bi s0)), (0, aI v0)]) rfl ?_
        refine j_iload_n (pc := 76) 2 dX2_rounded_76 rfl rfl ?_
        refine j_iload (pc := 77) 0 dX2_rounded_77 rfl ?_
        refine j_ifeqB (pc := 79) (tgt := 89) dX2_rounded_79 rfl (fun _ => ?_) (fun _ => ?_)
        · refine j_lconst (pc := 89) (v := 0) (by decide) dX2_rounded_89 ?_
          refine j_iload (pc := 90) 1 dX2_rounded_90 rfl ?_
          refine j_callSL (pc := 92) (As := [aI v0, aL 0, aI (bi s0)]) (st := []) (fun l => c2_withSign l v0 0 s0) cs_RX2_48 rfl rfl (Nat.le_of_ble_eq_true rfl) ⟨(Nat.le_of_ble_eq_true rfl), (Nat.le_of_ble_eq_true rfl)⟩ ⟨(Nat.le_of_ble_eq_true rfl), (Nat.le_of_ble_eq_true rfl)⟩ dX2_rounded_92 (fun r19 σ20 => ?_)
          exact j_lreturn (pc := 95) rfl (Nat.le_of_ble_eq_true rfl) (Nat.le_of_ble_eq_true rfl) dX2_rounded_95
        · refine j_iload_n (pc := 82) 2 dX2_rounded_82 rfl rfl ?_
          refine j_callSL (pc := 83) (As := [aI v0]) (st := [aI v0]) (fun l => c2_oneOf l v0) cs_RX2_45 rfl rfl (Nat.le_of_ble_eq_true rfl) ⟨(Nat.le_of_ble_eq_true rfl), (Nat.le_of_ble_eq_true rfl)⟩ ⟨(Nat.le_of_ble_eq_true rfl), (Nat.le_of_ble_eq_true rfl)⟩ dX2_rounded_83 (fun r21 σ22 => ?_)
          refine j_goto (pc := 86) (tgt := 90) dX2_rounded_86 rfl ?_
          refine j_iload (pc := 90) 1 dX2_rounded_90 rfl ?_
          refine j_callSL (pc := 92) (As := [aI v0, aL r21, aI (bi s0)]) (st := []) (fun l => c2_withSign l v0 r21 s0) cs_RX2_48 rfl rfl (Nat.le_of_ble_eq_true rfl) ⟨(Nat.le_of_ble_eq_true rfl), (Nat.le_of_ble_eq_true rfl)⟩ ⟨(Nat.le_of_ble_eq_true rfl), (Nat.le_of_ble_eq_true rfl)⟩ dX2_rounded_92 (fun r23 σ24 => ?_)
          exact j_lreturn (pc := 95) rfl (Nat.le_of_ble_eq_true rfl) (Nat.le_of_ble_eq_true rfl) dX2_rounded_95
    · refine j_lload_n (pc := 51) 3 dX2_rounded_51 rfl rfl ?_
      exact j_lreturn (pc := 52) rfl (Nat.le_of_ble_eq_true rfl) (Nat.le_of_ble_eq_true rfl) dX2_rounded_52
set_option maxRecDepth 20000 in
set_option maxHeartbeats 4000000 in
theorem j2_rounded {Γ : jX} {tg : Int64 × rS} (v0 : Int32) (v1 : Int64) (v3 : Int32) (σ : rS) : J Γ rm2_rounded eL cX2_rounded RX2 15 (some .long) tg 0 0 0 [(0, aI v0), (1, aL v1), (3, aI v3)] [] σ (f2_rounded v0 v1 v3 σ) := by
  unfold f2_rounded
  refine j_iload_n (pc := 0) 0 dX2_rounded_0 rfl rfl ?_
  refine j_lload_n (pc := 1) 1 dX2_rounded_1 rfl rfl ?_
  refine j_callSL (pc := 2) (As := [aI v0, aL v1]) (st := []) (fun l => c2_sizeOf l v0 v1) cs_RX2_34 rfl rfl (Nat.le_of_ble_eq_true rfl) ⟨(Nat.le_of_ble_eq_true rfl), (Nat.le_of_ble_eq_true rfl)⟩ ⟨(Nat.le_of_ble_eq_true rfl), (Nat.le_of_ble_eq_true rfl)⟩ dX2_rounded_2 (fun r1 σ2 => ?_)
  refine j_lstore (pc := 5) (lv' := [(4, aL r1), (0, aI v0), (1, aL v1), (3, aI v3)]) dX2_rounded_5 (Nat.le_of_ble_eq_true rfl) rfl ?_
  refine j_lload_n (pc := 7) 2 dX2_rounded_7 rfl rfl ?_
  refine j_lconst (pc := 8) (v := 0) (by decide) dX2_rounded_8 ?_
  refine j_lcmpge (pc := 9) (tgt := 17) dX2_rounded_9 dX2_rounded_10 rfl (fun _ => ?_) (fun _ => ?_)
  · refine j_iconst (pc := 17) (v := 0) (by decide) dX2_rounded_17 ?_
    refine j_sub [1, 2, 3, 0] (lv' := [(0, aI v0), (1, aL v1), (3, aI v3), (4, aL r1)]) rfl ?_
    exact jb2_rounded_18   v0 v1 v3 r1 false σ2
  · refine j_iconst (pc := 13) (v := 1) (by decide) dX2_rounded_13 ?_
    refine j_goto (pc := 14) (tgt := 18) dX2_rounded_14 rfl ?_
    refine j_sub [1, 2, 3, 0] (lv' := [(0, aI v0), (1, aL v1), (3, aI v3), (4, aL r1)]) rfl ?_
    exact jb2_rounded_18   v0 v1 v3 r1 true σ2
theorem c2_rounded (l : Launch) (v0 : Int32) (v1 : Int64) (v3 : Int32) : Ctr l yX2_rounded cX2_rounded 15 (some .long) rm2_rounded eL [aI v0, aL v1, aI v3] (f2_rounded v0 v1 v3) := ctr_of (lv := [(0, aI v0), (1, aL v1), (3, aI v3)]) (by decide +kernel) (fun _ => rfl) (fun _ => (Nat.le_of_ble_eq_true rfl)) (fun _ h => lvl_als h rfl) (fun _ σ _ => j2_rounded v0 v1 v3 σ)
abbrev rm2_signOf : Room := { frames := 2, cells := 0, slots := 0, locals := 43 }
set_option maxRecDepth 20000 in
set_option maxHeartbeats 4000000 in
theorem j2_signOf {Γ : jX} {tg : Int64 × rS} (v0 : Int32) (v1 : Int64) (σ : rS) : J Γ rm2_signOf eL cX2_signOf RX2 3 (some .long) tg 0 0 0 [(0, aI v0), (1, aL v1)] [] σ (f2_signOf v0 v1 σ) := by
  unfold f2_signOf
  refine j_iload_n (pc := 0) 0 dX2_signOf_0 rfl rfl ?_
  refine j_lload_n (pc := 1) 1 dX2_signOf_1 rfl rfl ?_
  refine j_callSL (pc := 2) (As := [aI v0, aL v1]) (st := []) (fun l => c2_sizeOf l v0 v1) cs_RX2_34 rfl rfl (Nat.le_of_ble_eq_true rfl) ⟨(Nat.le_of_ble_eq_true rfl), (Nat.le_of_ble_eq_true rfl)⟩ ⟨(Nat.le_of_ble_eq_true rfl), (Nat.le_of_ble_eq_true rfl)⟩ dX2_signOf_2 (fun r1 σ2 => ?_)
  refine j_lconst (pc := 5) (v := 0) (by decide) dX2_signOf_5 ?_
  refine j_lcmpne (pc := 6) (tgt := 14) dX2_signOf_6 dX2_signOf_7 rfl (fun _ => ?_) (fun _ => ?_)
  · refine j_iload_n (pc := 14) 0 dX2_signOf_14 rfl rfl ?_
    refine j_iload_n (pc := 15) 0 dX2_signOf_15 rfl rfl ?_
    refine j_callSL (pc := 16) (As := [aI v0]) (st := [aI v0]) (fun l => c2_oneOf l v0) cs_RX2_45 rfl rfl (Nat.le_of_ble_eq_true rfl) ⟨(Nat.le_of_ble_eq_true rfl), (Nat.le_of_ble_eq_true rfl)⟩ ⟨(Nat.le_of_ble_eq_true rfl), (Nat.le_of_ble_eq_true rfl)⟩ dX2_signOf_16 (fun r3 σ4 => ?_)
    refine j_lload_n (pc := 19) 1 dX2_signOf_19 rfl rfl ?_
    refine j_lconst (pc := 20) (v := 0) (by decide) dX2_signOf_20 ?_
    refine j_lcmpge (pc := 21) (tgt := 29) dX2_signOf_21 dX2_signOf_22 rfl (fun _ => ?_) (fun _ => ?_)
    · refine j_iconst (pc := 29) (v := 0) (by decide) dX2_signOf_29 ?_
      refine j_callSL (pc := 30) (As := [aI v0, aL r3, aI (bi false)]) (st := []) (fun l => c2_withSign l v0 r3 false) cs_RX2_48 rfl rfl (Nat.le_of_ble_eq_true rfl) ⟨(Nat.le_of_ble_eq_true rfl), (Nat.le_of_ble_eq_true rfl)⟩ ⟨(Nat.le_of_ble_eq_true rfl), (Nat.le_of_ble_eq_true rfl)⟩ dX2_signOf_30 (fun r5 σ6 => ?_)
      exact j_lreturn (pc := 33) rfl (Nat.le_of_ble_eq_true rfl) (Nat.le_of_ble_eq_true rfl) dX2_signOf_33
    · refine j_iconst (pc := 25) (v := 1) (by decide) dX2_signOf_25 ?_
      refine j_goto (pc := 26) (tgt := 30) dX2_signOf_26 rfl ?_
      refine j_callSL (pc := 30) (As := [aI v0, aL r3, aI (bi true)]) (st := []) (fun l => c2_withSign l v0 r3 true) cs_RX2_48 rfl rfl (Nat.le_of_ble_eq_true rfl) ⟨(Nat.le_of_ble_eq_true rfl), (Nat.le_of_ble_eq_true rfl)⟩ ⟨(Nat.le_of_ble_eq_true rfl), (Nat.le_of_ble_eq_true rfl)⟩ dX2_signOf_30 (fun r7 σ8 => ?_)
      exact j_lreturn (pc := 33) rfl (Nat.le_of_ble_eq_true rfl) (Nat.le_of_ble_eq_true rfl) dX2_signOf_33
  · refine j_lload_n (pc := 10) 1 dX2_signOf_10 rfl rfl ?_
    refine j_goto (pc := 11) (tgt := 33) dX2_signOf_11 rfl ?_
    exact j_lreturn (pc := 33) rfl (Nat.le_of_ble_eq_true rfl) (Nat.le_of_ble_eq_true rfl) dX2_signOf_33
theorem c2_signOf (l : Launch) (v0 : Int32) (v1 : Int64) : Ctr l yX2_signOf cX2_signOf 3 (some .long) rm2_signOf eL [aI v0, aL v1] (f2_signOf v0 v1) := ctr_of (lv := [(0, aI v0), (1, aL v1)]) (by decide +kernel) (fun _ => rfl) (fun _ => (Nat.le_of_ble_eq_true rfl)) (fun _ h => lvl_als h rfl) (fun _ σ _ => j2_signOf v0 v1 σ)
theorem cs_RX4_56 : CaS RX4 56 yX4_told cX4_told 3 (some .long) 2 := ⟨tw_2_47, tw_1_213, tw_1_7, tw_1_214, by decide +kernel, by decide +kernel, by decide +kernel⟩
abbrev rm4_turned : Room := { frames := 3, cells := 0, slots := 0, locals := 66 }
set_option maxRecDepth 20000 in
set_option maxHeartbeats 4000000 in
theorem j4_turned {Γ : jX} {tg : Int64 × rS} (v0 : Int32) (v1 : Int64) (σ : rS) : J Γ rm4_turned eL cX4_turned RX4 3 (some .long) tg 0 0 0 [(0, aI v0), (1, aL v1)] [] σ (f4_turned v0 v1 σ) := by
  unfold f4_turned
  refine j_iload_n (pc := 0) 0 dX4_turned_0 rfl rfl ?_
  refine j_ifne (pc := 1) (tgt := 8) dX4_turned_1 rfl (fun _ => ?_) (fun _ => ?_)
  · refine j_iload_n (pc := 8) 0 dX4_turned_8 rfl rfl ?_
    refine j_callSZ (pc := 9) (As := [aI v0]) (st := []) (fun l => c4_areFloating l v0) cs_RX4_15 rfl rfl (Nat.le_of_ble_eq_true rfl) ⟨(Nat.le_of_ble_eq_true rfl), (Nat.le_of_ble_eq_true rfl)⟩ ⟨(Nat.le_of_ble_eq_true rfl), (Nat.le_of_ble_eq_true rfl)⟩ dX4_turned_9 (fun r1 σ2 => ?_)
    refine j_ifeqB (pc := 12) (tgt := 24) dX4_turned_12 rfl (fun _ => ?_) (fun _ => ?_)
    · refine j_iload_n (pc := 24) 0 dX4_turned_24 rfl rfl ?_
      refine j_lload_n (pc := 25) 1 dX4_turned_25 rfl rfl ?_
      refine j_lneg (pc := 26) dX4_turned_26 ?_
      refine j_callSL (pc := 27) (As := [aI v0, aL (-v1)]) (st := []) (fun l => c4_told l v0 (-v1)) cs_RX4_56 rfl rfl (Nat.le_of_ble_eq_true rfl) ⟨(Nat.le_of_ble_eq_true rfl), (Nat.le_of_ble_eq_true rfl)⟩ ⟨(Nat.le_of_ble_eq_true rfl), (Nat.le_of_ble_eq_true rfl)⟩ dX4_turned_27 (fun r3 σ4 => ?_)
      exact j_lreturn (pc := 30) rfl (Nat.le_of_ble_eq_true rfl) (Nat.le_of_ble_eq_true rfl) dX4_turned_30
    · refine j_lload_n (pc := 15) 1 dX4_turned_15 rfl rfl ?_
      refine j_iload_n (pc := 16) 0 dX4_turned_16 rfl rfl ?_
      refine j_callSL (pc := 17) (As := [aI v0]) (st := [aL v1]) (fun l => c2_signBit l v0) cs_RX4_42 rfl rfl (Nat.le_of_ble_eq_true rfl) ⟨(Nat.le_of_ble_eq_true rfl), (Nat.le_of_ble_eq_true rfl)⟩ ⟨(Nat.le_of_ble_eq_true rfl), (Nat.le_of_ble_eq_true rfl)⟩ dX4_turned_17 (fun r5 σ6 => ?_)
      refine j_lxor (pc := 20) dX4_turned_20 ?_
      refine j_goto (pc := 21) (tgt := 30) dX4_turned_21 rfl ?_
      exact j_lreturn (pc := 30) rfl (Nat.le_of_ble_eq_true rfl) (Nat.le_of_ble_eq_true rfl) dX4_turned_30
  · refine j_lconst (pc := 4) (v := 1) (by decide) dX4_turned_4 ?_
    refine j_lload_n (pc := 5) 1 dX4_turned_5 rfl rfl ?_
    refine j_lsub (pc := 6) dX4_turned_6 ?_
    exact j_lreturn (pc := 7) rfl (Nat.le_of_ble_eq_true rfl) (Nat.le_of_ble_eq_true rfl) dX4_turned_7
theorem c4_turned (l : Launch) (v0 : Int32) (v1 : Int64) : Ctr l yX4_turned cX4_turned 3 (some .long) rm4_turned eL [aI v0, aL v1] (f4_turned v0 v1) := ctr_of (lv := [(0, aI v0), (1, aL v1)]) (by decide +kernel) (fun _ => rfl) (fun _ => (Nat.le_of_ble_eq_true rfl)) (fun _ h => lvl_als h rfl) (fun _ σ _ => j4_turned v0 v1 σ)
theorem cs_RX4_46 : CaS RX4 46 yX4_turned cX4_turned 3 (some .long) 2 := ⟨tw_2_44, tw_2_45, tw_1_7, tw_2_46, by decide +kernel, by decide +kernel, by decide +kernel⟩
theorem cs_RX4_49 : CaS RX4 49 yX2_signOf cX2_signOf 3 (some .long) 2 := ⟨tw_2_48, tw_2_49, tw_1_8, tw_2_50, by decide +kernel, by decide +kernel, by decide +kernel⟩
theorem cs_RX4_52 : CaS RX4 52 yX2_rounded cX2_rounded 15 (some .long) 3 := ⟨tw_2_64, tw_2_65, tw_1_8, tw_2_66, by decide +kernel, by decide +kernel, by decide +kernel⟩
abbrev rm4_shaped : Room := { frames := 4, cells := 0, slots := 0, locals := 88 }
set_option maxRecDepth 20000 in
set_option maxHeartbeats 4000000 in
theorem j4_shaped {Γ : jX} {tg : Int64 × rS} (v0 : Int32) (v1 : Int64) (v3 : Int32) (σ : rS) : J Γ rm4_shaped eL cX4_shaped RX4 4 (some .long) tg 0 0 0 [(0, aI v0), (1, aL v1), (3, aI v3)] [] σ (f4_shaped v0 v1 v3 σ) := by
  unfold f4_shaped
  refine j_iload_n (pc := 0) 0 dX4_shaped_0 rfl rfl ?_
  refine j_lload_n (pc := 1) 1 dX4_shaped_1 rfl rfl ?_
  refine j_callSZ (pc := 2) (As := [aI v0, aL v1]) (st := []) (fun l => c4_isGap l v0 v1) cs_RX4_27 rfl rfl (Nat.le_of_ble_eq_true rfl) ⟨(Nat.le_of_ble_eq_true rfl), (Nat.le_of_ble_eq_true rfl)⟩ ⟨(Nat.le_of_ble_eq_true rfl), (Nat.le_of_ble_eq_true rfl)⟩ dX4_shaped_2 (fun r1 σ2 => ?_)
  refine j_ifeqB (pc := 5) (tgt := 10) dX4_shaped_5 rfl (fun _ => ?_) (fun _ => ?_)
  · refine j_iload_n (pc := 10) 2 dX4_shaped_10 rfl rfl ?_
    refine j_case 0 (fun h0 => ?_) (fun h0 => ?_)
    · refine j_lookup (pc := 11) (off := 33) (tgt := 44) dX4_shaped_11 (by decide) (by rw [h0]; decide) rfl ?_
      refine j_lload_n (pc := 44) 1 dX4_shaped_44 rfl rfl ?_
      refine j_lconst (pc := 45) (v := 0) (by decide) dX4_shaped_45 ?_
      refine j_lcmpge (pc := 46) (tgt := 58) dX4_shaped_46 dX4_shaped_47 rfl (fun _ => ?_) (fun _ => ?_)
      · refine j_lload_n (pc := 58) 1 dX4_shaped_58 rfl rfl ?_
        exact j_lreturn (pc := 59) rfl (Nat.le_of_ble_eq_true rfl) (Nat.le_of_ble_eq_true rfl) dX4_shaped_59
      · refine j_iload_n (pc := 50) 0 dX4_shaped_50 rfl rfl ?_
        refine j_lload_n (pc := 51) 1 dX4_shaped_51 rfl rfl ?_
        refine j_callSL (pc := 52) (As := [aI v0, aL v1]) (st := []) (fun l => c4_turned l v0 v1) cs_RX4_46 rfl rfl (Nat.le_of_ble_eq_true rfl) ⟨(Nat.le_of_ble_eq_true rfl), (Nat.le_of_ble_eq_true rfl)⟩ ⟨(Nat.le_of_ble_eq_true rfl), (Nat.le_of_ble_eq_true rfl)⟩ dX4_shaped_52 (fun r3 σ4 => ?_)
        refine j_goto (pc := 55) (tgt := 59) dX4_shaped_55 rfl ?_
        exact j_lreturn (pc := 59) rfl (Nat.le_of_ble_eq_true rfl) (Nat.le_of_ble_eq_true rfl) dX4_shaped_59
    · refine j_case 4 (fun h1 => ?_) (fun h1 => ?_)
      · refine j_lookup (pc := 11) (off := 49) (tgt := 60) dX4_shaped_11 (by decide) (by rw [h1]; decide) rfl ?_
        refine j_iload_n (pc := 60) 0 dX4_shaped_60 rfl rfl ?_
        refine j_lload_n (pc := 61) 1 dX4_shaped_61 rfl rfl ?_
        refine j_callSL (pc := 62) (As := [aI v0, aL v1]) (st := []) (fun l => c2_signOf l v0 v1) cs_RX4_49 rfl rfl (Nat.le_of_ble_eq_true rfl) ⟨(Nat.le_of_ble_eq_true rfl), (Nat.le_of_ble_eq_true rfl)⟩ ⟨(Nat.le_of_ble_eq_true rfl), (Nat.le_of_ble_eq_true rfl)⟩ dX4_shaped_62 (fun r5 σ6 => ?_)
        exact j_lreturn (pc := 65) rfl (Nat.le_of_ble_eq_true rfl) (Nat.le_of_ble_eq_true rfl) dX4_shaped_65
      · refine j_case 5 (fun h2 => ?_) (fun h2 => ?_)
        · refine j_lookup (pc := 11) (off := 55) (tgt := 66) dX4_shaped_11 (by decide) (by rw [h2]; decide) rfl ?_
          refine j_iload_n (pc := 66) 0 dX4_shaped_66 rfl rfl ?_
          refine j_lload_n (pc := 67) 1 dX4_shaped_67 rfl rfl ?_
          refine j_callSL (pc := 68) (As := [aI v0, aL v1]) (st := []) (fun l => c4_turned l v0 v1) cs_RX4_46 rfl rfl (Nat.le_of_ble_eq_true rfl) ⟨(Nat.le_of_ble_eq_true rfl), (Nat.le_of_ble_eq_true rfl)⟩ ⟨(Nat.le_of_ble_eq_true rfl), (Nat.le_of_ble_eq_true rfl)⟩ dX4_shaped_68 (fun r7 σ8 => ?_)
          exact j_lreturn (pc := 71) rfl (Nat.le_of_ble_eq_true rfl) (Nat.le_of_ble_eq_true rfl) dX4_shaped_71
        · refine j_lookup (pc := 11) (off := 61) (tgt := 72) dX4_shaped_11 (by decide) (by show Op.lookupswitch.offset [(0, 33), (4, 49), (5, 55)] 61 v3.toInt = 61; rw [lv_osw h0 (show ((0 : Int32)).toInt = 0 by decide), lv_osw h1 (show ((4 : Int32)).toInt = 4 by decide), lv_osw h2 (show ((5 : Int32)).toInt = 5 by decide)]; rfl) rfl ?_
          refine j_iload_n (pc := 72) 0 dX4_shaped_72 rfl rfl ?_
          refine j_lload_n (pc := 73) 1 dX4_shaped_73 rfl rfl ?_
          refine j_iload_n (pc := 74) 2 dX4_shaped_74 rfl rfl ?_
          refine j_callSL (pc := 75) (As := [aI v0, aL v1, aI v3]) (st := []) (fun l => c2_rounded l v0 v1 v3) cs_RX4_52 rfl rfl (Nat.le_of_ble_eq_true rfl) ⟨(Nat.le_of_ble_eq_true rfl), (Nat.le_of_ble_eq_true rfl)⟩ ⟨(Nat.le_of_ble_eq_true rfl), (Nat.le_of_ble_eq_true rfl)⟩ dX4_shaped_75 (fun r9 σ10 => ?_)
          exact j_lreturn (pc := 78) rfl (Nat.le_of_ble_eq_true rfl) (Nat.le_of_ble_eq_true rfl) dX4_shaped_78
  · refine j_lload_n (pc := 8) 1 dX4_shaped_8 rfl rfl ?_
    exact j_lreturn (pc := 9) rfl (Nat.le_of_ble_eq_true rfl) (Nat.le_of_ble_eq_true rfl) dX4_shaped_9
theorem c4_shaped (l : Launch) (v0 : Int32) (v1 : Int64) (v3 : Int32) : Ctr l yX4_shaped cX4_shaped 4 (some .long) rm4_shaped eL [aI v0, aL v1, aI v3] (f4_shaped v0 v1 v3) := ctr_of (lv := [(0, aI v0), (1, aL v1), (3, aI v3)]) (by decide +kernel) (fun _ => rfl) (fun _ => (Nat.le_of_ble_eq_true rfl)) (fun _ h => lvl_als h rfl) (fun _ σ _ => j4_shaped v0 v1 v3 σ)
theorem cs_RX10_121 : CaS RX10 121 yX4_shaped cX4_shaped 4 (some .long) 3 := ⟨tw_2_41, tw_2_42, tw_1_7, tw_2_43, by decide +kernel, by decide +kernel, by decide +kernel⟩
theorem cs_RX10_118 : CaS RX10 118 yX4_areFloating cX4_areFloating 1 (some .boolean) 1 := ⟨tw_2_40, tw_2_16, tw_1_7, tw_2_17, by decide +kernel, by decide +kernel, by decide +kernel⟩
abbrev rm10_shape : Room := { frames := 5, cells := 0, slots := 0, locals := 111 }
set_option maxRecDepth 20000 in
set_option maxHeartbeats 4000000 in
theorem jb10_shape_50 {Γ : jX} {tg : Int32 × rS} (v0 : Nat) (v2 : Int32) (v3 : Int32) (v4 : Nat) (σ : rS) : J Γ rm10_shape eI cX10_shape RX10 5 (some .int) tg 0 0 50 [(0, aR 0 v0), (2, aI v2), (3, aI v3), (4, aR 13 v4)] [] σ (B10_shape_50 v0 v2 v3 v4 σ) := by
  unfold B10_shape_50
  refine j_aload (pc := 50) 3 dX10_shape_50 rfl ?_
  refine j_getI (pc := 52) fd_13_2 tw_1_180 dX10_shape_52 ?_
  refine j_ifeq (pc := 55) (tgt := 64) dX10_shape_55 rfl (fun _ => ?_) (fun _ => ?_)
  · refine j_aload (pc := 64) 3 dX10_shape_64 rfl ?_
    refine j_iload_n (pc := 66) 1 dX10_shape_66 rfl rfl ?_
    refine j_callVZ (pc := 67) (As := [aI v2]) (st := []) (fun l => c7_has l v4 v2) cs_RX10_91 rfl rfl rfl rfl (Nat.le_of_ble_eq_true rfl) ⟨(Nat.le_of_ble_eq_true rfl), (Nat.le_of_ble_eq_true rfl)⟩ ⟨(Nat.le_of_ble_eq_true rfl), (Nat.le_of_ble_eq_true rfl)⟩ dX10_shape_67 (fun r1 σ2 => ?_)
    refine j_ifneB (pc := 70) (tgt := 79) dX10_shape_70 rfl (fun _ => ?_) (fun _ => ?_)
    · refine j_aload_n (pc := 79) 0 dX10_shape_79 rfl rfl ?_
      refine j_aload (pc := 80) 3 dX10_shape_80 rfl ?_
      refine j_getI (pc := 82) fd_13_0 tw_1_177 dX10_shape_82 ?_
      refine j_aload (pc := 85) 3 dX10_shape_85 rfl ?_
      refine j_getF (pc := 87) fd_13_1 tw_1_179 dX10_shape_87 ?_
      refine j_iload_n (pc := 90) 1 dX10_shape_90 rfl rfl ?_
      refine j_lald (pc := 91) rfl rfl rfl dX10_shape_91 (fun j3 => ?_)
      refine j_iload_n (pc := 92) 2 dX10_shape_92 rfl rfl ?_
      refine j_callSL (pc := 93) (As := [aI (gI σ2 13 v4 0), aL (gL σ2 14 v4 j3), aI v3]) (st := [aR 0 v0]) (fun l => c4_shaped l (gI σ2 13 v4 0) (gL σ2 14 v4 j3) v3) cs_RX10_121 rfl rfl (Nat.le_of_ble_eq_true rfl) ⟨(Nat.le_of_ble_eq_true rfl), (Nat.le_of_ble_eq_true rfl)⟩ ⟨(Nat.le_of_ble_eq_true rfl), (Nat.le_of_ble_eq_true rfl)⟩ dX10_shape_93 (fun r4 σ5 => ?_)
      refine j_putL (pc := 96) fd_0_13 tw_1_125 dX10_shape_96 ?_
      refine j_lets (fun σ6 => ?_)
      refine j_iconst (pc := 99) (v := 0) (by decide) dX10_shape_99 ?_
      exact j_ireturn (pc := 100) rfl (Nat.le_of_ble_eq_true rfl) (Nat.le_of_ble_eq_true rfl) dX10_shape_100
    · refine j_aload_n (pc := 73) 0 dX10_shape_73 rfl rfl ?_
      refine j_iconst (pc := 74) (v := 2) (by decide) dX10_shape_74 ?_
      refine j_callVI (pc := 75) (As := [aI 2]) (st := []) (fun l => c10_found l v0 2) cs_RX10_68 rfl rfl rfl rfl (Nat.le_of_ble_eq_true rfl) ⟨(Nat.le_of_ble_eq_true rfl), (Nat.le_of_ble_eq_true rfl)⟩ ⟨(Nat.le_of_ble_eq_true rfl), (Nat.le_of_ble_eq_true rfl)⟩ dX10_shape_75 (fun r7 σ8 => ?_)
      exact j_ireturn (pc := 78) rfl (Nat.le_of_ble_eq_true rfl) (Nat.le_of_ble_eq_true rfl) dX10_shape_78
  · refine j_aload_n (pc := 58) 0 dX10_shape_58 rfl rfl ?_
    refine j_iconst (pc := 59) (v := 1) (by decide) dX10_shape_59 ?_
    refine j_callVI (pc := 60) (As := [aI 1]) (st := []) (fun l => c10_found l v0 1) cs_RX10_68 rfl rfl rfl rfl (Nat.le_of_ble_eq_true rfl) ⟨(Nat.le_of_ble_eq_true rfl), (Nat.le_of_ble_eq_true rfl)⟩ ⟨(Nat.le_of_ble_eq_true rfl), (Nat.le_of_ble_eq_true rfl)⟩ dX10_shape_60 (fun r9 σ10 => ?_)
    exact j_ireturn (pc := 63) rfl (Nat.le_of_ble_eq_true rfl) (Nat.le_of_ble_eq_true rfl) dX10_shape_63
set_option maxRecDepth 20000 in
set_option maxHeartbeats 4000000 in
theorem j10_shape {Γ : jX} {tg : Int32 × rS} (v0 : Nat) (v1 : Int32) (v2 : Int32) (v3 : Int32) (σ : rS) : J Γ rm10_shape eI cX10_shape RX10 5 (some .int) tg 0 0 0 [(0, aR 0 v0), (1, aI v1), (2, aI v2), (3, aI v3)] [] σ (f10_shape v0 v1 v2 v3 σ) := by
  unfold f10_shape
  refine j_aload_n (pc := 0) 0 dX10_shape_0 rfl rfl ?_
  refine j_iload_n (pc := 1) 1 dX10_shape_1 rfl rfl ?_
  refine j_callVR (pc := 2) (As := [aI v1]) (st := []) (fun l => c10_rowNumbered l v0 v1) cs_RX10_76 rfl rfl rfl rfl (Nat.le_of_ble_eq_true rfl) ⟨(Nat.le_of_ble_eq_true rfl), (Nat.le_of_ble_eq_true rfl)⟩ ⟨(Nat.le_of_ble_eq_true rfl), (Nat.le_of_ble_eq_true rfl)⟩ dX10_shape_2 (fun r1 σ2 => ?_)
  refine j_astore (pc := 5) (lv' := [(4, aO 13 r1), (0, aR 0 v0), (1, aI v1), (2, aI v2), (3, aI v3)]) dX10_shape_5 (Nat.le_of_ble_eq_true rfl) rfl ?_
  refine j_sub [0, 1, 3, 4] (lv' := [(4, aO 13 r1), (0, aR 0 v0), (2, aI v2), (3, aI v3)]) rfl ?_
  refine j_aload (pc := 7) 0 dX10_shape_7 rfl ?_
  refine j_ifnonnull (pc := 9) (tgt := 15) dX10_shape_9 rfl (fun hm => ?_) (fun i3 hm => ?_)
  · subst hm
    refine j_bipush (pc := 12) (v := (-101)) (by decide) dX10_shape_12 ?_
    exact j_ireturn (pc := 14) rfl (Nat.le_of_ble_eq_true rfl) (Nat.le_of_ble_eq_true rfl) dX10_shape_14
  · subst hm
    refine j_iload_n (pc := 15) 3 dX10_shape_15 rfl rfl ?_
    refine j_iflt (pc := 16) (tgt := 24) dX10_shape_16 rfl (fun _ => ?_) (fun _ => ?_)
    · refine j_bipush (pc := 24) (v := (-102)) (by decide) dX10_shape_24 ?_
      exact j_ireturn (pc := 26) rfl (Nat.le_of_ble_eq_true rfl) (Nat.le_of_ble_eq_true rfl) dX10_shape_26
    · refine j_iload_n (pc := 19) 3 dX10_shape_19 rfl rfl ?_
      refine j_iconst (pc := 20) (v := 5) (by decide) dX10_shape_20 ?_
      refine j_icmple (pc := 21) (tgt := 27) dX10_shape_21 rfl (fun _ => ?_) (fun _ => ?_)
      · refine j_iload_n (pc := 27) 3 dX10_shape_27 rfl rfl ?_
        refine j_ifeq (pc := 28) (tgt := 50) dX10_shape_28 rfl (fun _ => ?_) (fun _ => ?_)
        · refine j_sub [1, 2, 3, 0] (lv' := [(0, aR 0 v0), (2, aI v2), (3, aI v3), (4, aR 13 i3)]) rfl ?_
          exact jb10_shape_50   v0 v2 v3 i3 σ2
        · refine j_iload_n (pc := 31) 3 dX10_shape_31 rfl rfl ?_
          refine j_iconst (pc := 32) (v := 5) (by decide) dX10_shape_32 ?_
          refine j_icmpeq (pc := 33) (tgt := 50) dX10_shape_33 rfl (fun _ => ?_) (fun _ => ?_)
          · refine j_sub [1, 2, 3, 0] (lv' := [(0, aR 0 v0), (2, aI v2), (3, aI v3), (4, aR 13 i3)]) rfl ?_
            exact jb10_shape_50   v0 v2 v3 i3 σ2
          · refine j_aload (pc := 36) 0 dX10_shape_36 rfl ?_
            refine j_getI (pc := 38) fd_13_0 tw_1_177 dX10_shape_38 ?_
            refine j_callSZ (pc := 41) (As := [aI (gI σ2 13 i3 0)]) (st := []) (fun l => c4_areFloating l (gI σ2 13 i3 0)) cs_RX10_118 rfl rfl (Nat.le_of_ble_eq_true rfl) ⟨(Nat.le_of_ble_eq_true rfl), (Nat.le_of_ble_eq_true rfl)⟩ ⟨(Nat.le_of_ble_eq_true rfl), (Nat.le_of_ble_eq_true rfl)⟩ dX10_shape_41 (fun r4 σ5 => ?_)
            refine j_ifneB (pc := 44) (tgt := 50) dX10_shape_44 rfl (fun _ => ?_) (fun _ => ?_)
            · refine j_sub [1, 2, 3, 0] (lv' := [(0, aR 0 v0), (2, aI v2), (3, aI v3), (4, aR 13 i3)]) rfl ?_
              exact jb10_shape_50   v0 v2 v3 i3 σ5
            · refine j_bipush (pc := 47) (v := (-103)) (by decide) dX10_shape_47 ?_
              exact j_ireturn (pc := 49) rfl (Nat.le_of_ble_eq_true rfl) (Nat.le_of_ble_eq_true rfl) dX10_shape_49
      · refine j_bipush (pc := 24) (v := (-102)) (by decide) dX10_shape_24 ?_
        exact j_ireturn (pc := 26) rfl (Nat.le_of_ble_eq_true rfl) (Nat.le_of_ble_eq_true rfl) dX10_shape_26
theorem c10_shape (l : Launch) (v0 : Nat) (v1 : Int32) (v2 : Int32) (v3 : Int32) : Ctr l yX10_shape cX10_shape 5 (some .int) rm10_shape eI [aR 0 v0, aI v1, aI v2, aI v3] (f10_shape v0 v1 v2 v3) := ctr_of (lv := [(0, aR 0 v0), (1, aI v1), (2, aI v2), (3, aI v3)]) (by decide +kernel) (fun _ => rfl) (fun _ => (Nat.le_of_ble_eq_true rfl)) (fun _ h => lvl_als h rfl) (fun _ σ _ => j10_shape v0 v1 v2 v3 σ)
abbrev rm8_usersOf : Room := { frames := 0, cells := 0, slots := 0, locals := 0 }
set_option maxRecDepth 20000 in
set_option maxHeartbeats 4000000 in
theorem jb8_usersOf_51 {Γ : jX} {tg : Int32 × rS} (N : Nat) (K11 : Int32 → Nat → Int32 → Int32 → rS → Option (Int32 × rS)) (hK11 : ∀ (v1 : Int32) (v2 : Nat) (v3 : Int32) (v4 : Int32) (σ : rS), J Γ rm8_usersOf eI cX8_usersOf RX8 6 (some .int) tg 0 0 11 [(1, aI v1), (2, aR 7 v2), (3, aI v3), (4, aI v4)] [] σ (K11 v1 v2 v3 v4 σ)) (v1 : Int32) (v2 : Nat) (v3 : Int32) (v4 : Int32) (σ : rS) : J Γ rm8_usersOf eI cX8_usersOf RX8 6 (some .int) tg 0 0 51 [(1, aI v1), (2, aR 7 v2), (3, aI v3), (4, aI v4)] [] σ (B8_usersOf_51 N K11 v1 v2 v3 v4 σ) := by
  unfold B8_usersOf_51
  refine j_iinc (pc := 51) (w := 1) (lv' := [(4, aI (v4 + 1)), (1, aI v1), (2, aR 7 v2), (3, aI v3)]) 3 dX8_usersOf_51 rfl (by decide) (Nat.le_of_ble_eq_true rfl) rfl ?_
  refine j_goto (pc := 54) (tgt := 11) dX8_usersOf_54 rfl ?_
  refine j_sub [1, 2, 3, 0] (lv' := [(1, aI v1), (2, aR 7 v2), (3, aI v3), (4, aI (v4 + 1))]) rfl ?_
  exact hK11 v1 v2 v3 (v4 + 1) σ
set_option maxRecDepth 20000 in
set_option maxHeartbeats 4000000 in
theorem jb8_usersOf_11 {Γ : jX} {tg : Int32 × rS} (N : Nat) (K11 : Int32 → Nat → Int32 → Int32 → rS → Option (Int32 × rS)) (hK11 : ∀ (v1 : Int32) (v2 : Nat) (v3 : Int32) (v4 : Int32) (σ : rS), J Γ rm8_usersOf eI cX8_usersOf RX8 6 (some .int) tg 0 0 11 [(1, aI v1), (2, aR 7 v2), (3, aI v3), (4, aI v4)] [] σ (K11 v1 v2 v3 v4 σ)) (v1 : Int32) (v2 : Nat) (v3 : Int32) (v4 : Int32) (σ : rS) : J Γ rm8_usersOf eI cX8_usersOf RX8 6 (some .int) tg 0 0 11 [(1, aI v1), (2, aR 7 v2), (3, aI v3), (4, aI v4)] [] σ (B8_usersOf_11 N K11 v1 v2 v3 v4 σ) := by
  unfold B8_usersOf_11
  refine j_iload (pc := 11) 3 dX8_usersOf_11 rfl ?_
  refine j_iload_n (pc := 13) 2 dX8_usersOf_13 rfl rfl ?_
  refine j_icmpge (pc := 14) (tgt := 57) dX8_usersOf_14 rfl (fun _ => ?_) (fun _ => ?_)
  · refine j_iconst (pc := 57) (v := 0) (by decide) dX8_usersOf_57 ?_
    exact j_ireturn (pc := 58) rfl (Nat.le_of_ble_eq_true rfl) (Nat.le_of_ble_eq_true rfl) dX8_usersOf_58
  · refine j_aload_n (pc := 17) 1 dX8_usersOf_17 rfl rfl ?_
    refine j_iload (pc := 18) 3 dX8_usersOf_18 rfl ?_
    refine j_aald (pc := 20) rfl rfl rfl dX8_usersOf_20 (fun j1 o2 => ?_)
    refine j_astore (pc := 21) (lv' := [(5, aO 20 o2), (1, aI v1), (2, aR 7 v2), (3, aI v3), (4, aI v4)]) dX8_usersOf_21 (Nat.le_of_ble_eq_true rfl) rfl ?_
    refine j_aload (pc := 23) 0 dX8_usersOf_23 rfl ?_
    refine j_ifnull (pc := 25) (tgt := 51) dX8_usersOf_25 rfl (fun hm => ?_) (fun i3 hm => ?_)
    · subst hm
      refine j_sub [1, 2, 3, 4] (lv' := [(1, aI v1), (2, aR 7 v2), (3, aI v3), (4, aI v4)]) rfl ?_
      exact jb8_usersOf_51 N K11 hK11 v1 v2 v3 v4 σ
    · subst hm
      refine j_aload (pc := 28) 0 dX8_usersOf_28 rfl ?_
      refine j_getI (pc := 30) fd_20_3 tw_3_136 dX8_usersOf_30 ?_
      refine j_ifle (pc := 33) (tgt := 51) dX8_usersOf_33 rfl (fun _ => ?_) (fun _ => ?_)
      · refine j_sub [1, 2, 3, 4] (lv' := [(1, aI v1), (2, aR 7 v2), (3, aI v3), (4, aI v4)]) rfl ?_
        exact jb8_usersOf_51 N K11 hK11 v1 v2 v3 v4 σ
      · refine j_aload (pc := 36) 0 dX8_usersOf_36 rfl ?_
        refine j_getI (pc := 38) fd_20_2 tw_3_134 dX8_usersOf_38 ?_
        refine j_iload_n (pc := 41) 1 dX8_usersOf_41 rfl rfl ?_
        refine j_icmpne (pc := 42) (tgt := 51) dX8_usersOf_42 rfl (fun _ => ?_) (fun _ => ?_)
        · refine j_sub [1, 2, 3, 4] (lv' := [(1, aI v1), (2, aR 7 v2), (3, aI v3), (4, aI v4)]) rfl ?_
          exact jb8_usersOf_51 N K11 hK11 v1 v2 v3 v4 σ
        · refine j_aload (pc := 45) 0 dX8_usersOf_45 rfl ?_
          refine j_getI (pc := 47) fd_20_3 tw_3_136 dX8_usersOf_47 ?_
          exact j_ireturn (pc := 50) rfl (Nat.le_of_ble_eq_true rfl) (Nat.le_of_ble_eq_true rfl) dX8_usersOf_50
theorem jl8_usersOf_11 {Γ : jX} {tg : Int32 × rS} (N : Nat) : ∀ (n : Nat) (v1 : Int32) (v2 : Nat) (v3 : Int32) (v4 : Int32) (σ : rS), J Γ rm8_usersOf eI cX8_usersOf RX8 6 (some .int) tg 0 0 11 [(1, aI v1), (2, aR 7 v2), (3, aI v3), (4, aI v4)] [] σ (L8_usersOf_11 N n v1 v2 v3 v4 σ) := by
  intro n
  induction n with
  | zero => intro v1 v2 v3 v4 σ; exact j_none
  | succ n ih => intro v1 v2 v3 v4 σ; exact jb8_usersOf_11 N (L8_usersOf_11 N n) ih v1 v2 v3 v4 σ
set_option maxRecDepth 20000 in
set_option maxHeartbeats 4000000 in
theorem j8_usersOf {Γ : jX} {tg : Int32 × rS} (N : Nat) (v0 : Nat) (v1 : Int32) (σ : rS) : J Γ rm8_usersOf eI cX8_usersOf RX8 6 (some .int) tg 0 0 0 [(0, aR 6 v0), (1, aI v1)] [] σ (f8_usersOf N v0 v1 σ) := by
  unfold f8_usersOf
  refine j_aload_n (pc := 0) 0 dX8_usersOf_0 rfl rfl ?_
  refine j_getF (pc := 1) fd_6_0 tw_1_42 dX8_usersOf_1 ?_
  refine j_astore_n (pc := 4) (lv' := [(2, aR 7 v0), (0, aR 6 v0), (1, aI v1)]) dX8_usersOf_4 rfl (Nat.le_of_ble_eq_true rfl) rfl ?_
  refine j_sub [0, 2] (lv' := [(2, aR 7 v0), (1, aI v1)]) rfl ?_
  refine j_aload_n (pc := 5) 0 dX8_usersOf_5 rfl rfl ?_
  refine j_alen (pc := 6) rfl (by decide) dX8_usersOf_6 ?_
  refine j_leti (fun x1 => ?_)
  refine j_istore_n (pc := 7) (lv' := [(3, aI x1), (2, aR 7 v0), (1, aI v1)]) dX8_usersOf_7 rfl (Nat.le_of_ble_eq_true rfl) rfl ?_
  refine j_iconst (pc := 8) (v := 0) (by decide) dX8_usersOf_8 ?_
  refine j_istore (pc := 9) (lv' := [(4, aI 0), (3, aI x1), (2, aR 7 v0), (1, aI v1)]) dX8_usersOf_9 (Nat.le_of_ble_eq_true rfl) rfl ?_
  refine j_sub [3, 2, 1, 0] (lv' := [(1, aI v1), (2, aR 7 v0), (3, aI x1), (4, aI 0)]) rfl ?_
  exact jl8_usersOf_11 N  N v1 v0 x1 0 σ
theorem c8_usersOf (l : Launch) (N : Nat) (v0 : Nat) (v1 : Int32) : Ctr l yX8_usersOf cX8_usersOf 6 (some .int) rm8_usersOf eI [aR 6 v0, aI v1] (f8_usersOf N v0 v1) := ctr_of (lv := [(0, aR 6 v0), (1, aI v1)]) (by decide +kernel) (fun _ => rfl) (fun _ => (Nat.le_of_ble_eq_true rfl)) (fun _ h => lvl_als h rfl) (fun _ σ _ => j8_usersOf N v0 v1 σ)
theorem cs_RX10_255 : CaV RX10 RX8 255 yX8_usersOf cX8_usersOf 6 (some .int) 1 := ⟨tw_3_180, tw_3_181, tw_3_182, tw_1_2, tw_3_183, rfl, by decide +kernel, by decide +kernel, by decide +kernel⟩
abbrev rm10_uses : Room := { frames := 1, cells := 0, slots := 0, locals := 25 }
set_option maxRecDepth 20000 in
set_option maxHeartbeats 4000000 in
theorem j10_uses {Γ : jX} {tg : Int32 × rS} (N : Nat) (v0 : Nat) (v1 : Int32) (σ : rS) : J Γ rm10_uses eI cX10_uses RX10 2 (some .int) tg 0 0 0 [(0, aR 0 v0), (1, aI v1)] [] σ (f10_uses N v0 v1 σ) := by
  unfold f10_uses
  refine j_aload_n (pc := 0) 0 dX10_uses_0 rfl rfl ?_
  refine j_getF (pc := 1) fd_0_4 tw_1_116 dX10_uses_1 ?_
  refine j_iload_n (pc := 4) 1 dX10_uses_4 rfl rfl ?_
  refine j_callVI (pc := 5) (As := [aI v1]) (st := []) (fun l => c8_usersOf l N v0 v1) cs_RX10_255 rfl rfl rfl rfl (Nat.le_of_ble_eq_true rfl) ⟨(Nat.le_of_ble_eq_true rfl), (Nat.le_of_ble_eq_true rfl)⟩ ⟨(Nat.le_of_ble_eq_true rfl), (Nat.le_of_ble_eq_true rfl)⟩ dX10_uses_5 (fun r1 σ2 => ?_)
  exact j_ireturn (pc := 8) rfl (Nat.le_of_ble_eq_true rfl) (Nat.le_of_ble_eq_true rfl) dX10_uses_8
theorem c10_uses (l : Launch) (N : Nat) (v0 : Nat) (v1 : Int32) : Ctr l yX10_uses cX10_uses 2 (some .int) rm10_uses eI [aR 0 v0, aI v1] (f10_uses N v0 v1) := ctr_of (lv := [(0, aR 0 v0), (1, aI v1)]) (by decide +kernel) (fun _ => rfl) (fun _ => (Nat.le_of_ble_eq_true rfl)) (fun _ h => lvl_als h rfl) (fun _ σ _ => j10_uses N v0 v1 σ)
theorem cs_RX10_165 : CaV RX10 RX10 165 yX10_appendPiece cX10_appendPiece 5 none 3 := ⟨tw_2_200, tw_2_202, tw_p10, tw_1_1, tw_2_203, rfl, by decide +kernel, by decide +kernel, by decide +kernel⟩
abbrev rm10_write : Room := { frames := 4, cells := 0, slots := 0, locals := 94 }
set_option maxRecDepth 20000 in
set_option maxHeartbeats 4000000 in
theorem j10_write {Γ : jX} {tg : Int32 × rS} (N : Nat) (v0 : Nat) (v1 : Int32) (v2 : Int32) (v3 : Int32) (σ : rS) : J Γ rm10_write eI cX10_write RX10 6 (some .int) tg 0 0 0 [(0, aR 0 v0), (1, aI v1), (2, aI v2), (3, aI v3)] [] σ (f10_write N v0 v1 v2 v3 σ) := by
  unfold f10_write
  refine j_aload_n (pc := 0) 0 dX10_write_0 rfl rfl ?_
  refine j_iload_n (pc := 1) 1 dX10_write_1 rfl rfl ?_
  refine j_callVR (pc := 2) (As := [aI v1]) (st := []) (fun l => c10_streamNumbered l v0 v1) cs_RX10_147 rfl rfl rfl rfl (Nat.le_of_ble_eq_true rfl) ⟨(Nat.le_of_ble_eq_true rfl), (Nat.le_of_ble_eq_true rfl)⟩ ⟨(Nat.le_of_ble_eq_true rfl), (Nat.le_of_ble_eq_true rfl)⟩ dX10_write_2 (fun r1 σ2 => ?_)
  refine j_astore (pc := 5) (lv' := [(4, aO 15 r1), (0, aR 0 v0), (1, aI v1), (2, aI v2), (3, aI v3)]) dX10_write_5 (Nat.le_of_ble_eq_true rfl) rfl ?_
  refine j_sub [0, 1, 3, 4] (lv' := [(4, aO 15 r1), (0, aR 0 v0), (2, aI v2), (3, aI v3)]) rfl ?_
  refine j_aload_n (pc := 7) 1 dX10_write_7 rfl rfl ?_
  refine j_iload_n (pc := 8) 2 dX10_write_8 rfl rfl ?_
  refine j_callVR (pc := 9) (As := [aI v2]) (st := []) (fun l => c10_rowNumbered l v0 v2) cs_RX10_76 rfl rfl rfl rfl (Nat.le_of_ble_eq_true rfl) ⟨(Nat.le_of_ble_eq_true rfl), (Nat.le_of_ble_eq_true rfl)⟩ ⟨(Nat.le_of_ble_eq_true rfl), (Nat.le_of_ble_eq_true rfl)⟩ dX10_write_9 (fun r3 σ4 => ?_)
  refine j_astore (pc := 12) (lv' := [(5, aO 13 r3), (4, aO 15 r1), (0, aR 0 v0), (2, aI v2), (3, aI v3)]) dX10_write_12 (Nat.le_of_ble_eq_true rfl) rfl ?_
  refine j_sub [0, 1, 2, 4] (lv' := [(5, aO 13 r3), (4, aO 15 r1), (0, aR 0 v0), (3, aI v3)]) rfl ?_
  refine j_aload (pc := 14) 1 dX10_write_14 rfl ?_
  refine j_ifnull (pc := 16) (tgt := 24) dX10_write_16 rfl (fun hm => ?_) (fun i5 hm => ?_)
  · subst hm
    refine j_bipush (pc := 24) (v := (-101)) (by decide) dX10_write_24 ?_
    exact j_ireturn (pc := 26) rfl (Nat.le_of_ble_eq_true rfl) (Nat.le_of_ble_eq_true rfl) dX10_write_26
  · subst hm
    refine j_aload (pc := 19) 0 dX10_write_19 rfl ?_
    refine j_ifnonnull (pc := 21) (tgt := 27) dX10_write_21 rfl (fun hm => ?_) (fun i6 hm => ?_)
    · subst hm
      refine j_bipush (pc := 24) (v := (-101)) (by decide) dX10_write_24 ?_
      exact j_ireturn (pc := 26) rfl (Nat.le_of_ble_eq_true rfl) (Nat.le_of_ble_eq_true rfl) dX10_write_26
    · subst hm
      refine j_iload_n (pc := 27) 3 dX10_write_27 rfl rfl ?_
      refine j_callSZ (pc := 28) (As := [aI v3]) (st := []) (fun l => c10_isCoder l v3) cs_RX10_151 rfl rfl (Nat.le_of_ble_eq_true rfl) ⟨(Nat.le_of_ble_eq_true rfl), (Nat.le_of_ble_eq_true rfl)⟩ ⟨(Nat.le_of_ble_eq_true rfl), (Nat.le_of_ble_eq_true rfl)⟩ dX10_write_28 (fun r7 σ8 => ?_)
      refine j_ifneB (pc := 31) (tgt := 37) dX10_write_31 rfl (fun _ => ?_) (fun _ => ?_)
      · refine j_aload (pc := 37) 1 dX10_write_37 rfl ?_
        refine j_getI (pc := 39) fd_15_3 tw_2_147 dX10_write_39 ?_
        refine j_ifeq (pc := 42) (tgt := 48) dX10_write_42 rfl (fun _ => ?_) (fun _ => ?_)
        · refine j_aload (pc := 48) 0 dX10_write_48 rfl ?_
          refine j_getI (pc := 50) fd_13_2 tw_1_180 dX10_write_50 ?_
          refine j_ifeq (pc := 53) (tgt := 62) dX10_write_53 rfl (fun _ => ?_) (fun _ => ?_)
          · refine j_aload_n (pc := 62) 2 dX10_write_62 rfl rfl ?_
            refine j_getF (pc := 63) fd_0_5 tw_1_117 dX10_write_63 ?_
            refine j_iload_n (pc := 66) 3 dX10_write_66 rfl rfl ?_
            refine j_aload (pc := 67) 0 dX10_write_67 rfl ?_
            refine j_getF (pc := 69) fd_13_1 tw_1_179 dX10_write_69 ?_
            refine j_aload (pc := 72) 0 dX10_write_72 rfl ?_
            refine j_getF (pc := 74) fd_13_1 tw_1_179 dX10_write_74 ?_
            refine j_alen (pc := 77) rfl (by decide) dX10_write_77 ?_
            refine j_callVV (pc := 78) (As := [aI v3, aR 14 i6, aI (nI (gN σ8 14 i6))]) (st := []) (fun l => c5_pack l N 14 ⟨rfl, rfl, rfl⟩ v0 v3 i6 (nI (gN σ8 14 i6))) cs_RX10_157 rfl rfl rfl rfl (Nat.le_of_ble_eq_true rfl) ⟨(Nat.le_of_ble_eq_true rfl), (Nat.le_of_ble_eq_true rfl)⟩ ⟨(Nat.le_of_ble_eq_true rfl), (Nat.le_of_ble_eq_true rfl)⟩ dX10_write_78 (fun r9 σ10 => ?_)
            refine j_aload (pc := 81) 1 dX10_write_81 rfl ?_
            refine j_getI (pc := 83) fd_15_1 tw_2_145 dX10_write_83 ?_
            refine j_bipush (pc := 86) (v := 7) (by decide) dX10_write_86 ?_
            refine j_iadd (pc := 88) dX10_write_88 ?_
            refine j_aload_n (pc := 89) 2 dX10_write_89 rfl rfl ?_
            refine j_getF (pc := 90) fd_0_5 tw_1_117 dX10_write_90 ?_
            refine j_getI (pc := 93) fd_8_1 tw_1_63 dX10_write_93 ?_
            refine j_iadd (pc := 96) dX10_write_96 ?_
            refine j_sipush (pc := 97) (v := 400) (by decide) dX10_write_97 ?_
            refine j_icmple (pc := 100) (tgt := 106) dX10_write_100 rfl (fun _ => ?_) (fun _ => ?_)
            · refine j_aload_n (pc := 106) 2 dX10_write_106 rfl rfl ?_
              refine j_aload (pc := 107) 1 dX10_write_107 rfl ?_
              refine j_iload_n (pc := 109) 3 dX10_write_109 rfl rfl ?_
              refine j_aload (pc := 110) 0 dX10_write_110 rfl ?_
              refine j_callVV (pc := 112) (As := [aR 15 i5, aI v3, aR 13 i6]) (st := []) (fun l => c10_appendPiece l N v0 i5 v3 i6) cs_RX10_165 rfl rfl rfl rfl (Nat.le_of_ble_eq_true rfl) ⟨(Nat.le_of_ble_eq_true rfl), (Nat.le_of_ble_eq_true rfl)⟩ ⟨(Nat.le_of_ble_eq_true rfl), (Nat.le_of_ble_eq_true rfl)⟩ dX10_write_112 (fun r11 σ12 => ?_)
              refine j_aload (pc := 115) 1 dX10_write_115 rfl ?_
              refine j_getI (pc := 117) fd_15_1 tw_2_145 dX10_write_117 ?_
              exact j_ireturn (pc := 120) rfl (Nat.le_of_ble_eq_true rfl) (Nat.le_of_ble_eq_true rfl) dX10_write_120
            · refine j_bipush (pc := 103) (v := (-104)) (by decide) dX10_write_103 ?_
              exact j_ireturn (pc := 105) rfl (Nat.le_of_ble_eq_true rfl) (Nat.le_of_ble_eq_true rfl) dX10_write_105
          · refine j_aload_n (pc := 56) 2 dX10_write_56 rfl rfl ?_
            refine j_iconst (pc := 57) (v := 1) (by decide) dX10_write_57 ?_
            refine j_callVI (pc := 58) (As := [aI 1]) (st := []) (fun l => c10_found l v0 1) cs_RX10_68 rfl rfl rfl rfl (Nat.le_of_ble_eq_true rfl) ⟨(Nat.le_of_ble_eq_true rfl), (Nat.le_of_ble_eq_true rfl)⟩ ⟨(Nat.le_of_ble_eq_true rfl), (Nat.le_of_ble_eq_true rfl)⟩ dX10_write_58 (fun r13 σ14 => ?_)
            exact j_ireturn (pc := 61) rfl (Nat.le_of_ble_eq_true rfl) (Nat.le_of_ble_eq_true rfl) dX10_write_61
        · refine j_bipush (pc := 45) (v := (-103)) (by decide) dX10_write_45 ?_
          exact j_ireturn (pc := 47) rfl (Nat.le_of_ble_eq_true rfl) (Nat.le_of_ble_eq_true rfl) dX10_write_47
      · refine j_bipush (pc := 34) (v := (-102)) (by decide) dX10_write_34 ?_
        exact j_ireturn (pc := 36) rfl (Nat.le_of_ble_eq_true rfl) (Nat.le_of_ble_eq_true rfl) dX10_write_36
theorem c10_write (l : Launch) (N : Nat) (v0 : Nat) (v1 : Int32) (v2 : Int32) (v3 : Int32) : Ctr l yX10_write cX10_write 6 (some .int) rm10_write eI [aR 0 v0, aI v1, aI v2, aI v3] (f10_write N v0 v1 v2 v3) := ctr_of (lv := [(0, aR 0 v0), (1, aI v1), (2, aI v2), (3, aI v3)]) (by decide +kernel) (fun _ => rfl) (fun _ => (Nat.le_of_ble_eq_true rfl)) (fun _ h => lvl_als h rfl) (fun _ σ _ => j10_write N v0 v1 v2 v3 σ)
