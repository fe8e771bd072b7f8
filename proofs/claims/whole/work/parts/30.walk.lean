abbrev rmJ_max : Room := { frames := 0, cells := 0, slots := 0, locals := 0 }
set_option maxRecDepth 20000 in
set_option maxHeartbeats 4000000 in
theorem jJ_max {Γ : jX} {tg : Int32 × rS} (v0 : Int32) (v1 : Int32) (σ : rS) : J Γ rmJ_max eI cJ9_max_7cf53 RJ9 2 (some .int) tg 0 0 0 [(0, aI v0), (1, aI v1)] [] σ (fJ_max v0 v1 σ) := by
  unfold fJ_max
  refine j_iload_n (pc := 0) 0 dJ9_max_7cf53_0 rfl rfl ?_
  refine j_iload_n (pc := 1) 1 dJ9_max_7cf53_1 rfl rfl ?_
  refine j_icmplt (pc := 2) (tgt := 9) dJ9_max_7cf53_2 rfl (fun _ => ?_) (fun _ => ?_)
  · refine j_iload_n (pc := 9) 1 dJ9_max_7cf53_9 rfl rfl ?_
    exact j_ireturn (pc := 10) rfl (Nat.le_of_ble_eq_true rfl) (Nat.le_of_ble_eq_true rfl) dJ9_max_7cf53_10
  · refine j_iload_n (pc := 5) 0 dJ9_max_7cf53_5 rfl rfl ?_
    refine j_goto (pc := 6) (tgt := 10) dJ9_max_7cf53_6 rfl ?_
    exact j_ireturn (pc := 10) rfl (Nat.le_of_ble_eq_true rfl) (Nat.le_of_ble_eq_true rfl) dJ9_max_7cf53_10
theorem cJ_max (l : Launch) (v0 : Int32) (v1 : Int32) : Ctr l yJ9_max_7cf53 cJ9_max_7cf53 2 (some .int) rmJ_max eI [aI v0, aI v1] (fJ_max v0 v1) := ctr_of (lv := [(0, aI v0), (1, aI v1)]) (by decide +kernel) (fun _ => rfl) (fun _ => (Nat.le_of_ble_eq_true rfl)) (fun _ h => lvl_als h rfl) (fun _ σ _ => jJ_max v0 v1 σ)
abbrev rm5_packByte : Room := { frames := 0, cells := 0, slots := 0, locals := 0 }
set_option maxRecDepth 20000 in
set_option maxHeartbeats 4000000 in
theorem j5_packByte {Γ : jX} {tg : Unit × rS} (v0 : Nat) (v1 : Int64) (σ : rS) : J Γ rm5_packByte eV cX5_packByte RX5 3 none tg 0 0 0 [(0, aR 8 v0), (1, aL v1)] [] σ (f5_packByte v0 v1 σ) := by
  unfold f5_packByte
  refine j_aload_n (pc := 0) 0 dX5_packByte_0 rfl rfl ?_
  refine j_getI (pc := 1) fd_8_1 tw_1_62 dX5_packByte_1 ?_
  refine j_aload_n (pc := 4) 0 dX5_packByte_4 rfl rfl ?_
  refine j_getF (pc := 5) fd_8_0 tw_1_60 dX5_packByte_5 ?_
  refine j_alen (pc := 8) rfl (by decide) dX5_packByte_8 ?_
  refine j_icmplt (pc := 9) (tgt := 13) dX5_packByte_9 rfl (fun _ => ?_) (fun _ => ?_)
  · refine j_aload_n (pc := 13) 0 dX5_packByte_13 rfl rfl ?_
    refine j_getF (pc := 14) fd_8_0 tw_1_60 dX5_packByte_14 ?_
    refine j_aload_n (pc := 17) 0 dX5_packByte_17 rfl rfl ?_
    refine j_getI (pc := 18) fd_8_1 tw_1_62 dX5_packByte_18 ?_
    refine j_lload_n (pc := 21) 1 dX5_packByte_21 rfl rfl ?_
    refine j_l2i (pc := 22) dX5_packByte_22 ?_
    refine j_i2b (pc := 23) dX5_packByte_23 ?_
    refine j_bast (pc := 24) rfl rfl rfl dX5_packByte_24 (fun j1 => ?_)
    refine j_lets (fun σ2 => ?_)
    refine j_aload_n (pc := 25) 0 dX5_packByte_25 rfl rfl ?_
    refine j_dup (pc := 26) dX5_packByte_26 rfl ?_
    refine j_getI (pc := 27) fd_8_1 tw_1_62 dX5_packByte_27 ?_
    refine j_iconst (pc := 30) (v := 1) (by decide) dX5_packByte_30 ?_
    refine j_iadd (pc := 31) dX5_packByte_31 ?_
    refine j_putI (pc := 32) fd_8_1 rfl rfl tw_1_62 dX5_packByte_32 ?_
    refine j_lets (fun σ3 => ?_)
    exact j_return (pc := 35) rfl (Nat.le_of_ble_eq_true rfl) (Nat.le_of_ble_eq_true rfl) dX5_packByte_35
  · exact j_return (pc := 12) rfl (Nat.le_of_ble_eq_true rfl) (Nat.le_of_ble_eq_true rfl) dX5_packByte_12
theorem c5_packByte (l : Launch) (v0 : Nat) (v1 : Int64) : Ctr l yX5_packByte cX5_packByte 3 none rm5_packByte eV [aR 8 v0, aL v1] (f5_packByte v0 v1) := ctr_of (lv := [(0, aR 8 v0), (1, aL v1)]) (by decide +kernel) (fun _ => rfl) (fun _ => (Nat.le_of_ble_eq_true rfl)) (fun _ h => lvl_als h rfl) (fun _ σ _ => j5_packByte v0 v1 σ)
theorem cs_RX5_50 : CaV RX5 RX5 50 yX5_packByte cX5_packByte 3 none 1 := ⟨tw_2_187, tw_2_189, tw_p8, tw_1_3, tw_2_190, rfl, by decide +kernel, by decide +kernel, by decide +kernel⟩
abbrev rm5_packPlain : Room := { frames := 1, cells := 0, slots := 0, locals := 22 }
set_option maxRecDepth 20000 in
set_option maxHeartbeats 4000000 in
theorem jb5_packPlain_12 {Γ : jX} {tg : Unit × rS} (N : Nat) (K12 : Nat → Int64 → Int32 → rS → Option (Unit × rS)) (hK12 : ∀ (v0 : Nat) (v3 : Int64) (v5 : Int32) (σ : rS), J Γ rm5_packPlain eV cX5_packPlain RX5 6 none tg 0 0 12 [(0, aR 8 v0), (3, aL v3), (5, aI v5)] [] σ (K12 v0 v3 v5 σ)) (v0 : Nat) (v3 : Int64) (v5 : Int32) (σ : rS) : J Γ rm5_packPlain eV cX5_packPlain RX5 6 none tg 0 0 12 [(0, aR 8 v0), (3, aL v3), (5, aI v5)] [] σ (B5_packPlain_12 N K12 v0 v3 v5 σ) := by
  unfold B5_packPlain_12
  refine j_iload (pc := 12) 2 dX5_packPlain_12 rfl ?_
  refine j_bipush (pc := 14) (v := 9) (by decide) dX5_packPlain_14 ?_
  refine j_icmpge (pc := 16) (tgt := 52) dX5_packPlain_16 rfl (fun _ => ?_) (fun _ => ?_)
  · refine j_aload_n (pc := 52) 0 dX5_packPlain_52 rfl rfl ?_
    refine j_lload_n (pc := 53) 1 dX5_packPlain_53 rfl rfl ?_
    refine j_callVV (pc := 54) (As := [aL v3]) (st := []) (fun l => c5_packByte l v0 v3) cs_RX5_50 rfl rfl rfl rfl (Nat.le_of_ble_eq_true rfl) ⟨(Nat.le_of_ble_eq_true rfl), (Nat.le_of_ble_eq_true rfl)⟩ ⟨(Nat.le_of_ble_eq_true rfl), (Nat.le_of_ble_eq_true rfl)⟩ dX5_packPlain_54 (fun r1 σ2 => ?_)
    exact j_return (pc := 57) rfl (Nat.le_of_ble_eq_true rfl) (Nat.le_of_ble_eq_true rfl) dX5_packPlain_57
  · refine j_lload_n (pc := 19) 1 dX5_packPlain_19 rfl rfl ?_
    refine j_bipush (pc := 20) (v := 7) (by decide) dX5_packPlain_20 ?_
    refine j_lushr (pc := 22) dX5_packPlain_22 ?_
    refine j_lconst (pc := 23) (v := 0) (by decide) dX5_packPlain_23 ?_
    refine j_lcmpeq (pc := 24) (tgt := 52) dX5_packPlain_24 dX5_packPlain_25 rfl (fun _ => ?_) (fun _ => ?_)
    · refine j_aload_n (pc := 52) 0 dX5_packPlain_52 rfl rfl ?_
      refine j_lload_n (pc := 53) 1 dX5_packPlain_53 rfl rfl ?_
      refine j_callVV (pc := 54) (As := [aL v3]) (st := []) (fun l => c5_packByte l v0 v3) cs_RX5_50 rfl rfl rfl rfl (Nat.le_of_ble_eq_true rfl) ⟨(Nat.le_of_ble_eq_true rfl), (Nat.le_of_ble_eq_true rfl)⟩ ⟨(Nat.le_of_ble_eq_true rfl), (Nat.le_of_ble_eq_true rfl)⟩ dX5_packPlain_54 (fun r3 σ4 => ?_)
      exact j_return (pc := 57) rfl (Nat.le_of_ble_eq_true rfl) (Nat.le_of_ble_eq_true rfl) dX5_packPlain_57
    · refine j_aload_n (pc := 28) 0 dX5_packPlain_28 rfl rfl ?_
      refine j_lload_n (pc := 29) 1 dX5_packPlain_29 rfl rfl ?_
      refine j_ldc2 (pc := 30) tw_2_185 dX5_packPlain_30 ?_
      refine j_land (pc := 33) dX5_packPlain_33 ?_
      refine j_ldc2 (pc := 34) tw_2_186 dX5_packPlain_34 ?_
      refine j_lor (pc := 37) dX5_packPlain_37 ?_
      refine j_callVV (pc := 38) (As := [aL ((v3 &&& 127) ||| 128)]) (st := []) (fun l => c5_packByte l v0 ((v3 &&& 127) ||| 128)) cs_RX5_50 rfl rfl rfl rfl (Nat.le_of_ble_eq_true rfl) ⟨(Nat.le_of_ble_eq_true rfl), (Nat.le_of_ble_eq_true rfl)⟩ ⟨(Nat.le_of_ble_eq_true rfl), (Nat.le_of_ble_eq_true rfl)⟩ dX5_packPlain_38 (fun r5 σ6 => ?_)
      refine j_lload_n (pc := 41) 1 dX5_packPlain_41 rfl rfl ?_
      refine j_bipush (pc := 42) (v := 7) (by decide) dX5_packPlain_42 ?_
      refine j_lushr (pc := 44) dX5_packPlain_44 ?_
      refine j_letl (fun x7 => ?_)
      refine j_lstore_n (pc := 45) (lv' := [(3, aL x7), (0, aR 8 v0), (5, aI v5)]) dX5_packPlain_45 rfl (Nat.le_of_ble_eq_true rfl) rfl ?_
      refine j_iinc (pc := 46) (w := 1) (lv' := [(5, aI (v5 + 1)), (3, aL x7), (0, aR 8 v0)]) 2 dX5_packPlain_46 rfl (by decide) (Nat.le_of_ble_eq_true rfl) rfl ?_
      refine j_goto (pc := 49) (tgt := 12) dX5_packPlain_49 rfl ?_
      refine j_sub [2, 1, 0] (lv' := [(0, aR 8 v0), (3, aL x7), (5, aI (v5 + 1))]) rfl ?_
      exact hK12 v0 x7 (v5 + 1) σ6
theorem jl5_packPlain_12 {Γ : jX} {tg : Unit × rS} (N : Nat) : ∀ (n : Nat) (v0 : Nat) (v3 : Int64) (v5 : Int32) (σ : rS), J Γ rm5_packPlain eV cX5_packPlain RX5 6 none tg 0 0 12 [(0, aR 8 v0), (3, aL v3), (5, aI v5)] [] σ (L5_packPlain_12 N n v0 v3 v5 σ) := by
  intro n
  induction n with
  | zero => intro v0 v3 v5 σ; exact j_none
  | succ n ih => intro v0 v3 v5 σ; exact jb5_packPlain_12 N (L5_packPlain_12 N n) ih v0 v3 v5 σ
set_option maxRecDepth 20000 in
set_option maxHeartbeats 4000000 in
theorem j5_packPlain {Γ : jX} {tg : Unit × rS} (N : Nat) (v0 : Nat) (v1 : Int64) (σ : rS) : J Γ rm5_packPlain eV cX5_packPlain RX5 6 none tg 0 0 0 [(0, aR 8 v0), (1, aL v1)] [] σ (f5_packPlain N v0 v1 σ) := by
  unfold f5_packPlain
  refine j_lload_n (pc := 0) 1 dX5_packPlain_0 rfl rfl ?_
  refine j_iconst (pc := 1) (v := 1) (by decide) dX5_packPlain_1 ?_
  refine j_lshl (pc := 2) dX5_packPlain_2 ?_
  refine j_lload_n (pc := 3) 1 dX5_packPlain_3 rfl rfl ?_
  refine j_bipush (pc := 4) (v := 63) (by decide) dX5_packPlain_4 ?_
  refine j_lshr (pc := 6) dX5_packPlain_6 ?_
  refine j_lxor (pc := 7) dX5_packPlain_7 ?_
  refine j_letl (fun x1 => ?_)
  refine j_lstore_n (pc := 8) (lv' := [(3, aL x1), (0, aR 8 v0), (1, aL v1)]) dX5_packPlain_8 rfl (Nat.le_of_ble_eq_true rfl) rfl ?_
  refine j_sub [0, 1] (lv' := [(3, aL x1), (0, aR 8 v0)]) rfl ?_
  refine j_iconst (pc := 9) (v := 0) (by decide) dX5_packPlain_9 ?_
  refine j_istore (pc := 10) (lv' := [(5, aI 0), (3, aL x1), (0, aR 8 v0)]) dX5_packPlain_10 (Nat.le_of_ble_eq_true rfl) rfl ?_
  refine j_sub [2, 1, 0] (lv' := [(0, aR 8 v0), (3, aL x1), (5, aI 0)]) rfl ?_
  exact jl5_packPlain_12 N  N v0 x1 0 σ
theorem c5_packPlain (l : Launch) (N : Nat) (v0 : Nat) (v1 : Int64) : Ctr l yX5_packPlain cX5_packPlain 6 none rm5_packPlain eV [aR 8 v0, aL v1] (f5_packPlain N v0 v1) := ctr_of (lv := [(0, aR 8 v0), (1, aL v1)]) (by decide +kernel) (fun _ => rfl) (fun _ => (Nat.le_of_ble_eq_true rfl)) (fun _ h => lvl_als h rfl) (fun _ σ _ => j5_packPlain N v0 v1 σ)
abbrev rm2_endless : Room := { frames := 0, cells := 0, slots := 0, locals := 0 }
set_option maxRecDepth 20000 in
set_option maxHeartbeats 4000000 in
theorem j2_endless {Γ : jX} {tg : Int64 × rS} (v0 : Int32) (σ : rS) : J Γ rm2_endless eL cX2_endless RX2 1 (some .long) tg 0 0 0 [(0, aI v0)] [] σ (f2_endless v0 σ) := by
  unfold f2_endless
  refine j_iload_n (pc := 0) 0 dX2_endless_0 rfl rfl ?_
  refine j_bipush (pc := 1) (v := 6) (by decide) dX2_endless_1 ?_
  refine j_icmpne (pc := 3) (tgt := 12) dX2_endless_3 rfl (fun _ => ?_) (fun _ => ?_)
  · refine j_ldc2 (pc := 12) tw_1_227 dX2_endless_12 ?_
    exact j_lreturn (pc := 15) rfl (Nat.le_of_ble_eq_true rfl) (Nat.le_of_ble_eq_true rfl) dX2_endless_15
  · refine j_ldc2 (pc := 6) tw_1_226 dX2_endless_6 ?_
    refine j_goto (pc := 9) (tgt := 15) dX2_endless_9 rfl ?_
    exact j_lreturn (pc := 15) rfl (Nat.le_of_ble_eq_true rfl) (Nat.le_of_ble_eq_true rfl) dX2_endless_15
theorem c2_endless (l : Launch) (v0 : Int32) : Ctr l yX2_endless cX2_endless 1 (some .long) rm2_endless eL [aI v0] (f2_endless v0) := ctr_of (lv := [(0, aI v0)]) (by decide +kernel) (fun _ => rfl) (fun _ => (Nat.le_of_ble_eq_true rfl)) (fun _ h => lvl_als h rfl) (fun _ σ _ => j2_endless v0 σ)
abbrev rm2_sizeOf : Room := { frames := 0, cells := 0, slots := 0, locals := 0 }
set_option maxRecDepth 20000 in
set_option maxHeartbeats 4000000 in
theorem j2_sizeOf {Γ : jX} {tg : Int64 × rS} (v0 : Int32) (v1 : Int64) (σ : rS) : J Γ rm2_sizeOf eL cX2_sizeOf RX2 3 (some .long) tg 0 0 0 [(0, aI v0), (1, aL v1)] [] σ (f2_sizeOf v0 v1 σ) := by
  unfold f2_sizeOf
  refine j_lload_n (pc := 0) 1 dX2_sizeOf_0 rfl rfl ?_
  refine j_iload_n (pc := 1) 0 dX2_sizeOf_1 rfl rfl ?_
  refine j_bipush (pc := 2) (v := 6) (by decide) dX2_sizeOf_2 ?_
  refine j_icmpne (pc := 4) (tgt := 13) dX2_sizeOf_4 rfl (fun _ => ?_) (fun _ => ?_)
  · refine j_ldc2 (pc := 13) tw_1_222 dX2_sizeOf_13 ?_
    refine j_land (pc := 16) dX2_sizeOf_16 ?_
    exact j_lreturn (pc := 17) rfl (Nat.le_of_ble_eq_true rfl) (Nat.le_of_ble_eq_true rfl) dX2_sizeOf_17
  · refine j_ldc2 (pc := 7) tw_1_221 dX2_sizeOf_7 ?_
    refine j_goto (pc := 10) (tgt := 16) dX2_sizeOf_10 rfl ?_
    refine j_land (pc := 16) dX2_sizeOf_16 ?_
    exact j_lreturn (pc := 17) rfl (Nat.le_of_ble_eq_true rfl) (Nat.le_of_ble_eq_true rfl) dX2_sizeOf_17
theorem c2_sizeOf (l : Launch) (v0 : Int32) (v1 : Int64) : Ctr l yX2_sizeOf cX2_sizeOf 3 (some .long) rm2_sizeOf eL [aI v0, aL v1] (f2_sizeOf v0 v1) := ctr_of (lv := [(0, aI v0), (1, aL v1)]) (by decide +kernel) (fun _ => rfl) (fun _ => (Nat.le_of_ble_eq_true rfl)) (fun _ h => lvl_als h rfl) (fun _ σ _ => j2_sizeOf v0 v1 σ)
theorem cs_RX2_34 : CaS RX2 34 yX2_sizeOf cX2_sizeOf 3 (some .long) 2 := ⟨tw_1_218, tw_1_219, tw_1_8, tw_1_220, by decide +kernel, by decide +kernel, by decide +kernel⟩
theorem cs_RX2_38 : CaS RX2 38 yX2_endless cX2_endless 1 (some .long) 1 := ⟨tw_1_223, tw_1_224, tw_1_8, tw_1_225, by decide +kernel, by decide +kernel, by decide +kernel⟩
abbrev rm2_isNone : Room := { frames := 1, cells := 0, slots := 0, locals := 22 }
set_option maxRecDepth 20000 in
set_option maxHeartbeats 4000000 in
theorem j2_isNone {Γ : jX} {tg : Bool × rS} (v0 : Int32) (v1 : Int64) (σ : rS) : J Γ rm2_isNone eZ cX2_isNone RX2 3 (some .boolean) tg 0 0 0 [(0, aI v0), (1, aL v1)] [] σ (f2_isNone v0 v1 σ) := by
  unfold f2_isNone
  refine j_iload_n (pc := 0) 0 dX2_isNone_0 rfl rfl ?_
  refine j_lload_n (pc := 1) 1 dX2_isNone_1 rfl rfl ?_
  refine j_callSL (pc := 2) (As := [aI v0, aL v1]) (st := []) (fun l => c2_sizeOf l v0 v1) cs_RX2_34 rfl rfl (Nat.le_of_ble_eq_true rfl) ⟨(Nat.le_of_ble_eq_true rfl), (Nat.le_of_ble_eq_true rfl)⟩ ⟨(Nat.le_of_ble_eq_true rfl), (Nat.le_of_ble_eq_true rfl)⟩ dX2_isNone_2 (fun r1 σ2 => ?_)
  refine j_iload_n (pc := 5) 0 dX2_isNone_5 rfl rfl ?_
  refine j_callSL (pc := 6) (As := [aI v0]) (st := [aL r1]) (fun l => c2_endless l v0) cs_RX2_38 rfl rfl (Nat.le_of_ble_eq_true rfl) ⟨(Nat.le_of_ble_eq_true rfl), (Nat.le_of_ble_eq_true rfl)⟩ ⟨(Nat.le_of_ble_eq_true rfl), (Nat.le_of_ble_eq_true rfl)⟩ dX2_isNone_6 (fun r3 σ4 => ?_)
  refine j_lcmple (pc := 9) (tgt := 17) dX2_isNone_9 dX2_isNone_10 rfl (fun _ => ?_) (fun _ => ?_)
  · refine j_iconst (pc := 17) (v := 0) (by decide) dX2_isNone_17 ?_
    exact j_zret0 (pc := 18) rfl (Nat.le_of_ble_eq_true rfl) (Nat.le_of_ble_eq_true rfl) dX2_isNone_18
  · refine j_iconst (pc := 13) (v := 1) (by decide) dX2_isNone_13 ?_
    refine j_goto (pc := 14) (tgt := 18) dX2_isNone_14 rfl ?_
    exact j_zret1 (pc := 18) rfl (Nat.le_of_ble_eq_true rfl) (Nat.le_of_ble_eq_true rfl) dX2_isNone_18
theorem c2_isNone (l : Launch) (v0 : Int32) (v1 : Int64) : Ctr l yX2_isNone cX2_isNone 3 (some .boolean) rm2_isNone eZ [aI v0, aL v1] (f2_isNone v0 v1) := ctr_of (lv := [(0, aI v0), (1, aL v1)]) (by decide +kernel) (fun _ => rfl) (fun _ => (Nat.le_of_ble_eq_true rfl)) (fun _ h => lvl_als h rfl) (fun _ σ _ => j2_isNone v0 v1 σ)
abbrev rm4_areFloating : Room := { frames := 0, cells := 0, slots := 0, locals := 0 }
set_option maxRecDepth 20000 in
set_option maxHeartbeats 4000000 in
theorem j4_areFloating {Γ : jX} {tg : Bool × rS} (v0 : Int32) (σ : rS) : J Γ rm4_areFloating eZ cX4_areFloating RX4 1 (some .boolean) tg 0 0 0 [(0, aI v0)] [] σ (f4_areFloating v0 σ) := by
  unfold f4_areFloating
  refine j_iload_n (pc := 0) 0 dX4_areFloating_0 rfl rfl ?_
  refine j_bipush (pc := 1) (v := 6) (by decide) dX4_areFloating_1 ?_
  refine j_icmpeq (pc := 3) (tgt := 12) dX4_areFloating_3 rfl (fun _ => ?_) (fun _ => ?_)
  · refine j_iconst (pc := 12) (v := 1) (by decide) dX4_areFloating_12 ?_
    refine j_goto (pc := 13) (tgt := 17) dX4_areFloating_13 rfl ?_
    exact j_zret1 (pc := 17) rfl (Nat.le_of_ble_eq_true rfl) (Nat.le_of_ble_eq_true rfl) dX4_areFloating_17
  · refine j_iload_n (pc := 6) 0 dX4_areFloating_6 rfl rfl ?_
    refine j_bipush (pc := 7) (v := 7) (by decide) dX4_areFloating_7 ?_
    refine j_icmpne (pc := 9) (tgt := 16) dX4_areFloating_9 rfl (fun _ => ?_) (fun _ => ?_)
    · refine j_iconst (pc := 16) (v := 0) (by decide) dX4_areFloating_16 ?_
      exact j_zret0 (pc := 17) rfl (Nat.le_of_ble_eq_true rfl) (Nat.le_of_ble_eq_true rfl) dX4_areFloating_17
    · refine j_iconst (pc := 12) (v := 1) (by decide) dX4_areFloating_12 ?_
      refine j_goto (pc := 13) (tgt := 17) dX4_areFloating_13 rfl ?_
      exact j_zret1 (pc := 17) rfl (Nat.le_of_ble_eq_true rfl) (Nat.le_of_ble_eq_true rfl) dX4_areFloating_17
theorem c4_areFloating (l : Launch) (v0 : Int32) : Ctr l yX4_areFloating cX4_areFloating 1 (some .boolean) rm4_areFloating eZ [aI v0] (f4_areFloating v0) := ctr_of (lv := [(0, aI v0)]) (by decide +kernel) (fun _ => rfl) (fun _ => (Nat.le_of_ble_eq_true rfl)) (fun _ h => lvl_als h rfl) (fun _ σ _ => j4_areFloating v0 σ)
abbrev rm2_orGap : Room := { frames := 1, cells := 0, slots := 0, locals := 22 }
set_option maxRecDepth 20000 in
set_option maxHeartbeats 4000000 in
theorem j2_orGap {Γ : jX} {tg : Int64 × rS} (v0 : Int32) (v1 : Int64) (σ : rS) : J Γ rm2_orGap eL cX2_orGap RX2 3 (some .long) tg 0 0 0 [(0, aI v0), (1, aL v1)] [] σ (f2_orGap v0 v1 σ) := by
  unfold f2_orGap
  refine j_iload_n (pc := 0) 0 dX2_orGap_0 rfl rfl ?_
  refine j_lload_n (pc := 1) 1 dX2_orGap_1 rfl rfl ?_
  refine j_callSL (pc := 2) (As := [aI v0, aL v1]) (st := []) (fun l => c2_sizeOf l v0 v1) cs_RX2_34 rfl rfl (Nat.le_of_ble_eq_true rfl) ⟨(Nat.le_of_ble_eq_true rfl), (Nat.le_of_ble_eq_true rfl)⟩ ⟨(Nat.le_of_ble_eq_true rfl), (Nat.le_of_ble_eq_true rfl)⟩ dX2_orGap_2 (fun r1 σ2 => ?_)
  refine j_iload_n (pc := 5) 0 dX2_orGap_5 rfl rfl ?_
  refine j_callSL (pc := 6) (As := [aI v0]) (st := [aL r1]) (fun l => c2_endless l v0) cs_RX2_38 rfl rfl (Nat.le_of_ble_eq_true rfl) ⟨(Nat.le_of_ble_eq_true rfl), (Nat.le_of_ble_eq_true rfl)⟩ ⟨(Nat.le_of_ble_eq_true rfl), (Nat.le_of_ble_eq_true rfl)⟩ dX2_orGap_6 (fun r3 σ4 => ?_)
  refine j_lcmpgt (pc := 9) (tgt := 15) dX2_orGap_9 dX2_orGap_10 rfl (fun _ => ?_) (fun _ => ?_)
  · refine j_iload_n (pc := 15) 0 dX2_orGap_15 rfl rfl ?_
    refine j_bipush (pc := 16) (v := 6) (by decide) dX2_orGap_16 ?_
    refine j_icmpne (pc := 18) (tgt := 27) dX2_orGap_18 rfl (fun _ => ?_) (fun _ => ?_)
    · refine j_ldc2 (pc := 27) tw_1_229 dX2_orGap_27 ?_
      exact j_lreturn (pc := 30) rfl (Nat.le_of_ble_eq_true rfl) (Nat.le_of_ble_eq_true rfl) dX2_orGap_30
    · refine j_ldc2 (pc := 21) tw_1_228 dX2_orGap_21 ?_
      refine j_goto (pc := 24) (tgt := 30) dX2_orGap_24 rfl ?_
      exact j_lreturn (pc := 30) rfl (Nat.le_of_ble_eq_true rfl) (Nat.le_of_ble_eq_true rfl) dX2_orGap_30
  · refine j_lload_n (pc := 13) 1 dX2_orGap_13 rfl rfl ?_
    exact j_lreturn (pc := 14) rfl (Nat.le_of_ble_eq_true rfl) (Nat.le_of_ble_eq_true rfl) dX2_orGap_14
theorem c2_orGap (l : Launch) (v0 : Int32) (v1 : Int64) : Ctr l yX2_orGap cX2_orGap 3 (some .long) rm2_orGap eL [aI v0, aL v1] (f2_orGap v0 v1) := ctr_of (lv := [(0, aI v0), (1, aL v1)]) (by decide +kernel) (fun _ => rfl) (fun _ => (Nat.le_of_ble_eq_true rfl)) (fun _ h => lvl_als h rfl) (fun _ σ _ => j2_orGap v0 v1 σ)
theorem cs_RX4_9 : CaS RX4 9 yX2_orGap cX2_orGap 3 (some .long) 2 := ⟨tw_1_215, tw_1_216, tw_1_8, tw_1_217, by decide +kernel, by decide +kernel, by decide +kernel⟩
abbrev rm4_told : Room := { frames := 2, cells := 0, slots := 0, locals := 44 }
set_option maxRecDepth 20000 in
set_option maxHeartbeats 4000000 in
theorem j4_told {Γ : jX} {tg : Int64 × rS} (v0 : Int32) (v1 : Int64) (σ : rS) : J Γ rm4_told eL cX4_told RX4 3 (some .long) tg 0 0 0 [(0, aI v0), (1, aL v1)] [] σ (f4_told v0 v1 σ) := by
  unfold f4_told
  refine j_iload_n (pc := 0) 0 dX4_told_0 rfl rfl ?_
  refine j_case 0 (fun h0 => ?_) (fun h0 => ?_)
  · refine j_tableIn (pc := 1) (off := 47) (tgt := 48) dX4_told_1 (by rw [h0]; decide) (by rw [h0]; decide) (by rw [h0]; rfl) rfl ?_
    refine j_lload_n (pc := 48) 1 dX4_told_48 rfl rfl ?_
    refine j_lconst (pc := 49) (v := 1) (by decide) dX4_told_49 ?_
    refine j_land (pc := 50) dX4_told_50 ?_
    exact j_lreturn (pc := 51) rfl (Nat.le_of_ble_eq_true rfl) (Nat.le_of_ble_eq_true rfl) dX4_told_51
  · refine j_case 1 (fun h1 => ?_) (fun h1 => ?_)
    · refine j_tableIn (pc := 1) (off := 51) (tgt := 52) dX4_told_1 (by rw [h1]; decide) (by rw [h1]; decide) (by rw [h1]; rfl) rfl ?_
      refine j_lload_n (pc := 52) 1 dX4_told_52 rfl rfl ?_
      refine j_l2i (pc := 53) dX4_told_53 ?_
      refine j_i2b (pc := 54) dX4_told_54 ?_
      refine j_i2l (pc := 55) dX4_told_55 ?_
      exact j_lreturn (pc := 56) rfl (Nat.le_of_ble_eq_true rfl) (Nat.le_of_ble_eq_true rfl) dX4_told_56
    · refine j_case 2 (fun h2 => ?_) (fun h2 => ?_)
      · refine j_tableIn (pc := 1) (off := 56) (tgt := 57) dX4_told_1 (by rw [h2]; decide) (by rw [h2]; decide) (by rw [h2]; rfl) rfl ?_
        refine j_lload_n (pc := 57) 1 dX4_told_57 rfl rfl ?_
        refine j_l2i (pc := 58) dX4_told_58 ?_
        refine j_i2c (pc := 59) dX4_told_59 ?_
        refine j_i2l (pc := 60) dX4_told_60 ?_
        exact j_lreturn (pc := 61) rfl (Nat.le_of_ble_eq_true rfl) (Nat.le_of_ble_eq_true rfl) dX4_told_61
      · refine j_case 3 (fun h3 => ?_) (fun h3 => ?_)
        · refine j_tableIn (pc := 1) (off := 61) (tgt := 62) dX4_told_1 (by rw [h3]; decide) (by rw [h3]; decide) (by rw [h3]; rfl) rfl ?_
          refine j_lload_n (pc := 62) 1 dX4_told_62 rfl rfl ?_
          refine j_l2i (pc := 63) dX4_told_63 ?_
          refine j_i2s (pc := 64) dX4_told_64 ?_
          refine j_i2l (pc := 65) dX4_told_65 ?_
          exact j_lreturn (pc := 66) rfl (Nat.le_of_ble_eq_true rfl) (Nat.le_of_ble_eq_true rfl) dX4_told_66
        · refine j_case 4 (fun h4 => ?_) (fun h4 => ?_)
          · refine j_tableIn (pc := 1) (off := 66) (tgt := 67) dX4_told_1 (by rw [h4]; decide) (by rw [h4]; decide) (by rw [h4]; rfl) rfl ?_
            refine j_lload_n (pc := 67) 1 dX4_told_67 rfl rfl ?_
            refine j_l2i (pc := 68) dX4_told_68 ?_
            refine j_i2l (pc := 69) dX4_told_69 ?_
            exact j_lreturn (pc := 70) rfl (Nat.le_of_ble_eq_true rfl) (Nat.le_of_ble_eq_true rfl) dX4_told_70
          · refine j_case 5 (fun h5 => ?_) (fun h5 => ?_)
            · refine j_tableIn (pc := 1) (off := 84) (tgt := 85) dX4_told_1 (by rw [h5]; decide) (by rw [h5]; decide) (by rw [h5]; rfl) rfl ?_
              refine j_lload_n (pc := 85) 1 dX4_told_85 rfl rfl ?_
              exact j_lreturn (pc := 86) rfl (Nat.le_of_ble_eq_true rfl) (Nat.le_of_ble_eq_true rfl) dX4_told_86
            · refine j_case 6 (fun h6 => ?_) (fun h6 => ?_)
              · refine j_tableIn (pc := 1) (off := 70) (tgt := 71) dX4_told_1 (by rw [h6]; decide) (by rw [h6]; decide) (by rw [h6]; rfl) rfl ?_
                refine j_iload_n (pc := 71) 0 dX4_told_71 rfl rfl ?_
                refine j_lload_n (pc := 72) 1 dX4_told_72 rfl rfl ?_
                refine j_l2i (pc := 73) dX4_told_73 ?_
                refine j_i2l (pc := 74) dX4_told_74 ?_
                refine j_callSL (pc := 75) (As := [aI v0, aL (Int32.toInt64 (Int64.toInt32 v1))]) (st := []) (fun l => c2_orGap l v0 (Int32.toInt64 (Int64.toInt32 v1))) cs_RX4_9 rfl rfl (Nat.le_of_ble_eq_true rfl) ⟨(Nat.le_of_ble_eq_true rfl), (Nat.le_of_ble_eq_true rfl)⟩ ⟨(Nat.le_of_ble_eq_true rfl), (Nat.le_of_ble_eq_true rfl)⟩ dX4_told_75 (fun r1 σ2 => ?_)
                exact j_lreturn (pc := 78) rfl (Nat.le_of_ble_eq_true rfl) (Nat.le_of_ble_eq_true rfl) dX4_told_78
              · refine j_case 7 (fun h7 => ?_) (fun h7 => ?_)
                · refine j_tableIn (pc := 1) (off := 78) (tgt := 79) dX4_told_1 (by rw [h7]; decide) (by rw [h7]; decide) (by rw [h7]; rfl) rfl ?_
                  refine j_iload_n (pc := 79) 0 dX4_told_79 rfl rfl ?_
                  refine j_lload_n (pc := 80) 1 dX4_told_80 rfl rfl ?_
                  refine j_callSL (pc := 81) (As := [aI v0, aL v1]) (st := []) (fun l => c2_orGap l v0 v1) cs_RX4_9 rfl rfl (Nat.le_of_ble_eq_true rfl) ⟨(Nat.le_of_ble_eq_true rfl), (Nat.le_of_ble_eq_true rfl)⟩ ⟨(Nat.le_of_ble_eq_true rfl), (Nat.le_of_ble_eq_true rfl)⟩ dX4_told_81 (fun r3 σ4 => ?_)
                  exact j_lreturn (pc := 84) rfl (Nat.le_of_ble_eq_true rfl) (Nat.le_of_ble_eq_true rfl) dX4_told_84
                · have g0 := lv_neT h0 (show ((0 : Int32)).toInt = 0 by decide)
                  have g1 := lv_neT h1 (show ((1 : Int32)).toInt = 1 by decide)
                  have g2 := lv_neT h2 (show ((2 : Int32)).toInt = 2 by decide)
                  have g3 := lv_neT h3 (show ((3 : Int32)).toInt = 3 by decide)
                  have g4 := lv_neT h4 (show ((4 : Int32)).toInt = 4 by decide)
                  have g5 := lv_neT h5 (show ((5 : Int32)).toInt = 5 by decide)
                  have g6 := lv_neT h6 (show ((6 : Int32)).toInt = 6 by decide)
                  have g7 := lv_neT h7 (show ((7 : Int32)).toInt = 7 by decide)
                  refine j_tableOut (pc := 1) (tgt := 85) dX4_told_1 (by omega) rfl ?_
                  refine j_lload_n (pc := 85) 1 dX4_told_85 rfl rfl ?_
                  exact j_lreturn (pc := 86) rfl (Nat.le_of_ble_eq_true rfl) (Nat.le_of_ble_eq_true rfl) dX4_told_86
theorem c4_told (l : Launch) (v0 : Int32) (v1 : Int64) : Ctr l yX4_told cX4_told 3 (some .long) rm4_told eL [aI v0, aL v1] (f4_told v0 v1) := ctr_of (lv := [(0, aI v0), (1, aL v1)]) (by decide +kernel) (fun _ => rfl) (fun _ => (Nat.le_of_ble_eq_true rfl)) (fun _ h => lvl_als h rfl) (fun _ σ _ => j4_told v0 v1 σ)
