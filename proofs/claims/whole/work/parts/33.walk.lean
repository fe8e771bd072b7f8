theorem cs_RX5_106 : CaS RX5 106 yX4_told cX4_told 3 (some .long) 2 := ⟨tw_3_67, tw_1_210, tw_1_7, tw_1_211, by decide +kernel, by decide +kernel, by decide +kernel⟩
abbrev rm5_areTold : Room := { frames := 3, cells := 0, slots := 0, locals := 66 }
set_option maxRecDepth 20000 in
set_option maxHeartbeats 4000000 in
theorem jb5_areTold_2 {Γ : jX} {tg : Bool × rS} (N : Nat) (K2 : Nat → Int32 → Int32 → Int32 → rS → Option (Bool × rS)) (hK2 : ∀ (v0 : Nat) (v1 : Int32) (v2 : Int32) (v3 : Int32) (σ : rS), J Γ rm5_areTold eZ cX5_areTold RX5 4 (some .boolean) tg 0 0 2 [(0, aR 8 v0), (1, aI v1), (2, aI v2), (3, aI v3)] [] σ (K2 v0 v1 v2 v3 σ)) (v0 : Nat) (v1 : Int32) (v2 : Int32) (v3 : Int32) (σ : rS) : J Γ rm5_areTold eZ cX5_areTold RX5 4 (some .boolean) tg 0 0 2 [(0, aR 8 v0), (1, aI v1), (2, aI v2), (3, aI v3)] [] σ (B5_areTold_2 N K2 v0 v1 v2 v3 σ) := by
  unfold B5_areTold_2
  refine j_iload_n (pc := 2) 3 dX5_areTold_2 rfl rfl ?_
  refine j_iload_n (pc := 3) 2 dX5_areTold_3 rfl rfl ?_
  refine j_icmpge (pc := 4) (tgt := 35) dX5_areTold_4 rfl (fun _ => ?_) (fun _ => ?_)
  · refine j_iconst (pc := 35) (v := 1) (by decide) dX5_areTold_35 ?_
    exact j_zret1 (pc := 36) rfl (Nat.le_of_ble_eq_true rfl) (Nat.le_of_ble_eq_true rfl) dX5_areTold_36
  · refine j_iload_n (pc := 7) 1 dX5_areTold_7 rfl rfl ?_
    refine j_aload_n (pc := 8) 0 dX5_areTold_8 rfl rfl ?_
    refine j_getF (pc := 9) fd_8_2 tw_1_64 dX5_areTold_9 ?_
    refine j_iload_n (pc := 12) 3 dX5_areTold_12 rfl rfl ?_
    refine j_lald (pc := 13) rfl rfl rfl dX5_areTold_13 (fun j1 => ?_)
    refine j_callSL (pc := 14) (As := [aI v1, aL (gL σ 10 v0 j1)]) (st := []) (fun l => c4_told l v1 (gL σ 10 v0 j1)) cs_RX5_106 rfl rfl (Nat.le_of_ble_eq_true rfl) ⟨(Nat.le_of_ble_eq_true rfl), (Nat.le_of_ble_eq_true rfl)⟩ ⟨(Nat.le_of_ble_eq_true rfl), (Nat.le_of_ble_eq_true rfl)⟩ dX5_areTold_14 (fun r2 σ3 => ?_)
    refine j_aload_n (pc := 17) 0 dX5_areTold_17 rfl rfl ?_
    refine j_getF (pc := 18) fd_8_2 tw_1_64 dX5_areTold_18 ?_
    refine j_iload_n (pc := 21) 3 dX5_areTold_21 rfl rfl ?_
    refine j_lald (pc := 22) rfl rfl rfl dX5_areTold_22 (fun j4 => ?_)
    refine j_lcmpeq (pc := 23) (tgt := 29) dX5_areTold_23 dX5_areTold_24 rfl (fun _ => ?_) (fun _ => ?_)
    · refine j_iinc (pc := 29) (w := 1) (lv' := [(3, aI (v3 + 1)), (0, aR 8 v0), (1, aI v1), (2, aI v2)]) 3 dX5_areTold_29 rfl (by decide) (Nat.le_of_ble_eq_true rfl) rfl ?_
      refine j_goto (pc := 32) (tgt := 2) dX5_areTold_32 rfl ?_
      refine j_sub [1, 2, 3, 0] (lv' := [(0, aR 8 v0), (1, aI v1), (2, aI v2), (3, aI (v3 + 1))]) rfl ?_
      exact hK2 v0 v1 v2 (v3 + 1) σ3
    · refine j_iconst (pc := 27) (v := 0) (by decide) dX5_areTold_27 ?_
      exact j_zret0 (pc := 28) rfl (Nat.le_of_ble_eq_true rfl) (Nat.le_of_ble_eq_true rfl) dX5_areTold_28
theorem jl5_areTold_2 {Γ : jX} {tg : Bool × rS} (N : Nat) : ∀ (n : Nat) (v0 : Nat) (v1 : Int32) (v2 : Int32) (v3 : Int32) (σ : rS), J Γ rm5_areTold eZ cX5_areTold RX5 4 (some .boolean) tg 0 0 2 [(0, aR 8 v0), (1, aI v1), (2, aI v2), (3, aI v3)] [] σ (L5_areTold_2 N n v0 v1 v2 v3 σ) := by
  intro n
  induction n with
  | zero => intro v0 v1 v2 v3 σ; exact j_none
  | succ n ih => intro v0 v1 v2 v3 σ; exact jb5_areTold_2 N (L5_areTold_2 N n) ih v0 v1 v2 v3 σ
set_option maxRecDepth 20000 in
set_option maxHeartbeats 4000000 in
theorem j5_areTold {Γ : jX} {tg : Bool × rS} (N : Nat) (v0 : Nat) (v1 : Int32) (v2 : Int32) (σ : rS) : J Γ rm5_areTold eZ cX5_areTold RX5 4 (some .boolean) tg 0 0 0 [(0, aR 8 v0), (1, aI v1), (2, aI v2)] [] σ (f5_areTold N v0 v1 v2 σ) := by
  unfold f5_areTold
  refine j_iconst (pc := 0) (v := 0) (by decide) dX5_areTold_0 ?_
  refine j_istore_n (pc := 1) (lv' := [(3, aI 0), (0, aR 8 v0), (1, aI v1), (2, aI v2)]) dX5_areTold_1 rfl (Nat.le_of_ble_eq_true rfl) rfl ?_
  refine j_sub [1, 2, 3, 0] (lv' := [(0, aR 8 v0), (1, aI v1), (2, aI v2), (3, aI 0)]) rfl ?_
  exact jl5_areTold_2 N  N v0 v1 v2 0 σ
theorem c5_areTold (l : Launch) (N : Nat) (v0 : Nat) (v1 : Int32) (v2 : Int32) : Ctr l yX5_areTold cX5_areTold 4 (some .boolean) rm5_areTold eZ [aR 8 v0, aI v1, aI v2] (f5_areTold N v0 v1 v2) := ctr_of (lv := [(0, aR 8 v0), (1, aI v1), (2, aI v2)]) (by decide +kernel) (fun _ => rfl) (fun _ => (Nat.le_of_ble_eq_true rfl)) (fun _ h => lvl_als h rfl) (fun _ σ _ => j5_areTold N v0 v1 v2 σ)
theorem cs_RX5_112 : CaV RX5 RX9 112 yX9_byteAt cX9_byteAt 2 (some .int) 1 := ⟨tw_3_54, tw_3_9, tw_3_10, tw_1_14, tw_3_11, rfl, by decide +kernel, by decide +kernel, by decide +kernel⟩
abbrev rm5_openByte : Room := { frames := 2, cells := 0, slots := 0, locals := 42 }
set_option maxRecDepth 20000 in
set_option maxHeartbeats 4000000 in
theorem j5_openByte {Γ : jX} {tg : Int32 × rS} (v0 : Nat) (σ : rS) : J Γ rm5_openByte eI cX5_openByte RX5 1 (some .int) tg 0 0 0 [(0, aR 8 v0)] [] σ (f5_openByte v0 σ) := by
  unfold f5_openByte
  refine j_aload_n (pc := 0) 0 dX5_openByte_0 rfl rfl ?_
  refine j_getI (pc := 1) fd_8_5 tw_1_68 dX5_openByte_1 ?_
  refine j_aload_n (pc := 4) 0 dX5_openByte_4 rfl rfl ?_
  refine j_getI (pc := 5) fd_8_6 tw_1_69 dX5_openByte_5 ?_
  refine j_icmplt (pc := 8) (tgt := 18) dX5_openByte_8 rfl (fun _ => ?_) (fun _ => ?_)
  · refine j_aload_n (pc := 18) 0 dX5_openByte_18 rfl rfl ?_
    refine j_dup (pc := 19) dX5_openByte_19 rfl ?_
    refine j_getI (pc := 20) fd_8_5 tw_1_68 dX5_openByte_20 ?_
    refine j_iconst (pc := 23) (v := 1) (by decide) dX5_openByte_23 ?_
    refine j_iadd (pc := 24) dX5_openByte_24 ?_
    refine j_putI (pc := 25) fd_8_5 rfl rfl tw_1_68 dX5_openByte_25 ?_
    refine j_lets (fun σ1 => ?_)
    refine j_aload_n (pc := 28) 0 dX5_openByte_28 rfl rfl ?_
    refine j_getR (pc := 29) fd_8_4 tw_1_67 dX5_openByte_29 (fun o2 => ?_)
    refine j_aload_n (pc := 32) 0 dX5_openByte_32 rfl rfl ?_
    refine j_getI (pc := 33) fd_8_5 tw_1_68 dX5_openByte_33 ?_
    refine j_iconst (pc := 36) (v := 1) (by decide) dX5_openByte_36 ?_
    refine j_isub (pc := 37) dX5_openByte_37 ?_
    refine j_must (fun i3 hm => ?_)
    subst hm
    refine j_callVI (pc := 38) (As := [aI ((gI σ1 8 v0 5) - 1)]) (st := []) (fun l => c9_byteAt l i3 ((gI σ1 8 v0 5) - 1)) cs_RX5_112 rfl rfl rfl rfl (Nat.le_of_ble_eq_true rfl) ⟨(Nat.le_of_ble_eq_true rfl), (Nat.le_of_ble_eq_true rfl)⟩ ⟨(Nat.le_of_ble_eq_true rfl), (Nat.le_of_ble_eq_true rfl)⟩ dX5_openByte_38 (fun r4 σ5 => ?_)
    exact j_ireturn (pc := 41) rfl (Nat.le_of_ble_eq_true rfl) (Nat.le_of_ble_eq_true rfl) dX5_openByte_41
  · refine j_aload_n (pc := 11) 0 dX5_openByte_11 rfl rfl ?_
    refine j_iconst (pc := 12) (v := 1) (by decide) dX5_openByte_12 ?_
    refine j_putI (pc := 13) fd_8_7 rfl rfl tw_1_70 dX5_openByte_13 ?_
    refine j_lets (fun σ6 => ?_)
    refine j_iconst (pc := 16) (v := 0) (by decide) dX5_openByte_16 ?_
    exact j_ireturn (pc := 17) rfl (Nat.le_of_ble_eq_true rfl) (Nat.le_of_ble_eq_true rfl) dX5_openByte_17
theorem c5_openByte (l : Launch) (v0 : Nat) : Ctr l yX5_openByte cX5_openByte 1 (some .int) rm5_openByte eI [aR 8 v0] (f5_openByte v0) := ctr_of (lv := [(0, aR 8 v0)]) (by decide +kernel) (fun _ => rfl) (fun _ => (Nat.le_of_ble_eq_true rfl)) (fun _ h => lvl_als h rfl) (fun _ σ _ => j5_openByte v0 σ)
theorem cs_RX5_116 : CaV RX5 RX5 116 yX5_openByte cX5_openByte 1 (some .int) 0 := ⟨tw_3_50, tw_3_52, tw_p13, tw_1_3, tw_3_53, rfl, by decide +kernel, by decide +kernel, by decide +kernel⟩
abbrev rm5_openPlain : Room := { frames := 3, cells := 0, slots := 0, locals := 62 }
set_option maxRecDepth 20000 in
set_option maxHeartbeats 4000000 in
theorem jb5_openPlain_4 {Γ : jX} {tg : Int64 × rS} (N : Nat) (K4 : Nat → Int64 → Int32 → rS → Option (Int64 × rS)) (hK4 : ∀ (v0 : Nat) (v1 : Int64) (v3 : Int32) (σ : rS), J Γ rm5_openPlain eL cX5_openPlain RX5 5 (some .long) tg 0 0 4 [(0, aR 8 v0), (1, aL v1), (3, aI v3)] [] σ (K4 v0 v1 v3 σ)) (v0 : Nat) (v1 : Int64) (v3 : Int32) (σ : rS) : J Γ rm5_openPlain eL cX5_openPlain RX5 5 (some .long) tg 0 0 4 [(0, aR 8 v0), (1, aL v1), (3, aI v3)] [] σ (B5_openPlain_4 N K4 v0 v1 v3 σ) := by
  unfold B5_openPlain_4
  refine j_iload_n (pc := 4) 2 dX5_openPlain_4 rfl rfl ?_
  refine j_bipush (pc := 5) (v := 10) (by decide) dX5_openPlain_5 ?_
  refine j_icmpge (pc := 7) (tgt := 53) dX5_openPlain_7 rfl (fun _ => ?_) (fun _ => ?_)
  · refine j_aload_n (pc := 53) 0 dX5_openPlain_53 rfl rfl ?_
    refine j_iconst (pc := 54) (v := 1) (by decide) dX5_openPlain_54 ?_
    refine j_putI (pc := 55) fd_8_7 rfl rfl tw_1_70 dX5_openPlain_55 ?_
    refine j_lets (fun σ1 => ?_)
    refine j_lconst (pc := 58) (v := 0) (by decide) dX5_openPlain_58 ?_
    exact j_lreturn (pc := 59) rfl (Nat.le_of_ble_eq_true rfl) (Nat.le_of_ble_eq_true rfl) dX5_openPlain_59
  · refine j_aload_n (pc := 10) 0 dX5_openPlain_10 rfl rfl ?_
    refine j_callVI (pc := 11) (As := []) (st := []) (fun l => c5_openByte l v0) cs_RX5_116 rfl rfl rfl rfl (Nat.le_of_ble_eq_true rfl) ⟨(Nat.le_of_ble_eq_true rfl), (Nat.le_of_ble_eq_true rfl)⟩ ⟨(Nat.le_of_ble_eq_true rfl), (Nat.le_of_ble_eq_true rfl)⟩ dX5_openPlain_11 (fun r2 σ3 => ?_)
    refine j_istore (pc := 14) (lv' := [(4, aI r2), (0, aR 8 v0), (1, aL v1), (3, aI v3)]) dX5_openPlain_14 (Nat.le_of_ble_eq_true rfl) rfl ?_
    refine j_lload_n (pc := 16) 2 dX5_openPlain_16 rfl rfl ?_
    refine j_iload (pc := 17) 0 dX5_openPlain_17 rfl ?_
    refine j_bipush (pc := 19) (v := 127) (by decide) dX5_openPlain_19 ?_
    refine j_iand (pc := 21) dX5_openPlain_21 ?_
    refine j_i2l (pc := 22) dX5_openPlain_22 ?_
    refine j_bipush (pc := 23) (v := 7) (by decide) dX5_openPlain_23 ?_
    refine j_iload_n (pc := 25) 3 dX5_openPlain_25 rfl rfl ?_
    refine j_imul (pc := 26) dX5_openPlain_26 ?_
    refine j_lshl (pc := 27) dX5_openPlain_27 ?_
    refine j_lor (pc := 28) dX5_openPlain_28 ?_
    refine j_letl (fun x4 => ?_)
    refine j_lstore_n (pc := 29) (lv' := [(1, aL x4), (4, aI r2), (0, aR 8 v0), (3, aI v3)]) dX5_openPlain_29 rfl (Nat.le_of_ble_eq_true rfl) rfl ?_
    refine j_iload (pc := 30) 1 dX5_openPlain_30 rfl ?_
    refine j_sipush (pc := 32) (v := 128) (by decide) dX5_openPlain_32 ?_
    refine j_icmpge (pc := 35) (tgt := 47) dX5_openPlain_35 rfl (fun _ => ?_) (fun _ => ?_)
    · refine j_iinc (pc := 47) (w := 1) (lv' := [(3, aI (v3 + 1)), (1, aL x4), (4, aI r2), (0, aR 8 v0)]) 3 dX5_openPlain_47 rfl (by decide) (Nat.le_of_ble_eq_true rfl) rfl ?_
      refine j_goto (pc := 50) (tgt := 4) dX5_openPlain_50 rfl ?_
      refine j_sub [3, 1, 0] (lv' := [(0, aR 8 v0), (1, aL x4), (3, aI (v3 + 1))]) rfl ?_
      exact hK4 v0 x4 (v3 + 1) σ3
    · refine j_lload_n (pc := 38) 0 dX5_openPlain_38 rfl rfl ?_
      refine j_iconst (pc := 39) (v := 1) (by decide) dX5_openPlain_39 ?_
      refine j_lushr (pc := 40) dX5_openPlain_40 ?_
      refine j_lload_n (pc := 41) 0 dX5_openPlain_41 rfl rfl ?_
      refine j_lconst (pc := 42) (v := 1) (by decide) dX5_openPlain_42 ?_
      refine j_land (pc := 43) dX5_openPlain_43 ?_
      refine j_lneg (pc := 44) dX5_openPlain_44 ?_
      refine j_lxor (pc := 45) dX5_openPlain_45 ?_
      exact j_lreturn (pc := 46) rfl (Nat.le_of_ble_eq_true rfl) (Nat.le_of_ble_eq_true rfl) dX5_openPlain_46
theorem jl5_openPlain_4 {Γ : jX} {tg : Int64 × rS} (N : Nat) : ∀ (n : Nat) (v0 : Nat) (v1 : Int64) (v3 : Int32) (σ : rS), J Γ rm5_openPlain eL cX5_openPlain RX5 5 (some .long) tg 0 0 4 [(0, aR 8 v0), (1, aL v1), (3, aI v3)] [] σ (L5_openPlain_4 N n v0 v1 v3 σ) := by
  intro n
  induction n with
  | zero => intro v0 v1 v3 σ; exact j_none
  | succ n ih => intro v0 v1 v3 σ; exact jb5_openPlain_4 N (L5_openPlain_4 N n) ih v0 v1 v3 σ
set_option maxRecDepth 20000 in
set_option maxHeartbeats 4000000 in
theorem j5_openPlain {Γ : jX} {tg : Int64 × rS} (N : Nat) (v0 : Nat) (σ : rS) : J Γ rm5_openPlain eL cX5_openPlain RX5 5 (some .long) tg 0 0 0 [(0, aR 8 v0)] [] σ (f5_openPlain N v0 σ) := by
  unfold f5_openPlain
  refine j_lconst (pc := 0) (v := 0) (by decide) dX5_openPlain_0 ?_
  refine j_lstore_n (pc := 1) (lv' := [(1, aL 0), (0, aR 8 v0)]) dX5_openPlain_1 rfl (Nat.le_of_ble_eq_true rfl) rfl ?_
  refine j_iconst (pc := 2) (v := 0) (by decide) dX5_openPlain_2 ?_
  refine j_istore_n (pc := 3) (lv' := [(3, aI 0), (1, aL 0), (0, aR 8 v0)]) dX5_openPlain_3 rfl (Nat.le_of_ble_eq_true rfl) rfl ?_
  refine j_sub [2, 1, 0] (lv' := [(0, aR 8 v0), (1, aL 0), (3, aI 0)]) rfl ?_
  exact jl5_openPlain_4 N  N v0 0 0 σ
theorem c5_openPlain (l : Launch) (N : Nat) (v0 : Nat) : Ctr l yX5_openPlain cX5_openPlain 5 (some .long) rm5_openPlain eL [aR 8 v0] (f5_openPlain N v0) := ctr_of (lv := [(0, aR 8 v0)]) (by decide +kernel) (fun _ => rfl) (fun _ => (Nat.le_of_ble_eq_true rfl)) (fun _ h => lvl_als h rfl) (fun _ σ _ => j5_openPlain N v0 σ)
theorem cs_RX5_85 : CaV RX5 RX5 85 yX5_openPlain cX5_openPlain 5 (some .long) 0 := ⟨tw_3_46, tw_3_48, tw_p12, tw_1_3, tw_3_49, rfl, by decide +kernel, by decide +kernel, by decide +kernel⟩
abbrev rm5_openRuns : Room := { frames := 4, cells := 0, slots := 0, locals := 86 }
set_option maxRecDepth 20000 in
set_option maxHeartbeats 4000000 in
theorem jb5_openRuns_55 {Γ : jX} {tg : Unit × rS} (N : Nat) (K2 : Nat → Int32 → Int32 → rS → Option (Unit × rS)) (K55 : Nat → Int32 → Int32 → Int64 → Int32 → rS → Option (Unit × rS)) (hK2 : ∀ (v0 : Nat) (v1 : Int32) (v2 : Int32) (σ : rS), J Γ rm5_openRuns eV cX5_openRuns RX5 8 none tg 0 0 2 [(0, aR 8 v0), (1, aI v1), (2, aI v2)] [] σ (K2 v0 v1 v2 σ)) (hK55 : ∀ (v0 : Nat) (v1 : Int32) (v2 : Int32) (v3 : Int64) (v7 : Int32) (σ : rS), J Γ rm5_openRuns eV cX5_openRuns RX5 8 none tg 0 0 55 [(0, aR 8 v0), (1, aI v1), (2, aI v2), (3, aL v3), (7, aI v7)] [] σ (K55 v0 v1 v2 v3 v7 σ)) (v0 : Nat) (v1 : Int32) (v2 : Int32) (v3 : Int64) (v7 : Int32) (σ : rS) : J Γ rm5_openRuns eV cX5_openRuns RX5 8 none tg 0 0 55 [(0, aR 8 v0), (1, aI v1), (2, aI v2), (3, aL v3), (7, aI v7)] [] σ (B5_openRuns_55 N K2 K55 v0 v1 v2 v3 v7 σ) := by
  unfold B5_openRuns_55
  refine j_iload_n (pc := 55) 2 dX5_openRuns_55 rfl rfl ?_
  refine j_iload (pc := 56) 4 dX5_openRuns_56 rfl ?_
  refine j_icmpgt (pc := 58) (tgt := 74) dX5_openRuns_58 rfl (fun _ => ?_) (fun _ => ?_)
  · refine j_goto (pc := 74) (tgt := 2) dX5_openRuns_74 rfl ?_
    refine j_sub [0, 1, 2] (lv' := [(0, aR 8 v0), (1, aI v1), (2, aI v2)]) rfl ?_
    exact hK2 v0 v1 v2 σ
  · refine j_aload_n (pc := 61) 0 dX5_openRuns_61 rfl rfl ?_
    refine j_getF (pc := 62) fd_8_2 tw_1_64 dX5_openRuns_62 ?_
    refine j_iload_n (pc := 65) 2 dX5_openRuns_65 rfl rfl ?_
    refine j_lload_n (pc := 66) 3 dX5_openRuns_66 rfl rfl ?_
    refine j_last (pc := 67) rfl rfl rfl dX5_openRuns_67 (fun j1 => ?_)
    refine j_lets (fun σ2 => ?_)
    refine j_iinc (pc := 68) (w := 1) (lv' := [(2, aI (v2 + 1)), (0, aR 8 v0), (1, aI v1), (3, aL v3), (7, aI v7)]) 2 dX5_openRuns_68 rfl (by decide) (Nat.le_of_ble_eq_true rfl) rfl ?_
    refine j_goto (pc := 71) (tgt := 55) dX5_openRuns_71 rfl ?_
    refine j_sub [1, 2, 0, 3, 4] (lv' := [(0, aR 8 v0), (1, aI v1), (2, aI (v2 + 1)), (3, aL v3), (7, aI v7)]) rfl ?_
    exact hK55 v0 v1 (v2 + 1) v3 v7 σ2
theorem jl5_openRuns_55 {Γ : jX} {tg : Unit × rS} (N : Nat) (K2 : Nat → Int32 → Int32 → rS → Option (Unit × rS)) (hK2 : ∀ (v0 : Nat) (v1 : Int32) (v2 : Int32) (σ : rS), J Γ rm5_openRuns eV cX5_openRuns RX5 8 none tg 0 0 2 [(0, aR 8 v0), (1, aI v1), (2, aI v2)] [] σ (K2 v0 v1 v2 σ)) : ∀ (n : Nat) (v0 : Nat) (v1 : Int32) (v2 : Int32) (v3 : Int64) (v7 : Int32) (σ : rS), J Γ rm5_openRuns eV cX5_openRuns RX5 8 none tg 0 0 55 [(0, aR 8 v0), (1, aI v1), (2, aI v2), (3, aL v3), (7, aI v7)] [] σ (L5_openRuns_55 N K2 n v0 v1 v2 v3 v7 σ) := by
  intro n
  induction n with
  | zero => intro v0 v1 v2 v3 v7 σ; exact j_none
  | succ n ih => intro v0 v1 v2 v3 v7 σ; exact jb5_openRuns_55 N K2 (L5_openRuns_55 N K2 n) hK2 ih v0 v1 v2 v3 v7 σ
set_option maxRecDepth 20000 in
set_option maxHeartbeats 4000000 in
theorem jb5_openRuns_2 {Γ : jX} {tg : Unit × rS} (N : Nat) (K2 : Nat → Int32 → Int32 → rS → Option (Unit × rS)) (hK2 : ∀ (v0 : Nat) (v1 : Int32) (v2 : Int32) (σ : rS), J Γ rm5_openRuns eV cX5_openRuns RX5 8 none tg 0 0 2 [(0, aR 8 v0), (1, aI v1), (2, aI v2)] [] σ (K2 v0 v1 v2 σ)) (v0 : Nat) (v1 : Int32) (v2 : Int32) (σ : rS) : J Γ rm5_openRuns eV cX5_openRuns RX5 8 none tg 0 0 2 [(0, aR 8 v0), (1, aI v1), (2, aI v2)] [] σ (B5_openRuns_2 N K2 v0 v1 v2 σ) := by
  unfold B5_openRuns_2
  refine j_iload_n (pc := 2) 2 dX5_openRuns_2 rfl rfl ?_
  refine j_iload_n (pc := 3) 1 dX5_openRuns_3 rfl rfl ?_
  refine j_icmpge (pc := 4) (tgt := 77) dX5_openRuns_4 rfl (fun _ => ?_) (fun _ => ?_)
  · exact j_return (pc := 77) rfl (Nat.le_of_ble_eq_true rfl) (Nat.le_of_ble_eq_true rfl) dX5_openRuns_77
  · refine j_aload_n (pc := 7) 0 dX5_openRuns_7 rfl rfl ?_
    refine j_getI (pc := 8) fd_8_7 tw_1_70 dX5_openRuns_8 ?_
    refine j_ifne (pc := 11) (tgt := 77) dX5_openRuns_11 rfl (fun _ => ?_) (fun _ => ?_)
    · exact j_return (pc := 77) rfl (Nat.le_of_ble_eq_true rfl) (Nat.le_of_ble_eq_true rfl) dX5_openRuns_77
    · refine j_aload_n (pc := 14) 0 dX5_openRuns_14 rfl rfl ?_
      refine j_callVL (pc := 15) (As := []) (st := []) (fun l => c5_openPlain l N v0) cs_RX5_85 rfl rfl rfl rfl (Nat.le_of_ble_eq_true rfl) ⟨(Nat.le_of_ble_eq_true rfl), (Nat.le_of_ble_eq_true rfl)⟩ ⟨(Nat.le_of_ble_eq_true rfl), (Nat.le_of_ble_eq_true rfl)⟩ dX5_openRuns_15 (fun r1 σ2 => ?_)
      refine j_lstore_n (pc := 18) (lv' := [(3, aL r1), (0, aR 8 v0), (1, aI v1), (2, aI v2)]) dX5_openRuns_18 rfl (Nat.le_of_ble_eq_true rfl) rfl ?_
      refine j_aload_n (pc := 19) 1 dX5_openRuns_19 rfl rfl ?_
      refine j_callVL (pc := 20) (As := []) (st := []) (fun l => c5_openPlain l N v0) cs_RX5_85 rfl rfl rfl rfl (Nat.le_of_ble_eq_true rfl) ⟨(Nat.le_of_ble_eq_true rfl), (Nat.le_of_ble_eq_true rfl)⟩ ⟨(Nat.le_of_ble_eq_true rfl), (Nat.le_of_ble_eq_true rfl)⟩ dX5_openRuns_20 (fun r3 σ4 => ?_)
      refine j_lstore (pc := 23) (lv' := [(5, aL r3), (3, aL r1), (0, aR 8 v0), (1, aI v1), (2, aI v2)]) dX5_openRuns_23 (Nat.le_of_ble_eq_true rfl) rfl ?_
      refine j_lload (pc := 25) 0 dX5_openRuns_25 rfl ?_
      refine j_lconst (pc := 27) (v := 0) (by decide) dX5_openRuns_27 ?_
      refine j_lcmplt (pc := 28) (tgt := 42) dX5_openRuns_28 dX5_openRuns_29 rfl (fun _ => ?_) (fun _ => ?_)
      · refine j_aload_n (pc := 42) 2 dX5_openRuns_42 rfl rfl ?_
        refine j_iconst (pc := 43) (v := 1) (by decide) dX5_openRuns_43 ?_
        refine j_putI (pc := 44) fd_8_7 rfl rfl tw_1_70 dX5_openRuns_44 ?_
        refine j_lets (fun σ5 => ?_)
        exact j_return (pc := 47) rfl (Nat.le_of_ble_eq_true rfl) (Nat.le_of_ble_eq_true rfl) dX5_openRuns_47
      · refine j_lload (pc := 32) 0 dX5_openRuns_32 rfl ?_
        refine j_iload_n (pc := 34) 3 dX5_openRuns_34 rfl rfl ?_
        refine j_iload_n (pc := 35) 4 dX5_openRuns_35 rfl rfl ?_
        refine j_isub (pc := 36) dX5_openRuns_36 ?_
        refine j_i2l (pc := 37) dX5_openRuns_37 ?_
        refine j_lcmplt (pc := 38) (tgt := 48) dX5_openRuns_38 dX5_openRuns_39 rfl (fun _ => ?_) (fun _ => ?_)
        · refine j_iload_n (pc := 48) 4 dX5_openRuns_48 rfl rfl ?_
          refine j_lload (pc := 49) 0 dX5_openRuns_49 rfl ?_
          refine j_l2i (pc := 51) dX5_openRuns_51 ?_
          refine j_iadd (pc := 52) dX5_openRuns_52 ?_
          refine j_leti (fun x6 => ?_)
          refine j_istore (pc := 53) (lv' := [(7, aI x6), (5, aL r3), (3, aL r1), (0, aR 8 v0), (1, aI v1), (2, aI v2)]) dX5_openRuns_53 (Nat.le_of_ble_eq_true rfl) rfl ?_
          refine j_sub [0, 2, 3, 4, 5] (lv' := [(7, aI x6), (3, aL r1), (0, aR 8 v0), (1, aI v1), (2, aI v2)]) rfl ?_
          refine j_sub [2, 3, 4, 1, 0] (lv' := [(0, aR 8 v0), (1, aI v1), (2, aI v2), (3, aL r1), (7, aI x6)]) rfl ?_
          exact jl5_openRuns_55 N K2 hK2 N v0 v1 v2 r1 x6 σ4
        · refine j_aload_n (pc := 42) 2 dX5_openRuns_42 rfl rfl ?_
          refine j_iconst (pc := 43) (v := 1) (by decide) dX5_openRuns_43 ?_
          refine j_putI (pc := 44) fd_8_7 rfl rfl tw_1_70 dX5_openRuns_44 ?_
          refine j_lets (fun σ7 => ?_)
          exact j_return (pc := 47) rfl (Nat.le_of_ble_eq_true rfl) (Nat.le_of_ble_eq_true rfl) dX5_openRuns_47
theorem jl5_openRuns_2 {Γ : jX} {tg : Unit × rS} (N : Nat) : ∀ (n : Nat) (v0 : Nat) (v1 : Int32) (v2 : Int32) (σ : rS), J Γ rm5_openRuns eV cX5_openRuns RX5 8 none tg 0 0 2 [(0, aR 8 v0), (1, aI v1), (2, aI v2)] [] σ (L5_openRuns_2 N n v0 v1 v2 σ) := by
  intro n
  induction n with
  | zero => intro v0 v1 v2 σ; exact j_none
  | succ n ih => intro v0 v1 v2 σ; exact jb5_openRuns_2 N (L5_openRuns_2 N n) ih v0 v1 v2 σ
set_option maxRecDepth 20000 in
set_option maxHeartbeats 4000000 in
theorem j5_openRuns {Γ : jX} {tg : Unit × rS} (N : Nat) (v0 : Nat) (v1 : Int32) (σ : rS) : J Γ rm5_openRuns eV cX5_openRuns RX5 8 none tg 0 0 0 [(0, aR 8 v0), (1, aI v1)] [] σ (f5_openRuns N v0 v1 σ) := by
  unfold f5_openRuns
  refine j_iconst (pc := 0) (v := 0) (by decide) dX5_openRuns_0 ?_
  refine j_istore_n (pc := 1) (lv' := [(2, aI 0), (0, aR 8 v0), (1, aI v1)]) dX5_openRuns_1 rfl (Nat.le_of_ble_eq_true rfl) rfl ?_
  refine j_sub [1, 2, 0] (lv' := [(0, aR 8 v0), (1, aI v1), (2, aI 0)]) rfl ?_
  exact jl5_openRuns_2 N  N v0 v1 0 σ
theorem c5_openRuns (l : Launch) (N : Nat) (v0 : Nat) (v1 : Int32) : Ctr l yX5_openRuns cX5_openRuns 8 none rm5_openRuns eV [aR 8 v0, aI v1] (f5_openRuns N v0 v1) := ctr_of (lv := [(0, aR 8 v0), (1, aI v1)]) (by decide +kernel) (fun _ => rfl) (fun _ => (Nat.le_of_ble_eq_true rfl)) (fun _ h => lvl_als h rfl) (fun _ σ _ => j5_openRuns N v0 v1 σ)
abbrev rm5_openWide : Room := { frames := 3, cells := 0, slots := 0, locals := 62 }
set_option maxRecDepth 20000 in
set_option maxHeartbeats 4000000 in
theorem jb5_openWide_35 {Γ : jX} {tg : Unit × rS} (N : Nat) (K24 : Nat → Int32 → Int32 → Int32 → rS → Option (Unit × rS)) (K35 : Nat → Int32 → Int32 → Int32 → Int64 → Int32 → rS → Option (Unit × rS)) (hK24 : ∀ (v0 : Nat) (v1 : Int32) (v2 : Int32) (v3 : Int32) (σ : rS), J Γ rm5_openWide eV cX5_openWide RX5 7 none tg 0 0 24 [(0, aR 8 v0), (1, aI v1), (2, aI v2), (3, aI v3)] [] σ (K24 v0 v1 v2 v3 σ)) (hK35 : ∀ (v0 : Nat) (v1 : Int32) (v2 : Int32) (v3 : Int32) (v4 : Int64) (v6 : Int32) (σ : rS), J Γ rm5_openWide eV cX5_openWide RX5 7 none tg 0 0 35 [(0, aR 8 v0), (1, aI v1), (2, aI v2), (3, aI v3), (4, aL v4), (6, aI v6)] [] σ (K35 v0 v1 v2 v3 v4 v6 σ)) (v0 : Nat) (v1 : Int32) (v2 : Int32) (v3 : Int32) (v4 : Int64) (v6 : Int32) (σ : rS) : J Γ rm5_openWide eV cX5_openWide RX5 7 none tg 0 0 35 [(0, aR 8 v0), (1, aI v1), (2, aI v2), (3, aI v3), (4, aL v4), (6, aI v6)] [] σ (B5_openWide_35 N K24 K35 v0 v1 v2 v3 v4 v6 σ) := by
  unfold B5_openWide_35
  refine j_iload (pc := 35) 5 dX5_openWide_35 rfl ?_
  refine j_iload_n (pc := 37) 2 dX5_openWide_37 rfl rfl ?_
  refine j_icmpge (pc := 38) (tgt := 63) dX5_openWide_38 rfl (fun _ => ?_) (fun _ => ?_)
  · refine j_bipush (pc := 63) (v := 64) (by decide) dX5_openWide_63 ?_
    refine j_bipush (pc := 65) (v := 8) (by decide) dX5_openWide_65 ?_
    refine j_iload_n (pc := 67) 2 dX5_openWide_67 rfl rfl ?_
    refine j_imul (pc := 68) dX5_openWide_68 ?_
    refine j_isub (pc := 69) dX5_openWide_69 ?_
    refine j_leti (fun x1 => ?_)
    refine j_istore (pc := 70) (lv' := [(6, aI x1), (0, aR 8 v0), (1, aI v1), (2, aI v2), (3, aI v3), (4, aL v4)]) dX5_openWide_70 (Nat.le_of_ble_eq_true rfl) rfl ?_
    refine j_aload_n (pc := 72) 1 dX5_openWide_72 rfl rfl ?_
    refine j_getF (pc := 73) fd_8_2 tw_1_64 dX5_openWide_73 ?_
    refine j_iload_n (pc := 76) 4 dX5_openWide_76 rfl rfl ?_
    refine j_lload (pc := 77) 5 dX5_openWide_77 rfl ?_
    refine j_iload (pc := 79) 0 dX5_openWide_79 rfl ?_
    refine j_lshl (pc := 81) dX5_openWide_81 ?_
    refine j_iload (pc := 82) 0 dX5_openWide_82 rfl ?_
    refine j_lshr (pc := 84) dX5_openWide_84 ?_
    refine j_last (pc := 85) rfl rfl rfl dX5_openWide_85 (fun j2 => ?_)
    refine j_lets (fun σ3 => ?_)
    refine j_iinc (pc := 86) (w := 1) (lv' := [(3, aI (v3 + 1)), (6, aI x1), (0, aR 8 v0), (1, aI v1), (2, aI v2), (4, aL v4)]) 4 dX5_openWide_86 rfl (by decide) (Nat.le_of_ble_eq_true rfl) rfl ?_
    refine j_goto (pc := 89) (tgt := 24) dX5_openWide_89 rfl ?_
    refine j_sub [2, 3, 4, 0] (lv' := [(0, aR 8 v0), (1, aI v1), (2, aI v2), (3, aI (v3 + 1))]) rfl ?_
    exact hK24 v0 v1 v2 (v3 + 1) σ3
  · refine j_lload (pc := 41) 4 dX5_openWide_41 rfl ?_
    refine j_aload_n (pc := 43) 0 dX5_openWide_43 rfl rfl ?_
    refine j_callVI (pc := 44) (As := []) (st := [aL v4]) (fun l => c5_openByte l v0) cs_RX5_116 rfl rfl rfl rfl (Nat.le_of_ble_eq_true rfl) ⟨(Nat.le_of_ble_eq_true rfl), (Nat.le_of_ble_eq_true rfl)⟩ ⟨(Nat.le_of_ble_eq_true rfl), (Nat.le_of_ble_eq_true rfl)⟩ dX5_openWide_44 (fun r4 σ5 => ?_)
    refine j_i2l (pc := 47) dX5_openWide_47 ?_
    refine j_bipush (pc := 48) (v := 8) (by decide) dX5_openWide_48 ?_
    refine j_iload (pc := 50) 5 dX5_openWide_50 rfl ?_
    refine j_imul (pc := 52) dX5_openWide_52 ?_
    refine j_lshl (pc := 53) dX5_openWide_53 ?_
    refine j_lor (pc := 54) dX5_openWide_54 ?_
    refine j_letl (fun x6 => ?_)
    refine j_lstore (pc := 55) (lv' := [(4, aL x6), (0, aR 8 v0), (1, aI v1), (2, aI v2), (3, aI v3), (6, aI v6)]) dX5_openWide_55 (Nat.le_of_ble_eq_true rfl) rfl ?_
    refine j_iinc (pc := 57) (w := 1) (lv' := [(6, aI (v6 + 1)), (4, aL x6), (0, aR 8 v0), (1, aI v1), (2, aI v2), (3, aI v3)]) 5 dX5_openWide_57 rfl (by decide) (Nat.le_of_ble_eq_true rfl) rfl ?_
    refine j_goto (pc := 60) (tgt := 35) dX5_openWide_60 rfl ?_
    refine j_sub [2, 3, 4, 5, 1, 0] (lv' := [(0, aR 8 v0), (1, aI v1), (2, aI v2), (3, aI v3), (4, aL x6), (6, aI (v6 + 1))]) rfl ?_
    exact hK35 v0 v1 v2 v3 x6 (v6 + 1) σ5
theorem jl5_openWide_35 {Γ : jX} {tg : Unit × rS} (N : Nat) (K24 : Nat → Int32 → Int32 → Int32 → rS → Option (Unit × rS)) (hK24 : ∀ (v0 : Nat) (v1 : Int32) (v2 : Int32) (v3 : Int32) (σ : rS), J Γ rm5_openWide eV cX5_openWide RX5 7 none tg 0 0 24 [(0, aR 8 v0), (1, aI v1), (2, aI v2), (3, aI v3)] [] σ (K24 v0 v1 v2 v3 σ)) : ∀ (n : Nat) (v0 : Nat) (v1 : Int32) (v2 : Int32) (v3 : Int32) (v4 : Int64) (v6 : Int32) (σ : rS), J Γ rm5_openWide eV cX5_openWide RX5 7 none tg 0 0 35 [(0, aR 8 v0), (1, aI v1), (2, aI v2), (3, aI v3), (4, aL v4), (6, aI v6)] [] σ (L5_openWide_35 N K24 n v0 v1 v2 v3 v4 v6 σ) := by
  intro n
  induction n with
  | zero => intro v0 v1 v2 v3 v4 v6 σ; exact j_none
  | succ n ih => intro v0 v1 v2 v3 v4 v6 σ; exact jb5_openWide_35 N K24 (L5_openWide_35 N K24 n) hK24 ih v0 v1 v2 v3 v4 v6 σ
set_option maxRecDepth 20000 in
set_option maxHeartbeats 4000000 in
theorem jb5_openWide_24 {Γ : jX} {tg : Unit × rS} (N : Nat) (K24 : Nat → Int32 → Int32 → Int32 → rS → Option (Unit × rS)) (hK24 : ∀ (v0 : Nat) (v1 : Int32) (v2 : Int32) (v3 : Int32) (σ : rS), J Γ rm5_openWide eV cX5_openWide RX5 7 none tg 0 0 24 [(0, aR 8 v0), (1, aI v1), (2, aI v2), (3, aI v3)] [] σ (K24 v0 v1 v2 v3 σ)) (v0 : Nat) (v1 : Int32) (v2 : Int32) (v3 : Int32) (σ : rS) : J Γ rm5_openWide eV cX5_openWide RX5 7 none tg 0 0 24 [(0, aR 8 v0), (1, aI v1), (2, aI v2), (3, aI v3)] [] σ (B5_openWide_24 N K24 v0 v1 v2 v3 σ) := by
  unfold B5_openWide_24
  refine j_iload_n (pc := 24) 3 dX5_openWide_24 rfl rfl ?_
  refine j_iload_n (pc := 25) 1 dX5_openWide_25 rfl rfl ?_
  refine j_icmpge (pc := 26) (tgt := 92) dX5_openWide_26 rfl (fun _ => ?_) (fun _ => ?_)
  · exact j_return (pc := 92) rfl (Nat.le_of_ble_eq_true rfl) (Nat.le_of_ble_eq_true rfl) dX5_openWide_92
  · refine j_lconst (pc := 29) (v := 0) (by decide) dX5_openWide_29 ?_
    refine j_lstore (pc := 30) (lv' := [(4, aL 0), (0, aR 8 v0), (1, aI v1), (2, aI v2), (3, aI v3)]) dX5_openWide_30 (Nat.le_of_ble_eq_true rfl) rfl ?_
    refine j_iconst (pc := 32) (v := 0) (by decide) dX5_openWide_32 ?_
    refine j_istore (pc := 33) (lv' := [(6, aI 0), (4, aL 0), (0, aR 8 v0), (1, aI v1), (2, aI v2), (3, aI v3)]) dX5_openWide_33 (Nat.le_of_ble_eq_true rfl) rfl ?_
    refine j_sub [2, 3, 4, 5, 1, 0] (lv' := [(0, aR 8 v0), (1, aI v1), (2, aI v2), (3, aI v3), (4, aL 0), (6, aI 0)]) rfl ?_
    exact jl5_openWide_35 N K24 hK24 N v0 v1 v2 v3 0 0 σ
theorem jl5_openWide_24 {Γ : jX} {tg : Unit × rS} (N : Nat) : ∀ (n : Nat) (v0 : Nat) (v1 : Int32) (v2 : Int32) (v3 : Int32) (σ : rS), J Γ rm5_openWide eV cX5_openWide RX5 7 none tg 0 0 24 [(0, aR 8 v0), (1, aI v1), (2, aI v2), (3, aI v3)] [] σ (L5_openWide_24 N n v0 v1 v2 v3 σ) := by
  intro n
  induction n with
  | zero => intro v0 v1 v2 v3 σ; exact j_none
  | succ n ih => intro v0 v1 v2 v3 σ; exact jb5_openWide_24 N (L5_openWide_24 N n) ih v0 v1 v2 v3 σ
set_option maxRecDepth 20000 in
set_option maxHeartbeats 4000000 in
theorem j5_openWide {Γ : jX} {tg : Unit × rS} (N : Nat) (v0 : Nat) (v1 : Int32) (σ : rS) : J Γ rm5_openWide eV cX5_openWide RX5 7 none tg 0 0 0 [(0, aR 8 v0), (1, aI v1)] [] σ (f5_openWide N v0 v1 σ) := by
  unfold f5_openWide
  refine j_aload_n (pc := 0) 0 dX5_openWide_0 rfl rfl ?_
  refine j_callVI (pc := 1) (As := []) (st := []) (fun l => c5_openByte l v0) cs_RX5_116 rfl rfl rfl rfl (Nat.le_of_ble_eq_true rfl) ⟨(Nat.le_of_ble_eq_true rfl), (Nat.le_of_ble_eq_true rfl)⟩ ⟨(Nat.le_of_ble_eq_true rfl), (Nat.le_of_ble_eq_true rfl)⟩ dX5_openWide_1 (fun r1 σ2 => ?_)
  refine j_istore_n (pc := 4) (lv' := [(2, aI r1), (0, aR 8 v0), (1, aI v1)]) dX5_openWide_4 rfl (Nat.le_of_ble_eq_true rfl) rfl ?_
  refine j_iload_n (pc := 5) 0 dX5_openWide_5 rfl rfl ?_
  refine j_iconst (pc := 6) (v := 1) (by decide) dX5_openWide_6 ?_
  refine j_icmplt (pc := 7) (tgt := 16) dX5_openWide_7 rfl (fun _ => ?_) (fun _ => ?_)
  · refine j_aload_n (pc := 16) 1 dX5_openWide_16 rfl rfl ?_
    refine j_iconst (pc := 17) (v := 1) (by decide) dX5_openWide_17 ?_
    refine j_putI (pc := 18) fd_8_7 rfl rfl tw_1_70 dX5_openWide_18 ?_
    refine j_lets (fun σ3 => ?_)
    exact j_return (pc := 21) rfl (Nat.le_of_ble_eq_true rfl) (Nat.le_of_ble_eq_true rfl) dX5_openWide_21
  · refine j_iload_n (pc := 10) 0 dX5_openWide_10 rfl rfl ?_
    refine j_bipush (pc := 11) (v := 8) (by decide) dX5_openWide_11 ?_
    refine j_icmple (pc := 13) (tgt := 22) dX5_openWide_13 rfl (fun _ => ?_) (fun _ => ?_)
    · refine j_iconst (pc := 22) (v := 0) (by decide) dX5_openWide_22 ?_
      refine j_istore_n (pc := 23) (lv' := [(3, aI 0), (2, aI r1), (0, aR 8 v0), (1, aI v1)]) dX5_openWide_23 rfl (Nat.le_of_ble_eq_true rfl) rfl ?_
      refine j_sub [2, 3, 1, 0] (lv' := [(0, aR 8 v0), (1, aI v1), (2, aI r1), (3, aI 0)]) rfl ?_
      exact jl5_openWide_24 N  N v0 v1 r1 0 σ2
    · refine j_aload_n (pc := 16) 1 dX5_openWide_16 rfl rfl ?_
      refine j_iconst (pc := 17) (v := 1) (by decide) dX5_openWide_17 ?_
      refine j_putI (pc := 18) fd_8_7 rfl rfl tw_1_70 dX5_openWide_18 ?_
      refine j_lets (fun σ4 => ?_)
      exact j_return (pc := 21) rfl (Nat.le_of_ble_eq_true rfl) (Nat.le_of_ble_eq_true rfl) dX5_openWide_21
theorem c5_openWide (l : Launch) (N : Nat) (v0 : Nat) (v1 : Int32) : Ctr l yX5_openWide cX5_openWide 7 none rm5_openWide eV [aR 8 v0, aI v1] (f5_openWide N v0 v1) := ctr_of (lv := [(0, aR 8 v0), (1, aI v1)]) (by decide +kernel) (fun _ => rfl) (fun _ => (Nat.le_of_ble_eq_true rfl)) (fun _ h => lvl_als h rfl) (fun _ σ _ => j5_openWide N v0 v1 σ)
abbrev rm5_undoSteps : Room := { frames := 0, cells := 0, slots := 0, locals := 0 }
set_option maxRecDepth 20000 in
set_option maxHeartbeats 4000000 in
theorem jb5_undoSteps_2 {Γ : jX} {tg : Unit × rS} (N : Nat) (K2 : Nat → Int32 → Int32 → rS → Option (Unit × rS)) (hK2 : ∀ (v0 : Nat) (v1 : Int32) (v2 : Int32) (σ : rS), J Γ rm5_undoSteps eV cX5_undoSteps RX5 3 none tg 0 0 2 [(0, aR 8 v0), (1, aI v1), (2, aI v2)] [] σ (K2 v0 v1 v2 σ)) (v0 : Nat) (v1 : Int32) (v2 : Int32) (σ : rS) : J Γ rm5_undoSteps eV cX5_undoSteps RX5 3 none tg 0 0 2 [(0, aR 8 v0), (1, aI v1), (2, aI v2)] [] σ (B5_undoSteps_2 N K2 v0 v1 v2 σ) := by
  unfold B5_undoSteps_2
  refine j_iload_n (pc := 2) 2 dX5_undoSteps_2 rfl rfl ?_
  refine j_iload_n (pc := 3) 1 dX5_undoSteps_3 rfl rfl ?_
  refine j_icmpge (pc := 4) (tgt := 30) dX5_undoSteps_4 rfl (fun _ => ?_) (fun _ => ?_)
  · exact j_return (pc := 30) rfl (Nat.le_of_ble_eq_true rfl) (Nat.le_of_ble_eq_true rfl) dX5_undoSteps_30
  · refine j_aload_n (pc := 7) 0 dX5_undoSteps_7 rfl rfl ?_
    refine j_getF (pc := 8) fd_8_2 tw_1_64 dX5_undoSteps_8 ?_
    refine j_iload_n (pc := 11) 2 dX5_undoSteps_11 rfl rfl ?_
    refine j_dup2 (pc := 12) dX5_undoSteps_12 rfl rfl ?_
    refine j_lald (pc := 13) rfl rfl rfl dX5_undoSteps_13 (fun j1 => ?_)
    refine j_aload_n (pc := 14) 0 dX5_undoSteps_14 rfl rfl ?_
    refine j_getF (pc := 15) fd_8_2 tw_1_64 dX5_undoSteps_15 ?_
    refine j_iload_n (pc := 18) 2 dX5_undoSteps_18 rfl rfl ?_
    refine j_iconst (pc := 19) (v := 1) (by decide) dX5_undoSteps_19 ?_
    refine j_isub (pc := 20) dX5_undoSteps_20 ?_
    refine j_lald (pc := 21) rfl rfl rfl dX5_undoSteps_21 (fun j2 => ?_)
    refine j_ladd (pc := 22) dX5_undoSteps_22 ?_
    refine j_last (pc := 23) rfl rfl rfl dX5_undoSteps_23 (fun j3 => ?_)
    refine j_lets (fun σ4 => ?_)
    refine j_iinc (pc := 24) (w := 1) (lv' := [(2, aI (v2 + 1)), (0, aR 8 v0), (1, aI v1)]) 2 dX5_undoSteps_24 rfl (by decide) (Nat.le_of_ble_eq_true rfl) rfl ?_
    refine j_goto (pc := 27) (tgt := 2) dX5_undoSteps_27 rfl ?_
    refine j_sub [1, 2, 0] (lv' := [(0, aR 8 v0), (1, aI v1), (2, aI (v2 + 1))]) rfl ?_
    exact hK2 v0 v1 (v2 + 1) σ4
theorem jl5_undoSteps_2 {Γ : jX} {tg : Unit × rS} (N : Nat) : ∀ (n : Nat) (v0 : Nat) (v1 : Int32) (v2 : Int32) (σ : rS), J Γ rm5_undoSteps eV cX5_undoSteps RX5 3 none tg 0 0 2 [(0, aR 8 v0), (1, aI v1), (2, aI v2)] [] σ (L5_undoSteps_2 N n v0 v1 v2 σ) := by
  intro n
  induction n with
  | zero => intro v0 v1 v2 σ; exact j_none
  | succ n ih => intro v0 v1 v2 σ; exact jb5_undoSteps_2 N (L5_undoSteps_2 N n) ih v0 v1 v2 σ
set_option maxRecDepth 20000 in
set_option maxHeartbeats 4000000 in
theorem j5_undoSteps {Γ : jX} {tg : Unit × rS} (N : Nat) (v0 : Nat) (v1 : Int32) (σ : rS) : J Γ rm5_undoSteps eV cX5_undoSteps RX5 3 none tg 0 0 0 [(0, aR 8 v0), (1, aI v1)] [] σ (f5_undoSteps N v0 v1 σ) := by
  unfold f5_undoSteps
  refine j_iconst (pc := 0) (v := 1) (by decide) dX5_undoSteps_0 ?_
  refine j_istore_n (pc := 1) (lv' := [(2, aI 1), (0, aR 8 v0), (1, aI v1)]) dX5_undoSteps_1 rfl (Nat.le_of_ble_eq_true rfl) rfl ?_
  refine j_sub [1, 2, 0] (lv' := [(0, aR 8 v0), (1, aI v1), (2, aI 1)]) rfl ?_
  exact jl5_undoSteps_2 N  N v0 v1 1 σ
theorem c5_undoSteps (l : Launch) (N : Nat) (v0 : Nat) (v1 : Int32) : Ctr l yX5_undoSteps cX5_undoSteps 3 none rm5_undoSteps eV [aR 8 v0, aI v1] (f5_undoSteps N v0 v1) := ctr_of (lv := [(0, aR 8 v0), (1, aI v1)]) (by decide +kernel) (fun _ => rfl) (fun _ => (Nat.le_of_ble_eq_true rfl)) (fun _ h => lvl_als h rfl) (fun _ σ _ => j5_undoSteps N v0 v1 σ)
theorem cs_RX5_89 : CaV RX5 RX5 89 yX5_undoSteps cX5_undoSteps 3 none 1 := ⟨tw_3_59, tw_3_61, tw_p15, tw_1_3, tw_3_62, rfl, by decide +kernel, by decide +kernel, by decide +kernel⟩
theorem cs_RX5_92 : CaV RX5 RX5 92 yX5_areTold cX5_areTold 4 (some .boolean) 2 := ⟨tw_3_63, tw_3_65, tw_p16, tw_1_3, tw_3_66, rfl, by decide +kernel, by decide +kernel, by decide +kernel⟩
theorem cs_RX5_96 : CaV RX5 RX5 96 yX5_pack cX5_pack 5 none 3 := ⟨tw_3_68, tw_2_166, tw_2_167, tw_1_3, tw_2_168, rfl, by decide +kernel, by decide +kernel, by decide +kernel⟩
theorem cs_RX5_100 : CaV RX5 RX9 100 yX9_hasAt cX9_hasAt 6 (some .boolean) 4 := ⟨tw_3_69, tw_3_70, tw_3_71, tw_1_14, tw_3_72, rfl, by decide +kernel, by decide +kernel, by decide +kernel⟩
theorem cs_RX5_79 : CaV RX5 RX5 79 yX5_openRuns cX5_openRuns 8 none 1 := ⟨tw_3_42, tw_3_44, tw_p11, tw_1_3, tw_3_45, rfl, by decide +kernel, by decide +kernel, by decide +kernel⟩
theorem cs_RX5_82 : CaV RX5 RX5 82 yX5_openWide cX5_openWide 7 none 1 := ⟨tw_3_55, tw_3_57, tw_p14, tw_1_3, tw_3_58, rfl, by decide +kernel, by decide +kernel, by decide +kernel⟩
abbrev rm5_unpack : Room := { frames := 5, cells := 0, slots := 0, locals := 113 }
set_option maxRecDepth 20000 in
set_option maxHeartbeats 4000000 in
theorem jb5_unpack_124 {Γ : jX} {tg : Bool × rS} (N : Nat) (v0 : Nat) (v1 : Int32) (v2 : Int32) (v3 : Int32) (v5 : Int32) (v6 : Int32) (σ : rS) : J Γ rm5_unpack eZ cX5_unpack RX5 8 (some .boolean) tg 0 0 124 [(0, aR 8 v0), (1, aI v1), (2, aI v2), (3, aI v3), (5, aI v5), (6, aI v6)] [] σ (B5_unpack_124 N v0 v1 v2 v3 v5 v6 σ) := by
  unfold B5_unpack_124
  refine j_aload_n (pc := 124) 0 dX5_unpack_124 rfl rfl ?_
  refine j_getI (pc := 125) fd_8_7 tw_1_70 dX5_unpack_125 ?_
  refine j_ifne (pc := 128) (tgt := 140) dX5_unpack_128 rfl (fun _ => ?_) (fun _ => ?_)
  · refine j_iconst (pc := 140) (v := 0) (by decide) dX5_unpack_140 ?_
    exact j_zret0 (pc := 141) rfl (Nat.le_of_ble_eq_true rfl) (Nat.le_of_ble_eq_true rfl) dX5_unpack_141
  · refine j_aload_n (pc := 131) 0 dX5_unpack_131 rfl rfl ?_
    refine j_iload_n (pc := 132) 2 dX5_unpack_132 rfl rfl ?_
    refine j_iload_n (pc := 133) 3 dX5_unpack_133 rfl rfl ?_
    refine j_callVZ (pc := 134) (As := [aI v2, aI v3]) (st := []) (fun l => c5_areTold l N v0 v2 v3) cs_RX5_92 rfl rfl rfl rfl (Nat.le_of_ble_eq_true rfl) ⟨(Nat.le_of_ble_eq_true rfl), (Nat.le_of_ble_eq_true rfl)⟩ ⟨(Nat.le_of_ble_eq_true rfl), (Nat.le_of_ble_eq_true rfl)⟩ dX5_unpack_134 (fun r1 σ2 => ?_)
    refine j_ifneB (pc := 137) (tgt := 142) dX5_unpack_137 rfl (fun _ => ?_) (fun _ => ?_)
    · refine j_aload_n (pc := 142) 0 dX5_unpack_142 rfl rfl ?_
      refine j_iload_n (pc := 143) 1 dX5_unpack_143 rfl rfl ?_
      refine j_aload_n (pc := 144) 0 dX5_unpack_144 rfl rfl ?_
      refine j_getF (pc := 145) fd_8_2 tw_1_64 dX5_unpack_145 ?_
      refine j_iload_n (pc := 148) 3 dX5_unpack_148 rfl rfl ?_
      refine j_callVV (pc := 149) (As := [aI v1, aR 10 v0, aI v3]) (st := []) (fun l => c5_pack l N 10 ⟨rfl, rfl, rfl⟩ v0 v1 v0 v3) cs_RX5_96 rfl rfl rfl rfl (Nat.le_of_ble_eq_true rfl) ⟨(Nat.le_of_ble_eq_true rfl), (Nat.le_of_ble_eq_true rfl)⟩ ⟨(Nat.le_of_ble_eq_true rfl), (Nat.le_of_ble_eq_true rfl)⟩ dX5_unpack_149 (fun r3 σ4 => ?_)
      refine j_aload_n (pc := 152) 0 dX5_unpack_152 rfl rfl ?_
      refine j_getR (pc := 153) fd_8_4 tw_1_67 dX5_unpack_153 (fun o5 => ?_)
      refine j_iload (pc := 156) 4 dX5_unpack_156 rfl ?_
      refine j_iload (pc := 158) 5 dX5_unpack_158 rfl ?_
      refine j_aload_n (pc := 160) 0 dX5_unpack_160 rfl rfl ?_
      refine j_getF (pc := 161) fd_8_0 tw_1_60 dX5_unpack_161 ?_
      refine j_aload_n (pc := 164) 0 dX5_unpack_164 rfl rfl ?_
      refine j_getI (pc := 165) fd_8_1 tw_1_62 dX5_unpack_165 ?_
      refine j_must (fun i6 hm => ?_)
      subst hm
      refine j_callVZ (pc := 168) (As := [aI v5, aI v6, aR 9 v0, aI (gI σ4 8 v0 1)]) (st := []) (fun l => c9_hasAt l N 9 ⟨rfl, rfl, rfl⟩ i6 v5 v6 v0 (gI σ4 8 v0 1)) cs_RX5_100 rfl rfl rfl rfl (Nat.le_of_ble_eq_true rfl) ⟨(Nat.le_of_ble_eq_true rfl), (Nat.le_of_ble_eq_true rfl)⟩ ⟨(Nat.le_of_ble_eq_true rfl), (Nat.le_of_ble_eq_true rfl)⟩ dX5_unpack_168 (fun r7 σ8 => ?_)
      exact j_zretB (pc := 171) rfl (Nat.le_of_ble_eq_true rfl) (Nat.le_of_ble_eq_true rfl) dX5_unpack_171
    · refine j_iconst (pc := 140) (v := 0) (by decide) dX5_unpack_140 ?_
      exact j_zret0 (pc := 141) rfl (Nat.le_of_ble_eq_true rfl) (Nat.le_of_ble_eq_true rfl) dX5_unpack_141
set_option maxRecDepth 20000 in
set_option maxHeartbeats 4000000 in
theorem jb5_unpack_114 {Γ : jX} {tg : Bool × rS} (N : Nat) (v0 : Nat) (v1 : Int32) (v2 : Int32) (v3 : Int32) (v5 : Int32) (v6 : Int32) (σ : rS) : J Γ rm5_unpack eZ cX5_unpack RX5 8 (some .boolean) tg 0 0 114 [(0, aR 8 v0), (1, aI v1), (2, aI v2), (3, aI v3), (5, aI v5), (6, aI v6)] [] σ (B5_unpack_114 N v0 v1 v2 v3 v5 v6 σ) := by
  unfold B5_unpack_114
  refine j_iload_n (pc := 114) 1 dX5_unpack_114 rfl rfl ?_
  refine j_iconst (pc := 115) (v := 2) (by decide) dX5_unpack_115 ?_
  refine j_icmpne (pc := 116) (tgt := 124) dX5_unpack_116 rfl (fun _ => ?_) (fun _ => ?_)
  · exact jb5_unpack_124 N  v0 v1 v2 v3 v5 v6 σ
  · refine j_aload_n (pc := 119) 0 dX5_unpack_119 rfl rfl ?_
    refine j_iload_n (pc := 120) 3 dX5_unpack_120 rfl rfl ?_
    refine j_callVV (pc := 121) (As := [aI v3]) (st := []) (fun l => c5_undoSteps l N v0 v3) cs_RX5_89 rfl rfl rfl rfl (Nat.le_of_ble_eq_true rfl) ⟨(Nat.le_of_ble_eq_true rfl), (Nat.le_of_ble_eq_true rfl)⟩ ⟨(Nat.le_of_ble_eq_true rfl), (Nat.le_of_ble_eq_true rfl)⟩ dX5_unpack_121 (fun r1 σ2 => ?_)
    exact jb5_unpack_124 N  v0 v1 v2 v3 v5 v6 σ2
set_option maxRecDepth 20000 in
set_option maxHeartbeats 4000000 in
theorem jb5_unpack_109 {Γ : jX} {tg : Bool × rS} (N : Nat) (v0 : Nat) (v1 : Int32) (v2 : Int32) (v3 : Int32) (v5 : Int32) (v6 : Int32) (σ : rS) : J Γ rm5_unpack eZ cX5_unpack RX5 8 (some .boolean) tg 0 0 109 [(0, aR 8 v0), (1, aI v1), (2, aI v2), (3, aI v3), (5, aI v5), (6, aI v6)] [] σ (B5_unpack_109 N v0 v1 v2 v3 v5 v6 σ) := by
  unfold B5_unpack_109
  refine j_aload_n (pc := 109) 0 dX5_unpack_109 rfl rfl ?_
  refine j_iload_n (pc := 110) 3 dX5_unpack_110 rfl rfl ?_
  refine j_callVV (pc := 111) (As := [aI v3]) (st := []) (fun l => c5_undoSteps l N v0 v3) cs_RX5_89 rfl rfl rfl rfl (Nat.le_of_ble_eq_true rfl) ⟨(Nat.le_of_ble_eq_true rfl), (Nat.le_of_ble_eq_true rfl)⟩ ⟨(Nat.le_of_ble_eq_true rfl), (Nat.le_of_ble_eq_true rfl)⟩ dX5_unpack_111 (fun r1 σ2 => ?_)
  exact jb5_unpack_114 N  v0 v1 v2 v3 v5 v6 σ2
set_option maxRecDepth 20000 in
set_option maxHeartbeats 4000000 in
theorem jb5_unpack_94 {Γ : jX} {tg : Bool × rS} (N : Nat) (v0 : Nat) (v1 : Int32) (v2 : Int32) (v3 : Int32) (v5 : Int32) (v6 : Int32) (σ : rS) : J Γ rm5_unpack eZ cX5_unpack RX5 8 (some .boolean) tg 0 0 94 [(0, aR 8 v0), (1, aI v1), (2, aI v2), (3, aI v3), (5, aI v5), (6, aI v6)] [] σ (B5_unpack_94 N v0 v1 v2 v3 v5 v6 σ) := by
  unfold B5_unpack_94
  refine j_iload_n (pc := 94) 1 dX5_unpack_94 rfl rfl ?_
  refine j_iconst (pc := 95) (v := 1) (by decide) dX5_unpack_95 ?_
  refine j_icmpeq (pc := 96) (tgt := 109) dX5_unpack_96 rfl (fun _ => ?_) (fun _ => ?_)
  · exact jb5_unpack_109 N  v0 v1 v2 v3 v5 v6 σ
  · refine j_iload_n (pc := 99) 1 dX5_unpack_99 rfl rfl ?_
    refine j_iconst (pc := 100) (v := 2) (by decide) dX5_unpack_100 ?_
    refine j_icmpeq (pc := 101) (tgt := 109) dX5_unpack_101 rfl (fun _ => ?_) (fun _ => ?_)
    · exact jb5_unpack_109 N  v0 v1 v2 v3 v5 v6 σ
    · refine j_iload_n (pc := 104) 1 dX5_unpack_104 rfl rfl ?_
      refine j_iconst (pc := 105) (v := 4) (by decide) dX5_unpack_105 ?_
      refine j_icmpne (pc := 106) (tgt := 114) dX5_unpack_106 rfl (fun _ => ?_) (fun _ => ?_)
      · exact jb5_unpack_114 N  v0 v1 v2 v3 v5 v6 σ
      · exact jb5_unpack_109 N  v0 v1 v2 v3 v5 v6 σ
set_option maxRecDepth 20000 in
set_option maxHeartbeats 4000000 in
theorem jb5_unpack_71 {Γ : jX} {tg : Bool × rS} (N : Nat) (K71 : Nat → Int32 → Int32 → Int32 → Int32 → Int32 → Int32 → rS → Option (Bool × rS)) (hK71 : ∀ (v0 : Nat) (v1 : Int32) (v2 : Int32) (v3 : Int32) (v5 : Int32) (v6 : Int32) (v7 : Int32) (σ : rS), J Γ rm5_unpack eZ cX5_unpack RX5 8 (some .boolean) tg 0 0 71 [(0, aR 8 v0), (1, aI v1), (2, aI v2), (3, aI v3), (5, aI v5), (6, aI v6), (7, aI v7)] [] σ (K71 v0 v1 v2 v3 v5 v6 v7 σ)) (v0 : Nat) (v1 : Int32) (v2 : Int32) (v3 : Int32) (v5 : Int32) (v6 : Int32) (v7 : Int32) (σ : rS) : J Γ rm5_unpack eZ cX5_unpack RX5 8 (some .boolean) tg 0 0 71 [(0, aR 8 v0), (1, aI v1), (2, aI v2), (3, aI v3), (5, aI v5), (6, aI v6), (7, aI v7)] [] σ (B5_unpack_71 N K71 v0 v1 v2 v3 v5 v6 v7 σ) := by
  unfold B5_unpack_71
  refine j_iload (pc := 71) 6 dX5_unpack_71 rfl ?_
  refine j_iload_n (pc := 73) 3 dX5_unpack_73 rfl rfl ?_
  refine j_icmpge (pc := 74) (tgt := 94) dX5_unpack_74 rfl (fun _ => ?_) (fun _ => ?_)
  · refine j_sub [0, 1, 2, 3, 4, 5] (lv' := [(0, aR 8 v0), (1, aI v1), (2, aI v2), (3, aI v3), (5, aI v5), (6, aI v6)]) rfl ?_
    exact jb5_unpack_94 N  v0 v1 v2 v3 v5 v6 σ
  · refine j_aload_n (pc := 77) 0 dX5_unpack_77 rfl rfl ?_
    refine j_getF (pc := 78) fd_8_2 tw_1_64 dX5_unpack_78 ?_
    refine j_iload (pc := 81) 6 dX5_unpack_81 rfl ?_
    refine j_aload_n (pc := 83) 0 dX5_unpack_83 rfl rfl ?_
    refine j_callVL (pc := 84) (As := []) (st := [aI v7, aR 10 v0]) (fun l => c5_openPlain l N v0) cs_RX5_85 rfl rfl rfl rfl (Nat.le_of_ble_eq_true rfl) ⟨(Nat.le_of_ble_eq_true rfl), (Nat.le_of_ble_eq_true rfl)⟩ ⟨(Nat.le_of_ble_eq_true rfl), (Nat.le_of_ble_eq_true rfl)⟩ dX5_unpack_84 (fun r1 σ2 => ?_)
    refine j_last (pc := 87) rfl rfl rfl dX5_unpack_87 (fun j3 => ?_)
    refine j_lets (fun σ4 => ?_)
    refine j_iinc (pc := 88) (w := 1) (lv' := [(7, aI (v7 + 1)), (0, aR 8 v0), (1, aI v1), (2, aI v2), (3, aI v3), (5, aI v5), (6, aI v6)]) 6 dX5_unpack_88 rfl (by decide) (Nat.le_of_ble_eq_true rfl) rfl ?_
    refine j_goto (pc := 91) (tgt := 71) dX5_unpack_91 rfl ?_
    refine j_sub [1, 2, 3, 4, 5, 6, 0] (lv' := [(0, aR 8 v0), (1, aI v1), (2, aI v2), (3, aI v3), (5, aI v5), (6, aI v6), (7, aI (v7 + 1))]) rfl ?_
    exact hK71 v0 v1 v2 v3 v5 v6 (v7 + 1) σ4
theorem jl5_unpack_71 {Γ : jX} {tg : Bool × rS} (N : Nat) : ∀ (n : Nat) (v0 : Nat) (v1 : Int32) (v2 : Int32) (v3 : Int32) (v5 : Int32) (v6 : Int32) (v7 : Int32) (σ : rS), J Γ rm5_unpack eZ cX5_unpack RX5 8 (some .boolean) tg 0 0 71 [(0, aR 8 v0), (1, aI v1), (2, aI v2), (3, aI v3), (5, aI v5), (6, aI v6), (7, aI v7)] [] σ (L5_unpack_71 N n v0 v1 v2 v3 v5 v6 v7 σ) := by
  intro n
  induction n with
  | zero => intro v0 v1 v2 v3 v5 v6 v7 σ; exact j_none
  | succ n ih => intro v0 v1 v2 v3 v5 v6 v7 σ; exact jb5_unpack_71 N (L5_unpack_71 N n) ih v0 v1 v2 v3 v5 v6 v7 σ
set_option maxRecDepth 20000 in
set_option maxHeartbeats 4000000 in
theorem j5_unpack {Γ : jX} {tg : Bool × rS} (N : Nat) (v0 : Nat) (v1 : Int32) (v2 : Int32) (v3 : Int32) (v4 : Nat) (v5 : Int32) (v6 : Int32) (σ : rS) : J Γ rm5_unpack eZ cX5_unpack RX5 8 (some .boolean) tg 0 0 0 [(0, aR 8 v0), (1, aI v1), (2, aI v2), (3, aI v3), (4, aR 15 v4), (5, aI v5), (6, aI v6)] [] σ (f5_unpack N v0 v1 v2 v3 v4 v5 v6 σ) := by
  unfold f5_unpack
  refine j_aload_n (pc := 0) 0 dX5_unpack_0 rfl rfl ?_
  refine j_aload (pc := 1) 4 dX5_unpack_1 rfl ?_
  refine j_putR (pc := 3) fd_8_4 tw_1_67 dX5_unpack_3 ?_
  refine j_lets (fun σ1 => ?_)
  refine j_aload_n (pc := 6) 0 dX5_unpack_6 rfl rfl ?_
  refine j_iload (pc := 7) 5 dX5_unpack_7 rfl ?_
  refine j_putI (pc := 9) fd_8_5 rfl rfl tw_1_68 dX5_unpack_9 ?_
  refine j_lets (fun σ2 => ?_)
  refine j_aload_n (pc := 12) 0 dX5_unpack_12 rfl rfl ?_
  refine j_iload (pc := 13) 6 dX5_unpack_13 rfl ?_
  refine j_putI (pc := 15) fd_8_6 rfl rfl tw_1_69 dX5_unpack_15 ?_
  refine j_lets (fun σ3 => ?_)
  refine j_aload_n (pc := 18) 0 dX5_unpack_18 rfl rfl ?_
  refine j_iconst (pc := 19) (v := 0) (by decide) dX5_unpack_19 ?_
  refine j_putI (pc := 20) fd_8_7 rfl rfl tw_1_70 dX5_unpack_20 ?_
  refine j_lets (fun σ4 => ?_)
  refine j_iload_n (pc := 23) 1 dX5_unpack_23 rfl rfl ?_
  refine j_case 3 (fun h0 => ?_) (fun h0 => ?_)
  · refine j_lookup (pc := 24) (off := 28) (tgt := 52) dX5_unpack_24 (by decide) (by rw [h0]; decide) rfl ?_
    refine j_aload_n (pc := 52) 0 dX5_unpack_52 rfl rfl ?_
    refine j_iload_n (pc := 53) 3 dX5_unpack_53 rfl rfl ?_
    refine j_callVV (pc := 54) (As := [aI v3]) (st := []) (fun l => c5_openRuns l N v0 v3) cs_RX5_79 rfl rfl rfl rfl (Nat.le_of_ble_eq_true rfl) ⟨(Nat.le_of_ble_eq_true rfl), (Nat.le_of_ble_eq_true rfl)⟩ ⟨(Nat.le_of_ble_eq_true rfl), (Nat.le_of_ble_eq_true rfl)⟩ dX5_unpack_54 (fun r5 σ6 => ?_)
    refine j_goto (pc := 57) (tgt := 94) dX5_unpack_57 rfl ?_
    refine j_sub [0, 1, 2, 3, 5, 6] (lv' := [(0, aR 8 v0), (1, aI v1), (2, aI v2), (3, aI v3), (5, aI v5), (6, aI v6)]) rfl ?_
    exact jb5_unpack_94 N  v0 v1 v2 v3 v5 v6 σ6
  · refine j_case 4 (fun h1 => ?_) (fun h1 => ?_)
    · refine j_lookup (pc := 24) (off := 36) (tgt := 60) dX5_unpack_24 (by decide) (by rw [h1]; decide) rfl ?_
      refine j_aload_n (pc := 60) 0 dX5_unpack_60 rfl rfl ?_
      refine j_iload_n (pc := 61) 3 dX5_unpack_61 rfl rfl ?_
      refine j_callVV (pc := 62) (As := [aI v3]) (st := []) (fun l => c5_openWide l N v0 v3) cs_RX5_82 rfl rfl rfl rfl (Nat.le_of_ble_eq_true rfl) ⟨(Nat.le_of_ble_eq_true rfl), (Nat.le_of_ble_eq_true rfl)⟩ ⟨(Nat.le_of_ble_eq_true rfl), (Nat.le_of_ble_eq_true rfl)⟩ dX5_unpack_62 (fun r7 σ8 => ?_)
      refine j_goto (pc := 65) (tgt := 94) dX5_unpack_65 rfl ?_
      refine j_sub [0, 1, 2, 3, 5, 6] (lv' := [(0, aR 8 v0), (1, aI v1), (2, aI v2), (3, aI v3), (5, aI v5), (6, aI v6)]) rfl ?_
      exact jb5_unpack_94 N  v0 v1 v2 v3 v5 v6 σ8
    · refine j_lookup (pc := 24) (off := 44) (tgt := 68) dX5_unpack_24 (by decide) (by show Op.lookupswitch.offset [(3, 28), (4, 36)] 44 v1.toInt = 44; rw [lv_osw h0 (show ((3 : Int32)).toInt = 3 by decide), lv_osw h1 (show ((4 : Int32)).toInt = 4 by decide)]; rfl) rfl ?_
      refine j_iconst (pc := 68) (v := 0) (by decide) dX5_unpack_68 ?_
      refine j_istore (pc := 69) (lv' := [(7, aI 0), (0, aR 8 v0), (1, aI v1), (2, aI v2), (3, aI v3), (4, aR 15 v4), (5, aI v5), (6, aI v6)]) dX5_unpack_69 (Nat.le_of_ble_eq_true rfl) rfl ?_
      refine j_sub [0, 1, 2, 3, 4, 6, 7] (lv' := [(7, aI 0), (0, aR 8 v0), (1, aI v1), (2, aI v2), (3, aI v3), (5, aI v5), (6, aI v6)]) rfl ?_
      refine j_sub [1, 2, 3, 4, 5, 6, 0] (lv' := [(0, aR 8 v0), (1, aI v1), (2, aI v2), (3, aI v3), (5, aI v5), (6, aI v6), (7, aI 0)]) rfl ?_
      exact jl5_unpack_71 N  N v0 v1 v2 v3 v5 v6 0 σ4
theorem c5_unpack (l : Launch) (N : Nat) (v0 : Nat) (v1 : Int32) (v2 : Int32) (v3 : Int32) (v4 : Nat) (v5 : Int32) (v6 : Int32) : Ctr l yX5_unpack cX5_unpack 8 (some .boolean) rm5_unpack eZ [aR 8 v0, aI v1, aI v2, aI v3, aR 15 v4, aI v5, aI v6] (f5_unpack N v0 v1 v2 v3 v4 v5 v6) := ctr_of (lv := [(0, aR 8 v0), (1, aI v1), (2, aI v2), (3, aI v3), (4, aR 15 v4), (5, aI v5), (6, aI v6)]) (by decide +kernel) (fun _ => rfl) (fun _ => (Nat.le_of_ble_eq_true rfl)) (fun _ h => lvl_als h rfl) (fun _ σ _ => j5_unpack N v0 v1 v2 v3 v4 v5 v6 σ)
theorem cs_RX9_33 : CaV RX9 RX9 33 yX9_byteAt cX9_byteAt 2 (some .int) 1 := ⟨tw_3_33, tw_3_9, tw_3_10, tw_1_14, tw_3_11, rfl, by decide +kernel, by decide +kernel, by decide +kernel⟩
abbrev rm9_pairAt : Room := { frames := 2, cells := 0, slots := 0, locals := 42 }
set_option maxRecDepth 20000 in
set_option maxHeartbeats 4000000 in
theorem j9_pairAt {Γ : jX} {tg : Int32 × rS} (v0 : Nat) (v1 : Int32) (σ : rS) : J Γ rm9_pairAt eI cX9_pairAt RX9 2 (some .int) tg 0 0 0 [(0, aR 15 v0), (1, aI v1)] [] σ (f9_pairAt v0 v1 σ) := by
  unfold f9_pairAt
  refine j_aload_n (pc := 0) 0 dX9_pairAt_0 rfl rfl ?_
  refine j_iload_n (pc := 1) 1 dX9_pairAt_1 rfl rfl ?_
  refine j_callVI (pc := 2) (As := [aI v1]) (st := []) (fun l => c9_byteAt l v0 v1) cs_RX9_33 rfl rfl rfl rfl (Nat.le_of_ble_eq_true rfl) ⟨(Nat.le_of_ble_eq_true rfl), (Nat.le_of_ble_eq_true rfl)⟩ ⟨(Nat.le_of_ble_eq_true rfl), (Nat.le_of_ble_eq_true rfl)⟩ dX9_pairAt_2 (fun r1 σ2 => ?_)
  refine j_aload_n (pc := 5) 0 dX9_pairAt_5 rfl rfl ?_
  refine j_iload_n (pc := 6) 1 dX9_pairAt_6 rfl rfl ?_
  refine j_iconst (pc := 7) (v := 1) (by decide) dX9_pairAt_7 ?_
  refine j_iadd (pc := 8) dX9_pairAt_8 ?_
  refine j_callVI (pc := 9) (As := [aI (v1 + 1)]) (st := [aI r1]) (fun l => c9_byteAt l v0 (v1 + 1)) cs_RX9_33 rfl rfl rfl rfl (Nat.le_of_ble_eq_true rfl) ⟨(Nat.le_of_ble_eq_true rfl), (Nat.le_of_ble_eq_true rfl)⟩ ⟨(Nat.le_of_ble_eq_true rfl), (Nat.le_of_ble_eq_true rfl)⟩ dX9_pairAt_9 (fun r3 σ4 => ?_)
  refine j_bipush (pc := 12) (v := 8) (by decide) dX9_pairAt_12 ?_
  refine j_ishl (pc := 14) dX9_pairAt_14 ?_
  refine j_iadd (pc := 15) dX9_pairAt_15 ?_
  exact j_ireturn (pc := 16) rfl (Nat.le_of_ble_eq_true rfl) (Nat.le_of_ble_eq_true rfl) dX9_pairAt_16
theorem c9_pairAt (l : Launch) (v0 : Nat) (v1 : Int32) : Ctr l yX9_pairAt cX9_pairAt 2 (some .int) rm9_pairAt eI [aR 15 v0, aI v1] (f9_pairAt v0 v1) := ctr_of (lv := [(0, aR 15 v0), (1, aI v1)]) (by decide +kernel) (fun _ => rfl) (fun _ => (Nat.le_of_ble_eq_true rfl)) (fun _ h => lvl_als h rfl) (fun _ σ _ => j9_pairAt v0 v1 σ)
theorem cs_RX6_15 : CaV RX6 RX9 15 yX9_pairAt cX9_pairAt 2 (some .int) 1 := ⟨tw_3_29, tw_3_30, tw_3_31, tw_1_14, tw_3_32, rfl, by decide +kernel, by decide +kernel, by decide +kernel⟩
theorem cs_RX6_19 : CaV RX6 RX9 19 yX9_byteAt cX9_byteAt 2 (some .int) 1 := ⟨tw_3_34, tw_3_9, tw_3_10, tw_1_14, tw_3_11, rfl, by decide +kernel, by decide +kernel, by decide +kernel⟩
theorem cs_RX6_37 : CaV RX6 RX9 37 yX9_sum cX9_sum 5 (some .int) 2 := ⟨tw_3_37, tw_2_216, tw_2_217, tw_1_14, tw_2_218, rfl, by decide +kernel, by decide +kernel, by decide +kernel⟩
theorem cs_RX6_41 : CaV RX6 RX5 41 yX5_unpack cX5_unpack 8 (some .boolean) 6 := ⟨tw_3_38, tw_3_39, tw_3_40, tw_1_3, tw_3_41, rfl, by decide +kernel, by decide +kernel, by decide +kernel⟩
abbrev rm6_examine : Room := { frames := 6, cells := 0, slots := 0, locals := 140 }
set_option maxRecDepth 20000 in
set_option maxHeartbeats 4000000 in
theorem j6_examine {Γ : jX} {tg : Int32 × rS} (N : Nat) (v0 : Nat) (v1 : Nat) (v2 : Nat) (v3 : Int32) (σ : rS) : J Γ rm6_examine eI cX6_examine RX6 9 (some .int) tg 0 0 0 [(0, aR 12 v0), (1, aR 8 v1), (2, aR 15 v2), (3, aI v3)] [] σ (f6_examine N v0 v1 v2 v3 σ) := by
  unfold f6_examine
  refine j_aload_n (pc := 0) 2 dX6_examine_0 rfl rfl ?_
  refine j_getI (pc := 1) fd_15_1 tw_2_139 dX6_examine_1 ?_
  refine j_iload_n (pc := 4) 3 dX6_examine_4 rfl rfl ?_
  refine j_isub (pc := 5) dX6_examine_5 ?_
  refine j_leti (fun x1 => ?_)
  refine j_istore (pc := 6) (lv' := [(4, aI x1), (0, aR 12 v0), (1, aR 8 v1), (2, aR 15 v2), (3, aI v3)]) dX6_examine_6 (Nat.le_of_ble_eq_true rfl) rfl ?_
  refine j_iload (pc := 8) 0 dX6_examine_8 rfl ?_
  refine j_ifne (pc := 10) (tgt := 16) dX6_examine_10 rfl (fun _ => ?_) (fun _ => ?_)
  · refine j_iload (pc := 16) 0 dX6_examine_16 rfl ?_
    refine j_bipush (pc := 18) (v := 7) (by decide) dX6_examine_18 ?_
    refine j_icmpge (pc := 20) (tgt := 26) dX6_examine_20 rfl (fun _ => ?_) (fun _ => ?_)
    · refine j_aload_n (pc := 26) 3 dX6_examine_26 rfl rfl ?_
      refine j_iload_n (pc := 27) 4 dX6_examine_27 rfl rfl ?_
      refine j_iconst (pc := 28) (v := 3) (by decide) dX6_examine_28 ?_
      refine j_iadd (pc := 29) dX6_examine_29 ?_
      refine j_callVI (pc := 30) (As := [aI (v3 + 3)]) (st := []) (fun l => c9_pairAt l v2 (v3 + 3)) cs_RX6_15 rfl rfl rfl rfl (Nat.le_of_ble_eq_true rfl) ⟨(Nat.le_of_ble_eq_true rfl), (Nat.le_of_ble_eq_true rfl)⟩ ⟨(Nat.le_of_ble_eq_true rfl), (Nat.le_of_ble_eq_true rfl)⟩ dX6_examine_30 (fun r2 σ3 => ?_)
      refine j_istore (pc := 33) (lv' := [(5, aI r2), (4, aI x1), (0, aR 12 v0), (1, aR 8 v1), (2, aR 15 v2), (3, aI v3)]) dX6_examine_33 (Nat.le_of_ble_eq_true rfl) rfl ?_
      refine j_iload (pc := 35) 1 dX6_examine_35 rfl ?_
      refine j_bipush (pc := 37) (v := 7) (by decide) dX6_examine_37 ?_
      refine j_iload (pc := 39) 0 dX6_examine_39 rfl ?_
      refine j_iadd (pc := 41) dX6_examine_41 ?_
      refine j_icmpge (pc := 42) (tgt := 48) dX6_examine_42 rfl (fun _ => ?_) (fun _ => ?_)
      · refine j_aload_n (pc := 48) 4 dX6_examine_48 rfl rfl ?_
        refine j_iload_n (pc := 49) 5 dX6_examine_49 rfl rfl ?_
        refine j_callVI (pc := 50) (As := [aI v3]) (st := []) (fun l => c9_byteAt l v2 v3) cs_RX6_19 rfl rfl rfl rfl (Nat.le_of_ble_eq_true rfl) ⟨(Nat.le_of_ble_eq_true rfl), (Nat.le_of_ble_eq_true rfl)⟩ ⟨(Nat.le_of_ble_eq_true rfl), (Nat.le_of_ble_eq_true rfl)⟩ dX6_examine_50 (fun r4 σ5 => ?_)
        refine j_sipush (pc := 53) (v := 160) (by decide) dX6_examine_53 ?_
        refine j_isub (pc := 56) dX6_examine_56 ?_
        refine j_leti (fun x6 => ?_)
        refine j_istore (pc := 57) (lv' := [(6, aI x6), (5, aI r2), (4, aI x1), (0, aR 12 v0), (1, aR 8 v1), (2, aR 15 v2), (3, aI v3)]) dX6_examine_57 (Nat.le_of_ble_eq_true rfl) rfl ?_
        refine j_sub [0, 1, 3, 4, 5, 6] (lv' := [(6, aI x6), (5, aI r2), (0, aR 12 v0), (1, aR 8 v1), (2, aR 15 v2), (3, aI v3)]) rfl ?_
        refine j_aload_n (pc := 59) 2 dX6_examine_59 rfl rfl ?_
        refine j_aload_n (pc := 60) 4 dX6_examine_60 rfl rfl ?_
        refine j_iload_n (pc := 61) 5 dX6_examine_61 rfl rfl ?_
        refine j_iconst (pc := 62) (v := 1) (by decide) dX6_examine_62 ?_
        refine j_iadd (pc := 63) dX6_examine_63 ?_
        refine j_callVI (pc := 64) (As := [aI (v3 + 1)]) (st := [aR 12 v0]) (fun l => c9_byteAt l v2 (v3 + 1)) cs_RX6_19 rfl rfl rfl rfl (Nat.le_of_ble_eq_true rfl) ⟨(Nat.le_of_ble_eq_true rfl), (Nat.le_of_ble_eq_true rfl)⟩ ⟨(Nat.le_of_ble_eq_true rfl), (Nat.le_of_ble_eq_true rfl)⟩ dX6_examine_64 (fun r7 σ8 => ?_)
        refine j_putI (pc := 67) fd_12_0 rfl rfl tw_1_96 dX6_examine_67 ?_
        refine j_lets (fun σ9 => ?_)
        refine j_aload_n (pc := 70) 2 dX6_examine_70 rfl rfl ?_
        refine j_aload_n (pc := 71) 4 dX6_examine_71 rfl rfl ?_
        refine j_iload_n (pc := 72) 5 dX6_examine_72 rfl rfl ?_
        refine j_iconst (pc := 73) (v := 2) (by decide) dX6_examine_73 ?_
        refine j_iadd (pc := 74) dX6_examine_74 ?_
        refine j_callVI (pc := 75) (As := [aI (v3 + 2)]) (st := [aR 12 v0]) (fun l => c9_byteAt l v2 (v3 + 2)) cs_RX6_19 rfl rfl rfl rfl (Nat.le_of_ble_eq_true rfl) ⟨(Nat.le_of_ble_eq_true rfl), (Nat.le_of_ble_eq_true rfl)⟩ ⟨(Nat.le_of_ble_eq_true rfl), (Nat.le_of_ble_eq_true rfl)⟩ dX6_examine_75 (fun r10 σ11 => ?_)
        refine j_putI (pc := 78) fd_12_1 rfl rfl tw_1_98 dX6_examine_78 ?_
        refine j_lets (fun σ12 => ?_)
        refine j_iload (pc := 81) 0 dX6_examine_81 rfl ?_
        refine j_callNZ (pc := 83) (n := 1) (As := [aI x6]) (st := []) (fun l => c10_isCoder l x6) (fun _ _ _ h => h.2.2.2.2.2.2.1) tw_2_163 tw_1_1 tw_2_164 ⟨by decide +kernel, by decide +kernel, by decide +kernel⟩ rfl rfl (Nat.le_of_ble_eq_true rfl) ⟨(Nat.le_of_ble_eq_true rfl), (Nat.le_of_ble_eq_true rfl)⟩ ⟨(Nat.le_of_ble_eq_true rfl), (Nat.le_of_ble_eq_true rfl)⟩ dX6_examine_83 (fun r13 σ14 => ?_)
        refine j_ifeqB (pc := 86) (tgt := 108) dX6_examine_86 rfl (fun _ => ?_) (fun _ => ?_)
        · refine j_bipush (pc := 108) (v := 8) (by decide) dX6_examine_108 ?_
          exact j_ireturn (pc := 110) rfl (Nat.le_of_ble_eq_true rfl) (Nat.le_of_ble_eq_true rfl) dX6_examine_110
        · refine j_aload_n (pc := 89) 2 dX6_examine_89 rfl rfl ?_
          refine j_getI (pc := 90) fd_12_0 tw_1_96 dX6_examine_90 ?_
          refine j_callNZ (pc := 93) (n := 1) (As := [aI (gI σ14 12 v0 0)]) (st := []) (fun l => c10_isKind l (gI σ14 12 v0 0)) (fun _ _ _ h => h.2.2.2.2.2.2.2.1) tw_1_158 tw_1_1 tw_1_159 ⟨by decide +kernel, by decide +kernel, by decide +kernel⟩ rfl rfl (Nat.le_of_ble_eq_true rfl) ⟨(Nat.le_of_ble_eq_true rfl), (Nat.le_of_ble_eq_true rfl)⟩ ⟨(Nat.le_of_ble_eq_true rfl), (Nat.le_of_ble_eq_true rfl)⟩ dX6_examine_93 (fun r15 σ16 => ?_)
          refine j_ifeqB (pc := 96) (tgt := 108) dX6_examine_96 rfl (fun _ => ?_) (fun _ => ?_)
          · refine j_bipush (pc := 108) (v := 8) (by decide) dX6_examine_108 ?_
            exact j_ireturn (pc := 110) rfl (Nat.le_of_ble_eq_true rfl) (Nat.le_of_ble_eq_true rfl) dX6_examine_110
          · refine j_aload_n (pc := 99) 2 dX6_examine_99 rfl rfl ?_
            refine j_getI (pc := 100) fd_12_1 tw_1_98 dX6_examine_100 ?_
            refine j_bipush (pc := 103) (v := 24) (by decide) dX6_examine_103 ?_
            refine j_icmple (pc := 105) (tgt := 111) dX6_examine_105 rfl (fun _ => ?_) (fun _ => ?_)
            · refine j_iload_n (pc := 111) 5 dX6_examine_111 rfl rfl ?_
              refine j_iconst (pc := 112) (v := 5) (by decide) dX6_examine_112 ?_
              refine j_iadd (pc := 113) dX6_examine_113 ?_
              refine j_leti (fun x17 => ?_)
              refine j_istore (pc := 114) (lv' := [(7, aI x17), (6, aI x6), (5, aI r2), (0, aR 12 v0), (1, aR 8 v1), (2, aR 15 v2), (3, aI v3)]) dX6_examine_114 (Nat.le_of_ble_eq_true rfl) rfl ?_
              refine j_iload (pc := 116) 0 dX6_examine_116 rfl ?_
              refine j_iload (pc := 118) 2 dX6_examine_118 rfl ?_
              refine j_iadd (pc := 120) dX6_examine_120 ?_
              refine j_leti (fun x18 => ?_)
              refine j_istore (pc := 121) (lv' := [(8, aI x18), (7, aI x17), (6, aI x6), (5, aI r2), (0, aR 12 v0), (1, aR 8 v1), (2, aR 15 v2), (3, aI v3)]) dX6_examine_121 (Nat.le_of_ble_eq_true rfl) rfl ?_
              refine j_aload_n (pc := 123) 6 dX6_examine_123 rfl rfl ?_
              refine j_iload_n (pc := 124) 7 dX6_examine_124 rfl rfl ?_
              refine j_iload (pc := 125) 0 dX6_examine_125 rfl ?_
              refine j_callVI (pc := 127) (As := [aI v3, aI x18]) (st := []) (fun l => c9_sum l N v2 v3 x18) cs_RX6_37 rfl rfl rfl rfl (Nat.le_of_ble_eq_true rfl) ⟨(Nat.le_of_ble_eq_true rfl), (Nat.le_of_ble_eq_true rfl)⟩ ⟨(Nat.le_of_ble_eq_true rfl), (Nat.le_of_ble_eq_true rfl)⟩ dX6_examine_127 (fun r19 σ20 => ?_)
              refine j_aload_n (pc := 130) 6 dX6_examine_130 rfl rfl ?_
              refine j_iload (pc := 131) 0 dX6_examine_131 rfl ?_
              refine j_callVI (pc := 133) (As := [aI x18]) (st := [aI r19]) (fun l => c9_pairAt l v2 x18) cs_RX6_15 rfl rfl rfl rfl (Nat.le_of_ble_eq_true rfl) ⟨(Nat.le_of_ble_eq_true rfl), (Nat.le_of_ble_eq_true rfl)⟩ ⟨(Nat.le_of_ble_eq_true rfl), (Nat.le_of_ble_eq_true rfl)⟩ dX6_examine_133 (fun r21 σ22 => ?_)
              refine j_icmpeq (pc := 136) (tgt := 142) dX6_examine_136 rfl (fun _ => ?_) (fun _ => ?_)
              · refine j_aload_n (pc := 142) 5 dX6_examine_142 rfl rfl ?_
                refine j_iload (pc := 143) 2 dX6_examine_143 rfl ?_
                refine j_aload_n (pc := 145) 4 dX6_examine_145 rfl rfl ?_
                refine j_getI (pc := 146) fd_12_0 tw_1_96 dX6_examine_146 ?_
                refine j_aload_n (pc := 149) 4 dX6_examine_149 rfl rfl ?_
                refine j_getI (pc := 150) fd_12_1 tw_1_98 dX6_examine_150 ?_
                refine j_aload_n (pc := 153) 6 dX6_examine_153 rfl rfl ?_
                refine j_iload (pc := 154) 1 dX6_examine_154 rfl ?_
                refine j_iload (pc := 156) 0 dX6_examine_156 rfl ?_
                refine j_callVZ (pc := 158) (As := [aI x6, aI (gI σ22 12 v0 0), aI (gI σ22 12 v0 1), aR 15 v2, aI x17, aI x18]) (st := []) (fun l => c5_unpack l N v1 x6 (gI σ22 12 v0 0) (gI σ22 12 v0 1) v2 x17 x18) cs_RX6_41 rfl rfl rfl rfl (Nat.le_of_ble_eq_true rfl) ⟨(Nat.le_of_ble_eq_true rfl), (Nat.le_of_ble_eq_true rfl)⟩ ⟨(Nat.le_of_ble_eq_true rfl), (Nat.le_of_ble_eq_true rfl)⟩ dX6_examine_158 (fun r23 σ24 => ?_)
                refine j_ifneB (pc := 161) (tgt := 167) dX6_examine_161 rfl (fun _ => ?_) (fun _ => ?_)
                · refine j_aload_n (pc := 167) 4 dX6_examine_167 rfl rfl ?_
                  refine j_iload_n (pc := 168) 7 dX6_examine_168 rfl rfl ?_
                  refine j_bipush (pc := 169) (v := 7) (by decide) dX6_examine_169 ?_
                  refine j_iadd (pc := 171) dX6_examine_171 ?_
                  refine j_iload (pc := 172) 3 dX6_examine_172 rfl ?_
                  refine j_iadd (pc := 174) dX6_examine_174 ?_
                  refine j_putI (pc := 175) fd_12_2 rfl rfl tw_1_100 dX6_examine_175 ?_
                  refine j_lets (fun σ25 => ?_)
                  refine j_iconst (pc := 178) (v := 0) (by decide) dX6_examine_178 ?_
                  exact j_ireturn (pc := 179) rfl (Nat.le_of_ble_eq_true rfl) (Nat.le_of_ble_eq_true rfl) dX6_examine_179
                · refine j_bipush (pc := 164) (v := 8) (by decide) dX6_examine_164 ?_
                  exact j_ireturn (pc := 166) rfl (Nat.le_of_ble_eq_true rfl) (Nat.le_of_ble_eq_true rfl) dX6_examine_166
              · refine j_bipush (pc := 139) (v := 8) (by decide) dX6_examine_139 ?_
                exact j_ireturn (pc := 141) rfl (Nat.le_of_ble_eq_true rfl) (Nat.le_of_ble_eq_true rfl) dX6_examine_141
            · refine j_bipush (pc := 108) (v := 8) (by decide) dX6_examine_108 ?_
              exact j_ireturn (pc := 110) rfl (Nat.le_of_ble_eq_true rfl) (Nat.le_of_ble_eq_true rfl) dX6_examine_110
      · refine j_bipush (pc := 45) (v := 7) (by decide) dX6_examine_45 ?_
        exact j_ireturn (pc := 47) rfl (Nat.le_of_ble_eq_true rfl) (Nat.le_of_ble_eq_true rfl) dX6_examine_47
    · refine j_bipush (pc := 23) (v := 7) (by decide) dX6_examine_23 ?_
      exact j_ireturn (pc := 25) rfl (Nat.le_of_ble_eq_true rfl) (Nat.le_of_ble_eq_true rfl) dX6_examine_25
  · refine j_bipush (pc := 13) (v := 6) (by decide) dX6_examine_13 ?_
    exact j_ireturn (pc := 15) rfl (Nat.le_of_ble_eq_true rfl) (Nat.le_of_ble_eq_true rfl) dX6_examine_15
theorem c6_examine (l : Launch) (N : Nat) (v0 : Nat) (v1 : Nat) (v2 : Nat) (v3 : Int32) : Ctr l yX6_examine cX6_examine 9 (some .int) rm6_examine eI [aR 12 v0, aR 8 v1, aR 15 v2, aI v3] (f6_examine N v0 v1 v2 v3) := ctr_of (lv := [(0, aR 12 v0), (1, aR 8 v1), (2, aR 15 v2), (3, aI v3)]) (by decide +kernel) (fun _ => rfl) (fun _ => (Nat.le_of_ble_eq_true rfl)) (fun _ h => lvl_als h rfl) (fun _ σ _ => j6_examine N v0 v1 v2 v3 σ)
theorem cs_RX10_185 : CaV RX10 RX6 185 yX6_examine cX6_examine 9 (some .int) 3 := ⟨tw_3_25, tw_3_26, tw_3_27, tw_1_4, tw_3_28, rfl, by decide +kernel, by decide +kernel, by decide +kernel⟩
abbrev rm10_pieces : Room := { frames := 7, cells := 0, slots := 0, locals := 168 }
set_option maxRecDepth 20000 in
set_option maxHeartbeats 4000000 in
theorem jb10_pieces_18 {Γ : jX} {tg : Int32 × rS} (N : Nat) (K18 : Nat → Nat → Int32 → Int32 → rS → Option (Int32 × rS)) (hK18 : ∀ (v0 : Nat) (v2 : Nat) (v3 : Int32) (v4 : Int32) (σ : rS), J Γ rm10_pieces eI cX10_pieces RX10 5 (some .int) tg 0 0 18 [(0, aR 0 v0), (2, aR 15 v2), (3, aI v3), (4, aI v4)] [] σ (K18 v0 v2 v3 v4 σ)) (v0 : Nat) (v2 : Nat) (v3 : Int32) (v4 : Int32) (σ : rS) : J Γ rm10_pieces eI cX10_pieces RX10 5 (some .int) tg 0 0 18 [(0, aR 0 v0), (2, aR 15 v2), (3, aI v3), (4, aI v4)] [] σ (B10_pieces_18 N K18 v0 v2 v3 v4 σ) := by
  unfold B10_pieces_18
  refine j_iload_n (pc := 18) 2 dX10_pieces_18 rfl rfl ?_
  refine j_sipush (pc := 19) (v := 400) (by decide) dX10_pieces_19 ?_
  refine j_icmpge (pc := 22) (tgt := 57) dX10_pieces_22 rfl (fun _ => ?_) (fun _ => ?_)
  · refine j_iload_n (pc := 57) 2 dX10_pieces_57 rfl rfl ?_
    exact j_ireturn (pc := 58) rfl (Nat.le_of_ble_eq_true rfl) (Nat.le_of_ble_eq_true rfl) dX10_pieces_58
  · refine j_aload_n (pc := 25) 0 dX10_pieces_25 rfl rfl ?_
    refine j_getF (pc := 26) fd_0_6 tw_1_115 dX10_pieces_26 ?_
    refine j_aload_n (pc := 29) 0 dX10_pieces_29 rfl rfl ?_
    refine j_getF (pc := 30) fd_0_5 tw_1_114 dX10_pieces_30 ?_
    refine j_aload_n (pc := 33) 1 dX10_pieces_33 rfl rfl ?_
    refine j_iload (pc := 34) 3 dX10_pieces_34 rfl ?_
    refine j_callVI (pc := 36) (As := [aR 8 v0, aR 15 v2, aI v4]) (st := []) (fun l => c6_examine l N v0 v0 v2 v4) cs_RX10_185 rfl rfl rfl rfl (Nat.le_of_ble_eq_true rfl) ⟨(Nat.le_of_ble_eq_true rfl), (Nat.le_of_ble_eq_true rfl)⟩ ⟨(Nat.le_of_ble_eq_true rfl), (Nat.le_of_ble_eq_true rfl)⟩ dX10_pieces_36 (fun r1 σ2 => ?_)
    refine j_ifne (pc := 39) (tgt := 57) dX10_pieces_39 rfl (fun _ => ?_) (fun _ => ?_)
    · refine j_iload_n (pc := 57) 2 dX10_pieces_57 rfl rfl ?_
      exact j_ireturn (pc := 58) rfl (Nat.le_of_ble_eq_true rfl) (Nat.le_of_ble_eq_true rfl) dX10_pieces_58
    · refine j_iinc (pc := 42) (w := 1) (lv' := [(3, aI (v3 + 1)), (0, aR 0 v0), (2, aR 15 v2), (4, aI v4)]) 2 dX10_pieces_42 rfl (by decide) (Nat.le_of_ble_eq_true rfl) rfl ?_
      refine j_aload_n (pc := 45) 1 dX10_pieces_45 rfl rfl ?_
      refine j_getF (pc := 46) fd_0_6 tw_1_115 dX10_pieces_46 ?_
      refine j_getI (pc := 49) fd_12_2 tw_1_101 dX10_pieces_49 ?_
      refine j_leti (fun x3 => ?_)
      refine j_istore (pc := 52) (lv' := [(4, aI x3), (3, aI (v3 + 1)), (0, aR 0 v0), (2, aR 15 v2)]) dX10_pieces_52 (Nat.le_of_ble_eq_true rfl) rfl ?_
      refine j_goto (pc := 54) (tgt := 18) dX10_pieces_54 rfl ?_
      refine j_sub [2, 3, 1, 0] (lv' := [(0, aR 0 v0), (2, aR 15 v2), (3, aI (v3 + 1)), (4, aI x3)]) rfl ?_
      exact hK18 v0 v2 (v3 + 1) x3 σ2
theorem jl10_pieces_18 {Γ : jX} {tg : Int32 × rS} (N : Nat) : ∀ (n : Nat) (v0 : Nat) (v2 : Nat) (v3 : Int32) (v4 : Int32) (σ : rS), J Γ rm10_pieces eI cX10_pieces RX10 5 (some .int) tg 0 0 18 [(0, aR 0 v0), (2, aR 15 v2), (3, aI v3), (4, aI v4)] [] σ (L10_pieces_18 N n v0 v2 v3 v4 σ) := by
  intro n
  induction n with
  | zero => intro v0 v2 v3 v4 σ; exact j_none
  | succ n ih => intro v0 v2 v3 v4 σ; exact jb10_pieces_18 N (L10_pieces_18 N n) ih v0 v2 v3 v4 σ
set_option maxRecDepth 20000 in
set_option maxHeartbeats 4000000 in
theorem j10_pieces {Γ : jX} {tg : Int32 × rS} (N : Nat) (v0 : Nat) (v1 : Int32) (σ : rS) : J Γ rm10_pieces eI cX10_pieces RX10 5 (some .int) tg 0 0 0 [(0, aR 0 v0), (1, aI v1)] [] σ (f10_pieces N v0 v1 σ) := by
  unfold f10_pieces
  refine j_aload_n (pc := 0) 0 dX10_pieces_0 rfl rfl ?_
  refine j_iload_n (pc := 1) 1 dX10_pieces_1 rfl rfl ?_
  refine j_callVR (pc := 2) (As := [aI v1]) (st := []) (fun l => c10_streamNumbered l v0 v1) cs_RX10_145 rfl rfl rfl rfl (Nat.le_of_ble_eq_true rfl) ⟨(Nat.le_of_ble_eq_true rfl), (Nat.le_of_ble_eq_true rfl)⟩ ⟨(Nat.le_of_ble_eq_true rfl), (Nat.le_of_ble_eq_true rfl)⟩ dX10_pieces_2 (fun r1 σ2 => ?_)
  refine j_astore_n (pc := 5) (lv' := [(2, aO 15 r1), (0, aR 0 v0), (1, aI v1)]) dX10_pieces_5 rfl (Nat.le_of_ble_eq_true rfl) rfl ?_
  refine j_sub [0, 1] (lv' := [(2, aO 15 r1), (0, aR 0 v0)]) rfl ?_
  refine j_aload_n (pc := 6) 0 dX10_pieces_6 rfl rfl ?_
  refine j_ifnonnull (pc := 7) (tgt := 13) dX10_pieces_7 rfl (fun hm => ?_) (fun i3 hm => ?_)
  · subst hm
    refine j_bipush (pc := 10) (v := (-101)) (by decide) dX10_pieces_10 ?_
    exact j_ireturn (pc := 12) rfl (Nat.le_of_ble_eq_true rfl) (Nat.le_of_ble_eq_true rfl) dX10_pieces_12
  · subst hm
    refine j_iconst (pc := 13) (v := 0) (by decide) dX10_pieces_13 ?_
    refine j_istore_n (pc := 14) (lv' := [(3, aI 0), (2, aR 15 i3), (0, aR 0 v0)]) dX10_pieces_14 rfl (Nat.le_of_ble_eq_true rfl) rfl ?_
    refine j_iconst (pc := 15) (v := 0) (by decide) dX10_pieces_15 ?_
    refine j_istore (pc := 16) (lv' := [(4, aI 0), (3, aI 0), (2, aR 15 i3), (0, aR 0 v0)]) dX10_pieces_16 (Nat.le_of_ble_eq_true rfl) rfl ?_
    refine j_sub [3, 2, 1, 0] (lv' := [(0, aR 0 v0), (2, aR 15 i3), (3, aI 0), (4, aI 0)]) rfl ?_
    exact jl10_pieces_18 N  N v0 i3 0 0 σ2
theorem c10_pieces (l : Launch) (N : Nat) (v0 : Nat) (v1 : Int32) : Ctr l yX10_pieces cX10_pieces 5 (some .int) rm10_pieces eI [aR 0 v0, aI v1] (f10_pieces N v0 v1) := ctr_of (lv := [(0, aR 0 v0), (1, aI v1)]) (by decide +kernel) (fun _ => rfl) (fun _ => (Nat.le_of_ble_eq_true rfl)) (fun _ h => lvl_als h rfl) (fun _ σ _ => j10_pieces N v0 v1 σ)
theorem cs_RX10_92 : CaS RX10 92 yX4_told cX4_told 3 (some .long) 2 := ⟨tw_1_209, tw_1_210, tw_1_7, tw_1_211, by decide +kernel, by decide +kernel, by decide +kernel⟩
abbrev rm10_put : Room := { frames := 3, cells := 0, slots := 0, locals := 66 }
set_option maxRecDepth 20000 in
set_option maxHeartbeats 4000000 in
theorem j10_put {Γ : jX} {tg : Int32 × rS} (v0 : Nat) (v1 : Int32) (v2 : Int32) (v3 : Int64) (σ : rS) : J Γ rm10_put eI cX10_put RX10 6 (some .int) tg 0 0 0 [(0, aR 0 v0), (1, aI v1), (2, aI v2), (3, aL v3)] [] σ (f10_put v0 v1 v2 v3 σ) := by
  unfold f10_put
  refine j_aload_n (pc := 0) 0 dX10_put_0 rfl rfl ?_
  refine j_iload_n (pc := 1) 1 dX10_put_1 rfl rfl ?_
  refine j_callVR (pc := 2) (As := [aI v1]) (st := []) (fun l => c10_rowNumbered l v0 v1) cs_RX10_74 rfl rfl rfl rfl (Nat.le_of_ble_eq_true rfl) ⟨(Nat.le_of_ble_eq_true rfl), (Nat.le_of_ble_eq_true rfl)⟩ ⟨(Nat.le_of_ble_eq_true rfl), (Nat.le_of_ble_eq_true rfl)⟩ dX10_put_2 (fun r1 σ2 => ?_)
  refine j_astore (pc := 5) (lv' := [(5, aO 13 r1), (0, aR 0 v0), (1, aI v1), (2, aI v2), (3, aL v3)]) dX10_put_5 (Nat.le_of_ble_eq_true rfl) rfl ?_
  refine j_sub [0, 1, 3, 4] (lv' := [(5, aO 13 r1), (0, aR 0 v0), (2, aI v2), (3, aL v3)]) rfl ?_
  refine j_aload (pc := 7) 0 dX10_put_7 rfl ?_
  refine j_ifnonnull (pc := 9) (tgt := 15) dX10_put_9 rfl (fun hm => ?_) (fun i3 hm => ?_)
  · subst hm
    refine j_bipush (pc := 12) (v := (-101)) (by decide) dX10_put_12 ?_
    exact j_ireturn (pc := 14) rfl (Nat.le_of_ble_eq_true rfl) (Nat.le_of_ble_eq_true rfl) dX10_put_14
  · subst hm
    refine j_aload (pc := 15) 0 dX10_put_15 rfl ?_
    refine j_getI (pc := 17) fd_13_2 tw_1_177 dX10_put_17 ?_
    refine j_ifeq (pc := 20) (tgt := 29) dX10_put_20 rfl (fun _ => ?_) (fun _ => ?_)
    · refine j_aload (pc := 29) 0 dX10_put_29 rfl ?_
      refine j_iload_n (pc := 31) 2 dX10_put_31 rfl rfl ?_
      refine j_callVZ (pc := 32) (As := [aI v2]) (st := []) (fun l => c7_has l i3 v2) cs_RX10_89 rfl rfl rfl rfl (Nat.le_of_ble_eq_true rfl) ⟨(Nat.le_of_ble_eq_true rfl), (Nat.le_of_ble_eq_true rfl)⟩ ⟨(Nat.le_of_ble_eq_true rfl), (Nat.le_of_ble_eq_true rfl)⟩ dX10_put_32 (fun r4 σ5 => ?_)
      refine j_ifneB (pc := 35) (tgt := 44) dX10_put_35 rfl (fun _ => ?_) (fun _ => ?_)
      · refine j_aload (pc := 44) 0 dX10_put_44 rfl ?_
        refine j_getF (pc := 46) fd_13_1 tw_1_176 dX10_put_46 ?_
        refine j_iload_n (pc := 49) 2 dX10_put_49 rfl rfl ?_
        refine j_aload (pc := 50) 0 dX10_put_50 rfl ?_
        refine j_getI (pc := 52) fd_13_0 tw_1_174 dX10_put_52 ?_
        refine j_lload_n (pc := 55) 3 dX10_put_55 rfl rfl ?_
        refine j_callSL (pc := 56) (As := [aI (gI σ5 13 i3 0), aL v3]) (st := [aI v2, aR 14 i3]) (fun l => c4_told l (gI σ5 13 i3 0) v3) cs_RX10_92 rfl rfl (Nat.le_of_ble_eq_true rfl) ⟨(Nat.le_of_ble_eq_true rfl), (Nat.le_of_ble_eq_true rfl)⟩ ⟨(Nat.le_of_ble_eq_true rfl), (Nat.le_of_ble_eq_true rfl)⟩ dX10_put_56 (fun r6 σ7 => ?_)
        refine j_last (pc := 59) rfl rfl rfl dX10_put_59 (fun j8 => ?_)
        refine j_lets (fun σ9 => ?_)
        refine j_iconst (pc := 60) (v := 0) (by decide) dX10_put_60 ?_
        exact j_ireturn (pc := 61) rfl (Nat.le_of_ble_eq_true rfl) (Nat.le_of_ble_eq_true rfl) dX10_put_61
      · refine j_aload_n (pc := 38) 1 dX10_put_38 rfl rfl ?_
        refine j_iconst (pc := 39) (v := 2) (by decide) dX10_put_39 ?_
        refine j_callVI (pc := 40) (As := [aI 2]) (st := []) (fun l => c10_found l v0 2) cs_RX10_66 rfl rfl rfl rfl (Nat.le_of_ble_eq_true rfl) ⟨(Nat.le_of_ble_eq_true rfl), (Nat.le_of_ble_eq_true rfl)⟩ ⟨(Nat.le_of_ble_eq_true rfl), (Nat.le_of_ble_eq_true rfl)⟩ dX10_put_40 (fun r10 σ11 => ?_)
        exact j_ireturn (pc := 43) rfl (Nat.le_of_ble_eq_true rfl) (Nat.le_of_ble_eq_true rfl) dX10_put_43
    · refine j_aload_n (pc := 23) 1 dX10_put_23 rfl rfl ?_
      refine j_iconst (pc := 24) (v := 1) (by decide) dX10_put_24 ?_
      refine j_callVI (pc := 25) (As := [aI 1]) (st := []) (fun l => c10_found l v0 1) cs_RX10_66 rfl rfl rfl rfl (Nat.le_of_ble_eq_true rfl) ⟨(Nat.le_of_ble_eq_true rfl), (Nat.le_of_ble_eq_true rfl)⟩ ⟨(Nat.le_of_ble_eq_true rfl), (Nat.le_of_ble_eq_true rfl)⟩ dX10_put_25 (fun r12 σ13 => ?_)
      exact j_ireturn (pc := 28) rfl (Nat.le_of_ble_eq_true rfl) (Nat.le_of_ble_eq_true rfl) dX10_put_28
theorem c10_put (l : Launch) (v0 : Nat) (v1 : Int32) (v2 : Int32) (v3 : Int64) : Ctr l yX10_put cX10_put 6 (some .int) rm10_put eI [aR 0 v0, aI v1, aI v2, aL v3] (f10_put v0 v1 v2 v3) := ctr_of (lv := [(0, aR 0 v0), (1, aI v1), (2, aI v2), (3, aL v3)]) (by decide +kernel) (fun _ => rfl) (fun _ => (Nat.le_of_ble_eq_true rfl)) (fun _ h => lvl_als h rfl) (fun _ σ _ => j10_put v0 v1 v2 v3 σ)
theorem cs_RX10_70 : CaV RX10 RX10 70 yX10_newRow cX10_newRow 3 (some .int) 2 := ⟨tw_1_164, tw_1_166, tw_p1, tw_1_1, tw_1_167, rfl, by decide +kernel, by decide +kernel, by decide +kernel⟩
abbrev rm10_read : Room := { frames := 7, cells := 2, slots := 27, locals := 168 }
set_option maxRecDepth 20000 in
set_option maxHeartbeats 4000000 in
theorem j10_read {Γ : jX} {tg : Int32 × rS} (N : Nat) (v0 : Nat) (v1 : Int32) (σ : rS) : J Γ rm10_read eI cX10_read RX10 5 (some .int) tg 0 0 0 [(0, aR 0 v0), (1, aI v1)] [] σ (f10_read N v0 v1 σ) := by
  unfold f10_read
  refine j_aload_n (pc := 0) 0 dX10_read_0 rfl rfl ?_
  refine j_iload_n (pc := 1) 1 dX10_read_1 rfl rfl ?_
  refine j_callVR (pc := 2) (As := [aI v1]) (st := []) (fun l => c10_streamNumbered l v0 v1) cs_RX10_145 rfl rfl rfl rfl (Nat.le_of_ble_eq_true rfl) ⟨(Nat.le_of_ble_eq_true rfl), (Nat.le_of_ble_eq_true rfl)⟩ ⟨(Nat.le_of_ble_eq_true rfl), (Nat.le_of_ble_eq_true rfl)⟩ dX10_read_2 (fun r1 σ2 => ?_)
  refine j_astore_n (pc := 5) (lv' := [(2, aO 15 r1), (0, aR 0 v0), (1, aI v1)]) dX10_read_5 rfl (Nat.le_of_ble_eq_true rfl) rfl ?_
  refine j_sub [0, 1] (lv' := [(2, aO 15 r1), (0, aR 0 v0)]) rfl ?_
  refine j_aload_n (pc := 6) 0 dX10_read_6 rfl rfl ?_
  refine j_ifnonnull (pc := 7) (tgt := 13) dX10_read_7 rfl (fun hm => ?_) (fun i3 hm => ?_)
  · subst hm
    refine j_bipush (pc := 10) (v := (-101)) (by decide) dX10_read_10 ?_
    exact j_ireturn (pc := 12) rfl (Nat.le_of_ble_eq_true rfl) (Nat.le_of_ble_eq_true rfl) dX10_read_12
  · subst hm
    refine j_aload_n (pc := 13) 1 dX10_read_13 rfl rfl ?_
    refine j_getF (pc := 14) fd_0_6 tw_1_115 dX10_read_14 ?_
    refine j_aload_n (pc := 17) 1 dX10_read_17 rfl rfl ?_
    refine j_getF (pc := 18) fd_0_5 tw_1_114 dX10_read_18 ?_
    refine j_aload_n (pc := 21) 0 dX10_read_21 rfl rfl ?_
    refine j_aload_n (pc := 22) 0 dX10_read_22 rfl rfl ?_
    refine j_getI (pc := 23) fd_15_2 tw_2_143 dX10_read_23 ?_
    refine j_callVI (pc := 26) (As := [aR 8 v0, aR 15 i3, aI (gI σ2 15 i3 2)]) (st := []) (fun l => c6_examine l N v0 v0 i3 (gI σ2 15 i3 2)) cs_RX10_185 rfl rfl rfl rfl (Nat.le_of_ble_eq_true rfl) ⟨(Nat.le_of_ble_eq_true rfl), (Nat.le_of_ble_eq_true rfl)⟩ ⟨(Nat.le_of_ble_eq_true rfl), (Nat.le_of_ble_eq_true rfl)⟩ dX10_read_26 (fun r4 σ5 => ?_)
    refine j_istore_n (pc := 29) (lv' := [(3, aI r4), (2, aR 15 i3), (0, aR 0 v0)]) dX10_read_29 rfl (Nat.le_of_ble_eq_true rfl) rfl ?_
    refine j_iload_n (pc := 30) 0 dX10_read_30 rfl rfl ?_
    refine j_ifeq (pc := 31) (tgt := 40) dX10_read_31 rfl (fun _ => ?_) (fun _ => ?_)
    · refine j_aload_n (pc := 40) 2 dX10_read_40 rfl rfl ?_
      refine j_getI (pc := 41) fd_0_8 tw_1_117 dX10_read_41 ?_
      refine j_bipush (pc := 44) (v := 60) (by decide) dX10_read_44 ?_
      refine j_icmplt (pc := 46) (tgt := 52) dX10_read_46 rfl (fun _ => ?_) (fun _ => ?_)
      · refine j_aload_n (pc := 52) 2 dX10_read_52 rfl rfl ?_
        refine j_aload_n (pc := 53) 2 dX10_read_53 rfl rfl ?_
        refine j_getF (pc := 54) fd_0_6 tw_1_115 dX10_read_54 ?_
        refine j_getI (pc := 57) fd_12_0 tw_1_97 dX10_read_57 ?_
        refine j_aload_n (pc := 60) 2 dX10_read_60 rfl rfl ?_
        refine j_getF (pc := 61) fd_0_6 tw_1_115 dX10_read_61 ?_
        refine j_getI (pc := 64) fd_12_1 tw_1_99 dX10_read_64 ?_
        refine j_callVI (pc := 67) (As := [aI (gI σ5 12 v0 0), aI (gI σ5 12 v0 1)]) (st := []) (fun l => c10_newRow l v0 (gI σ5 12 v0 0) (gI σ5 12 v0 1)) cs_RX10_70 rfl rfl rfl rfl (Nat.le_of_ble_eq_true rfl) ⟨(Nat.le_of_ble_eq_true rfl), (Nat.le_of_ble_eq_true rfl)⟩ ⟨(Nat.le_of_ble_eq_true rfl), (Nat.le_of_ble_eq_true rfl)⟩ dX10_read_67 (fun r6 σ7 => ?_)
        refine j_istore (pc := 70) (lv' := [(4, aI r6), (3, aI r4), (2, aR 15 i3), (0, aR 0 v0)]) dX10_read_70 (Nat.le_of_ble_eq_true rfl) rfl ?_
        refine j_sub [0, 2, 3] (lv' := [(4, aI r6), (2, aR 15 i3), (0, aR 0 v0)]) rfl ?_
        refine j_aload_n (pc := 72) 2 dX10_read_72 rfl rfl ?_
        refine j_getF (pc := 73) fd_0_5 tw_1_114 dX10_read_73 ?_
        refine j_getF (pc := 76) fd_8_2 tw_1_65 dX10_read_76 ?_
        refine j_iconst (pc := 79) (v := 0) (by decide) dX10_read_79 ?_
        refine j_aload_n (pc := 80) 2 dX10_read_80 rfl rfl ?_
        refine j_getF (pc := 81) fd_0_0 tw_1_109 dX10_read_81 ?_
        refine j_iload (pc := 84) 0 dX10_read_84 rfl ?_
        refine j_aald (pc := 86) rfl rfl rfl dX10_read_86 (fun j8 o9 => ?_)
        refine j_must (fun i10 hm => ?_)
        subst hm
        refine j_getF (pc := 87) fd_13_1 tw_1_176 dX10_read_87 ?_
        refine j_iconst (pc := 90) (v := 0) (by decide) dX10_read_90 ?_
        refine j_aload_n (pc := 91) 2 dX10_read_91 rfl rfl ?_
        refine j_getF (pc := 92) fd_0_6 tw_1_115 dX10_read_92 ?_
        refine j_getI (pc := 95) fd_12_1 tw_1_99 dX10_read_95 ?_
        refine j_ock (fun hn => ?_)
        refine j_copyL (pc := 98) tw_1_239 rfl rfl rfl rfl rfl rfl hn (Nat.le_of_ble_eq_true rfl) (Nat.le_of_ble_eq_true rfl) dX10_read_98 ?_
        refine j_lets (fun σ11 => ?_)
        refine j_aload_n (pc := 101) 1 dX10_read_101 rfl rfl ?_
        refine j_aload_n (pc := 102) 2 dX10_read_102 rfl rfl ?_
        refine j_getF (pc := 103) fd_0_6 tw_1_115 dX10_read_103 ?_
        refine j_getI (pc := 106) fd_12_2 tw_1_101 dX10_read_106 ?_
        refine j_putI (pc := 109) fd_15_2 rfl rfl tw_2_143 dX10_read_109 ?_
        refine j_lets (fun σ12 => ?_)
        refine j_iload (pc := 112) 0 dX10_read_112 rfl ?_
        exact j_ireturn (pc := 114) rfl (Nat.le_of_ble_eq_true rfl) (Nat.le_of_ble_eq_true rfl) dX10_read_114
      · refine j_bipush (pc := 49) (v := (-104)) (by decide) dX10_read_49 ?_
        exact j_ireturn (pc := 51) rfl (Nat.le_of_ble_eq_true rfl) (Nat.le_of_ble_eq_true rfl) dX10_read_51
    · refine j_aload_n (pc := 34) 2 dX10_read_34 rfl rfl ?_
      refine j_iload_n (pc := 35) 0 dX10_read_35 rfl rfl ?_
      refine j_callVI (pc := 36) (As := [aI r4]) (st := []) (fun l => c10_found l v0 r4) cs_RX10_66 rfl rfl rfl rfl (Nat.le_of_ble_eq_true rfl) ⟨(Nat.le_of_ble_eq_true rfl), (Nat.le_of_ble_eq_true rfl)⟩ ⟨(Nat.le_of_ble_eq_true rfl), (Nat.le_of_ble_eq_true rfl)⟩ dX10_read_36 (fun r13 σ14 => ?_)
      exact j_ireturn (pc := 39) rfl (Nat.le_of_ble_eq_true rfl) (Nat.le_of_ble_eq_true rfl) dX10_read_39
theorem c10_read (l : Launch) (N : Nat) (v0 : Nat) (v1 : Int32) : Ctr l yX10_read cX10_read 5 (some .int) rm10_read eI [aR 0 v0, aI v1] (f10_read N v0 v1) := ctr_of (lv := [(0, aR 0 v0), (1, aI v1)]) (by decide +kernel) (fun _ => rfl) (fun _ => (Nat.le_of_ble_eq_true rfl)) (fun _ h => lvl_als h rfl) (fun _ σ _ => j10_read N v0 v1 σ)
theorem cs_RX2_65 : CaS RX2 65 yX2_isNone cX2_isNone 3 (some .boolean) 2 := ⟨tw_2_81, tw_2_16, tw_1_8, tw_2_17, by decide +kernel, by decide +kernel, by decide +kernel⟩
abbrev rm2_leaveRest : Room := { frames := 2, cells := 0, slots := 0, locals := 44 }
set_option maxRecDepth 20000 in
set_option maxHeartbeats 4000000 in
theorem j2_leaveRest {Γ : jX} {tg : Bool × rS} (v0 : Int32) (v1 : Int64) (v3 : Int64) (σ : rS) : J Γ rm2_leaveRest eZ cX2_leaveRest RX2 5 (some .boolean) tg 0 0 0 [(0, aI v0), (1, aL v1), (3, aL v3)] [] σ (f2_leaveRest v0 v1 v3 σ) := by
  unfold f2_leaveRest
  refine j_iload_n (pc := 0) 0 dX2_leaveRest_0 rfl rfl ?_
  refine j_lload_n (pc := 1) 2 dX2_leaveRest_1 rfl rfl ?_
  refine j_callSZ (pc := 2) (As := [aI v0, aL v3]) (st := []) (fun l => c2_isNone l v0 v3) cs_RX2_65 rfl rfl (Nat.le_of_ble_eq_true rfl) ⟨(Nat.le_of_ble_eq_true rfl), (Nat.le_of_ble_eq_true rfl)⟩ ⟨(Nat.le_of_ble_eq_true rfl), (Nat.le_of_ble_eq_true rfl)⟩ dX2_leaveRest_2 (fun r1 σ2 => ?_)
  refine j_ifneB (pc := 5) (tgt := 35) dX2_leaveRest_5 rfl (fun _ => ?_) (fun _ => ?_)
  · refine j_iconst (pc := 35) (v := 0) (by decide) dX2_leaveRest_35 ?_
    exact j_zret0 (pc := 36) rfl (Nat.le_of_ble_eq_true rfl) (Nat.le_of_ble_eq_true rfl) dX2_leaveRest_36
  · refine j_iload_n (pc := 8) 0 dX2_leaveRest_8 rfl rfl ?_
    refine j_lload_n (pc := 9) 2 dX2_leaveRest_9 rfl rfl ?_
    refine j_callSL (pc := 10) (As := [aI v0, aL v3]) (st := []) (fun l => c2_sizeOf l v0 v3) cs_RX2_34 rfl rfl (Nat.le_of_ble_eq_true rfl) ⟨(Nat.le_of_ble_eq_true rfl), (Nat.le_of_ble_eq_true rfl)⟩ ⟨(Nat.le_of_ble_eq_true rfl), (Nat.le_of_ble_eq_true rfl)⟩ dX2_leaveRest_10 (fun r3 σ4 => ?_)
    refine j_lconst (pc := 13) (v := 0) (by decide) dX2_leaveRest_13 ?_
    refine j_lcmpeq (pc := 14) (tgt := 35) dX2_leaveRest_14 dX2_leaveRest_15 rfl (fun _ => ?_) (fun _ => ?_)
    · refine j_iconst (pc := 35) (v := 0) (by decide) dX2_leaveRest_35 ?_
      exact j_zret0 (pc := 36) rfl (Nat.le_of_ble_eq_true rfl) (Nat.le_of_ble_eq_true rfl) dX2_leaveRest_36
    · refine j_iload_n (pc := 18) 0 dX2_leaveRest_18 rfl rfl ?_
      refine j_lload_n (pc := 19) 1 dX2_leaveRest_19 rfl rfl ?_
      refine j_callSL (pc := 20) (As := [aI v0, aL v1]) (st := []) (fun l => c2_sizeOf l v0 v1) cs_RX2_34 rfl rfl (Nat.le_of_ble_eq_true rfl) ⟨(Nat.le_of_ble_eq_true rfl), (Nat.le_of_ble_eq_true rfl)⟩ ⟨(Nat.le_of_ble_eq_true rfl), (Nat.le_of_ble_eq_true rfl)⟩ dX2_leaveRest_20 (fun r5 σ6 => ?_)
      refine j_iload_n (pc := 23) 0 dX2_leaveRest_23 rfl rfl ?_
      refine j_callSL (pc := 24) (As := [aI v0]) (st := [aL r5]) (fun l => c2_endless l v0) cs_RX2_38 rfl rfl (Nat.le_of_ble_eq_true rfl) ⟨(Nat.le_of_ble_eq_true rfl), (Nat.le_of_ble_eq_true rfl)⟩ ⟨(Nat.le_of_ble_eq_true rfl), (Nat.le_of_ble_eq_true rfl)⟩ dX2_leaveRest_24 (fun r7 σ8 => ?_)
      refine j_lcmpge (pc := 27) (tgt := 35) dX2_leaveRest_27 dX2_leaveRest_28 rfl (fun _ => ?_) (fun _ => ?_)
      · refine j_iconst (pc := 35) (v := 0) (by decide) dX2_leaveRest_35 ?_
        exact j_zret0 (pc := 36) rfl (Nat.le_of_ble_eq_true rfl) (Nat.le_of_ble_eq_true rfl) dX2_leaveRest_36
      · refine j_iconst (pc := 31) (v := 1) (by decide) dX2_leaveRest_31 ?_
        refine j_goto (pc := 32) (tgt := 36) dX2_leaveRest_32 rfl ?_
        exact j_zret1 (pc := 36) rfl (Nat.le_of_ble_eq_true rfl) (Nat.le_of_ble_eq_true rfl) dX2_leaveRest_36
theorem c2_leaveRest (l : Launch) (v0 : Int32) (v1 : Int64) (v3 : Int64) : Ctr l yX2_leaveRest cX2_leaveRest 5 (some .boolean) rm2_leaveRest eZ [aI v0, aL v1, aL v3] (f2_leaveRest v0 v1 v3) := ctr_of (lv := [(0, aI v0), (1, aL v1), (3, aL v3)]) (by decide +kernel) (fun _ => rfl) (fun _ => (Nat.le_of_ble_eq_true rfl)) (fun _ h => lvl_als h rfl) (fun _ σ _ => j2_leaveRest v0 v1 v3 σ)
theorem cs_RX4_59 : CaS RX4 59 yX2_leaveRest cX2_leaveRest 5 (some .boolean) 3 := ⟨tw_2_78, tw_2_79, tw_1_8, tw_2_80, by decide +kernel, by decide +kernel, by decide +kernel⟩
abbrev rm4_leaveRest : Room := { frames := 3, cells := 0, slots := 0, locals := 68 }
set_option maxRecDepth 20000 in
set_option maxHeartbeats 4000000 in
theorem j4_leaveRest {Γ : jX} {tg : Bool × rS} (v0 : Int32) (v1 : Int64) (v3 : Int64) (σ : rS) : J Γ rm4_leaveRest eZ cX4_leaveRest RX4 5 (some .boolean) tg 0 0 0 [(0, aI v0), (1, aL v1), (3, aL v3)] [] σ (f4_leaveRest v0 v1 v3 σ) := by
  unfold f4_leaveRest
  refine j_iload_n (pc := 0) 0 dX4_leaveRest_0 rfl rfl ?_
  refine j_callSZ (pc := 1) (As := [aI v0]) (st := []) (fun l => c4_areFloating l v0) cs_RX4_15 rfl rfl (Nat.le_of_ble_eq_true rfl) ⟨(Nat.le_of_ble_eq_true rfl), (Nat.le_of_ble_eq_true rfl)⟩ ⟨(Nat.le_of_ble_eq_true rfl), (Nat.le_of_ble_eq_true rfl)⟩ dX4_leaveRest_1 (fun r1 σ2 => ?_)
  refine j_ifeqB (pc := 4) (tgt := 16) dX4_leaveRest_4 rfl (fun _ => ?_) (fun _ => ?_)
  · refine j_lload_n (pc := 16) 2 dX4_leaveRest_16 rfl rfl ?_
    refine j_lconst (pc := 17) (v := 0) (by decide) dX4_leaveRest_17 ?_
    refine j_lcmpeq (pc := 18) (tgt := 26) dX4_leaveRest_18 dX4_leaveRest_19 rfl (fun _ => ?_) (fun _ => ?_)
    · refine j_iconst (pc := 26) (v := 0) (by decide) dX4_leaveRest_26 ?_
      exact j_zret0 (pc := 27) rfl (Nat.le_of_ble_eq_true rfl) (Nat.le_of_ble_eq_true rfl) dX4_leaveRest_27
    · refine j_iconst (pc := 22) (v := 1) (by decide) dX4_leaveRest_22 ?_
      refine j_goto (pc := 23) (tgt := 27) dX4_leaveRest_23 rfl ?_
      exact j_zret1 (pc := 27) rfl (Nat.le_of_ble_eq_true rfl) (Nat.le_of_ble_eq_true rfl) dX4_leaveRest_27
  · refine j_iload_n (pc := 7) 0 dX4_leaveRest_7 rfl rfl ?_
    refine j_lload_n (pc := 8) 1 dX4_leaveRest_8 rfl rfl ?_
    refine j_lload_n (pc := 9) 2 dX4_leaveRest_9 rfl rfl ?_
    refine j_callSZ (pc := 10) (As := [aI v0, aL v1, aL v3]) (st := []) (fun l => c2_leaveRest l v0 v1 v3) cs_RX4_59 rfl rfl (Nat.le_of_ble_eq_true rfl) ⟨(Nat.le_of_ble_eq_true rfl), (Nat.le_of_ble_eq_true rfl)⟩ ⟨(Nat.le_of_ble_eq_true rfl), (Nat.le_of_ble_eq_true rfl)⟩ dX4_leaveRest_10 (fun r3 σ4 => ?_)
    refine j_goto (pc := 13) (tgt := 27) dX4_leaveRest_13 rfl ?_
    exact j_zretB (pc := 27) rfl (Nat.le_of_ble_eq_true rfl) (Nat.le_of_ble_eq_true rfl) dX4_leaveRest_27
theorem c4_leaveRest (l : Launch) (v0 : Int32) (v1 : Int64) (v3 : Int64) : Ctr l yX4_leaveRest cX4_leaveRest 5 (some .boolean) rm4_leaveRest eZ [aI v0, aL v1, aL v3] (f4_leaveRest v0 v1 v3) := ctr_of (lv := [(0, aI v0), (1, aL v1), (3, aL v3)]) (by decide +kernel) (fun _ => rfl) (fun _ => (Nat.le_of_ble_eq_true rfl)) (fun _ h => lvl_als h rfl) (fun _ σ _ => j4_leaveRest v0 v1 v3 σ)
abbrev rm2_fractionBits : Room := { frames := 0, cells := 0, slots := 0, locals := 0 }
set_option maxRecDepth 20000 in
set_option maxHeartbeats 4000000 in
theorem j2_fractionBits {Γ : jX} {tg : Int32 × rS} (v0 : Int32) (σ : rS) : J Γ rm2_fractionBits eI cX2_fractionBits RX2 1 (some .int) tg 0 0 0 [(0, aI v0)] [] σ (f2_fractionBits v0 σ) := by
  unfold f2_fractionBits
  refine j_iload_n (pc := 0) 0 dX2_fractionBits_0 rfl rfl ?_
  refine j_bipush (pc := 1) (v := 6) (by decide) dX2_fractionBits_1 ?_
  refine j_icmpne (pc := 3) (tgt := 11) dX2_fractionBits_3 rfl (fun _ => ?_) (fun _ => ?_)
  · refine j_bipush (pc := 11) (v := 52) (by decide) dX2_fractionBits_11 ?_
    exact j_ireturn (pc := 13) rfl (Nat.le_of_ble_eq_true rfl) (Nat.le_of_ble_eq_true rfl) dX2_fractionBits_13
  · refine j_bipush (pc := 6) (v := 23) (by decide) dX2_fractionBits_6 ?_
    refine j_goto (pc := 8) (tgt := 13) dX2_fractionBits_8 rfl ?_
    exact j_ireturn (pc := 13) rfl (Nat.le_of_ble_eq_true rfl) (Nat.le_of_ble_eq_true rfl) dX2_fractionBits_13
theorem c2_fractionBits (l : Launch) (v0 : Int32) : Ctr l yX2_fractionBits cX2_fractionBits 1 (some .int) rm2_fractionBits eI [aI v0] (f2_fractionBits v0) := ctr_of (lv := [(0, aI v0)]) (by decide +kernel) (fun _ => rfl) (fun _ => (Nat.le_of_ble_eq_true rfl)) (fun _ h => lvl_als h rfl) (fun _ σ _ => j2_fractionBits v0 σ)
theorem cs_RX2_23 : CaS RX2 23 yX2_fractionBits cX2_fractionBits 1 (some .int) 1 := ⟨tw_2_54, tw_2_55, tw_1_8, tw_2_56, by decide +kernel, by decide +kernel, by decide +kernel⟩
theorem cs_RX2_86 : CaS RX2 86 yJ9_max_7cf53 cJ9_max_7cf53 2 (some .int) 2 := ⟨tw_2_94, tw_2_95, tw_1_13, tw_2_96, by decide +kernel, by decide +kernel, by decide +kernel⟩
abbrev rm2_scaleOf : Room := { frames := 1, cells := 0, slots := 0, locals := 21 }
set_option maxRecDepth 20000 in
set_option maxHeartbeats 4000000 in
theorem j2_scaleOf {Γ : jX} {tg : Int32 × rS} (v0 : Int32) (v1 : Int64) (σ : rS) : J Γ rm2_scaleOf eI cX2_scaleOf RX2 3 (some .int) tg 0 0 0 [(0, aI v0), (1, aL v1)] [] σ (f2_scaleOf v0 v1 σ) := by
  unfold f2_scaleOf
  refine j_iconst (pc := 0) (v := 1) (by decide) dX2_scaleOf_0 ?_
  refine j_lload_n (pc := 1) 1 dX2_scaleOf_1 rfl rfl ?_
  refine j_iload_n (pc := 2) 0 dX2_scaleOf_2 rfl rfl ?_
  refine j_callSI (pc := 3) (As := [aI v0]) (st := [aL v1, aI 1]) (fun l => c2_fractionBits l v0) cs_RX2_23 rfl rfl (Nat.le_of_ble_eq_true rfl) ⟨(Nat.le_of_ble_eq_true rfl), (Nat.le_of_ble_eq_true rfl)⟩ ⟨(Nat.le_of_ble_eq_true rfl), (Nat.le_of_ble_eq_true rfl)⟩ dX2_scaleOf_3 (fun r1 σ2 => ?_)
  refine j_lshr (pc := 6) dX2_scaleOf_6 ?_
  refine j_l2i (pc := 7) dX2_scaleOf_7 ?_
  refine j_callSI (pc := 8) (As := [aI 1, aI (Int64.toInt32 (v1 >>> (Int32.toInt64 r1 &&& 63)))]) (st := []) (fun l => cJ_max l 1 (Int64.toInt32 (v1 >>> (Int32.toInt64 r1 &&& 63)))) cs_RX2_86 rfl rfl (Nat.le_of_ble_eq_true rfl) ⟨(Nat.le_of_ble_eq_true rfl), (Nat.le_of_ble_eq_true rfl)⟩ ⟨(Nat.le_of_ble_eq_true rfl), (Nat.le_of_ble_eq_true rfl)⟩ dX2_scaleOf_8 (fun r3 σ4 => ?_)
  exact j_ireturn (pc := 11) rfl (Nat.le_of_ble_eq_true rfl) (Nat.le_of_ble_eq_true rfl) dX2_scaleOf_11
theorem c2_scaleOf (l : Launch) (v0 : Int32) (v1 : Int64) : Ctr l yX2_scaleOf cX2_scaleOf 3 (some .int) rm2_scaleOf eI [aI v0, aL v1] (f2_scaleOf v0 v1) := ctr_of (lv := [(0, aI v0), (1, aL v1)]) (by decide +kernel) (fun _ => rfl) (fun _ => (Nat.le_of_ble_eq_true rfl)) (fun _ h => lvl_als h rfl) (fun _ σ _ => j2_scaleOf v0 v1 σ)
abbrev rm2_scaledFraction : Room := { frames := 1, cells := 0, slots := 0, locals := 20 }
set_option maxRecDepth 20000 in
set_option maxHeartbeats 4000000 in
theorem j2_scaledFraction {Γ : jX} {tg : Int64 × rS} (v0 : Int32) (v1 : Int64) (σ : rS) : J Γ rm2_scaledFraction eL cX2_scaledFraction RX2 7 (some .long) tg 0 0 0 [(0, aI v0), (1, aL v1)] [] σ (f2_scaledFraction v0 v1 σ) := by
  unfold f2_scaledFraction
  refine j_lconst (pc := 0) (v := 1) (by decide) dX2_scaledFraction_0 ?_
  refine j_iload_n (pc := 1) 0 dX2_scaledFraction_1 rfl rfl ?_
  refine j_callSI (pc := 2) (As := [aI v0]) (st := [aL 1]) (fun l => c2_fractionBits l v0) cs_RX2_23 rfl rfl (Nat.le_of_ble_eq_true rfl) ⟨(Nat.le_of_ble_eq_true rfl), (Nat.le_of_ble_eq_true rfl)⟩ ⟨(Nat.le_of_ble_eq_true rfl), (Nat.le_of_ble_eq_true rfl)⟩ dX2_scaledFraction_2 (fun r1 σ2 => ?_)
  refine j_lshl (pc := 5) dX2_scaledFraction_5 ?_
  refine j_letl (fun x3 => ?_)
  refine j_lstore_n (pc := 6) (lv' := [(3, aL x3), (0, aI v0), (1, aL v1)]) dX2_scaledFraction_6 rfl (Nat.le_of_ble_eq_true rfl) rfl ?_
  refine j_sub [0, 2] (lv' := [(3, aL x3), (1, aL v1)]) rfl ?_
  refine j_lload_n (pc := 7) 1 dX2_scaledFraction_7 rfl rfl ?_
  refine j_lload_n (pc := 8) 0 dX2_scaledFraction_8 rfl rfl ?_
  refine j_lconst (pc := 9) (v := 1) (by decide) dX2_scaledFraction_9 ?_
  refine j_lsub (pc := 10) dX2_scaledFraction_10 ?_
  refine j_land (pc := 11) dX2_scaledFraction_11 ?_
  refine j_letl (fun x4 => ?_)
  refine j_lstore (pc := 12) (lv' := [(5, aL x4), (3, aL x3), (1, aL v1)]) dX2_scaledFraction_12 (Nat.le_of_ble_eq_true rfl) rfl ?_
  refine j_lload_n (pc := 14) 2 dX2_scaledFraction_14 rfl rfl ?_
  refine j_lload_n (pc := 15) 1 dX2_scaledFraction_15 rfl rfl ?_
  refine j_lcmpge (pc := 16) (tgt := 25) dX2_scaledFraction_16 dX2_scaledFraction_17 rfl (fun _ => ?_) (fun _ => ?_)
  · refine j_lload (pc := 25) 0 dX2_scaledFraction_25 rfl ?_
    refine j_lload_n (pc := 27) 1 dX2_scaledFraction_27 rfl rfl ?_
    refine j_ladd (pc := 28) dX2_scaledFraction_28 ?_
    exact j_lreturn (pc := 29) rfl (Nat.le_of_ble_eq_true rfl) (Nat.le_of_ble_eq_true rfl) dX2_scaledFraction_29
  · refine j_lload (pc := 20) 0 dX2_scaledFraction_20 rfl ?_
    refine j_goto (pc := 22) (tgt := 29) dX2_scaledFraction_22 rfl ?_
    exact j_lreturn (pc := 29) rfl (Nat.le_of_ble_eq_true rfl) (Nat.le_of_ble_eq_true rfl) dX2_scaledFraction_29
theorem c2_scaledFraction (l : Launch) (v0 : Int32) (v1 : Int64) : Ctr l yX2_scaledFraction cX2_scaledFraction 7 (some .long) rm2_scaledFraction eL [aI v0, aL v1] (f2_scaledFraction v0 v1) := ctr_of (lv := [(0, aI v0), (1, aL v1)]) (by decide +kernel) (fun _ => rfl) (fun _ => (Nat.le_of_ble_eq_true rfl)) (fun _ h => lvl_als h rfl) (fun _ σ _ => j2_scaledFraction v0 v1 σ)
abbrev rm2_sizeFrom : Room := { frames := 1, cells := 0, slots := 0, locals := 20 }
set_option maxRecDepth 20000 in
set_option maxHeartbeats 4000000 in
theorem jb2_sizeFrom_57 {Γ : jX} {tg : Int64 × rS} (N : Nat) (v0 : Int32) (v1 : Int64) (v6 : Int32) (σ : rS) : J Γ rm2_sizeFrom eL cX2_sizeFrom RX2 8 (some .long) tg 0 0 57 [(0, aI v0), (1, aL v1), (6, aI v6)] [] σ (B2_sizeFrom_57 N v0 v1 v6 σ) := by
  unfold B2_sizeFrom_57
  refine j_iload (pc := 57) 2 dX2_sizeFrom_57 rfl ?_
  refine j_iconst (pc := 59) (v := 1) (by decide) dX2_sizeFrom_59 ?_
  refine j_isub (pc := 60) dX2_sizeFrom_60 ?_
  refine j_i2l (pc := 61) dX2_sizeFrom_61 ?_
  refine j_iload_n (pc := 62) 0 dX2_sizeFrom_62 rfl rfl ?_
  refine j_callSI (pc := 63) (As := [aI v0]) (st := [aL (Int32.toInt64 (v6 - 1))]) (fun l => c2_fractionBits l v0) cs_RX2_23 rfl rfl (Nat.le_of_ble_eq_true rfl) ⟨(Nat.le_of_ble_eq_true rfl), (Nat.le_of_ble_eq_true rfl)⟩ ⟨(Nat.le_of_ble_eq_true rfl), (Nat.le_of_ble_eq_true rfl)⟩ dX2_sizeFrom_63 (fun r1 σ2 => ?_)
  refine j_lshl (pc := 66) dX2_sizeFrom_66 ?_
  refine j_lload_n (pc := 67) 1 dX2_sizeFrom_67 rfl rfl ?_
  refine j_ladd (pc := 68) dX2_sizeFrom_68 ?_
  exact j_lreturn (pc := 69) rfl (Nat.le_of_ble_eq_true rfl) (Nat.le_of_ble_eq_true rfl) dX2_sizeFrom_69
set_option maxRecDepth 20000 in
set_option maxHeartbeats 4000000 in
theorem jb2_sizeFrom_22 {Γ : jX} {tg : Int64 × rS} (N : Nat) (K22 : Int32 → Int64 → Int64 → Int32 → Int32 → rS → Option (Int64 × rS)) (hK22 : ∀ (v0 : Int32) (v1 : Int64) (v4 : Int64) (v6 : Int32) (v7 : Int32) (σ : rS), J Γ rm2_sizeFrom eL cX2_sizeFrom RX2 8 (some .long) tg 0 0 22 [(0, aI v0), (1, aL v1), (4, aL v4), (6, aI v6), (7, aI v7)] [] σ (K22 v0 v1 v4 v6 v7 σ)) (v0 : Int32) (v1 : Int64) (v4 : Int64) (v6 : Int32) (v7 : Int32) (σ : rS) : J Γ rm2_sizeFrom eL cX2_sizeFrom RX2 8 (some .long) tg 0 0 22 [(0, aI v0), (1, aL v1), (4, aL v4), (6, aI v6), (7, aI v7)] [] σ (B2_sizeFrom_22 N K22 v0 v1 v4 v6 v7 σ) := by
  unfold B2_sizeFrom_22
  refine j_iload (pc := 22) 4 dX2_sizeFrom_22 rfl ?_
  refine j_iload_n (pc := 24) 0 dX2_sizeFrom_24 rfl rfl ?_
  refine j_callSI (pc := 25) (As := [aI v0]) (st := [aI v7]) (fun l => c2_fractionBits l v0) cs_RX2_23 rfl rfl (Nat.le_of_ble_eq_true rfl) ⟨(Nat.le_of_ble_eq_true rfl), (Nat.le_of_ble_eq_true rfl)⟩ ⟨(Nat.le_of_ble_eq_true rfl), (Nat.le_of_ble_eq_true rfl)⟩ dX2_sizeFrom_25 (fun r1 σ2 => ?_)
  refine j_icmpge (pc := 28) (tgt := 57) dX2_sizeFrom_28 rfl (fun _ => ?_) (fun _ => ?_)
  · refine j_sub [0, 1, 3] (lv' := [(0, aI v0), (1, aL v1), (6, aI v6)]) rfl ?_
    exact jb2_sizeFrom_57 N  v0 v1 v6 σ2
  · refine j_lload_n (pc := 31) 1 dX2_sizeFrom_31 rfl rfl ?_
    refine j_lload (pc := 32) 2 dX2_sizeFrom_32 rfl ?_
    refine j_lcmpge (pc := 34) (tgt := 57) dX2_sizeFrom_34 dX2_sizeFrom_35 rfl (fun _ => ?_) (fun _ => ?_)
    · refine j_sub [0, 1, 3] (lv' := [(0, aI v0), (1, aL v1), (6, aI v6)]) rfl ?_
      exact jb2_sizeFrom_57 N  v0 v1 v6 σ2
    · refine j_iload (pc := 38) 3 dX2_sizeFrom_38 rfl ?_
      refine j_iconst (pc := 40) (v := 1) (by decide) dX2_sizeFrom_40 ?_
      refine j_icmple (pc := 41) (tgt := 57) dX2_sizeFrom_41 rfl (fun _ => ?_) (fun _ => ?_)
      · refine j_sub [0, 1, 3] (lv' := [(0, aI v0), (1, aL v1), (6, aI v6)]) rfl ?_
        exact jb2_sizeFrom_57 N  v0 v1 v6 σ2
      · refine j_lload_n (pc := 44) 1 dX2_sizeFrom_44 rfl rfl ?_
        refine j_iconst (pc := 45) (v := 1) (by decide) dX2_sizeFrom_45 ?_
        refine j_lshl (pc := 46) dX2_sizeFrom_46 ?_
        refine j_letl (fun x3 => ?_)
        refine j_lstore_n (pc := 47) (lv' := [(1, aL x3), (0, aI v0), (4, aL v4), (6, aI v6), (7, aI v7)]) dX2_sizeFrom_47 rfl (Nat.le_of_ble_eq_true rfl) rfl ?_
        refine j_iinc (pc := 48) (w := (-1)) (lv' := [(6, aI (v6 + (-1))), (1, aL x3), (0, aI v0), (4, aL v4), (7, aI v7)]) 3 dX2_sizeFrom_48 rfl (by decide) (Nat.le_of_ble_eq_true rfl) rfl ?_
        refine j_iinc (pc := 51) (w := 1) (lv' := [(7, aI (v7 + 1)), (6, aI (v6 + (-1))), (1, aL x3), (0, aI v0), (4, aL v4)]) 4 dX2_sizeFrom_51 rfl (by decide) (Nat.le_of_ble_eq_true rfl) rfl ?_
        refine j_goto (pc := 54) (tgt := 22) dX2_sizeFrom_54 rfl ?_
        refine j_sub [3, 2, 4, 1, 0] (lv' := [(0, aI v0), (1, aL x3), (4, aL v4), (6, aI (v6 + (-1))), (7, aI (v7 + 1))]) rfl ?_
        exact hK22 v0 x3 v4 (v6 + (-1)) (v7 + 1) σ2
theorem jl2_sizeFrom_22 {Γ : jX} {tg : Int64 × rS} (N : Nat) : ∀ (n : Nat) (v0 : Int32) (v1 : Int64) (v4 : Int64) (v6 : Int32) (v7 : Int32) (σ : rS), J Γ rm2_sizeFrom eL cX2_sizeFrom RX2 8 (some .long) tg 0 0 22 [(0, aI v0), (1, aL v1), (4, aL v4), (6, aI v6), (7, aI v7)] [] σ (L2_sizeFrom_22 N n v0 v1 v4 v6 v7 σ) := by
  intro n
  induction n with
  | zero => intro v0 v1 v4 v6 v7 σ; exact j_none
  | succ n ih => intro v0 v1 v4 v6 v7 σ; exact jb2_sizeFrom_22 N (L2_sizeFrom_22 N n) ih v0 v1 v4 v6 v7 σ
set_option maxRecDepth 20000 in
set_option maxHeartbeats 4000000 in
theorem j2_sizeFrom {Γ : jX} {tg : Int64 × rS} (N : Nat) (v0 : Int32) (v1 : Int64) (v3 : Int32) (σ : rS) : J Γ rm2_sizeFrom eL cX2_sizeFrom RX2 8 (some .long) tg 0 0 0 [(0, aI v0), (1, aL v1), (3, aI v3)] [] σ (f2_sizeFrom N v0 v1 v3 σ) := by
  unfold f2_sizeFrom
  refine j_lload_n (pc := 0) 1 dX2_sizeFrom_0 rfl rfl ?_
  refine j_lconst (pc := 1) (v := 0) (by decide) dX2_sizeFrom_1 ?_
  refine j_lcmpne (pc := 2) (tgt := 8) dX2_sizeFrom_2 dX2_sizeFrom_3 rfl (fun _ => ?_) (fun _ => ?_)
  · refine j_lconst (pc := 8) (v := 1) (by decide) dX2_sizeFrom_8 ?_
    refine j_iload_n (pc := 9) 0 dX2_sizeFrom_9 rfl rfl ?_
    refine j_callSI (pc := 10) (As := [aI v0]) (st := [aL 1]) (fun l => c2_fractionBits l v0) cs_RX2_23 rfl rfl (Nat.le_of_ble_eq_true rfl) ⟨(Nat.le_of_ble_eq_true rfl), (Nat.le_of_ble_eq_true rfl)⟩ ⟨(Nat.le_of_ble_eq_true rfl), (Nat.le_of_ble_eq_true rfl)⟩ dX2_sizeFrom_10 (fun r1 σ2 => ?_)
    refine j_lshl (pc := 13) dX2_sizeFrom_13 ?_
    refine j_letl (fun x3 => ?_)
    refine j_lstore (pc := 14) (lv' := [(4, aL x3), (0, aI v0), (1, aL v1), (3, aI v3)]) dX2_sizeFrom_14 (Nat.le_of_ble_eq_true rfl) rfl ?_
    refine j_iload_n (pc := 16) 3 dX2_sizeFrom_16 rfl rfl ?_
    refine j_istore (pc := 17) (lv' := [(6, aI v3), (4, aL x3), (0, aI v0), (1, aL v1), (3, aI v3)]) dX2_sizeFrom_17 (Nat.le_of_ble_eq_true rfl) rfl ?_
    refine j_sub [0, 1, 2, 3] (lv' := [(6, aI v3), (4, aL x3), (0, aI v0), (1, aL v1)]) rfl ?_
    refine j_iconst (pc := 19) (v := 0) (by decide) dX2_sizeFrom_19 ?_
    refine j_istore (pc := 20) (lv' := [(7, aI 0), (6, aI v3), (4, aL x3), (0, aI v0), (1, aL v1)]) dX2_sizeFrom_20 (Nat.le_of_ble_eq_true rfl) rfl ?_
    refine j_sub [3, 4, 2, 1, 0] (lv' := [(0, aI v0), (1, aL v1), (4, aL x3), (6, aI v3), (7, aI 0)]) rfl ?_
    exact jl2_sizeFrom_22 N  N v0 v1 x3 v3 0 σ2
  · refine j_lconst (pc := 6) (v := 0) (by decide) dX2_sizeFrom_6 ?_
    exact j_lreturn (pc := 7) rfl (Nat.le_of_ble_eq_true rfl) (Nat.le_of_ble_eq_true rfl) dX2_sizeFrom_7
theorem c2_sizeFrom (l : Launch) (N : Nat) (v0 : Int32) (v1 : Int64) (v3 : Int32) : Ctr l yX2_sizeFrom cX2_sizeFrom 8 (some .long) rm2_sizeFrom eL [aI v0, aL v1, aI v3] (f2_sizeFrom N v0 v1 v3) := ctr_of (lv := [(0, aI v0), (1, aL v1), (3, aI v3)]) (by decide +kernel) (fun _ => rfl) (fun _ => (Nat.le_of_ble_eq_true rfl)) (fun _ h => lvl_als h rfl) (fun _ σ _ => j2_sizeFrom N v0 v1 v3 σ)
theorem cs_RX2_30 : CaS RX2 30 yX2_signBit cX2_signBit 1 (some .long) 1 := ⟨tw_2_60, tw_2_22, tw_1_8, tw_2_23, by decide +kernel, by decide +kernel, by decide +kernel⟩
abbrev rm2_withSign : Room := { frames := 1, cells := 0, slots := 0, locals := 20 }
set_option maxRecDepth 20000 in
set_option maxHeartbeats 4000000 in
theorem j2_withSign {Γ : jX} {tg : Int64 × rS} (v0 : Int32) (v1 : Int64) (v3 : Bool) (σ : rS) : J Γ rm2_withSign eL cX2_withSign RX2 4 (some .long) tg 0 0 0 [(0, aI v0), (1, aL v1), (3, aI (bi v3))] [] σ (f2_withSign v0 v1 v3 σ) := by
  unfold f2_withSign
  refine j_iload_n (pc := 0) 2 dX2_withSign_0 rfl rfl ?_
  refine j_ifeqB (pc := 1) (tgt := 13) dX2_withSign_1 rfl (fun _ => ?_) (fun _ => ?_)
  · refine j_lload_n (pc := 13) 1 dX2_withSign_13 rfl rfl ?_
    exact j_lreturn (pc := 14) rfl (Nat.le_of_ble_eq_true rfl) (Nat.le_of_ble_eq_true rfl) dX2_withSign_14
  · refine j_lload_n (pc := 4) 1 dX2_withSign_4 rfl rfl ?_
    refine j_iload_n (pc := 5) 0 dX2_withSign_5 rfl rfl ?_
    refine j_callSL (pc := 6) (As := [aI v0]) (st := [aL v1]) (fun l => c2_signBit l v0) cs_RX2_30 rfl rfl (Nat.le_of_ble_eq_true rfl) ⟨(Nat.le_of_ble_eq_true rfl), (Nat.le_of_ble_eq_true rfl)⟩ ⟨(Nat.le_of_ble_eq_true rfl), (Nat.le_of_ble_eq_true rfl)⟩ dX2_withSign_6 (fun r1 σ2 => ?_)
    refine j_lxor (pc := 9) dX2_withSign_9 ?_
    refine j_goto (pc := 10) (tgt := 14) dX2_withSign_10 rfl ?_
    exact j_lreturn (pc := 14) rfl (Nat.le_of_ble_eq_true rfl) (Nat.le_of_ble_eq_true rfl) dX2_withSign_14
theorem c2_withSign (l : Launch) (v0 : Int32) (v1 : Int64) (v3 : Bool) : Ctr l yX2_withSign cX2_withSign 4 (some .long) rm2_withSign eL [aI v0, aL v1, aI (bi v3)] (f2_withSign v0 v1 v3) := ctr_of (lv := [(0, aI v0), (1, aL v1), (3, aI (bi v3))]) (by decide +kernel) (fun _ => rfl) (fun _ => (Nat.le_of_ble_eq_true rfl)) (fun _ h => lvl_als h rfl) (fun _ σ _ => j2_withSign v0 v1 v3 σ)
theorem cs_RX2_82 : CaS RX2 82 yX2_sizeFrom cX2_sizeFrom 8 (some .long) 3 := ⟨tw_2_100, tw_2_101, tw_1_8, tw_2_102, by decide +kernel, by decide +kernel, by decide +kernel⟩
theorem cs_RX2_48 : CaS RX2 48 yX2_withSign cX2_withSign 4 (some .long) 3 := ⟨tw_2_57, tw_2_58, tw_1_8, tw_2_59, by decide +kernel, by decide +kernel, by decide +kernel⟩
theorem cs_RX2_76 : CaS RX2 76 yJ9_min_7cf53 cJ9_min_7cf53 2 (some .int) 2 := ⟨tw_2_97, tw_2_98, tw_1_13, tw_2_99, by decide +kernel, by decide +kernel, by decide +kernel⟩
theorem cs_RX2_69 : CaS RX2 69 yX2_scaledFraction cX2_scaledFraction 7 (some .long) 2 := ⟨tw_2_88, tw_2_89, tw_1_8, tw_2_90, by decide +kernel, by decide +kernel, by decide +kernel⟩
theorem cs_RX2_72 : CaS RX2 72 yX2_scaleOf cX2_scaleOf 3 (some .int) 2 := ⟨tw_2_91, tw_2_92, tw_1_8, tw_2_93, by decide +kernel, by decide +kernel, by decide +kernel⟩
abbrev rm2_restOf : Room := { frames := 2, cells := 0, slots := 0, locals := 47 }
set_option maxRecDepth 20000 in
set_option maxHeartbeats 4000000 in
theorem jb2_restOf_71 {Γ : jX} {tg : Int64 × rS} (N : Nat) (K71 : Int32 → Int64 → Int64 → Int32 → Int64 → Int32 → rS → Option (Int64 × rS)) (hK71 : ∀ (v0 : Int32) (v1 : Int64) (v9 : Int64) (v11 : Int32) (v12 : Int64) (v14 : Int32) (σ : rS), J Γ rm2_restOf eL cX2_restOf RX2 16 (some .long) tg 0 0 71 [(0, aI v0), (1, aL v1), (9, aL v9), (11, aI v11), (12, aL v12), (14, aI v14)] [] σ (K71 v0 v1 v9 v11 v12 v14 σ)) (v0 : Int32) (v1 : Int64) (v9 : Int64) (v11 : Int32) (v12 : Int64) (v14 : Int32) (σ : rS) : J Γ rm2_restOf eL cX2_restOf RX2 16 (some .long) tg 0 0 71 [(0, aI v0), (1, aL v1), (9, aL v9), (11, aI v11), (12, aL v12), (14, aI v14)] [] σ (B2_restOf_71 N K71 v0 v1 v9 v11 v12 v14 σ) := by
  unfold B2_restOf_71
  refine j_iload (pc := 71) 5 dX2_restOf_71 rfl ?_
  refine j_ifle (pc := 73) (tgt := 105) dX2_restOf_73 rfl (fun _ => ?_) (fun _ => ?_)
  · refine j_iload_n (pc := 105) 0 dX2_restOf_105 rfl rfl ?_
    refine j_iload_n (pc := 106) 0 dX2_restOf_106 rfl rfl ?_
    refine j_lload (pc := 107) 4 dX2_restOf_107 rfl ?_
    refine j_iload (pc := 109) 3 dX2_restOf_109 rfl ?_
    refine j_callSL (pc := 111) (As := [aI v0, aL v12, aI v11]) (st := [aI v0]) (fun l => c2_sizeFrom l N v0 v12 v11) cs_RX2_82 rfl rfl (Nat.le_of_ble_eq_true rfl) ⟨(Nat.le_of_ble_eq_true rfl), (Nat.le_of_ble_eq_true rfl)⟩ ⟨(Nat.le_of_ble_eq_true rfl), (Nat.le_of_ble_eq_true rfl)⟩ dX2_restOf_111 (fun r1 σ2 => ?_)
    refine j_lload_n (pc := 114) 1 dX2_restOf_114 rfl rfl ?_
    refine j_lconst (pc := 115) (v := 0) (by decide) dX2_restOf_115 ?_
    refine j_lcmpge (pc := 116) (tgt := 124) dX2_restOf_116 dX2_restOf_117 rfl (fun _ => ?_) (fun _ => ?_)
    · refine j_iconst (pc := 124) (v := 0) (by decide) dX2_restOf_124 ?_
      refine j_callSL (pc := 125) (As := [aI v0, aL r1, aI (bi false)]) (st := []) (fun l => c2_withSign l v0 r1 false) cs_RX2_48 rfl rfl (Nat.le_of_ble_eq_true rfl) ⟨(Nat.le_of_ble_eq_true rfl), (Nat.le_of_ble_eq_true rfl)⟩ ⟨(Nat.le_of_ble_eq_true rfl), (Nat.le_of_ble_eq_true rfl)⟩ dX2_restOf_125 (fun r3 σ4 => ?_)
      exact j_lreturn (pc := 128) rfl (Nat.le_of_ble_eq_true rfl) (Nat.le_of_ble_eq_true rfl) dX2_restOf_128
    · refine j_iconst (pc := 120) (v := 1) (by decide) dX2_restOf_120 ?_
      refine j_goto (pc := 121) (tgt := 125) dX2_restOf_121 rfl ?_
      refine j_callSL (pc := 125) (As := [aI v0, aL r1, aI (bi true)]) (st := []) (fun l => c2_withSign l v0 r1 true) cs_RX2_48 rfl rfl (Nat.le_of_ble_eq_true rfl) ⟨(Nat.le_of_ble_eq_true rfl), (Nat.le_of_ble_eq_true rfl)⟩ ⟨(Nat.le_of_ble_eq_true rfl), (Nat.le_of_ble_eq_true rfl)⟩ dX2_restOf_125 (fun r5 σ6 => ?_)
      exact j_lreturn (pc := 128) rfl (Nat.le_of_ble_eq_true rfl) (Nat.le_of_ble_eq_true rfl) dX2_restOf_128
  · refine j_iload (pc := 76) 5 dX2_restOf_76 rfl ?_
    refine j_bipush (pc := 78) (v := 10) (by decide) dX2_restOf_78 ?_
    refine j_callSI (pc := 80) (As := [aI v14, aI 10]) (st := []) (fun l => cJ_min l v14 10) cs_RX2_76 rfl rfl (Nat.le_of_ble_eq_true rfl) ⟨(Nat.le_of_ble_eq_true rfl), (Nat.le_of_ble_eq_true rfl)⟩ ⟨(Nat.le_of_ble_eq_true rfl), (Nat.le_of_ble_eq_true rfl)⟩ dX2_restOf_80 (fun r7 σ8 => ?_)
    refine j_istore (pc := 83) (lv' := [(15, aI r7), (0, aI v0), (1, aL v1), (9, aL v9), (11, aI v11), (12, aL v12), (14, aI v14)]) dX2_restOf_83 (Nat.le_of_ble_eq_true rfl) rfl ?_
    refine j_lload (pc := 85) 5 dX2_restOf_85 rfl ?_
    refine j_iload (pc := 87) 0 dX2_restOf_87 rfl ?_
    refine j_lshl (pc := 89) dX2_restOf_89 ?_
    refine j_lload (pc := 90) 3 dX2_restOf_90 rfl ?_
    refine j_ock (fun hn => ?_)
    refine j_lrem (pc := 92) dX2_restOf_92 hn ?_
    refine j_letl (fun x9 => ?_)
    refine j_lstore (pc := 93) (lv' := [(12, aL x9), (15, aI r7), (0, aI v0), (1, aL v1), (9, aL v9), (11, aI v11), (14, aI v14)]) dX2_restOf_93 (Nat.le_of_ble_eq_true rfl) rfl ?_
    refine j_iload (pc := 95) 6 dX2_restOf_95 rfl ?_
    refine j_iload (pc := 97) 1 dX2_restOf_97 rfl ?_
    refine j_isub (pc := 99) dX2_restOf_99 ?_
    refine j_leti (fun x10 => ?_)
    refine j_istore (pc := 100) (lv' := [(14, aI x10), (12, aL x9), (15, aI r7), (0, aI v0), (1, aL v1), (9, aL v9), (11, aI v11)]) dX2_restOf_100 (Nat.le_of_ble_eq_true rfl) rfl ?_
    refine j_sub [0, 1, 3, 4, 5, 6] (lv' := [(14, aI x10), (12, aL x9), (0, aI v0), (1, aL v1), (9, aL v9), (11, aI v11)]) rfl ?_
    refine j_goto (pc := 102) (tgt := 71) dX2_restOf_102 rfl ?_
    refine j_sub [2, 3, 4, 5, 1, 0] (lv' := [(0, aI v0), (1, aL v1), (9, aL v9), (11, aI v11), (12, aL x9), (14, aI x10)]) rfl ?_
    exact hK71 v0 v1 v9 v11 x9 x10 σ8
theorem jl2_restOf_71 {Γ : jX} {tg : Int64 × rS} (N : Nat) : ∀ (n : Nat) (v0 : Int32) (v1 : Int64) (v9 : Int64) (v11 : Int32) (v12 : Int64) (v14 : Int32) (σ : rS), J Γ rm2_restOf eL cX2_restOf RX2 16 (some .long) tg 0 0 71 [(0, aI v0), (1, aL v1), (9, aL v9), (11, aI v11), (12, aL v12), (14, aI v14)] [] σ (L2_restOf_71 N n v0 v1 v9 v11 v12 v14 σ) := by
  intro n
  induction n with
  | zero => intro v0 v1 v9 v11 v12 v14 σ; exact j_none
  | succ n ih => intro v0 v1 v9 v11 v12 v14 σ; exact jb2_restOf_71 N (L2_restOf_71 N n) ih v0 v1 v9 v11 v12 v14 σ
set_option maxRecDepth 20000 in
set_option maxHeartbeats 4000000 in
theorem j2_restOf {Γ : jX} {tg : Int64 × rS} (N : Nat) (v0 : Int32) (v1 : Int64) (v3 : Int64) (σ : rS) : J Γ rm2_restOf eL cX2_restOf RX2 16 (some .long) tg 0 0 0 [(0, aI v0), (1, aL v1), (3, aL v3)] [] σ (f2_restOf N v0 v1 v3 σ) := by
  unfold f2_restOf
  refine j_iload_n (pc := 0) 0 dX2_restOf_0 rfl rfl ?_
  refine j_lload_n (pc := 1) 1 dX2_restOf_1 rfl rfl ?_
  refine j_callSL (pc := 2) (As := [aI v0, aL v1]) (st := []) (fun l => c2_sizeOf l v0 v1) cs_RX2_34 rfl rfl (Nat.le_of_ble_eq_true rfl) ⟨(Nat.le_of_ble_eq_true rfl), (Nat.le_of_ble_eq_true rfl)⟩ ⟨(Nat.le_of_ble_eq_true rfl), (Nat.le_of_ble_eq_true rfl)⟩ dX2_restOf_2 (fun r1 σ2 => ?_)
  refine j_lstore (pc := 5) (lv' := [(5, aL r1), (0, aI v0), (1, aL v1), (3, aL v3)]) dX2_restOf_5 (Nat.le_of_ble_eq_true rfl) rfl ?_
  refine j_iload_n (pc := 7) 1 dX2_restOf_7 rfl rfl ?_
  refine j_lload_n (pc := 8) 3 dX2_restOf_8 rfl rfl ?_
  refine j_callSL (pc := 9) (As := [aI v0, aL v3]) (st := []) (fun l => c2_sizeOf l v0 v3) cs_RX2_34 rfl rfl (Nat.le_of_ble_eq_true rfl) ⟨(Nat.le_of_ble_eq_true rfl), (Nat.le_of_ble_eq_true rfl)⟩ ⟨(Nat.le_of_ble_eq_true rfl), (Nat.le_of_ble_eq_true rfl)⟩ dX2_restOf_9 (fun r3 σ4 => ?_)
  refine j_lstore (pc := 12) (lv' := [(7, aL r3), (5, aL r1), (0, aI v0), (1, aL v1), (3, aL v3)]) dX2_restOf_12 (Nat.le_of_ble_eq_true rfl) rfl ?_
  refine j_sub [0, 1, 2, 3] (lv' := [(7, aL r3), (5, aL r1), (0, aI v0), (1, aL v1)]) rfl ?_
  refine j_lload (pc := 14) 1 dX2_restOf_14 rfl ?_
  refine j_lload (pc := 16) 0 dX2_restOf_16 rfl ?_
  refine j_lcmpge (pc := 18) (tgt := 24) dX2_restOf_18 dX2_restOf_19 rfl (fun _ => ?_) (fun _ => ?_)
  · refine j_iload_n (pc := 24) 2 dX2_restOf_24 rfl rfl ?_
    refine j_lload (pc := 25) 0 dX2_restOf_25 rfl ?_
    refine j_callSL (pc := 27) (As := [aI v0, aL r3]) (st := []) (fun l => c2_scaledFraction l v0 r3) cs_RX2_69 rfl rfl (Nat.le_of_ble_eq_true rfl) ⟨(Nat.le_of_ble_eq_true rfl), (Nat.le_of_ble_eq_true rfl)⟩ ⟨(Nat.le_of_ble_eq_true rfl), (Nat.le_of_ble_eq_true rfl)⟩ dX2_restOf_27 (fun r5 σ6 => ?_)
    refine j_lstore (pc := 30) (lv' := [(9, aL r5), (7, aL r3), (5, aL r1), (0, aI v0), (1, aL v1)]) dX2_restOf_30 (Nat.le_of_ble_eq_true rfl) rfl ?_
    refine j_lload (pc := 32) 0 dX2_restOf_32 rfl ?_
    refine j_lconst (pc := 34) (v := 0) (by decide) dX2_restOf_34 ?_
    refine j_lcmpne (pc := 35) (tgt := 41) dX2_restOf_35 dX2_restOf_36 rfl (fun _ => ?_) (fun _ => ?_)
    · refine j_iload_n (pc := 41) 3 dX2_restOf_41 rfl rfl ?_
      refine j_lload (pc := 42) 1 dX2_restOf_42 rfl ?_
      refine j_callSI (pc := 44) (As := [aI v0, aL r3]) (st := []) (fun l => c2_scaleOf l v0 r3) cs_RX2_72 rfl rfl (Nat.le_of_ble_eq_true rfl) ⟨(Nat.le_of_ble_eq_true rfl), (Nat.le_of_ble_eq_true rfl)⟩ ⟨(Nat.le_of_ble_eq_true rfl), (Nat.le_of_ble_eq_true rfl)⟩ dX2_restOf_44 (fun r7 σ8 => ?_)
      refine j_istore (pc := 47) (lv' := [(11, aI r7), (9, aL r5), (7, aL r3), (5, aL r1), (0, aI v0), (1, aL v1)]) dX2_restOf_47 (Nat.le_of_ble_eq_true rfl) rfl ?_
      refine j_sub [0, 1, 3, 4, 5] (lv' := [(11, aI r7), (9, aL r5), (5, aL r1), (0, aI v0), (1, aL v1)]) rfl ?_
      refine j_iload_n (pc := 49) 3 dX2_restOf_49 rfl rfl ?_
      refine j_lload (pc := 50) 2 dX2_restOf_50 rfl ?_
      refine j_callSL (pc := 52) (As := [aI v0, aL r1]) (st := []) (fun l => c2_scaledFraction l v0 r1) cs_RX2_69 rfl rfl (Nat.le_of_ble_eq_true rfl) ⟨(Nat.le_of_ble_eq_true rfl), (Nat.le_of_ble_eq_true rfl)⟩ ⟨(Nat.le_of_ble_eq_true rfl), (Nat.le_of_ble_eq_true rfl)⟩ dX2_restOf_52 (fun r9 σ10 => ?_)
      refine j_lload (pc := 55) 1 dX2_restOf_55 rfl ?_
      refine j_ock (fun hn => ?_)
      refine j_lrem (pc := 57) dX2_restOf_57 hn ?_
      refine j_letl (fun x11 => ?_)
      refine j_lstore (pc := 58) (lv' := [(12, aL x11), (11, aI r7), (9, aL r5), (5, aL r1), (0, aI v0), (1, aL v1)]) dX2_restOf_58 (Nat.le_of_ble_eq_true rfl) rfl ?_
      refine j_iload_n (pc := 60) 4 dX2_restOf_60 rfl rfl ?_
      refine j_lload (pc := 61) 3 dX2_restOf_61 rfl ?_
      refine j_callSI (pc := 63) (As := [aI v0, aL r1]) (st := []) (fun l => c2_scaleOf l v0 r1) cs_RX2_72 rfl rfl (Nat.le_of_ble_eq_true rfl) ⟨(Nat.le_of_ble_eq_true rfl), (Nat.le_of_ble_eq_true rfl)⟩ ⟨(Nat.le_of_ble_eq_true rfl), (Nat.le_of_ble_eq_true rfl)⟩ dX2_restOf_63 (fun r12 σ13 => ?_)
      refine j_iload (pc := 66) 1 dX2_restOf_66 rfl ?_
      refine j_isub (pc := 68) dX2_restOf_68 ?_
      refine j_leti (fun x14 => ?_)
      refine j_istore (pc := 69) (lv' := [(14, aI x14), (12, aL x11), (11, aI r7), (9, aL r5), (5, aL r1), (0, aI v0), (1, aL v1)]) dX2_restOf_69 (Nat.le_of_ble_eq_true rfl) rfl ?_
      refine j_sub [0, 1, 2, 3, 5, 6] (lv' := [(14, aI x14), (12, aL x11), (11, aI r7), (9, aL r5), (0, aI v0), (1, aL v1)]) rfl ?_
      refine j_sub [4, 5, 3, 2, 1, 0] (lv' := [(0, aI v0), (1, aL v1), (9, aL r5), (11, aI r7), (12, aL x11), (14, aI x14)]) rfl ?_
      exact jl2_restOf_71 N  N v0 v1 r5 r7 x11 x14 σ13
    · refine j_lload_n (pc := 39) 4 dX2_restOf_39 rfl rfl ?_
      exact j_lreturn (pc := 40) rfl (Nat.le_of_ble_eq_true rfl) (Nat.le_of_ble_eq_true rfl) dX2_restOf_40
  · refine j_lload_n (pc := 22) 3 dX2_restOf_22 rfl rfl ?_
    exact j_lreturn (pc := 23) rfl (Nat.le_of_ble_eq_true rfl) (Nat.le_of_ble_eq_true rfl) dX2_restOf_23
theorem c2_restOf (l : Launch) (N : Nat) (v0 : Int32) (v1 : Int64) (v3 : Int64) : Ctr l yX2_restOf cX2_restOf 16 (some .long) rm2_restOf eL [aI v0, aL v1, aL v3] (f2_restOf N v0 v1 v3) := ctr_of (lv := [(0, aI v0), (1, aL v1), (3, aL v3)]) (by decide +kernel) (fun _ => rfl) (fun _ => (Nat.le_of_ble_eq_true rfl)) (fun _ h => lvl_als h rfl) (fun _ σ _ => j2_restOf N v0 v1 v3 σ)
theorem cs_RX4_63 : CaS RX4 63 yX2_restOf cX2_restOf 16 (some .long) 3 := ⟨tw_2_85, tw_2_86, tw_1_8, tw_2_87, by decide +kernel, by decide +kernel, by decide +kernel⟩
abbrev rm4_restOf : Room := { frames := 3, cells := 0, slots := 0, locals := 82 }
set_option maxRecDepth 20000 in
set_option maxHeartbeats 4000000 in
theorem j4_restOf {Γ : jX} {tg : Int64 × rS} (N : Nat) (v0 : Int32) (v1 : Int64) (v3 : Int64) (σ : rS) : J Γ rm4_restOf eL cX4_restOf RX4 5 (some .long) tg 0 0 0 [(0, aI v0), (1, aL v1), (3, aL v3)] [] σ (f4_restOf N v0 v1 v3 σ) := by
  unfold f4_restOf
  refine j_iload_n (pc := 0) 0 dX4_restOf_0 rfl rfl ?_
  refine j_callSZ (pc := 1) (As := [aI v0]) (st := []) (fun l => c4_areFloating l v0) cs_RX4_15 rfl rfl (Nat.le_of_ble_eq_true rfl) ⟨(Nat.le_of_ble_eq_true rfl), (Nat.le_of_ble_eq_true rfl)⟩ ⟨(Nat.le_of_ble_eq_true rfl), (Nat.le_of_ble_eq_true rfl)⟩ dX4_restOf_1 (fun r1 σ2 => ?_)
  refine j_ifeqB (pc := 4) (tgt := 14) dX4_restOf_4 rfl (fun _ => ?_) (fun _ => ?_)
  · refine j_lload_n (pc := 14) 2 dX4_restOf_14 rfl rfl ?_
    refine j_lconst (pc := 15) (v := 0) (by decide) dX4_restOf_15 ?_
    refine j_lcmpne (pc := 16) (tgt := 24) dX4_restOf_16 dX4_restOf_17 rfl (fun _ => ?_) (fun _ => ?_)
    · refine j_lload_n (pc := 24) 1 dX4_restOf_24 rfl rfl ?_
      refine j_lload_n (pc := 25) 2 dX4_restOf_25 rfl rfl ?_
      refine j_ock (fun hn => ?_)
      refine j_lrem (pc := 26) dX4_restOf_26 hn ?_
      exact j_lreturn (pc := 27) rfl (Nat.le_of_ble_eq_true rfl) (Nat.le_of_ble_eq_true rfl) dX4_restOf_27
    · refine j_lconst (pc := 20) (v := 0) (by decide) dX4_restOf_20 ?_
      refine j_goto (pc := 21) (tgt := 27) dX4_restOf_21 rfl ?_
      exact j_lreturn (pc := 27) rfl (Nat.le_of_ble_eq_true rfl) (Nat.le_of_ble_eq_true rfl) dX4_restOf_27
  · refine j_iload_n (pc := 7) 0 dX4_restOf_7 rfl rfl ?_
    refine j_lload_n (pc := 8) 1 dX4_restOf_8 rfl rfl ?_
    refine j_lload_n (pc := 9) 2 dX4_restOf_9 rfl rfl ?_
    refine j_callSL (pc := 10) (As := [aI v0, aL v1, aL v3]) (st := []) (fun l => c2_restOf l N v0 v1 v3) cs_RX4_63 rfl rfl (Nat.le_of_ble_eq_true rfl) ⟨(Nat.le_of_ble_eq_true rfl), (Nat.le_of_ble_eq_true rfl)⟩ ⟨(Nat.le_of_ble_eq_true rfl), (Nat.le_of_ble_eq_true rfl)⟩ dX4_restOf_10 (fun r3 σ4 => ?_)
    exact j_lreturn (pc := 13) rfl (Nat.le_of_ble_eq_true rfl) (Nat.le_of_ble_eq_true rfl) dX4_restOf_13
theorem c4_restOf (l : Launch) (N : Nat) (v0 : Int32) (v1 : Int64) (v3 : Int64) : Ctr l yX4_restOf cX4_restOf 5 (some .long) rm4_restOf eL [aI v0, aL v1, aL v3] (f4_restOf N v0 v1 v3) := ctr_of (lv := [(0, aI v0), (1, aL v1), (3, aL v3)]) (by decide +kernel) (fun _ => rfl) (fun _ => (Nat.le_of_ble_eq_true rfl)) (fun _ h => lvl_als h rfl) (fun _ σ _ => j4_restOf N v0 v1 v3 σ)
theorem cs_RX10_123 : CaS RX10 123 yX4_leaveRest cX4_leaveRest 5 (some .boolean) 3 := ⟨tw_2_75, tw_2_76, tw_1_7, tw_2_77, by decide +kernel, by decide +kernel, by decide +kernel⟩
theorem cs_RX10_127 : CaS RX10 127 yX4_restOf cX4_restOf 5 (some .long) 3 := ⟨tw_2_82, tw_2_83, tw_1_7, tw_2_84, by decide +kernel, by decide +kernel, by decide +kernel⟩
abbrev rm10_rest : Room := { frames := 4, cells := 0, slots := 0, locals := 106 }
set_option maxRecDepth 20000 in
set_option maxHeartbeats 4000000 in
theorem j10_rest {Γ : jX} {tg : Int32 × rS} (N : Nat) (v0 : Nat) (v1 : Int32) (v2 : Int32) (v3 : Int32) (σ : rS) : J Γ rm10_rest eI cX10_rest RX10 5 (some .int) tg 0 0 0 [(0, aR 0 v0), (1, aI v1), (2, aI v2), (3, aI v3)] [] σ (f10_rest N v0 v1 v2 v3 σ) := by
  unfold f10_rest
  refine j_aload_n (pc := 0) 0 dX10_rest_0 rfl rfl ?_
  refine j_iload_n (pc := 1) 1 dX10_rest_1 rfl rfl ?_
  refine j_callVR (pc := 2) (As := [aI v1]) (st := []) (fun l => c10_rowNumbered l v0 v1) cs_RX10_74 rfl rfl rfl rfl (Nat.le_of_ble_eq_true rfl) ⟨(Nat.le_of_ble_eq_true rfl), (Nat.le_of_ble_eq_true rfl)⟩ ⟨(Nat.le_of_ble_eq_true rfl), (Nat.le_of_ble_eq_true rfl)⟩ dX10_rest_2 (fun r1 σ2 => ?_)
  refine j_astore (pc := 5) (lv' := [(4, aO 13 r1), (0, aR 0 v0), (1, aI v1), (2, aI v2), (3, aI v3)]) dX10_rest_5 (Nat.le_of_ble_eq_true rfl) rfl ?_
  refine j_sub [0, 1, 3, 4] (lv' := [(4, aO 13 r1), (0, aR 0 v0), (2, aI v2), (3, aI v3)]) rfl ?_
  refine j_aload (pc := 7) 0 dX10_rest_7 rfl ?_
  refine j_ifnonnull (pc := 9) (tgt := 15) dX10_rest_9 rfl (fun hm => ?_) (fun i3 hm => ?_)
  · subst hm
    refine j_bipush (pc := 12) (v := (-101)) (by decide) dX10_rest_12 ?_
    exact j_ireturn (pc := 14) rfl (Nat.le_of_ble_eq_true rfl) (Nat.le_of_ble_eq_true rfl) dX10_rest_14
  · subst hm
    refine j_aload (pc := 15) 0 dX10_rest_15 rfl ?_
    refine j_getI (pc := 17) fd_13_2 tw_1_177 dX10_rest_17 ?_
    refine j_ifeq (pc := 20) (tgt := 29) dX10_rest_20 rfl (fun _ => ?_) (fun _ => ?_)
    · refine j_aload (pc := 29) 0 dX10_rest_29 rfl ?_
      refine j_iload_n (pc := 31) 2 dX10_rest_31 rfl rfl ?_
      refine j_callVZ (pc := 32) (As := [aI v2]) (st := []) (fun l => c7_has l i3 v2) cs_RX10_89 rfl rfl rfl rfl (Nat.le_of_ble_eq_true rfl) ⟨(Nat.le_of_ble_eq_true rfl), (Nat.le_of_ble_eq_true rfl)⟩ ⟨(Nat.le_of_ble_eq_true rfl), (Nat.le_of_ble_eq_true rfl)⟩ dX10_rest_32 (fun r4 σ5 => ?_)
      refine j_ifeqB (pc := 35) (tgt := 47) dX10_rest_35 rfl (fun _ => ?_) (fun _ => ?_)
      · refine j_aload_n (pc := 47) 1 dX10_rest_47 rfl rfl ?_
        refine j_iconst (pc := 48) (v := 2) (by decide) dX10_rest_48 ?_
        refine j_callVI (pc := 49) (As := [aI 2]) (st := []) (fun l => c10_found l v0 2) cs_RX10_66 rfl rfl rfl rfl (Nat.le_of_ble_eq_true rfl) ⟨(Nat.le_of_ble_eq_true rfl), (Nat.le_of_ble_eq_true rfl)⟩ ⟨(Nat.le_of_ble_eq_true rfl), (Nat.le_of_ble_eq_true rfl)⟩ dX10_rest_49 (fun r6 σ7 => ?_)
        exact j_ireturn (pc := 52) rfl (Nat.le_of_ble_eq_true rfl) (Nat.le_of_ble_eq_true rfl) dX10_rest_52
      · refine j_aload (pc := 38) 0 dX10_rest_38 rfl ?_
        refine j_iload_n (pc := 40) 3 dX10_rest_40 rfl rfl ?_
        refine j_callVZ (pc := 41) (As := [aI v3]) (st := []) (fun l => c7_has l i3 v3) cs_RX10_89 rfl rfl rfl rfl (Nat.le_of_ble_eq_true rfl) ⟨(Nat.le_of_ble_eq_true rfl), (Nat.le_of_ble_eq_true rfl)⟩ ⟨(Nat.le_of_ble_eq_true rfl), (Nat.le_of_ble_eq_true rfl)⟩ dX10_rest_41 (fun r8 σ9 => ?_)
        refine j_ifneB (pc := 44) (tgt := 53) dX10_rest_44 rfl (fun _ => ?_) (fun _ => ?_)
        · refine j_aload (pc := 53) 0 dX10_rest_53 rfl ?_
          refine j_getI (pc := 55) fd_13_0 tw_1_174 dX10_rest_55 ?_
          refine j_aload (pc := 58) 0 dX10_rest_58 rfl ?_
          refine j_getF (pc := 60) fd_13_1 tw_1_176 dX10_rest_60 ?_
          refine j_iload_n (pc := 63) 2 dX10_rest_63 rfl rfl ?_
          refine j_lald (pc := 64) rfl rfl rfl dX10_rest_64 (fun j10 => ?_)
          refine j_aload (pc := 65) 0 dX10_rest_65 rfl ?_
          refine j_getF (pc := 67) fd_13_1 tw_1_176 dX10_rest_67 ?_
          refine j_iload_n (pc := 70) 3 dX10_rest_70 rfl rfl ?_
          refine j_lald (pc := 71) rfl rfl rfl dX10_rest_71 (fun j11 => ?_)
          refine j_callSZ (pc := 72) (As := [aI (gI σ9 13 i3 0), aL (gL σ9 14 i3 j10), aL (gL σ9 14 i3 j11)]) (st := []) (fun l => c4_leaveRest l (gI σ9 13 i3 0) (gL σ9 14 i3 j10) (gL σ9 14 i3 j11)) cs_RX10_123 rfl rfl (Nat.le_of_ble_eq_true rfl) ⟨(Nat.le_of_ble_eq_true rfl), (Nat.le_of_ble_eq_true rfl)⟩ ⟨(Nat.le_of_ble_eq_true rfl), (Nat.le_of_ble_eq_true rfl)⟩ dX10_rest_72 (fun r12 σ13 => ?_)
          refine j_ifneB (pc := 75) (tgt := 84) dX10_rest_75 rfl (fun _ => ?_) (fun _ => ?_)
          · refine j_aload_n (pc := 84) 1 dX10_rest_84 rfl rfl ?_
            refine j_aload (pc := 85) 0 dX10_rest_85 rfl ?_
            refine j_getI (pc := 87) fd_13_0 tw_1_174 dX10_rest_87 ?_
            refine j_aload (pc := 90) 0 dX10_rest_90 rfl ?_
            refine j_getF (pc := 92) fd_13_1 tw_1_176 dX10_rest_92 ?_
            refine j_iload_n (pc := 95) 2 dX10_rest_95 rfl rfl ?_
            refine j_lald (pc := 96) rfl rfl rfl dX10_rest_96 (fun j14 => ?_)
            refine j_aload (pc := 97) 0 dX10_rest_97 rfl ?_
            refine j_getF (pc := 99) fd_13_1 tw_1_176 dX10_rest_99 ?_
            refine j_iload_n (pc := 102) 3 dX10_rest_102 rfl rfl ?_
            refine j_lald (pc := 103) rfl rfl rfl dX10_rest_103 (fun j15 => ?_)
            refine j_callSL (pc := 104) (As := [aI (gI σ13 13 i3 0), aL (gL σ13 14 i3 j14), aL (gL σ13 14 i3 j15)]) (st := [aR 0 v0]) (fun l => c4_restOf l N (gI σ13 13 i3 0) (gL σ13 14 i3 j14) (gL σ13 14 i3 j15)) cs_RX10_127 rfl rfl (Nat.le_of_ble_eq_true rfl) ⟨(Nat.le_of_ble_eq_true rfl), (Nat.le_of_ble_eq_true rfl)⟩ ⟨(Nat.le_of_ble_eq_true rfl), (Nat.le_of_ble_eq_true rfl)⟩ dX10_rest_104 (fun r16 σ17 => ?_)
            refine j_putL (pc := 107) fd_0_13 tw_1_122 dX10_rest_107 ?_
            refine j_lets (fun σ18 => ?_)
            refine j_iconst (pc := 110) (v := 0) (by decide) dX10_rest_110 ?_
            exact j_ireturn (pc := 111) rfl (Nat.le_of_ble_eq_true rfl) (Nat.le_of_ble_eq_true rfl) dX10_rest_111
          · refine j_aload_n (pc := 78) 1 dX10_rest_78 rfl rfl ?_
            refine j_iconst (pc := 79) (v := 5) (by decide) dX10_rest_79 ?_
            refine j_callVI (pc := 80) (As := [aI 5]) (st := []) (fun l => c10_found l v0 5) cs_RX10_66 rfl rfl rfl rfl (Nat.le_of_ble_eq_true rfl) ⟨(Nat.le_of_ble_eq_true rfl), (Nat.le_of_ble_eq_true rfl)⟩ ⟨(Nat.le_of_ble_eq_true rfl), (Nat.le_of_ble_eq_true rfl)⟩ dX10_rest_80 (fun r19 σ20 => ?_)
            exact j_ireturn (pc := 83) rfl (Nat.le_of_ble_eq_true rfl) (Nat.le_of_ble_eq_true rfl) dX10_rest_83
        · refine j_aload_n (pc := 47) 1 dX10_rest_47 rfl rfl ?_
          refine j_iconst (pc := 48) (v := 2) (by decide) dX10_rest_48 ?_
          refine j_callVI (pc := 49) (As := [aI 2]) (st := []) (fun l => c10_found l v0 2) cs_RX10_66 rfl rfl rfl rfl (Nat.le_of_ble_eq_true rfl) ⟨(Nat.le_of_ble_eq_true rfl), (Nat.le_of_ble_eq_true rfl)⟩ ⟨(Nat.le_of_ble_eq_true rfl), (Nat.le_of_ble_eq_true rfl)⟩ dX10_rest_49 (fun r21 σ22 => ?_)
          exact j_ireturn (pc := 52) rfl (Nat.le_of_ble_eq_true rfl) (Nat.le_of_ble_eq_true rfl) dX10_rest_52
    · refine j_aload_n (pc := 23) 1 dX10_rest_23 rfl rfl ?_
      refine j_iconst (pc := 24) (v := 1) (by decide) dX10_rest_24 ?_
      refine j_callVI (pc := 25) (As := [aI 1]) (st := []) (fun l => c10_found l v0 1) cs_RX10_66 rfl rfl rfl rfl (Nat.le_of_ble_eq_true rfl) ⟨(Nat.le_of_ble_eq_true rfl), (Nat.le_of_ble_eq_true rfl)⟩ ⟨(Nat.le_of_ble_eq_true rfl), (Nat.le_of_ble_eq_true rfl)⟩ dX10_rest_25 (fun r23 σ24 => ?_)
      exact j_ireturn (pc := 28) rfl (Nat.le_of_ble_eq_true rfl) (Nat.le_of_ble_eq_true rfl) dX10_rest_28
theorem c10_rest (l : Launch) (N : Nat) (v0 : Nat) (v1 : Int32) (v2 : Int32) (v3 : Int32) : Ctr l yX10_rest cX10_rest 5 (some .int) rm10_rest eI [aR 0 v0, aI v1, aI v2, aI v3] (f10_rest N v0 v1 v2 v3) := ctr_of (lv := [(0, aR 0 v0), (1, aI v1), (2, aI v2), (3, aI v3)]) (by decide +kernel) (fun _ => rfl) (fun _ => (Nat.le_of_ble_eq_true rfl)) (fun _ h => lvl_als h rfl) (fun _ σ _ => j10_rest N v0 v1 v2 v3 σ)
