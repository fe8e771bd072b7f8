abbrev rm3_remove : Room := { frames := 0, cells := 0, slots := 0, locals := 0 }
set_option maxRecDepth 20000 in
set_option maxHeartbeats 4000000 in
theorem jb3_remove_2 {Γ : jX} {tg : Unit × rS} (N : Nat) (K2 : Nat → Int32 → rS → Option (Unit × rS)) (hK2 : ∀ (v0 : Nat) (v2 : Int32) (σ : rS), J Γ rm3_remove eV cX3_remove RX3 3 none tg 0 0 2 [(0, aR 17 v0), (2, aI v2)] [] σ (K2 v0 v2 σ)) (v0 : Nat) (v2 : Int32) (σ : rS) : J Γ rm3_remove eV cX3_remove RX3 3 none tg 0 0 2 [(0, aR 17 v0), (2, aI v2)] [] σ (B3_remove_2 N K2 v0 v2 σ) := by
  unfold B3_remove_2
  refine j_iload_n (pc := 2) 1 dX3_remove_2 rfl rfl ?_
  refine j_iconst (pc := 3) (v := 1) (by decide) dX3_remove_3 ?_
  refine j_iadd (pc := 4) dX3_remove_4 ?_
  refine j_aload_n (pc := 5) 0 dX3_remove_5 rfl rfl ?_
  refine j_getI (pc := 6) fd_17_2 tw_3_91 dX3_remove_6 ?_
  refine j_icmpge (pc := 9) (tgt := 46) dX3_remove_9 rfl (fun _ => ?_) (fun _ => ?_)
  · refine j_aload_n (pc := 46) 0 dX3_remove_46 rfl rfl ?_
    refine j_dup (pc := 47) dX3_remove_47 rfl ?_
    refine j_getI (pc := 48) fd_17_2 tw_3_91 dX3_remove_48 ?_
    refine j_iconst (pc := 51) (v := 1) (by decide) dX3_remove_51 ?_
    refine j_isub (pc := 52) dX3_remove_52 ?_
    refine j_putI (pc := 53) fd_17_2 rfl rfl tw_3_91 dX3_remove_53 ?_
    refine j_lets (fun σ1 => ?_)
    refine j_aload_n (pc := 56) 0 dX3_remove_56 rfl rfl ?_
    refine j_getF (pc := 57) fd_17_1 tw_3_89 dX3_remove_57 ?_
    refine j_aload_n (pc := 60) 0 dX3_remove_60 rfl rfl ?_
    refine j_getI (pc := 61) fd_17_2 tw_3_91 dX3_remove_61 ?_
    refine j_null (pc := 64) 20 dX3_remove_64 ?_
    refine j_aast (pc := 65) rfl rfl rfl rfl rfl dX3_remove_65 (fun j2 => ?_)
    refine j_lets (fun σ3 => ?_)
    exact j_return (pc := 66) rfl (Nat.le_of_ble_eq_true rfl) (Nat.le_of_ble_eq_true rfl) dX3_remove_66
  · refine j_aload_n (pc := 12) 0 dX3_remove_12 rfl rfl ?_
    refine j_getF (pc := 13) fd_17_0 tw_3_87 dX3_remove_13 ?_
    refine j_iload_n (pc := 16) 1 dX3_remove_16 rfl rfl ?_
    refine j_aload_n (pc := 17) 0 dX3_remove_17 rfl rfl ?_
    refine j_getF (pc := 18) fd_17_0 tw_3_87 dX3_remove_18 ?_
    refine j_iload_n (pc := 21) 1 dX3_remove_21 rfl rfl ?_
    refine j_iconst (pc := 22) (v := 1) (by decide) dX3_remove_22 ?_
    refine j_iadd (pc := 23) dX3_remove_23 ?_
    refine j_lald (pc := 24) rfl rfl rfl dX3_remove_24 (fun j4 => ?_)
    refine j_last (pc := 25) rfl rfl rfl dX3_remove_25 (fun j5 => ?_)
    refine j_lets (fun σ6 => ?_)
    refine j_aload_n (pc := 26) 0 dX3_remove_26 rfl rfl ?_
    refine j_getF (pc := 27) fd_17_1 tw_3_89 dX3_remove_27 ?_
    refine j_iload_n (pc := 30) 1 dX3_remove_30 rfl rfl ?_
    refine j_aload_n (pc := 31) 0 dX3_remove_31 rfl rfl ?_
    refine j_getF (pc := 32) fd_17_1 tw_3_89 dX3_remove_32 ?_
    refine j_iload_n (pc := 35) 1 dX3_remove_35 rfl rfl ?_
    refine j_iconst (pc := 36) (v := 1) (by decide) dX3_remove_36 ?_
    refine j_iadd (pc := 37) dX3_remove_37 ?_
    refine j_aald (pc := 38) rfl rfl rfl dX3_remove_38 (fun j7 o8 => ?_)
    refine j_aast (pc := 39) rfl rfl rfl rfl rfl dX3_remove_39 (fun j9 => ?_)
    refine j_lets (fun σ10 => ?_)
    refine j_iinc (pc := 40) (w := 1) (lv' := [(2, aI (v2 + 1)), (0, aR 17 v0)]) 1 dX3_remove_40 rfl (by decide) (Nat.le_of_ble_eq_true rfl) rfl ?_
    refine j_goto (pc := 43) (tgt := 2) dX3_remove_43 rfl ?_
    refine j_sub [1, 0] (lv' := [(0, aR 17 v0), (2, aI (v2 + 1))]) rfl ?_
    exact hK2 v0 (v2 + 1) σ10
theorem jl3_remove_2 {Γ : jX} {tg : Unit × rS} (N : Nat) : ∀ (n : Nat) (v0 : Nat) (v2 : Int32) (σ : rS), J Γ rm3_remove eV cX3_remove RX3 3 none tg 0 0 2 [(0, aR 17 v0), (2, aI v2)] [] σ (L3_remove_2 N n v0 v2 σ) := by
  intro n
  induction n with
  | zero => intro v0 v2 σ; exact j_none
  | succ n ih => intro v0 v2 σ; exact jb3_remove_2 N (L3_remove_2 N n) ih v0 v2 σ
set_option maxRecDepth 20000 in
set_option maxHeartbeats 4000000 in
theorem j3_remove {Γ : jX} {tg : Unit × rS} (N : Nat) (v0 : Nat) (v1 : Int32) (σ : rS) : J Γ rm3_remove eV cX3_remove RX3 3 none tg 0 0 0 [(0, aR 17 v0), (1, aI v1)] [] σ (f3_remove N v0 v1 σ) := by
  unfold f3_remove
  refine j_iload_n (pc := 0) 1 dX3_remove_0 rfl rfl ?_
  refine j_istore_n (pc := 1) (lv' := [(2, aI v1), (0, aR 17 v0), (1, aI v1)]) dX3_remove_1 rfl (Nat.le_of_ble_eq_true rfl) rfl ?_
  refine j_sub [0, 1] (lv' := [(2, aI v1), (0, aR 17 v0)]) rfl ?_
  refine j_sub [1, 0] (lv' := [(0, aR 17 v0), (2, aI v1)]) rfl ?_
  exact jl3_remove_2 N  N v0 v1 σ
theorem c3_remove (l : Launch) (N : Nat) (v0 : Nat) (v1 : Int32) : Ctr l yX3_remove cX3_remove 3 none rm3_remove eV [aR 17 v0, aI v1] (f3_remove N v0 v1) := ctr_of (lv := [(0, aR 17 v0), (1, aI v1)]) (by decide +kernel) (fun _ => rfl) (fun _ => (Nat.le_of_ble_eq_true rfl)) (fun _ h => lvl_als h rfl) (fun _ σ _ => j3_remove N v0 v1 σ)
abbrev rm8_release : Room := { frames := 0, cells := 0, slots := 0, locals := 0 }
set_option maxRecDepth 20000 in
set_option maxHeartbeats 4000000 in
theorem j8_release {Γ : jX} {tg : Unit × rS} (v0 : Nat) (v1 : Nat) (σ : rS) : J Γ rm8_release eV cX8_release RX8 2 none tg 0 0 0 [(0, aR 6 v0), (1, aR 20 v1)] [] σ (f8_release v0 v1 σ) := by
  unfold f8_release
  refine j_aload_n (pc := 0) 1 dX8_release_0 rfl rfl ?_
  refine j_dup (pc := 1) dX8_release_1 rfl ?_
  refine j_getI (pc := 2) fd_20_3 tw_3_133 dX8_release_2 ?_
  refine j_iconst (pc := 5) (v := 1) (by decide) dX8_release_5 ?_
  refine j_isub (pc := 6) dX8_release_6 ?_
  refine j_putI (pc := 7) fd_20_3 rfl rfl tw_3_133 dX8_release_7 ?_
  refine j_lets (fun σ1 => ?_)
  refine j_aload_n (pc := 10) 1 dX8_release_10 rfl rfl ?_
  refine j_getI (pc := 11) fd_20_3 tw_3_133 dX8_release_11 ?_
  refine j_ifne (pc := 14) (tgt := 27) dX8_release_14 rfl (fun _ => ?_) (fun _ => ?_)
  · exact j_return (pc := 27) rfl (Nat.le_of_ble_eq_true rfl) (Nat.le_of_ble_eq_true rfl) dX8_release_27
  · refine j_aload_n (pc := 17) 0 dX8_release_17 rfl rfl ?_
    refine j_dup (pc := 18) dX8_release_18 rfl ?_
    refine j_getI (pc := 19) fd_6_1 tw_1_43 dX8_release_19 ?_
    refine j_iconst (pc := 22) (v := 1) (by decide) dX8_release_22 ?_
    refine j_isub (pc := 23) dX8_release_23 ?_
    refine j_putI (pc := 24) fd_6_1 rfl rfl tw_1_43 dX8_release_24 ?_
    refine j_lets (fun σ2 => ?_)
    exact j_return (pc := 27) rfl (Nat.le_of_ble_eq_true rfl) (Nat.le_of_ble_eq_true rfl) dX8_release_27
theorem c8_release (l : Launch) (v0 : Nat) (v1 : Nat) : Ctr l yX8_release cX8_release 2 none rm8_release eV [aR 6 v0, aR 20 v1] (f8_release v0 v1) := ctr_of (lv := [(0, aR 6 v0), (1, aR 20 v1)]) (by decide +kernel) (fun _ => rfl) (fun _ => (Nat.le_of_ble_eq_true rfl)) (fun _ h => lvl_als h rfl) (fun _ σ _ => j8_release v0 v1 σ)
theorem cs_RX10_203 : CaV RX10 RX10 203 yX10_houseNumbered cX10_houseNumbered 2 (some (.object "PackDesk$House")) 1 := ⟨tw_3_104, tw_3_106, tw_p17, tw_1_1, tw_3_107, rfl, by decide +kernel, by decide +kernel, by decide +kernel⟩
theorem cs_RX10_207 : CaV RX10 RX3 207 yX3_entryOf cX3_entryOf 4 (some .int) 1 := ⟨tw_3_108, tw_3_109, tw_3_110, tw_1_15, tw_3_111, rfl, by decide +kernel, by decide +kernel, by decide +kernel⟩
theorem cs_RX10_241 : CaV RX10 RX3 241 yX3_remove cX3_remove 3 none 1 := ⟨tw_3_161, tw_3_162, tw_3_163, tw_1_15, tw_3_164, rfl, by decide +kernel, by decide +kernel, by decide +kernel⟩
theorem cs_RX10_234 : CaV RX10 RX8 234 yX8_release cX8_release 2 none 1 := ⟨tw_3_149, tw_3_150, tw_3_151, tw_1_2, tw_3_152, rfl, by decide +kernel, by decide +kernel, by decide +kernel⟩
abbrev rm10_drop : Room := { frames := 1, cells := 0, slots := 0, locals := 23 }
set_option maxRecDepth 20000 in
set_option maxHeartbeats 4000000 in
theorem j10_drop {Γ : jX} {tg : Int32 × rS} (N : Nat) (v0 : Nat) (v1 : Int32) (v2 : Int64) (σ : rS) : J Γ rm10_drop eI cX10_drop RX10 7 (some .int) tg 0 0 0 [(0, aR 0 v0), (1, aI v1), (2, aL v2)] [] σ (f10_drop N v0 v1 v2 σ) := by
  unfold f10_drop
  refine j_aload_n (pc := 0) 0 dX10_drop_0 rfl rfl ?_
  refine j_iload_n (pc := 1) 1 dX10_drop_1 rfl rfl ?_
  refine j_callVR (pc := 2) (As := [aI v1]) (st := []) (fun l => c10_houseNumbered l v0 v1) cs_RX10_203 rfl rfl rfl rfl (Nat.le_of_ble_eq_true rfl) ⟨(Nat.le_of_ble_eq_true rfl), (Nat.le_of_ble_eq_true rfl)⟩ ⟨(Nat.le_of_ble_eq_true rfl), (Nat.le_of_ble_eq_true rfl)⟩ dX10_drop_2 (fun r1 σ2 => ?_)
  refine j_astore (pc := 5) (lv' := [(4, aO 17 r1), (0, aR 0 v0), (1, aI v1), (2, aL v2)]) dX10_drop_5 (Nat.le_of_ble_eq_true rfl) rfl ?_
  refine j_sub [0, 1, 3] (lv' := [(4, aO 17 r1), (0, aR 0 v0), (2, aL v2)]) rfl ?_
  refine j_aload (pc := 7) 0 dX10_drop_7 rfl ?_
  refine j_ifnonnull (pc := 9) (tgt := 15) dX10_drop_9 rfl (fun hm => ?_) (fun i3 hm => ?_)
  · subst hm
    refine j_bipush (pc := 12) (v := (-101)) (by decide) dX10_drop_12 ?_
    exact j_ireturn (pc := 14) rfl (Nat.le_of_ble_eq_true rfl) (Nat.le_of_ble_eq_true rfl) dX10_drop_14
  · subst hm
    refine j_lload_n (pc := 15) 2 dX10_drop_15 rfl rfl ?_
    refine j_lconst (pc := 16) (v := 0) (by decide) dX10_drop_16 ?_
    refine j_lcmpge (pc := 17) (tgt := 24) dX10_drop_17 dX10_drop_18 rfl (fun _ => ?_) (fun _ => ?_)
    · refine j_aload (pc := 24) 0 dX10_drop_24 rfl ?_
      refine j_lload_n (pc := 26) 2 dX10_drop_26 rfl rfl ?_
      refine j_callVI (pc := 27) (As := [aL v2]) (st := []) (fun l => c3_entryOf l N i3 v2) cs_RX10_207 rfl rfl rfl rfl (Nat.le_of_ble_eq_true rfl) ⟨(Nat.le_of_ble_eq_true rfl), (Nat.le_of_ble_eq_true rfl)⟩ ⟨(Nat.le_of_ble_eq_true rfl), (Nat.le_of_ble_eq_true rfl)⟩ dX10_drop_27 (fun r4 σ5 => ?_)
      refine j_istore (pc := 30) (lv' := [(5, aI r4), (4, aR 17 i3), (0, aR 0 v0), (2, aL v2)]) dX10_drop_30 (Nat.le_of_ble_eq_true rfl) rfl ?_
      refine j_sub [0, 1, 2] (lv' := [(5, aI r4), (4, aR 17 i3), (0, aR 0 v0)]) rfl ?_
      refine j_iload (pc := 32) 0 dX10_drop_32 rfl ?_
      refine j_iconst (pc := 34) (v := (-1)) (by decide) dX10_drop_34 ?_
      refine j_icmpne (pc := 35) (tgt := 40) dX10_drop_35 rfl (fun _ => ?_) (fun _ => ?_)
      · refine j_aload (pc := 40) 1 dX10_drop_40 rfl ?_
        refine j_getF (pc := 42) fd_17_1 tw_3_90 dX10_drop_42 ?_
        refine j_iload (pc := 45) 0 dX10_drop_45 rfl ?_
        refine j_aald (pc := 47) rfl rfl rfl dX10_drop_47 (fun j6 o7 => ?_)
        refine j_astore (pc := 48) (lv' := [(6, aO 20 o7), (5, aI r4), (4, aR 17 i3), (0, aR 0 v0)]) dX10_drop_48 (Nat.le_of_ble_eq_true rfl) rfl ?_
        refine j_aload (pc := 50) 2 dX10_drop_50 rfl ?_
        refine j_iload (pc := 52) 1 dX10_drop_52 rfl ?_
        refine j_callVV (pc := 54) (As := [aI r4]) (st := []) (fun l => c3_remove l N i3 r4) cs_RX10_241 rfl rfl rfl rfl (Nat.le_of_ble_eq_true rfl) ⟨(Nat.le_of_ble_eq_true rfl), (Nat.le_of_ble_eq_true rfl)⟩ ⟨(Nat.le_of_ble_eq_true rfl), (Nat.le_of_ble_eq_true rfl)⟩ dX10_drop_54 (fun r8 σ9 => ?_)
        refine j_aload_n (pc := 57) 3 dX10_drop_57 rfl rfl ?_
        refine j_getF (pc := 58) fd_0_4 tw_1_113 dX10_drop_58 ?_
        refine j_aload (pc := 61) 0 dX10_drop_61 rfl ?_
        refine j_must (fun i10 hm => ?_)
        subst hm
        refine j_callVV (pc := 63) (As := [aR 20 i10]) (st := []) (fun l => c8_release l v0 i10) cs_RX10_234 rfl rfl rfl rfl (Nat.le_of_ble_eq_true rfl) ⟨(Nat.le_of_ble_eq_true rfl), (Nat.le_of_ble_eq_true rfl)⟩ ⟨(Nat.le_of_ble_eq_true rfl), (Nat.le_of_ble_eq_true rfl)⟩ dX10_drop_63 (fun r11 σ12 => ?_)
        refine j_aload (pc := 66) 0 dX10_drop_66 rfl ?_
        refine j_getI (pc := 68) fd_20_2 tw_3_132 dX10_drop_68 ?_
        exact j_ireturn (pc := 71) rfl (Nat.le_of_ble_eq_true rfl) (Nat.le_of_ble_eq_true rfl) dX10_drop_71
      · refine j_iconst (pc := 38) (v := (-1)) (by decide) dX10_drop_38 ?_
        exact j_ireturn (pc := 39) rfl (Nat.le_of_ble_eq_true rfl) (Nat.le_of_ble_eq_true rfl) dX10_drop_39
    · refine j_bipush (pc := 21) (v := (-102)) (by decide) dX10_drop_21 ?_
      exact j_ireturn (pc := 23) rfl (Nat.le_of_ble_eq_true rfl) (Nat.le_of_ble_eq_true rfl) dX10_drop_23
theorem c10_drop (l : Launch) (N : Nat) (v0 : Nat) (v1 : Int32) (v2 : Int64) : Ctr l yX10_drop cX10_drop 7 (some .int) rm10_drop eI [aR 0 v0, aI v1, aL v2] (f10_drop N v0 v1 v2) := ctr_of (lv := [(0, aR 0 v0), (1, aI v1), (2, aL v2)]) (by decide +kernel) (fun _ => rfl) (fun _ => (Nat.le_of_ble_eq_true rfl)) (fun _ h => lvl_als h rfl) (fun _ σ _ => j10_drop N v0 v1 v2 σ)
abbrev rm10_end : Room := { frames := 1, cells := 0, slots := 0, locals := 21 }
set_option maxRecDepth 20000 in
set_option maxHeartbeats 4000000 in
theorem j10_end {Γ : jX} {tg : Int32 × rS} (v0 : Nat) (v1 : Int32) (σ : rS) : J Γ rm10_end eI cX10_end RX10 3 (some .int) tg 0 0 0 [(0, aR 0 v0), (1, aI v1)] [] σ (f10_end v0 v1 σ) := by
  unfold f10_end
  refine j_aload_n (pc := 0) 0 dX10_end_0 rfl rfl ?_
  refine j_iload_n (pc := 1) 1 dX10_end_1 rfl rfl ?_
  refine j_callVR (pc := 2) (As := [aI v1]) (st := []) (fun l => c10_streamNumbered l v0 v1) cs_RX10_145 rfl rfl rfl rfl (Nat.le_of_ble_eq_true rfl) ⟨(Nat.le_of_ble_eq_true rfl), (Nat.le_of_ble_eq_true rfl)⟩ ⟨(Nat.le_of_ble_eq_true rfl), (Nat.le_of_ble_eq_true rfl)⟩ dX10_end_2 (fun r1 σ2 => ?_)
  refine j_astore_n (pc := 5) (lv' := [(2, aO 15 r1), (0, aR 0 v0), (1, aI v1)]) dX10_end_5 rfl (Nat.le_of_ble_eq_true rfl) rfl ?_
  refine j_sub [0] (lv' := [(2, aO 15 r1)]) rfl ?_
  refine j_aload_n (pc := 6) 0 dX10_end_6 rfl rfl ?_
  refine j_ifnonnull (pc := 7) (tgt := 13) dX10_end_7 rfl (fun hm => ?_) (fun i3 hm => ?_)
  · subst hm
    refine j_bipush (pc := 10) (v := (-101)) (by decide) dX10_end_10 ?_
    exact j_ireturn (pc := 12) rfl (Nat.le_of_ble_eq_true rfl) (Nat.le_of_ble_eq_true rfl) dX10_end_12
  · subst hm
    refine j_aload_n (pc := 13) 0 dX10_end_13 rfl rfl ?_
    refine j_getI (pc := 14) fd_15_3 tw_2_144 dX10_end_14 ?_
    refine j_ifeq (pc := 17) (tgt := 23) dX10_end_17 rfl (fun _ => ?_) (fun _ => ?_)
    · refine j_aload_n (pc := 23) 0 dX10_end_23 rfl rfl ?_
      refine j_iconst (pc := 24) (v := 1) (by decide) dX10_end_24 ?_
      refine j_putI (pc := 25) fd_15_3 rfl rfl tw_2_144 dX10_end_25 ?_
      refine j_lets (fun σ4 => ?_)
      refine j_aload_n (pc := 28) 0 dX10_end_28 rfl rfl ?_
      refine j_getI (pc := 29) fd_15_1 tw_2_142 dX10_end_29 ?_
      exact j_ireturn (pc := 32) rfl (Nat.le_of_ble_eq_true rfl) (Nat.le_of_ble_eq_true rfl) dX10_end_32
    · refine j_bipush (pc := 20) (v := (-103)) (by decide) dX10_end_20 ?_
      exact j_ireturn (pc := 22) rfl (Nat.le_of_ble_eq_true rfl) (Nat.le_of_ble_eq_true rfl) dX10_end_22
theorem c10_end (l : Launch) (v0 : Nat) (v1 : Int32) : Ctr l yX10_end cX10_end 3 (some .int) rm10_end eI [aR 0 v0, aI v1] (f10_end v0 v1) := ctr_of (lv := [(0, aR 0 v0), (1, aI v1)]) (by decide +kernel) (fun _ => rfl) (fun _ => (Nat.le_of_ble_eq_true rfl)) (fun _ h => lvl_als h rfl) (fun _ σ _ => j10_end v0 v1 σ)
abbrev rm10_find : Room := { frames := 1, cells := 0, slots := 0, locals := 23 }
set_option maxRecDepth 20000 in
set_option maxHeartbeats 4000000 in
theorem j10_find {Γ : jX} {tg : Int32 × rS} (N : Nat) (v0 : Nat) (v1 : Int32) (v2 : Int64) (σ : rS) : J Γ rm10_find eI cX10_find RX10 6 (some .int) tg 0 0 0 [(0, aR 0 v0), (1, aI v1), (2, aL v2)] [] σ (f10_find N v0 v1 v2 σ) := by
  unfold f10_find
  refine j_aload_n (pc := 0) 0 dX10_find_0 rfl rfl ?_
  refine j_iload_n (pc := 1) 1 dX10_find_1 rfl rfl ?_
  refine j_callVR (pc := 2) (As := [aI v1]) (st := []) (fun l => c10_houseNumbered l v0 v1) cs_RX10_203 rfl rfl rfl rfl (Nat.le_of_ble_eq_true rfl) ⟨(Nat.le_of_ble_eq_true rfl), (Nat.le_of_ble_eq_true rfl)⟩ ⟨(Nat.le_of_ble_eq_true rfl), (Nat.le_of_ble_eq_true rfl)⟩ dX10_find_2 (fun r1 σ2 => ?_)
  refine j_astore (pc := 5) (lv' := [(4, aO 17 r1), (0, aR 0 v0), (1, aI v1), (2, aL v2)]) dX10_find_5 (Nat.le_of_ble_eq_true rfl) rfl ?_
  refine j_sub [0, 3] (lv' := [(4, aO 17 r1), (2, aL v2)]) rfl ?_
  refine j_aload (pc := 7) 0 dX10_find_7 rfl ?_
  refine j_ifnonnull (pc := 9) (tgt := 15) dX10_find_9 rfl (fun hm => ?_) (fun i3 hm => ?_)
  · subst hm
    refine j_bipush (pc := 12) (v := (-101)) (by decide) dX10_find_12 ?_
    exact j_ireturn (pc := 14) rfl (Nat.le_of_ble_eq_true rfl) (Nat.le_of_ble_eq_true rfl) dX10_find_14
  · subst hm
    refine j_lload_n (pc := 15) 1 dX10_find_15 rfl rfl ?_
    refine j_lconst (pc := 16) (v := 0) (by decide) dX10_find_16 ?_
    refine j_lcmpge (pc := 17) (tgt := 24) dX10_find_17 dX10_find_18 rfl (fun _ => ?_) (fun _ => ?_)
    · refine j_aload (pc := 24) 0 dX10_find_24 rfl ?_
      refine j_lload_n (pc := 26) 1 dX10_find_26 rfl rfl ?_
      refine j_callVI (pc := 27) (As := [aL v2]) (st := []) (fun l => c3_entryOf l N i3 v2) cs_RX10_207 rfl rfl rfl rfl (Nat.le_of_ble_eq_true rfl) ⟨(Nat.le_of_ble_eq_true rfl), (Nat.le_of_ble_eq_true rfl)⟩ ⟨(Nat.le_of_ble_eq_true rfl), (Nat.le_of_ble_eq_true rfl)⟩ dX10_find_27 (fun r4 σ5 => ?_)
      refine j_istore (pc := 30) (lv' := [(5, aI r4), (4, aR 17 i3), (2, aL v2)]) dX10_find_30 (Nat.le_of_ble_eq_true rfl) rfl ?_
      refine j_sub [0, 1] (lv' := [(5, aI r4), (4, aR 17 i3)]) rfl ?_
      refine j_iload (pc := 32) 0 dX10_find_32 rfl ?_
      refine j_iconst (pc := 34) (v := (-1)) (by decide) dX10_find_34 ?_
      refine j_icmpne (pc := 35) (tgt := 42) dX10_find_35 rfl (fun _ => ?_) (fun _ => ?_)
      · refine j_aload (pc := 42) 1 dX10_find_42 rfl ?_
        refine j_getF (pc := 44) fd_17_1 tw_3_90 dX10_find_44 ?_
        refine j_iload (pc := 47) 0 dX10_find_47 rfl ?_
        refine j_aald (pc := 49) rfl rfl rfl dX10_find_49 (fun j6 o7 => ?_)
        refine j_must (fun i8 hm => ?_)
        subst hm
        refine j_getI (pc := 50) fd_20_2 tw_3_132 dX10_find_50 ?_
        exact j_ireturn (pc := 53) rfl (Nat.le_of_ble_eq_true rfl) (Nat.le_of_ble_eq_true rfl) dX10_find_53
      · refine j_iconst (pc := 38) (v := (-1)) (by decide) dX10_find_38 ?_
        refine j_goto (pc := 39) (tgt := 53) dX10_find_39 rfl ?_
        exact j_ireturn (pc := 53) rfl (Nat.le_of_ble_eq_true rfl) (Nat.le_of_ble_eq_true rfl) dX10_find_53
    · refine j_bipush (pc := 21) (v := (-102)) (by decide) dX10_find_21 ?_
      exact j_ireturn (pc := 23) rfl (Nat.le_of_ble_eq_true rfl) (Nat.le_of_ble_eq_true rfl) dX10_find_23
theorem c10_find (l : Launch) (N : Nat) (v0 : Nat) (v1 : Int32) (v2 : Int64) : Ctr l yX10_find cX10_find 6 (some .int) rm10_find eI [aR 0 v0, aI v1, aL v2] (f10_find N v0 v1 v2) := ctr_of (lv := [(0, aR 0 v0), (1, aI v1), (2, aL v2)]) (by decide +kernel) (fun _ => rfl) (fun _ => (Nat.le_of_ble_eq_true rfl)) (fun _ h => lvl_als h rfl) (fun _ σ _ => j10_find N v0 v1 v2 σ)
abbrev rm10_finding : Room := { frames := 0, cells := 0, slots := 0, locals := 0 }
set_option maxRecDepth 20000 in
set_option maxHeartbeats 4000000 in
theorem j10_finding {Γ : jX} {tg : Int32 × rS} (v0 : Nat) (σ : rS) : J Γ rm10_finding eI cX10_finding RX10 1 (some .int) tg 0 0 0 [(0, aR 0 v0)] [] σ (f10_finding v0 σ) := by
  unfold f10_finding
  refine j_aload_n (pc := 0) 0 dX10_finding_0 rfl rfl ?_
  refine j_getI (pc := 1) fd_0_12 tw_1_121 dX10_finding_1 ?_
  exact j_ireturn (pc := 4) rfl (Nat.le_of_ble_eq_true rfl) (Nat.le_of_ble_eq_true rfl) dX10_finding_4
theorem c10_finding (l : Launch) (v0 : Nat) : Ctr l yX10_finding cX10_finding 1 (some .int) rm10_finding eI [aR 0 v0] (f10_finding v0) := ctr_of (lv := [(0, aR 0 v0)]) (by decide +kernel) (fun _ => rfl) (fun _ => (Nat.le_of_ble_eq_true rfl)) (fun _ h => lvl_als h rfl) (fun _ σ _ => j10_finding v0 σ)
abbrev rm10_findings : Room := { frames := 0, cells := 0, slots := 0, locals := 0 }
set_option maxRecDepth 20000 in
set_option maxHeartbeats 4000000 in
theorem j10_findings {Γ : jX} {tg : Int32 × rS} (v0 : Nat) (v1 : Int32) (σ : rS) : J Γ rm10_findings eI cX10_findings RX10 2 (some .int) tg 0 0 0 [(0, aR 0 v0), (1, aI v1)] [] σ (f10_findings v0 v1 σ) := by
  unfold f10_findings
  refine j_iload_n (pc := 0) 1 dX10_findings_0 rfl rfl ?_
  refine j_iconst (pc := 1) (v := 1) (by decide) dX10_findings_1 ?_
  refine j_icmplt (pc := 2) (tgt := 11) dX10_findings_2 rfl (fun _ => ?_) (fun _ => ?_)
  · refine j_bipush (pc := 11) (v := (-102)) (by decide) dX10_findings_11 ?_
    exact j_ireturn (pc := 13) rfl (Nat.le_of_ble_eq_true rfl) (Nat.le_of_ble_eq_true rfl) dX10_findings_13
  · refine j_iload_n (pc := 5) 1 dX10_findings_5 rfl rfl ?_
    refine j_bipush (pc := 6) (v := 9) (by decide) dX10_findings_6 ?_
    refine j_icmple (pc := 8) (tgt := 14) dX10_findings_8 rfl (fun _ => ?_) (fun _ => ?_)
    · refine j_aload_n (pc := 14) 0 dX10_findings_14 rfl rfl ?_
      refine j_getF (pc := 15) fd_0_7 tw_1_116 dX10_findings_15 ?_
      refine j_iload_n (pc := 18) 1 dX10_findings_18 rfl rfl ?_
      refine j_iald (pc := 19) rfl rfl rfl dX10_findings_19 (fun j1 => ?_)
      exact j_ireturn (pc := 20) rfl (Nat.le_of_ble_eq_true rfl) (Nat.le_of_ble_eq_true rfl) dX10_findings_20
    · refine j_bipush (pc := 11) (v := (-102)) (by decide) dX10_findings_11 ?_
      exact j_ireturn (pc := 13) rfl (Nat.le_of_ble_eq_true rfl) (Nat.le_of_ble_eq_true rfl) dX10_findings_13
theorem c10_findings (l : Launch) (v0 : Nat) (v1 : Int32) : Ctr l yX10_findings cX10_findings 2 (some .int) rm10_findings eI [aR 0 v0, aI v1] (f10_findings v0 v1) := ctr_of (lv := [(0, aR 0 v0), (1, aI v1)]) (by decide +kernel) (fun _ => rfl) (fun _ => (Nat.le_of_ble_eq_true rfl)) (fun _ h => lvl_als h rfl) (fun _ σ _ => j10_findings v0 v1 σ)
abbrev rm10_get : Room := { frames := 1, cells := 0, slots := 0, locals := 21 }
set_option maxRecDepth 20000 in
set_option maxHeartbeats 4000000 in
theorem j10_get {Γ : jX} {tg : Int32 × rS} (v0 : Nat) (v1 : Int32) (v2 : Int32) (σ : rS) : J Γ rm10_get eI cX10_get RX10 4 (some .int) tg 0 0 0 [(0, aR 0 v0), (1, aI v1), (2, aI v2)] [] σ (f10_get v0 v1 v2 σ) := by
  unfold f10_get
  refine j_aload_n (pc := 0) 0 dX10_get_0 rfl rfl ?_
  refine j_iload_n (pc := 1) 1 dX10_get_1 rfl rfl ?_
  refine j_callVR (pc := 2) (As := [aI v1]) (st := []) (fun l => c10_rowNumbered l v0 v1) cs_RX10_74 rfl rfl rfl rfl (Nat.le_of_ble_eq_true rfl) ⟨(Nat.le_of_ble_eq_true rfl), (Nat.le_of_ble_eq_true rfl)⟩ ⟨(Nat.le_of_ble_eq_true rfl), (Nat.le_of_ble_eq_true rfl)⟩ dX10_get_2 (fun r1 σ2 => ?_)
  refine j_astore_n (pc := 5) (lv' := [(3, aO 13 r1), (0, aR 0 v0), (1, aI v1), (2, aI v2)]) dX10_get_5 rfl (Nat.le_of_ble_eq_true rfl) rfl ?_
  refine j_sub [0, 1, 3] (lv' := [(3, aO 13 r1), (0, aR 0 v0), (2, aI v2)]) rfl ?_
  refine j_aload_n (pc := 6) 0 dX10_get_6 rfl rfl ?_
  refine j_ifnonnull (pc := 7) (tgt := 13) dX10_get_7 rfl (fun hm => ?_) (fun i3 hm => ?_)
  · subst hm
    refine j_bipush (pc := 10) (v := (-101)) (by decide) dX10_get_10 ?_
    exact j_ireturn (pc := 12) rfl (Nat.le_of_ble_eq_true rfl) (Nat.le_of_ble_eq_true rfl) dX10_get_12
  · subst hm
    refine j_aload_n (pc := 13) 0 dX10_get_13 rfl rfl ?_
    refine j_getI (pc := 14) fd_13_2 tw_1_177 dX10_get_14 ?_
    refine j_ifeq (pc := 17) (tgt := 26) dX10_get_17 rfl (fun _ => ?_) (fun _ => ?_)
    · refine j_aload_n (pc := 26) 0 dX10_get_26 rfl rfl ?_
      refine j_iload_n (pc := 27) 2 dX10_get_27 rfl rfl ?_
      refine j_callVZ (pc := 28) (As := [aI v2]) (st := []) (fun l => c7_has l i3 v2) cs_RX10_89 rfl rfl rfl rfl (Nat.le_of_ble_eq_true rfl) ⟨(Nat.le_of_ble_eq_true rfl), (Nat.le_of_ble_eq_true rfl)⟩ ⟨(Nat.le_of_ble_eq_true rfl), (Nat.le_of_ble_eq_true rfl)⟩ dX10_get_28 (fun r4 σ5 => ?_)
      refine j_ifneB (pc := 31) (tgt := 40) dX10_get_31 rfl (fun _ => ?_) (fun _ => ?_)
      · refine j_aload_n (pc := 40) 1 dX10_get_40 rfl rfl ?_
        refine j_aload_n (pc := 41) 0 dX10_get_41 rfl rfl ?_
        refine j_getF (pc := 42) fd_13_1 tw_1_176 dX10_get_42 ?_
        refine j_iload_n (pc := 45) 2 dX10_get_45 rfl rfl ?_
        refine j_lald (pc := 46) rfl rfl rfl dX10_get_46 (fun j6 => ?_)
        refine j_putL (pc := 47) fd_0_13 tw_1_122 dX10_get_47 ?_
        refine j_lets (fun σ7 => ?_)
        refine j_iconst (pc := 50) (v := 0) (by decide) dX10_get_50 ?_
        exact j_ireturn (pc := 51) rfl (Nat.le_of_ble_eq_true rfl) (Nat.le_of_ble_eq_true rfl) dX10_get_51
      · refine j_aload_n (pc := 34) 1 dX10_get_34 rfl rfl ?_
        refine j_iconst (pc := 35) (v := 2) (by decide) dX10_get_35 ?_
        refine j_callVI (pc := 36) (As := [aI 2]) (st := []) (fun l => c10_found l v0 2) cs_RX10_66 rfl rfl rfl rfl (Nat.le_of_ble_eq_true rfl) ⟨(Nat.le_of_ble_eq_true rfl), (Nat.le_of_ble_eq_true rfl)⟩ ⟨(Nat.le_of_ble_eq_true rfl), (Nat.le_of_ble_eq_true rfl)⟩ dX10_get_36 (fun r8 σ9 => ?_)
        exact j_ireturn (pc := 39) rfl (Nat.le_of_ble_eq_true rfl) (Nat.le_of_ble_eq_true rfl) dX10_get_39
    · refine j_aload_n (pc := 20) 1 dX10_get_20 rfl rfl ?_
      refine j_iconst (pc := 21) (v := 1) (by decide) dX10_get_21 ?_
      refine j_callVI (pc := 22) (As := [aI 1]) (st := []) (fun l => c10_found l v0 1) cs_RX10_66 rfl rfl rfl rfl (Nat.le_of_ble_eq_true rfl) ⟨(Nat.le_of_ble_eq_true rfl), (Nat.le_of_ble_eq_true rfl)⟩ ⟨(Nat.le_of_ble_eq_true rfl), (Nat.le_of_ble_eq_true rfl)⟩ dX10_get_22 (fun r10 σ11 => ?_)
      exact j_ireturn (pc := 25) rfl (Nat.le_of_ble_eq_true rfl) (Nat.le_of_ble_eq_true rfl) dX10_get_25
theorem c10_get (l : Launch) (v0 : Nat) (v1 : Int32) (v2 : Int32) : Ctr l yX10_get cX10_get 4 (some .int) rm10_get eI [aR 0 v0, aI v1, aI v2] (f10_get v0 v1 v2) := ctr_of (lv := [(0, aR 0 v0), (1, aI v1), (2, aI v2)]) (by decide +kernel) (fun _ => rfl) (fun _ => (Nat.le_of_ble_eq_true rfl)) (fun _ h => lvl_als h rfl) (fun _ σ _ => j10_get v0 v1 v2 σ)
abbrev rm10_harm : Room := { frames := 2, cells := 0, slots := 0, locals := 42 }
set_option maxRecDepth 20000 in
set_option maxHeartbeats 4000000 in
theorem j10_harm {Γ : jX} {tg : Int32 × rS} (v0 : Nat) (v1 : Int32) (v2 : Int32) (v3 : Int32) (σ : rS) : J Γ rm10_harm eI cX10_harm RX10 5 (some .int) tg 0 0 0 [(0, aR 0 v0), (1, aI v1), (2, aI v2), (3, aI v3)] [] σ (f10_harm v0 v1 v2 v3 σ) := by
  unfold f10_harm
  refine j_aload_n (pc := 0) 0 dX10_harm_0 rfl rfl ?_
  refine j_iload_n (pc := 1) 1 dX10_harm_1 rfl rfl ?_
  refine j_callVR (pc := 2) (As := [aI v1]) (st := []) (fun l => c10_streamNumbered l v0 v1) cs_RX10_145 rfl rfl rfl rfl (Nat.le_of_ble_eq_true rfl) ⟨(Nat.le_of_ble_eq_true rfl), (Nat.le_of_ble_eq_true rfl)⟩ ⟨(Nat.le_of_ble_eq_true rfl), (Nat.le_of_ble_eq_true rfl)⟩ dX10_harm_2 (fun r1 σ2 => ?_)
  refine j_astore (pc := 5) (lv' := [(4, aO 15 r1), (0, aR 0 v0), (1, aI v1), (2, aI v2), (3, aI v3)]) dX10_harm_5 (Nat.le_of_ble_eq_true rfl) rfl ?_
  refine j_sub [0, 1, 3, 4] (lv' := [(4, aO 15 r1), (0, aR 0 v0), (2, aI v2), (3, aI v3)]) rfl ?_
  refine j_aload (pc := 7) 0 dX10_harm_7 rfl ?_
  refine j_ifnonnull (pc := 9) (tgt := 15) dX10_harm_9 rfl (fun hm => ?_) (fun i3 hm => ?_)
  · subst hm
    refine j_bipush (pc := 12) (v := (-101)) (by decide) dX10_harm_12 ?_
    exact j_ireturn (pc := 14) rfl (Nat.le_of_ble_eq_true rfl) (Nat.le_of_ble_eq_true rfl) dX10_harm_14
  · subst hm
    refine j_aload (pc := 15) 0 dX10_harm_15 rfl ?_
    refine j_iload_n (pc := 17) 2 dX10_harm_17 rfl rfl ?_
    refine j_callVZ (pc := 18) (As := [aI v2]) (st := []) (fun l => c9_has l i3 v2) cs_RX10_177 rfl rfl rfl rfl (Nat.le_of_ble_eq_true rfl) ⟨(Nat.le_of_ble_eq_true rfl), (Nat.le_of_ble_eq_true rfl)⟩ ⟨(Nat.le_of_ble_eq_true rfl), (Nat.le_of_ble_eq_true rfl)⟩ dX10_harm_18 (fun r4 σ5 => ?_)
    refine j_ifneB (pc := 21) (tgt := 30) dX10_harm_21 rfl (fun _ => ?_) (fun _ => ?_)
    · refine j_aload (pc := 30) 0 dX10_harm_30 rfl ?_
      refine j_getF (pc := 32) fd_15_0 tw_2_137 dX10_harm_32 ?_
      refine j_iload_n (pc := 35) 2 dX10_harm_35 rfl rfl ?_
      refine j_aload (pc := 36) 0 dX10_harm_36 rfl ?_
      refine j_getF (pc := 38) fd_15_0 tw_2_137 dX10_harm_38 ?_
      refine j_iload_n (pc := 41) 2 dX10_harm_41 rfl rfl ?_
      refine j_bald (pc := 42) rfl rfl rfl dX10_harm_42 (fun j6 => ?_)
      refine j_iload_n (pc := 43) 3 dX10_harm_43 rfl rfl ?_
      refine j_ixor (pc := 44) dX10_harm_44 ?_
      refine j_i2b (pc := 45) dX10_harm_45 ?_
      refine j_bast (pc := 46) rfl rfl rfl dX10_harm_46 (fun j7 => ?_)
      refine j_lets (fun σ8 => ?_)
      refine j_aload (pc := 47) 0 dX10_harm_47 rfl ?_
      refine j_iload_n (pc := 49) 2 dX10_harm_49 rfl rfl ?_
      refine j_callVI (pc := 50) (As := [aI v2]) (st := []) (fun l => c9_byteAt l i3 v2) cs_RX10_178 rfl rfl rfl rfl (Nat.le_of_ble_eq_true rfl) ⟨(Nat.le_of_ble_eq_true rfl), (Nat.le_of_ble_eq_true rfl)⟩ ⟨(Nat.le_of_ble_eq_true rfl), (Nat.le_of_ble_eq_true rfl)⟩ dX10_harm_50 (fun r9 σ10 => ?_)
      exact j_ireturn (pc := 53) rfl (Nat.le_of_ble_eq_true rfl) (Nat.le_of_ble_eq_true rfl) dX10_harm_53
    · refine j_aload_n (pc := 24) 1 dX10_harm_24 rfl rfl ?_
      refine j_iconst (pc := 25) (v := 2) (by decide) dX10_harm_25 ?_
      refine j_callVI (pc := 26) (As := [aI 2]) (st := []) (fun l => c10_found l v0 2) cs_RX10_66 rfl rfl rfl rfl (Nat.le_of_ble_eq_true rfl) ⟨(Nat.le_of_ble_eq_true rfl), (Nat.le_of_ble_eq_true rfl)⟩ ⟨(Nat.le_of_ble_eq_true rfl), (Nat.le_of_ble_eq_true rfl)⟩ dX10_harm_26 (fun r11 σ12 => ?_)
      exact j_ireturn (pc := 29) rfl (Nat.le_of_ble_eq_true rfl) (Nat.le_of_ble_eq_true rfl) dX10_harm_29
theorem c10_harm (l : Launch) (v0 : Nat) (v1 : Int32) (v2 : Int32) (v3 : Int32) : Ctr l yX10_harm cX10_harm 5 (some .int) rm10_harm eI [aR 0 v0, aI v1, aI v2, aI v3] (f10_harm v0 v1 v2 v3) := ctr_of (lv := [(0, aR 0 v0), (1, aI v1), (2, aI v2), (3, aI v3)]) (by decide +kernel) (fun _ => rfl) (fun _ => (Nat.le_of_ble_eq_true rfl)) (fun _ h => lvl_als h rfl) (fun _ σ _ => j10_harm v0 v1 v2 v3 σ)
abbrev rm10_house : Room := { frames := 2, cells := 3, slots := 27, locals := 50 }
set_option maxRecDepth 20000 in
set_option maxHeartbeats 4000000 in
theorem j10_house {Γ : jX} {tg : Int32 × rS} (v0 : Nat) (σ : rS) : J Γ rm10_house eI cX10_house RX10 1 (some .int) tg 0 0 0 [(0, aR 0 v0)] [] σ (f10_house v0 σ) := by
  unfold f10_house
  refine j_aload_n (pc := 0) 0 dX10_house_0 rfl rfl ?_
  refine j_getI (pc := 1) fd_0_10 tw_1_119 dX10_house_1 ?_
  refine j_bipush (pc := 4) (v := 6) (by decide) dX10_house_4 ?_
  refine j_icmplt (pc := 6) (tgt := 12) dX10_house_6 rfl (fun _ => ?_) (fun _ => ?_)
  · refine j_aload_n (pc := 12) 0 dX10_house_12 rfl rfl ?_
    refine j_getF (pc := 13) fd_0_2 tw_1_111 dX10_house_13 ?_
    refine j_aload_n (pc := 16) 0 dX10_house_16 rfl rfl ?_
    refine j_getI (pc := 17) fd_0_10 tw_1_119 dX10_house_17 ?_
    refine j_newHouse10 (pc := 20) dX10_house_20 dX10_house_23 dX10_house_24 (Nat.le_of_ble_eq_true rfl) ⟨(Nat.le_of_ble_eq_true rfl), (Nat.le_of_ble_eq_true rfl)⟩ ⟨(Nat.le_of_ble_eq_true rfl), (Nat.le_of_ble_eq_true rfl)⟩ (fun i1 σ2 => ?_)
    refine j_aast (pc := 27) rfl rfl rfl rfl rfl dX10_house_27 (fun j3 => ?_)
    refine j_lets (fun σ4 => ?_)
    refine j_aload_n (pc := 28) 0 dX10_house_28 rfl rfl ?_
    refine j_dup (pc := 29) dX10_house_29 rfl ?_
    refine j_getI (pc := 30) fd_0_10 tw_1_119 dX10_house_30 ?_
    refine j_iconst (pc := 33) (v := 1) (by decide) dX10_house_33 ?_
    refine j_iadd (pc := 34) dX10_house_34 ?_
    refine j_putI (pc := 35) fd_0_10 rfl rfl tw_1_119 dX10_house_35 ?_
    refine j_lets (fun σ5 => ?_)
    refine j_aload_n (pc := 38) 0 dX10_house_38 rfl rfl ?_
    refine j_getI (pc := 39) fd_0_10 tw_1_119 dX10_house_39 ?_
    refine j_iconst (pc := 42) (v := 1) (by decide) dX10_house_42 ?_
    refine j_isub (pc := 43) dX10_house_43 ?_
    exact j_ireturn (pc := 44) rfl (Nat.le_of_ble_eq_true rfl) (Nat.le_of_ble_eq_true rfl) dX10_house_44
  · refine j_bipush (pc := 9) (v := (-104)) (by decide) dX10_house_9 ?_
    exact j_ireturn (pc := 11) rfl (Nat.le_of_ble_eq_true rfl) (Nat.le_of_ble_eq_true rfl) dX10_house_11
theorem c10_house (l : Launch) (v0 : Nat) : Ctr l yX10_house cX10_house 1 (some .int) rm10_house eI [aR 0 v0] (f10_house v0) := ctr_of (lv := [(0, aR 0 v0)]) (by decide +kernel) (fun _ => rfl) (fun _ => (Nat.le_of_ble_eq_true rfl)) (fun _ h => lvl_als h rfl) (fun _ σ _ => j10_house v0 σ)
abbrev rm10_isKind : Room := { frames := 0, cells := 0, slots := 0, locals := 0 }
set_option maxRecDepth 20000 in
set_option maxHeartbeats 4000000 in
theorem j10_isKind {Γ : jX} {tg : Bool × rS} (v0 : Int32) (σ : rS) : J Γ rm10_isKind eZ cX10_isKind RX10 1 (some .boolean) tg 0 0 0 [(0, aI v0)] [] σ (f10_isKind v0 σ) := by
  unfold f10_isKind
  refine j_iload_n (pc := 0) 0 dX10_isKind_0 rfl rfl ?_
  refine j_iflt (pc := 1) (tgt := 14) dX10_isKind_1 rfl (fun _ => ?_) (fun _ => ?_)
  · refine j_iconst (pc := 14) (v := 0) (by decide) dX10_isKind_14 ?_
    exact j_zret0 (pc := 15) rfl (Nat.le_of_ble_eq_true rfl) (Nat.le_of_ble_eq_true rfl) dX10_isKind_15
  · refine j_iload_n (pc := 4) 0 dX10_isKind_4 rfl rfl ?_
    refine j_bipush (pc := 5) (v := 7) (by decide) dX10_isKind_5 ?_
    refine j_icmpgt (pc := 7) (tgt := 14) dX10_isKind_7 rfl (fun _ => ?_) (fun _ => ?_)
    · refine j_iconst (pc := 14) (v := 0) (by decide) dX10_isKind_14 ?_
      exact j_zret0 (pc := 15) rfl (Nat.le_of_ble_eq_true rfl) (Nat.le_of_ble_eq_true rfl) dX10_isKind_15
    · refine j_iconst (pc := 10) (v := 1) (by decide) dX10_isKind_10 ?_
      refine j_goto (pc := 11) (tgt := 15) dX10_isKind_11 rfl ?_
      exact j_zret1 (pc := 15) rfl (Nat.le_of_ble_eq_true rfl) (Nat.le_of_ble_eq_true rfl) dX10_isKind_15
theorem c10_isKind (l : Launch) (v0 : Int32) : Ctr l yX10_isKind cX10_isKind 1 (some .boolean) rm10_isKind eZ [aI v0] (f10_isKind v0) := ctr_of (lv := [(0, aI v0)]) (by decide +kernel) (fun _ => rfl) (fun _ => (Nat.le_of_ble_eq_true rfl)) (fun _ h => lvl_als h rfl) (fun _ σ _ => j10_isKind v0 σ)
abbrev rm3_insert : Room := { frames := 0, cells := 0, slots := 0, locals := 0 }
set_option maxRecDepth 20000 in
set_option maxHeartbeats 4000000 in
theorem jb3_insert_73 {Γ : jX} {tg : Unit × rS} (N : Nat) (v0 : Nat) (v1 : Int64) (v3 : Nat) (v4 : Int32) (σ : rS) : J Γ rm3_insert eV cX3_insert RX3 5 none tg 0 0 73 [(0, aR 17 v0), (1, aL v1), (3, aR 20 v3), (4, aI v4)] [] σ (B3_insert_73 N v0 v1 v3 v4 σ) := by
  unfold B3_insert_73
  refine j_aload_n (pc := 73) 0 dX3_insert_73 rfl rfl ?_
  refine j_getF (pc := 74) fd_17_0 tw_3_87 dX3_insert_74 ?_
  refine j_iload (pc := 77) 3 dX3_insert_77 rfl ?_
  refine j_lload_n (pc := 79) 1 dX3_insert_79 rfl rfl ?_
  refine j_last (pc := 80) rfl rfl rfl dX3_insert_80 (fun j1 => ?_)
  refine j_lets (fun σ2 => ?_)
  refine j_aload_n (pc := 81) 0 dX3_insert_81 rfl rfl ?_
  refine j_getF (pc := 82) fd_17_1 tw_3_89 dX3_insert_82 ?_
  refine j_iload (pc := 85) 3 dX3_insert_85 rfl ?_
  refine j_aload_n (pc := 87) 2 dX3_insert_87 rfl rfl ?_
  refine j_aast (pc := 88) rfl rfl rfl rfl rfl dX3_insert_88 (fun j3 => ?_)
  refine j_lets (fun σ4 => ?_)
  refine j_aload_n (pc := 89) 0 dX3_insert_89 rfl rfl ?_
  refine j_dup (pc := 90) dX3_insert_90 rfl ?_
  refine j_getI (pc := 91) fd_17_2 tw_3_91 dX3_insert_91 ?_
  refine j_iconst (pc := 94) (v := 1) (by decide) dX3_insert_94 ?_
  refine j_iadd (pc := 95) dX3_insert_95 ?_
  refine j_putI (pc := 96) fd_17_2 rfl rfl tw_3_91 dX3_insert_96 ?_
  refine j_lets (fun σ5 => ?_)
  exact j_return (pc := 99) rfl (Nat.le_of_ble_eq_true rfl) (Nat.le_of_ble_eq_true rfl) dX3_insert_99
set_option maxRecDepth 20000 in
set_option maxHeartbeats 4000000 in
theorem jb3_insert_16 {Γ : jX} {tg : Unit × rS} (N : Nat) (K16 : Nat → Int64 → Nat → Int32 → rS → Option (Unit × rS)) (hK16 : ∀ (v0 : Nat) (v1 : Int64) (v3 : Nat) (v4 : Int32) (σ : rS), J Γ rm3_insert eV cX3_insert RX3 5 none tg 0 0 16 [(0, aR 17 v0), (1, aL v1), (3, aR 20 v3), (4, aI v4)] [] σ (K16 v0 v1 v3 v4 σ)) (v0 : Nat) (v1 : Int64) (v3 : Nat) (v4 : Int32) (σ : rS) : J Γ rm3_insert eV cX3_insert RX3 5 none tg 0 0 16 [(0, aR 17 v0), (1, aL v1), (3, aR 20 v3), (4, aI v4)] [] σ (B3_insert_16 N K16 v0 v1 v3 v4 σ) := by
  unfold B3_insert_16
  refine j_iload (pc := 16) 3 dX3_insert_16 rfl ?_
  refine j_ifle (pc := 18) (tgt := 73) dX3_insert_18 rfl (fun _ => ?_) (fun _ => ?_)
  · exact jb3_insert_73 N  v0 v1 v3 v4 σ
  · refine j_aload_n (pc := 21) 0 dX3_insert_21 rfl rfl ?_
    refine j_getF (pc := 22) fd_17_0 tw_3_87 dX3_insert_22 ?_
    refine j_iload (pc := 25) 3 dX3_insert_25 rfl ?_
    refine j_iconst (pc := 27) (v := 1) (by decide) dX3_insert_27 ?_
    refine j_isub (pc := 28) dX3_insert_28 ?_
    refine j_lald (pc := 29) rfl rfl rfl dX3_insert_29 (fun j1 => ?_)
    refine j_lload_n (pc := 30) 1 dX3_insert_30 rfl rfl ?_
    refine j_lcmple (pc := 31) (tgt := 73) dX3_insert_31 dX3_insert_32 rfl (fun _ => ?_) (fun _ => ?_)
    · exact jb3_insert_73 N  v0 v1 v3 v4 σ
    · refine j_aload_n (pc := 35) 0 dX3_insert_35 rfl rfl ?_
      refine j_getF (pc := 36) fd_17_0 tw_3_87 dX3_insert_36 ?_
      refine j_iload (pc := 39) 3 dX3_insert_39 rfl ?_
      refine j_aload_n (pc := 41) 0 dX3_insert_41 rfl rfl ?_
      refine j_getF (pc := 42) fd_17_0 tw_3_87 dX3_insert_42 ?_
      refine j_iload (pc := 45) 3 dX3_insert_45 rfl ?_
      refine j_iconst (pc := 47) (v := 1) (by decide) dX3_insert_47 ?_
      refine j_isub (pc := 48) dX3_insert_48 ?_
      refine j_lald (pc := 49) rfl rfl rfl dX3_insert_49 (fun j2 => ?_)
      refine j_last (pc := 50) rfl rfl rfl dX3_insert_50 (fun j3 => ?_)
      refine j_lets (fun σ4 => ?_)
      refine j_aload_n (pc := 51) 0 dX3_insert_51 rfl rfl ?_
      refine j_getF (pc := 52) fd_17_1 tw_3_89 dX3_insert_52 ?_
      refine j_iload (pc := 55) 3 dX3_insert_55 rfl ?_
      refine j_aload_n (pc := 57) 0 dX3_insert_57 rfl rfl ?_
      refine j_getF (pc := 58) fd_17_1 tw_3_89 dX3_insert_58 ?_
      refine j_iload (pc := 61) 3 dX3_insert_61 rfl ?_
      refine j_iconst (pc := 63) (v := 1) (by decide) dX3_insert_63 ?_
      refine j_isub (pc := 64) dX3_insert_64 ?_
      refine j_aald (pc := 65) rfl rfl rfl dX3_insert_65 (fun j5 o6 => ?_)
      refine j_aast (pc := 66) rfl rfl rfl rfl rfl dX3_insert_66 (fun j7 => ?_)
      refine j_lets (fun σ8 => ?_)
      refine j_iinc (pc := 67) (w := (-1)) (lv' := [(4, aI (v4 + (-1))), (0, aR 17 v0), (1, aL v1), (3, aR 20 v3)]) 3 dX3_insert_67 rfl (by decide) (Nat.le_of_ble_eq_true rfl) rfl ?_
      refine j_goto (pc := 70) (tgt := 16) dX3_insert_70 rfl ?_
      refine j_sub [1, 2, 3, 0] (lv' := [(0, aR 17 v0), (1, aL v1), (3, aR 20 v3), (4, aI (v4 + (-1)))]) rfl ?_
      exact hK16 v0 v1 v3 (v4 + (-1)) σ8
theorem jl3_insert_16 {Γ : jX} {tg : Unit × rS} (N : Nat) : ∀ (n : Nat) (v0 : Nat) (v1 : Int64) (v3 : Nat) (v4 : Int32) (σ : rS), J Γ rm3_insert eV cX3_insert RX3 5 none tg 0 0 16 [(0, aR 17 v0), (1, aL v1), (3, aR 20 v3), (4, aI v4)] [] σ (L3_insert_16 N n v0 v1 v3 v4 σ) := by
  intro n
  induction n with
  | zero => intro v0 v1 v3 v4 σ; exact j_none
  | succ n ih => intro v0 v1 v3 v4 σ; exact jb3_insert_16 N (L3_insert_16 N n) ih v0 v1 v3 v4 σ
set_option maxRecDepth 20000 in
set_option maxHeartbeats 4000000 in
theorem j3_insert {Γ : jX} {tg : Unit × rS} (N : Nat) (v0 : Nat) (v1 : Int64) (v3 : Nat) (σ : rS) : J Γ rm3_insert eV cX3_insert RX3 5 none tg 0 0 0 [(0, aR 17 v0), (1, aL v1), (3, aR 20 v3)] [] σ (f3_insert N v0 v1 v3 σ) := by
  unfold f3_insert
  refine j_aload_n (pc := 0) 0 dX3_insert_0 rfl rfl ?_
  refine j_getI (pc := 1) fd_17_2 tw_3_91 dX3_insert_1 ?_
  refine j_bipush (pc := 4) (v := 12) (by decide) dX3_insert_4 ?_
  refine j_icmplt (pc := 6) (tgt := 10) dX3_insert_6 rfl (fun _ => ?_) (fun _ => ?_)
  · refine j_aload_n (pc := 10) 0 dX3_insert_10 rfl rfl ?_
    refine j_getI (pc := 11) fd_17_2 tw_3_91 dX3_insert_11 ?_
    refine j_leti (fun x1 => ?_)
    refine j_istore (pc := 14) (lv' := [(4, aI x1), (0, aR 17 v0), (1, aL v1), (3, aR 20 v3)]) dX3_insert_14 (Nat.le_of_ble_eq_true rfl) rfl ?_
    refine j_sub [1, 2, 3, 0] (lv' := [(0, aR 17 v0), (1, aL v1), (3, aR 20 v3), (4, aI x1)]) rfl ?_
    exact jl3_insert_16 N  N v0 v1 v3 x1 σ
  · exact j_return (pc := 9) rfl (Nat.le_of_ble_eq_true rfl) (Nat.le_of_ble_eq_true rfl) dX3_insert_9
theorem c3_insert (l : Launch) (N : Nat) (v0 : Nat) (v1 : Int64) (v3 : Nat) : Ctr l yX3_insert cX3_insert 5 none rm3_insert eV [aR 17 v0, aL v1, aR 20 v3] (f3_insert N v0 v1 v3) := ctr_of (lv := [(0, aR 17 v0), (1, aL v1), (3, aR 20 v3)]) (by decide +kernel) (fun _ => rfl) (fun _ => (Nat.le_of_ble_eq_true rfl)) (fun _ h => lvl_als h rfl) (fun _ σ _ => j3_insert N v0 v1 v3 σ)
abbrev rm9_hasAt : Room := { frames := 0, cells := 0, slots := 0, locals := 0 }
set_option maxRecDepth 20000 in
set_option maxHeartbeats 4000000 in
theorem jb9_hasAt_32 {Γ : jX} {tg : Bool × rS} (N : Nat) (k3 : Nat) (hk3 : lyO k3 = none ∧ lyA k3 = (1, 0) ∧ lyT k3 = .byte) (K32 : Nat → Int32 → Nat → Int32 → Int32 → rS → Option (Bool × rS)) (hK32 : ∀ (v0 : Nat) (v1 : Int32) (v3 : Nat) (v4 : Int32) (v5 : Int32) (σ : rS), J Γ rm9_hasAt eZ cX9_hasAt RX9 6 (some .boolean) tg 0 0 32 [(0, aR 15 v0), (1, aI v1), (3, aR k3 v3), (4, aI v4), (5, aI v5)] [] σ (K32 v0 v1 v3 v4 v5 σ)) (v0 : Nat) (v1 : Int32) (v3 : Nat) (v4 : Int32) (v5 : Int32) (σ : rS) : J Γ rm9_hasAt eZ cX9_hasAt RX9 6 (some .boolean) tg 0 0 32 [(0, aR 15 v0), (1, aI v1), (3, aR k3 v3), (4, aI v4), (5, aI v5)] [] σ (B9_hasAt_32 N k3 K32 v0 v1 v3 v4 v5 σ) := by
  unfold B9_hasAt_32
  refine j_iload (pc := 32) 4 dX9_hasAt_32 rfl ?_
  refine j_iload (pc := 34) 3 dX9_hasAt_34 rfl ?_
  refine j_icmpge (pc := 36) (tgt := 63) dX9_hasAt_36 rfl (fun _ => ?_) (fun _ => ?_)
  · refine j_iconst (pc := 63) (v := 1) (by decide) dX9_hasAt_63 ?_
    exact j_zret1 (pc := 64) rfl (Nat.le_of_ble_eq_true rfl) (Nat.le_of_ble_eq_true rfl) dX9_hasAt_64
  · refine j_aload_n (pc := 39) 0 dX9_hasAt_39 rfl rfl ?_
    refine j_getF (pc := 40) fd_15_0 tw_2_134 dX9_hasAt_40 ?_
    refine j_iload_n (pc := 43) 1 dX9_hasAt_43 rfl rfl ?_
    refine j_iload (pc := 44) 4 dX9_hasAt_44 rfl ?_
    refine j_iadd (pc := 46) dX9_hasAt_46 ?_
    refine j_bald (pc := 47) rfl rfl rfl dX9_hasAt_47 (fun j1 => ?_)
    refine j_aload_n (pc := 48) 2 dX9_hasAt_48 rfl rfl ?_
    refine j_iload (pc := 49) 4 dX9_hasAt_49 rfl ?_
    refine j_bald (pc := 51) hk3.1 (by rw [hk3.2.1]) hk3.2.2 dX9_hasAt_51 (fun j2 => ?_)
    refine j_icmpeq (pc := 52) (tgt := 57) dX9_hasAt_52 rfl (fun _ => ?_) (fun _ => ?_)
    · refine j_iinc (pc := 57) (w := 1) (lv' := [(5, aI (v5 + 1)), (0, aR 15 v0), (1, aI v1), (3, aR k3 v3), (4, aI v4)]) 4 dX9_hasAt_57 rfl (by decide) (Nat.le_of_ble_eq_true rfl) rfl ?_
      refine j_goto (pc := 60) (tgt := 32) dX9_hasAt_60 rfl ?_
      refine j_sub [1, 2, 3, 4, 0] (lv' := [(0, aR 15 v0), (1, aI v1), (3, aR k3 v3), (4, aI v4), (5, aI (v5 + 1))]) rfl ?_
      exact hK32 v0 v1 v3 v4 (v5 + 1) σ
    · refine j_iconst (pc := 55) (v := 0) (by decide) dX9_hasAt_55 ?_
      exact j_zret0 (pc := 56) rfl (Nat.le_of_ble_eq_true rfl) (Nat.le_of_ble_eq_true rfl) dX9_hasAt_56
theorem jl9_hasAt_32 {Γ : jX} {tg : Bool × rS} (N : Nat) (k3 : Nat) (hk3 : lyO k3 = none ∧ lyA k3 = (1, 0) ∧ lyT k3 = .byte) : ∀ (n : Nat) (v0 : Nat) (v1 : Int32) (v3 : Nat) (v4 : Int32) (v5 : Int32) (σ : rS), J Γ rm9_hasAt eZ cX9_hasAt RX9 6 (some .boolean) tg 0 0 32 [(0, aR 15 v0), (1, aI v1), (3, aR k3 v3), (4, aI v4), (5, aI v5)] [] σ (L9_hasAt_32 N k3 n v0 v1 v3 v4 v5 σ) := by
  intro n
  induction n with
  | zero => intro v0 v1 v3 v4 v5 σ; exact j_none
  | succ n ih => intro v0 v1 v3 v4 v5 σ; exact jb9_hasAt_32 N k3 hk3 (L9_hasAt_32 N k3 n) ih v0 v1 v3 v4 v5 σ
set_option maxRecDepth 20000 in
set_option maxHeartbeats 4000000 in
theorem j9_hasAt {Γ : jX} {tg : Bool × rS} (N : Nat) (k3 : Nat) (hk3 : lyO k3 = none ∧ lyA k3 = (1, 0) ∧ lyT k3 = .byte) (v0 : Nat) (v1 : Int32) (v2 : Int32) (v3 : Nat) (v4 : Int32) (σ : rS) : J Γ rm9_hasAt eZ cX9_hasAt RX9 6 (some .boolean) tg 0 0 0 [(0, aR 15 v0), (1, aI v1), (2, aI v2), (3, aR k3 v3), (4, aI v4)] [] σ (f9_hasAt N k3 v0 v1 v2 v3 v4 σ) := by
  unfold f9_hasAt
  refine j_iload_n (pc := 0) 2 dX9_hasAt_0 rfl rfl ?_
  refine j_iload_n (pc := 1) 1 dX9_hasAt_1 rfl rfl ?_
  refine j_isub (pc := 2) dX9_hasAt_2 ?_
  refine j_iload (pc := 3) 4 dX9_hasAt_3 rfl ?_
  refine j_icmpne (pc := 5) (tgt := 27) dX9_hasAt_5 rfl (fun _ => ?_) (fun _ => ?_)
  · refine j_iconst (pc := 27) (v := 0) (by decide) dX9_hasAt_27 ?_
    exact j_zret0 (pc := 28) rfl (Nat.le_of_ble_eq_true rfl) (Nat.le_of_ble_eq_true rfl) dX9_hasAt_28
  · refine j_iload_n (pc := 8) 1 dX9_hasAt_8 rfl rfl ?_
    refine j_iflt (pc := 9) (tgt := 27) dX9_hasAt_9 rfl (fun _ => ?_) (fun _ => ?_)
    · refine j_iconst (pc := 27) (v := 0) (by decide) dX9_hasAt_27 ?_
      exact j_zret0 (pc := 28) rfl (Nat.le_of_ble_eq_true rfl) (Nat.le_of_ble_eq_true rfl) dX9_hasAt_28
    · refine j_iload_n (pc := 12) 2 dX9_hasAt_12 rfl rfl ?_
      refine j_aload_n (pc := 13) 0 dX9_hasAt_13 rfl rfl ?_
      refine j_getI (pc := 14) fd_15_1 tw_2_140 dX9_hasAt_14 ?_
      refine j_icmpgt (pc := 17) (tgt := 27) dX9_hasAt_17 rfl (fun _ => ?_) (fun _ => ?_)
      · refine j_iconst (pc := 27) (v := 0) (by decide) dX9_hasAt_27 ?_
        exact j_zret0 (pc := 28) rfl (Nat.le_of_ble_eq_true rfl) (Nat.le_of_ble_eq_true rfl) dX9_hasAt_28
      · refine j_iload (pc := 20) 4 dX9_hasAt_20 rfl ?_
        refine j_aload_n (pc := 22) 3 dX9_hasAt_22 rfl rfl ?_
        refine j_alen (pc := 23) hk3.1 (by rw [hk3.2.1]; decide) dX9_hasAt_23 ?_
        refine j_icmple (pc := 24) (tgt := 29) dX9_hasAt_24 rfl (fun _ => ?_) (fun _ => ?_)
        · refine j_iconst (pc := 29) (v := 0) (by decide) dX9_hasAt_29 ?_
          refine j_istore (pc := 30) (lv' := [(5, aI 0), (0, aR 15 v0), (1, aI v1), (2, aI v2), (3, aR k3 v3), (4, aI v4)]) dX9_hasAt_30 (Nat.le_of_ble_eq_true rfl) rfl ?_
          refine j_sub [0, 1, 2, 4, 5] (lv' := [(5, aI 0), (0, aR 15 v0), (1, aI v1), (3, aR k3 v3), (4, aI v4)]) rfl ?_
          refine j_sub [1, 2, 3, 4, 0] (lv' := [(0, aR 15 v0), (1, aI v1), (3, aR k3 v3), (4, aI v4), (5, aI 0)]) rfl ?_
          exact jl9_hasAt_32 N k3 hk3  N v0 v1 v3 v4 0 σ
        · refine j_iconst (pc := 27) (v := 0) (by decide) dX9_hasAt_27 ?_
          exact j_zret0 (pc := 28) rfl (Nat.le_of_ble_eq_true rfl) (Nat.le_of_ble_eq_true rfl) dX9_hasAt_28
theorem c9_hasAt (l : Launch) (N : Nat) (k3 : Nat) (hk3 : lyO k3 = none ∧ lyA k3 = (1, 0) ∧ lyT k3 = .byte) (v0 : Nat) (v1 : Int32) (v2 : Int32) (v3 : Nat) (v4 : Int32) : Ctr l yX9_hasAt cX9_hasAt 6 (some .boolean) rm9_hasAt eZ [aR 15 v0, aI v1, aI v2, aR k3 v3, aI v4] (f9_hasAt N k3 v0 v1 v2 v3 v4) := ctr_of (lv := [(0, aR 15 v0), (1, aI v1), (2, aI v2), (3, aR k3 v3), (4, aI v4)]) (by decide +kernel) (fun _ => rfl) (fun _ => (Nat.le_of_ble_eq_true rfl)) (fun _ h => lvl_als h rfl) (fun _ σ _ => j9_hasAt N k3 hk3 v0 v1 v2 v3 v4 σ)
theorem cs_RX8_31 : CaV RX8 RX9 31 yX9_hasAt cX9_hasAt 6 (some .boolean) 4 := ⟨tw_3_116, tw_3_70, tw_3_71, tw_1_14, tw_3_72, rfl, by decide +kernel, by decide +kernel, by decide +kernel⟩
abbrev rm8_bodyLike : Room := { frames := 1, cells := 0, slots := 0, locals := 25 }
set_option maxRecDepth 20000 in
set_option maxHeartbeats 4000000 in
theorem jb8_bodyLike_61 {Γ : jX} {tg : Option Nat × rS} (N : Nat) (K11 : Nat → Nat → Int32 → Int32 → rS → Option (Option Nat × rS)) (hK11 : ∀ (v1 : Nat) (v2 : Nat) (v3 : Int32) (v4 : Int32) (σ : rS), J Γ rm8_bodyLike (eR 20) cX8_bodyLike RX8 6 (some (.object "PackDesk$Body")) tg 0 0 11 [(1, aR 15 v1), (2, aR 7 v2), (3, aI v3), (4, aI v4)] [] σ (K11 v1 v2 v3 v4 σ)) (v1 : Nat) (v2 : Nat) (v3 : Int32) (v4 : Int32) (σ : rS) : J Γ rm8_bodyLike (eR 20) cX8_bodyLike RX8 6 (some (.object "PackDesk$Body")) tg 0 0 61 [(1, aR 15 v1), (2, aR 7 v2), (3, aI v3), (4, aI v4)] [] σ (B8_bodyLike_61 N K11 v1 v2 v3 v4 σ) := by
  unfold B8_bodyLike_61
  refine j_iinc (pc := 61) (w := 1) (lv' := [(4, aI (v4 + 1)), (1, aR 15 v1), (2, aR 7 v2), (3, aI v3)]) 3 dX8_bodyLike_61 rfl (by decide) (Nat.le_of_ble_eq_true rfl) rfl ?_
  refine j_goto (pc := 64) (tgt := 11) dX8_bodyLike_64 rfl ?_
  refine j_sub [1, 2, 3, 0] (lv' := [(1, aR 15 v1), (2, aR 7 v2), (3, aI v3), (4, aI (v4 + 1))]) rfl ?_
  exact hK11 v1 v2 v3 (v4 + 1) σ
set_option maxRecDepth 20000 in
set_option maxHeartbeats 4000000 in
theorem jb8_bodyLike_11 {Γ : jX} {tg : Option Nat × rS} (N : Nat) (K11 : Nat → Nat → Int32 → Int32 → rS → Option (Option Nat × rS)) (hK11 : ∀ (v1 : Nat) (v2 : Nat) (v3 : Int32) (v4 : Int32) (σ : rS), J Γ rm8_bodyLike (eR 20) cX8_bodyLike RX8 6 (some (.object "PackDesk$Body")) tg 0 0 11 [(1, aR 15 v1), (2, aR 7 v2), (3, aI v3), (4, aI v4)] [] σ (K11 v1 v2 v3 v4 σ)) (v1 : Nat) (v2 : Nat) (v3 : Int32) (v4 : Int32) (σ : rS) : J Γ rm8_bodyLike (eR 20) cX8_bodyLike RX8 6 (some (.object "PackDesk$Body")) tg 0 0 11 [(1, aR 15 v1), (2, aR 7 v2), (3, aI v3), (4, aI v4)] [] σ (B8_bodyLike_11 N K11 v1 v2 v3 v4 σ) := by
  unfold B8_bodyLike_11
  refine j_iload (pc := 11) 3 dX8_bodyLike_11 rfl ?_
  refine j_iload_n (pc := 13) 2 dX8_bodyLike_13 rfl rfl ?_
  refine j_icmpge (pc := 14) (tgt := 67) dX8_bodyLike_14 rfl (fun _ => ?_) (fun _ => ?_)
  · refine j_null (pc := 67) 20 dX8_bodyLike_67 ?_
    exact j_areturn (pc := 68) rfl (Nat.le_of_ble_eq_true rfl) (Nat.le_of_ble_eq_true rfl) dX8_bodyLike_68
  · refine j_aload_n (pc := 17) 1 dX8_bodyLike_17 rfl rfl ?_
    refine j_iload (pc := 18) 3 dX8_bodyLike_18 rfl ?_
    refine j_aald (pc := 20) rfl rfl rfl dX8_bodyLike_20 (fun j1 o2 => ?_)
    refine j_astore (pc := 21) (lv' := [(5, aO 20 o2), (1, aR 15 v1), (2, aR 7 v2), (3, aI v3), (4, aI v4)]) dX8_bodyLike_21 (Nat.le_of_ble_eq_true rfl) rfl ?_
    refine j_aload (pc := 23) 0 dX8_bodyLike_23 rfl ?_
    refine j_ifnull (pc := 25) (tgt := 61) dX8_bodyLike_25 rfl (fun hm => ?_) (fun i3 hm => ?_)
    · subst hm
      refine j_sub [1, 2, 3, 4] (lv' := [(1, aR 15 v1), (2, aR 7 v2), (3, aI v3), (4, aI v4)]) rfl ?_
      exact jb8_bodyLike_61 N K11 hK11 v1 v2 v3 v4 σ
    · subst hm
      refine j_aload (pc := 28) 0 dX8_bodyLike_28 rfl ?_
      refine j_getI (pc := 30) fd_20_3 tw_3_133 dX8_bodyLike_30 ?_
      refine j_ifle (pc := 33) (tgt := 61) dX8_bodyLike_33 rfl (fun _ => ?_) (fun _ => ?_)
      · refine j_sub [1, 2, 3, 4] (lv' := [(1, aR 15 v1), (2, aR 7 v2), (3, aI v3), (4, aI v4)]) rfl ?_
        exact jb8_bodyLike_61 N K11 hK11 v1 v2 v3 v4 σ
      · refine j_aload_n (pc := 36) 1 dX8_bodyLike_36 rfl rfl ?_
        refine j_iconst (pc := 37) (v := 0) (by decide) dX8_bodyLike_37 ?_
        refine j_aload_n (pc := 38) 1 dX8_bodyLike_38 rfl rfl ?_
        refine j_getI (pc := 39) fd_15_1 tw_2_141 dX8_bodyLike_39 ?_
        refine j_aload (pc := 42) 0 dX8_bodyLike_42 rfl ?_
        refine j_getF (pc := 44) fd_20_0 tw_3_127 dX8_bodyLike_44 ?_
        refine j_aload (pc := 47) 0 dX8_bodyLike_47 rfl ?_
        refine j_getI (pc := 49) fd_20_1 tw_3_129 dX8_bodyLike_49 ?_
        refine j_callVZ (pc := 52) (As := [aI 0, aI (gI σ 15 v1 1), aR 21 i3, aI (gI σ 20 i3 1)]) (st := []) (fun l => c9_hasAt l N 21 ⟨rfl, rfl, rfl⟩ v1 0 (gI σ 15 v1 1) i3 (gI σ 20 i3 1)) cs_RX8_31 rfl rfl rfl rfl (Nat.le_of_ble_eq_true rfl) ⟨(Nat.le_of_ble_eq_true rfl), (Nat.le_of_ble_eq_true rfl)⟩ ⟨(Nat.le_of_ble_eq_true rfl), (Nat.le_of_ble_eq_true rfl)⟩ dX8_bodyLike_52 (fun r4 σ5 => ?_)
        refine j_ifeqB (pc := 55) (tgt := 61) dX8_bodyLike_55 rfl (fun _ => ?_) (fun _ => ?_)
        · refine j_sub [1, 2, 3, 4] (lv' := [(1, aR 15 v1), (2, aR 7 v2), (3, aI v3), (4, aI v4)]) rfl ?_
          exact jb8_bodyLike_61 N K11 hK11 v1 v2 v3 v4 σ5
        · refine j_aload (pc := 58) 0 dX8_bodyLike_58 rfl ?_
          exact j_areturn (pc := 60) rfl (Nat.le_of_ble_eq_true rfl) (Nat.le_of_ble_eq_true rfl) dX8_bodyLike_60
theorem jl8_bodyLike_11 {Γ : jX} {tg : Option Nat × rS} (N : Nat) : ∀ (n : Nat) (v1 : Nat) (v2 : Nat) (v3 : Int32) (v4 : Int32) (σ : rS), J Γ rm8_bodyLike (eR 20) cX8_bodyLike RX8 6 (some (.object "PackDesk$Body")) tg 0 0 11 [(1, aR 15 v1), (2, aR 7 v2), (3, aI v3), (4, aI v4)] [] σ (L8_bodyLike_11 N n v1 v2 v3 v4 σ) := by
  intro n
  induction n with
  | zero => intro v1 v2 v3 v4 σ; exact j_none
  | succ n ih => intro v1 v2 v3 v4 σ; exact jb8_bodyLike_11 N (L8_bodyLike_11 N n) ih v1 v2 v3 v4 σ
set_option maxRecDepth 20000 in
set_option maxHeartbeats 4000000 in
theorem j8_bodyLike {Γ : jX} {tg : Option Nat × rS} (N : Nat) (v0 : Nat) (v1 : Nat) (σ : rS) : J Γ rm8_bodyLike (eR 20) cX8_bodyLike RX8 6 (some (.object "PackDesk$Body")) tg 0 0 0 [(0, aR 6 v0), (1, aR 15 v1)] [] σ (f8_bodyLike N v0 v1 σ) := by
  unfold f8_bodyLike
  refine j_aload_n (pc := 0) 0 dX8_bodyLike_0 rfl rfl ?_
  refine j_getF (pc := 1) fd_6_0 tw_1_42 dX8_bodyLike_1 ?_
  refine j_astore_n (pc := 4) (lv' := [(2, aR 7 v0), (0, aR 6 v0), (1, aR 15 v1)]) dX8_bodyLike_4 rfl (Nat.le_of_ble_eq_true rfl) rfl ?_
  refine j_sub [0, 2] (lv' := [(2, aR 7 v0), (1, aR 15 v1)]) rfl ?_
  refine j_aload_n (pc := 5) 0 dX8_bodyLike_5 rfl rfl ?_
  refine j_alen (pc := 6) rfl (by decide) dX8_bodyLike_6 ?_
  refine j_leti (fun x1 => ?_)
  refine j_istore_n (pc := 7) (lv' := [(3, aI x1), (2, aR 7 v0), (1, aR 15 v1)]) dX8_bodyLike_7 rfl (Nat.le_of_ble_eq_true rfl) rfl ?_
  refine j_iconst (pc := 8) (v := 0) (by decide) dX8_bodyLike_8 ?_
  refine j_istore (pc := 9) (lv' := [(4, aI 0), (3, aI x1), (2, aR 7 v0), (1, aR 15 v1)]) dX8_bodyLike_9 (Nat.le_of_ble_eq_true rfl) rfl ?_
  refine j_sub [3, 2, 1, 0] (lv' := [(1, aR 15 v1), (2, aR 7 v0), (3, aI x1), (4, aI 0)]) rfl ?_
  exact jl8_bodyLike_11 N  N v1 v0 x1 0 σ
theorem c8_bodyLike (l : Launch) (N : Nat) (v0 : Nat) (v1 : Nat) : Ctr l yX8_bodyLike cX8_bodyLike 6 (some (.object "PackDesk$Body")) rm8_bodyLike (eR 20) [aR 6 v0, aR 15 v1] (f8_bodyLike N v0 v1) := ctr_of (lv := [(0, aR 6 v0), (1, aR 15 v1)]) (by decide +kernel) (fun _ => rfl) (fun _ => (Nat.le_of_ble_eq_true rfl)) (fun _ h => lvl_als h rfl) (fun _ σ _ => j8_bodyLike N v0 v1 σ)
abbrev rm8_newBody : Room := { frames := 2, cells := 62, slots := 12524, locals := 50 }
set_option maxRecDepth 20000 in
set_option maxHeartbeats 4000000 in
theorem jb8_newBody_33 {Γ : jX} {tg : Option Nat × rS} (N : Nat) (kc ks : Nat) (hb : kc + 2 ≤ 62 ∧ ks + 404 ≤ 12524) (K2 : Nat → Nat → Int32 → rS → Option (Option Nat × rS)) (hK2 : ∀ (v0 : Nat) (v1 : Nat) (v2 : Int32) (σ : rS), J Γ rm8_newBody (eR 20) cX8_newBody RX8 4 (some (.object "PackDesk$Body")) tg (kc + 2) (ks + 404) 2 [(0, aR 6 v0), (1, aR 15 v1), (2, aI v2)] [] σ (K2 v0 v1 v2 σ)) (v0 : Nat) (v1 : Nat) (v2 : Int32) (σ : rS) : J Γ rm8_newBody (eR 20) cX8_newBody RX8 4 (some (.object "PackDesk$Body")) tg (kc + 2) (ks + 404) 33 [(0, aR 6 v0), (1, aR 15 v1), (2, aI v2)] [] σ (B8_newBody_33 N K2 v0 v1 v2 σ) := by
  unfold B8_newBody_33
  refine j_aload_n (pc := 33) 0 dX8_newBody_33 rfl rfl ?_
  refine j_getF (pc := 34) fd_6_0 tw_1_42 dX8_newBody_34 ?_
  refine j_iload_n (pc := 37) 2 dX8_newBody_37 rfl rfl ?_
  refine j_aald (pc := 38) rfl rfl rfl dX8_newBody_38 (fun j1 o2 => ?_)
  refine j_must (fun i3 hm => ?_)
  subst hm
  refine j_getI (pc := 39) fd_20_3 tw_3_133 dX8_newBody_39 ?_
  refine j_ifle (pc := 42) (tgt := 48) dX8_newBody_42 rfl (fun _ => ?_) (fun _ => ?_)
  · refine j_aload_n (pc := 48) 0 dX8_newBody_48 rfl rfl ?_
    refine j_getF (pc := 49) fd_6_0 tw_1_42 dX8_newBody_49 ?_
    refine j_iload_n (pc := 52) 2 dX8_newBody_52 rfl rfl ?_
    refine j_aald (pc := 53) rfl rfl rfl dX8_newBody_53 (fun j4 o5 => ?_)
    refine j_astore_n (pc := 54) (lv' := [(3, aO 20 o5), (0, aR 6 v0), (1, aR 15 v1), (2, aI v2)]) dX8_newBody_54 rfl (Nat.le_of_ble_eq_true rfl) rfl ?_
    refine j_sub [0, 1, 2] (lv' := [(3, aO 20 o5), (0, aR 6 v0), (1, aR 15 v1)]) rfl ?_
    refine j_aload_n (pc := 55) 2 dX8_newBody_55 rfl rfl ?_
    refine j_getF (pc := 56) fd_15_0 tw_2_135 dX8_newBody_56 ?_
    refine j_iconst (pc := 59) (v := 0) (by decide) dX8_newBody_59 ?_
    refine j_aload_n (pc := 60) 0 dX8_newBody_60 rfl rfl ?_
    refine j_must (fun i6 hm => ?_)
    subst hm
    refine j_getF (pc := 61) fd_20_0 tw_3_127 dX8_newBody_61 ?_
    refine j_iconst (pc := 64) (v := 0) (by decide) dX8_newBody_64 ?_
    refine j_aload_n (pc := 65) 2 dX8_newBody_65 rfl rfl ?_
    refine j_getI (pc := 66) fd_15_1 tw_2_141 dX8_newBody_66 ?_
    refine j_ock (fun hn => ?_)
    refine j_copyB (pc := 69) tw_3_144 rfl rfl rfl rfl rfl rfl hn (Nat.le_of_ble_eq_true rfl) (Nat.le_of_ble_eq_true rfl) dX8_newBody_69 ?_
    refine j_lets (fun σ7 => ?_)
    refine j_aload_n (pc := 72) 0 dX8_newBody_72 rfl rfl ?_
    refine j_aload_n (pc := 73) 2 dX8_newBody_73 rfl rfl ?_
    refine j_getI (pc := 74) fd_15_1 tw_2_141 dX8_newBody_74 ?_
    refine j_putI (pc := 77) fd_20_1 rfl rfl tw_3_129 dX8_newBody_77 ?_
    refine j_lets (fun σ8 => ?_)
    refine j_aload_n (pc := 80) 0 dX8_newBody_80 rfl rfl ?_
    refine j_aload_n (pc := 81) 1 dX8_newBody_81 rfl rfl ?_
    refine j_getI (pc := 82) fd_6_2 tw_1_45 dX8_newBody_82 ?_
    refine j_putI (pc := 85) fd_20_2 rfl rfl tw_3_131 dX8_newBody_85 ?_
    refine j_lets (fun σ9 => ?_)
    refine j_aload_n (pc := 88) 1 dX8_newBody_88 rfl rfl ?_
    refine j_dup (pc := 89) dX8_newBody_89 rfl ?_
    refine j_getI (pc := 90) fd_6_2 tw_1_45 dX8_newBody_90 ?_
    refine j_iconst (pc := 93) (v := 1) (by decide) dX8_newBody_93 ?_
    refine j_iadd (pc := 94) dX8_newBody_94 ?_
    refine j_putI (pc := 95) fd_6_2 rfl rfl tw_1_45 dX8_newBody_95 ?_
    refine j_lets (fun σ10 => ?_)
    refine j_aload_n (pc := 98) 1 dX8_newBody_98 rfl rfl ?_
    refine j_dup (pc := 99) dX8_newBody_99 rfl ?_
    refine j_getI (pc := 100) fd_6_1 tw_1_43 dX8_newBody_100 ?_
    refine j_iconst (pc := 103) (v := 1) (by decide) dX8_newBody_103 ?_
    refine j_iadd (pc := 104) dX8_newBody_104 ?_
    refine j_putI (pc := 105) fd_6_1 rfl rfl tw_1_43 dX8_newBody_105 ?_
    refine j_lets (fun σ11 => ?_)
    refine j_aload_n (pc := 108) 0 dX8_newBody_108 rfl rfl ?_
    exact j_areturn (pc := 109) rfl hb.1 hb.2 dX8_newBody_109
  · refine j_goto (pc := 45) (tgt := 110) dX8_newBody_45 rfl ?_
    refine j_iinc (pc := 110) (w := 1) (lv' := [(2, aI (v2 + 1)), (0, aR 6 v0), (1, aR 15 v1)]) 2 dX8_newBody_110 rfl (by decide) (Nat.le_of_ble_eq_true rfl) rfl ?_
    refine j_goto (pc := 113) (tgt := 2) dX8_newBody_113 rfl ?_
    refine j_sub [1, 2, 0] (lv' := [(0, aR 6 v0), (1, aR 15 v1), (2, aI (v2 + 1))]) rfl ?_
    exact hK2 v0 v1 (v2 + 1) σ
set_option maxRecDepth 20000 in
set_option maxHeartbeats 4000000 in
theorem jb8_newBody_2 {Γ : jX} {tg : Option Nat × rS} (N : Nat) (kc ks : Nat) (hb : kc + 2 ≤ 62 ∧ ks + 404 ≤ 12524) (K2 : Nat → Nat → Int32 → rS → Option (Option Nat × rS)) (hK2 : ∀ (v0 : Nat) (v1 : Nat) (v2 : Int32) (σ : rS), J Γ rm8_newBody (eR 20) cX8_newBody RX8 4 (some (.object "PackDesk$Body")) tg (kc + 2) (ks + 404) 2 [(0, aR 6 v0), (1, aR 15 v1), (2, aI v2)] [] σ (K2 v0 v1 v2 σ)) (v0 : Nat) (v1 : Nat) (v2 : Int32) (σ : rS) : J Γ rm8_newBody (eR 20) cX8_newBody RX8 4 (some (.object "PackDesk$Body")) tg kc ks 2 [(0, aR 6 v0), (1, aR 15 v1), (2, aI v2)] [] σ (B8_newBody_2 N K2 v0 v1 v2 σ) := by
  unfold B8_newBody_2
  refine j_iload_n (pc := 2) 2 dX8_newBody_2 rfl rfl ?_
  refine j_aload_n (pc := 3) 0 dX8_newBody_3 rfl rfl ?_
  refine j_getF (pc := 4) fd_6_0 tw_1_42 dX8_newBody_4 ?_
  refine j_alen (pc := 7) rfl (by decide) dX8_newBody_7 ?_
  refine j_icmpge (pc := 8) (tgt := 116) dX8_newBody_8 rfl (fun _ => ?_) (fun _ => ?_)
  · refine j_null (pc := 116) 20 dX8_newBody_116 ?_
    exact j_areturn (pc := 117) rfl (by have := hb.1; show kc ≤ 62; omega) (by have := hb.2; show ks ≤ 12524; omega) dX8_newBody_117
  · refine j_aload_n (pc := 11) 0 dX8_newBody_11 rfl rfl ?_
    refine j_getF (pc := 12) fd_6_0 tw_1_42 dX8_newBody_12 ?_
    refine j_iload_n (pc := 15) 2 dX8_newBody_15 rfl rfl ?_
    refine j_aald (pc := 16) rfl rfl rfl dX8_newBody_16 (fun j1 o2 => ?_)
    refine j_ifnonnull (pc := 17) (tgt := 33) dX8_newBody_17 rfl (fun hm => ?_) (fun i3 hm => ?_)
    · subst hm
      refine j_aload_n (pc := 20) 0 dX8_newBody_20 rfl rfl ?_
      refine j_getF (pc := 21) fd_6_0 tw_1_42 dX8_newBody_21 ?_
      refine j_iload_n (pc := 24) 2 dX8_newBody_24 rfl rfl ?_
      refine j_newBody8 (pc := 25) dX8_newBody_25 dX8_newBody_28 dX8_newBody_29 (Nat.le_of_ble_eq_true rfl) ⟨(Nat.le_of_ble_eq_true rfl), (Nat.le_of_ble_eq_true rfl)⟩ ⟨by have := hb.1; show kc + 1 + 1 ≤ 62; omega, by have := hb.2; show ks + 4 + 400 ≤ 12524; omega⟩ (fun i4 σ5 => ?_)
      refine j_aast (pc := 32) rfl rfl rfl rfl rfl dX8_newBody_32 (fun j6 => ?_)
      refine j_lets (fun σ7 => ?_)
      refine j_wide (kc2 := kc + 2) (ks2 := ks + 404) (by show kc + 1 + 1 ≤ kc + 2; omega) (by show ks + 4 + 400 ≤ ks + 404; omega) ?_
      exact jb8_newBody_33 N kc ks hb K2 hK2 v0 v1 v2 σ7
    · subst hm
      refine j_wide (kc2 := kc + 2) (ks2 := ks + 404) (by omega) (by omega) ?_
      exact jb8_newBody_33 N kc ks hb K2 hK2 v0 v1 v2 σ
set_option maxRecDepth 20000 in
theorem jl8_newBody_2 {Γ : jX} {tg : Option Nat × rS} (N : Nat) : ∀ (n kc ks : Nat), kc + 2 * n ≤ 62 → ks + 404 * n ≤ 12524 → ∀ (v0 : Nat) (v1 : Nat) (v2 : Int32) (σ : rS), J Γ rm8_newBody (eR 20) cX8_newBody RX8 4 (some (.object "PackDesk$Body")) tg kc ks 2 [(0, aR 6 v0), (1, aR 15 v1), (2, aI v2)] [] σ (L8_newBody_2 N n v0 v1 v2 σ) := by
  intro n
  induction n with
  | zero => intro kc ks _ _ v0 v1 v2 σ; exact j_none
  | succ n ih => intro kc ks h1 h2 v0 v1 v2 σ; exact jb8_newBody_2 N kc ks ⟨by omega, by omega⟩ (L8_newBody_2 N n) (ih (kc + 2) (ks + 404) (by omega) (by omega)) v0 v1 v2 σ
set_option maxRecDepth 20000 in
set_option maxHeartbeats 4000000 in
theorem j8_newBody {Γ : jX} {tg : Option Nat × rS} (N : Nat) (v0 : Nat) (v1 : Nat) (σ : rS) : J Γ rm8_newBody (eR 20) cX8_newBody RX8 4 (some (.object "PackDesk$Body")) tg 0 0 0 [(0, aR 6 v0), (1, aR 15 v1)] [] σ (f8_newBody N v0 v1 σ) := by
  unfold f8_newBody
  refine j_iconst (pc := 0) (v := 0) (by decide) dX8_newBody_0 ?_
  refine j_istore_n (pc := 1) (lv' := [(2, aI 0), (0, aR 6 v0), (1, aR 15 v1)]) dX8_newBody_1 rfl (Nat.le_of_ble_eq_true rfl) rfl ?_
  refine j_sub [1, 2, 0] (lv' := [(0, aR 6 v0), (1, aR 15 v1), (2, aI 0)]) rfl ?_
  exact jl8_newBody_2 N 31 0 0 (by decide) (by decide) v0 v1 0 σ
theorem c8_newBody (l : Launch) (N : Nat) (v0 : Nat) (v1 : Nat) : Ctr l yX8_newBody cX8_newBody 4 (some (.object "PackDesk$Body")) rm8_newBody (eR 20) [aR 6 v0, aR 15 v1] (f8_newBody N v0 v1) := ctr_of (lv := [(0, aR 6 v0), (1, aR 15 v1)]) (by decide +kernel) (fun _ => rfl) (fun _ => (Nat.le_of_ble_eq_true rfl)) (fun _ h => lvl_als h rfl) (fun _ σ _ => j8_newBody N v0 v1 σ)
theorem cs_RX10_214 : CaV RX10 RX8 214 yX8_bodyLike cX8_bodyLike 6 (some (.object "PackDesk$Body")) 1 := ⟨tw_3_112, tw_3_113, tw_3_114, tw_1_2, tw_3_115, rfl, by decide +kernel, by decide +kernel, by decide +kernel⟩
theorem cs_RX10_218 : CaV RX10 RX8 218 yX8_newBody cX8_newBody 4 (some (.object "PackDesk$Body")) 1 := ⟨tw_3_117, tw_3_118, tw_3_119, tw_1_2, tw_3_120, rfl, by decide +kernel, by decide +kernel, by decide +kernel⟩
theorem cs_RX10_226 : CaV RX10 RX3 226 yX3_insert cX3_insert 5 none 2 := ⟨tw_3_145, tw_3_146, tw_3_147, tw_1_15, tw_3_148, rfl, by decide +kernel, by decide +kernel, by decide +kernel⟩
abbrev rm10_keep : Room := { frames := 3, cells := 62, slots := 12524, locals := 73 }
set_option maxRecDepth 20000 in
set_option maxHeartbeats 4000000 in
theorem jb10_keep_102 {Γ : jX} {tg : Int32 × rS} (N : Nat) (v0 : Nat) (v2 : Int64) (v5 : Nat) (v7 : Int32) (v8 : Option Nat) (σ : rS) : J Γ rm10_keep eI cX10_keep RX10 9 (some .int) tg 62 12524 102 [(0, aR 0 v0), (2, aL v2), (5, aR 17 v5), (7, aI v7), (8, aO 20 v8)] [] σ (B10_keep_102 N v0 v2 v5 v7 v8 σ) := by
  unfold B10_keep_102
  refine j_aload (pc := 102) 4 dX10_keep_102 rfl ?_
  refine j_ifnonnull (pc := 104) (tgt := 110) dX10_keep_104 rfl (fun hm => ?_) (fun i1 hm => ?_)
  · subst hm
    refine j_bipush (pc := 107) (v := (-104)) (by decide) dX10_keep_107 ?_
    exact j_ireturn (pc := 109) rfl (Nat.le_of_ble_eq_true rfl) (Nat.le_of_ble_eq_true rfl) dX10_keep_109
  · subst hm
    refine j_aload (pc := 110) 4 dX10_keep_110 rfl ?_
    refine j_dup (pc := 112) dX10_keep_112 rfl ?_
    refine j_getI (pc := 113) fd_20_3 tw_3_134 dX10_keep_113 ?_
    refine j_iconst (pc := 116) (v := 1) (by decide) dX10_keep_116 ?_
    refine j_iadd (pc := 117) dX10_keep_117 ?_
    refine j_putI (pc := 118) fd_20_3 rfl rfl tw_3_134 dX10_keep_118 ?_
    refine j_lets (fun σ2 => ?_)
    refine j_iload (pc := 121) 3 dX10_keep_121 rfl ?_
    refine j_iconst (pc := 123) (v := (-1)) (by decide) dX10_keep_123 ?_
    refine j_icmpne (pc := 124) (tgt := 138) dX10_keep_124 rfl (fun _ => ?_) (fun _ => ?_)
    · refine j_aload_n (pc := 138) 0 dX10_keep_138 rfl rfl ?_
      refine j_getF (pc := 139) fd_0_4 tw_1_113 dX10_keep_139 ?_
      refine j_aload (pc := 142) 2 dX10_keep_142 rfl ?_
      refine j_getF (pc := 144) fd_17_1 tw_3_90 dX10_keep_144 ?_
      refine j_iload (pc := 147) 3 dX10_keep_147 rfl ?_
      refine j_aald (pc := 149) rfl rfl rfl dX10_keep_149 (fun j3 o4 => ?_)
      refine j_must (fun i5 hm => ?_)
      subst hm
      refine j_callVV (pc := 150) (As := [aR 20 i5]) (st := []) (fun l => c8_release l v0 i5) cs_RX10_234 rfl rfl rfl rfl (Nat.le_of_ble_eq_true rfl) ⟨(Nat.le_of_ble_eq_true rfl), (Nat.le_of_ble_eq_true rfl)⟩ ⟨(Nat.le_of_ble_eq_true rfl), (Nat.le_of_ble_eq_true rfl)⟩ dX10_keep_150 (fun r6 σ7 => ?_)
      refine j_aload (pc := 153) 2 dX10_keep_153 rfl ?_
      refine j_getF (pc := 155) fd_17_1 tw_3_90 dX10_keep_155 ?_
      refine j_iload (pc := 158) 3 dX10_keep_158 rfl ?_
      refine j_aload (pc := 160) 4 dX10_keep_160 rfl ?_
      refine j_aast (pc := 162) rfl rfl rfl rfl rfl dX10_keep_162 (fun j8 => ?_)
      refine j_lets (fun σ9 => ?_)
      refine j_aload (pc := 163) 4 dX10_keep_163 rfl ?_
      refine j_getI (pc := 165) fd_20_2 tw_3_132 dX10_keep_165 ?_
      exact j_ireturn (pc := 168) rfl (Nat.le_of_ble_eq_true rfl) (Nat.le_of_ble_eq_true rfl) dX10_keep_168
    · refine j_aload (pc := 127) 2 dX10_keep_127 rfl ?_
      refine j_lload_n (pc := 129) 1 dX10_keep_129 rfl rfl ?_
      refine j_aload (pc := 130) 4 dX10_keep_130 rfl ?_
      refine j_callVV (pc := 132) (As := [aL v2, aR 20 i1]) (st := []) (fun l => c3_insert l N v5 v2 i1) cs_RX10_226 rfl rfl rfl rfl (Nat.le_of_ble_eq_true rfl) ⟨(Nat.le_of_ble_eq_true rfl), (Nat.le_of_ble_eq_true rfl)⟩ ⟨(Nat.le_of_ble_eq_true rfl), (Nat.le_of_ble_eq_true rfl)⟩ dX10_keep_132 (fun r10 σ11 => ?_)
      refine j_goto (pc := 135) (tgt := 163) dX10_keep_135 rfl ?_
      refine j_aload (pc := 163) 4 dX10_keep_163 rfl ?_
      refine j_getI (pc := 165) fd_20_2 tw_3_132 dX10_keep_165 ?_
      exact j_ireturn (pc := 168) rfl (Nat.le_of_ble_eq_true rfl) (Nat.le_of_ble_eq_true rfl) dX10_keep_168
set_option maxRecDepth 20000 in
set_option maxHeartbeats 4000000 in
theorem jb10_keep_75 {Γ : jX} {tg : Int32 × rS} (N : Nat) (v0 : Nat) (v2 : Int64) (v5 : Nat) (v6 : Nat) (v7 : Int32) (σ : rS) : J Γ rm10_keep eI cX10_keep RX10 9 (some .int) tg 0 0 75 [(0, aR 0 v0), (2, aL v2), (5, aR 17 v5), (6, aR 15 v6), (7, aI v7)] [] σ (B10_keep_75 N v0 v2 v5 v6 v7 σ) := by
  unfold B10_keep_75
  refine j_aload_n (pc := 75) 0 dX10_keep_75 rfl rfl ?_
  refine j_getF (pc := 76) fd_0_4 tw_1_113 dX10_keep_76 ?_
  refine j_aload (pc := 79) 3 dX10_keep_79 rfl ?_
  refine j_callVR (pc := 81) (As := [aR 15 v6]) (st := []) (fun l => c8_bodyLike l N v0 v6) cs_RX10_214 rfl rfl rfl rfl (Nat.le_of_ble_eq_true rfl) ⟨(Nat.le_of_ble_eq_true rfl), (Nat.le_of_ble_eq_true rfl)⟩ ⟨(Nat.le_of_ble_eq_true rfl), (Nat.le_of_ble_eq_true rfl)⟩ dX10_keep_81 (fun r1 σ2 => ?_)
  refine j_astore (pc := 84) (lv' := [(8, aO 20 r1), (0, aR 0 v0), (2, aL v2), (5, aR 17 v5), (6, aR 15 v6), (7, aI v7)]) dX10_keep_84 (Nat.le_of_ble_eq_true rfl) rfl ?_
  refine j_aload (pc := 86) 0 dX10_keep_86 rfl ?_
  refine j_ifnonnull (pc := 88) (tgt := 102) dX10_keep_88 rfl (fun hm => ?_) (fun i3 hm => ?_)
  · subst hm
    refine j_aload_n (pc := 91) 1 dX10_keep_91 rfl rfl ?_
    refine j_getF (pc := 92) fd_0_4 tw_1_113 dX10_keep_92 ?_
    refine j_aload (pc := 95) 4 dX10_keep_95 rfl ?_
    refine j_callVR (pc := 97) (As := [aR 15 v6]) (st := []) (fun l => c8_newBody l N v0 v6) cs_RX10_218 rfl rfl rfl rfl (Nat.le_of_ble_eq_true rfl) ⟨(Nat.le_of_ble_eq_true rfl), (Nat.le_of_ble_eq_true rfl)⟩ ⟨(Nat.le_of_ble_eq_true rfl), (Nat.le_of_ble_eq_true rfl)⟩ dX10_keep_97 (fun r4 σ5 => ?_)
    refine j_astore (pc := 100) (lv' := [(8, aO 20 r4), (0, aR 0 v0), (2, aL v2), (5, aR 17 v5), (6, aR 15 v6), (7, aI v7)]) dX10_keep_100 (Nat.le_of_ble_eq_true rfl) rfl ?_
    refine j_sub [0, 1, 2, 3, 5] (lv' := [(8, aO 20 r4), (0, aR 0 v0), (2, aL v2), (5, aR 17 v5), (7, aI v7)]) rfl ?_
    refine j_sub [1, 2, 3, 4, 0] (lv' := [(0, aR 0 v0), (2, aL v2), (5, aR 17 v5), (7, aI v7), (8, aO 20 r4)]) rfl ?_
    exact jb10_keep_102 N  v0 v2 v5 v7 r4 σ5
  · subst hm
    refine j_sub [1, 2, 3, 5, 0] (lv' := [(0, aR 0 v0), (2, aL v2), (5, aR 17 v5), (7, aI v7), (8, aR 20 i3)]) rfl ?_
    refine j_wide (kc2 := 62) (ks2 := 12524) (Nat.le_of_ble_eq_true rfl) (Nat.le_of_ble_eq_true rfl) ?_
    exact jb10_keep_102 N  v0 v2 v5 v7 (some i3) σ2
set_option maxRecDepth 20000 in
set_option maxHeartbeats 4000000 in
theorem j10_keep {Γ : jX} {tg : Int32 × rS} (N : Nat) (v0 : Nat) (v1 : Int32) (v2 : Int64) (v4 : Int32) (σ : rS) : J Γ rm10_keep eI cX10_keep RX10 9 (some .int) tg 0 0 0 [(0, aR 0 v0), (1, aI v1), (2, aL v2), (4, aI v4)] [] σ (f10_keep N v0 v1 v2 v4 σ) := by
  unfold f10_keep
  refine j_aload_n (pc := 0) 0 dX10_keep_0 rfl rfl ?_
  refine j_iload_n (pc := 1) 1 dX10_keep_1 rfl rfl ?_
  refine j_callVR (pc := 2) (As := [aI v1]) (st := []) (fun l => c10_houseNumbered l v0 v1) cs_RX10_203 rfl rfl rfl rfl (Nat.le_of_ble_eq_true rfl) ⟨(Nat.le_of_ble_eq_true rfl), (Nat.le_of_ble_eq_true rfl)⟩ ⟨(Nat.le_of_ble_eq_true rfl), (Nat.le_of_ble_eq_true rfl)⟩ dX10_keep_2 (fun r1 σ2 => ?_)
  refine j_astore (pc := 5) (lv' := [(5, aO 17 r1), (0, aR 0 v0), (1, aI v1), (2, aL v2), (4, aI v4)]) dX10_keep_5 (Nat.le_of_ble_eq_true rfl) rfl ?_
  refine j_sub [0, 1, 3, 4] (lv' := [(5, aO 17 r1), (0, aR 0 v0), (2, aL v2), (4, aI v4)]) rfl ?_
  refine j_aload_n (pc := 7) 1 dX10_keep_7 rfl rfl ?_
  refine j_iload (pc := 8) 3 dX10_keep_8 rfl ?_
  refine j_callVR (pc := 10) (As := [aI v4]) (st := []) (fun l => c10_streamNumbered l v0 v4) cs_RX10_145 rfl rfl rfl rfl (Nat.le_of_ble_eq_true rfl) ⟨(Nat.le_of_ble_eq_true rfl), (Nat.le_of_ble_eq_true rfl)⟩ ⟨(Nat.le_of_ble_eq_true rfl), (Nat.le_of_ble_eq_true rfl)⟩ dX10_keep_10 (fun r3 σ4 => ?_)
  refine j_astore (pc := 13) (lv' := [(6, aO 15 r3), (5, aO 17 r1), (0, aR 0 v0), (2, aL v2), (4, aI v4)]) dX10_keep_13 (Nat.le_of_ble_eq_true rfl) rfl ?_
  refine j_sub [0, 1, 2, 3] (lv' := [(6, aO 15 r3), (5, aO 17 r1), (0, aR 0 v0), (2, aL v2)]) rfl ?_
  refine j_aload (pc := 15) 1 dX10_keep_15 rfl ?_
  refine j_ifnull (pc := 17) (tgt := 25) dX10_keep_17 rfl (fun hm => ?_) (fun i5 hm => ?_)
  · subst hm
    refine j_bipush (pc := 25) (v := (-101)) (by decide) dX10_keep_25 ?_
    exact j_ireturn (pc := 27) rfl (Nat.le_of_ble_eq_true rfl) (Nat.le_of_ble_eq_true rfl) dX10_keep_27
  · subst hm
    refine j_aload (pc := 20) 0 dX10_keep_20 rfl ?_
    refine j_ifnonnull (pc := 22) (tgt := 28) dX10_keep_22 rfl (fun hm => ?_) (fun i6 hm => ?_)
    · subst hm
      refine j_bipush (pc := 25) (v := (-101)) (by decide) dX10_keep_25 ?_
      exact j_ireturn (pc := 27) rfl (Nat.le_of_ble_eq_true rfl) (Nat.le_of_ble_eq_true rfl) dX10_keep_27
    · subst hm
      refine j_lload_n (pc := 28) 3 dX10_keep_28 rfl rfl ?_
      refine j_lconst (pc := 29) (v := 0) (by decide) dX10_keep_29 ?_
      refine j_lcmpge (pc := 30) (tgt := 37) dX10_keep_30 dX10_keep_31 rfl (fun _ => ?_) (fun _ => ?_)
      · refine j_aload (pc := 37) 0 dX10_keep_37 rfl ?_
        refine j_getI (pc := 39) fd_15_3 tw_2_144 dX10_keep_39 ?_
        refine j_ifne (pc := 42) (tgt := 48) dX10_keep_42 rfl (fun _ => ?_) (fun _ => ?_)
        · refine j_aload (pc := 48) 1 dX10_keep_48 rfl ?_
          refine j_lload_n (pc := 50) 3 dX10_keep_50 rfl rfl ?_
          refine j_callVI (pc := 51) (As := [aL v2]) (st := []) (fun l => c3_entryOf l N i5 v2) cs_RX10_207 rfl rfl rfl rfl (Nat.le_of_ble_eq_true rfl) ⟨(Nat.le_of_ble_eq_true rfl), (Nat.le_of_ble_eq_true rfl)⟩ ⟨(Nat.le_of_ble_eq_true rfl), (Nat.le_of_ble_eq_true rfl)⟩ dX10_keep_51 (fun r7 σ8 => ?_)
          refine j_istore (pc := 54) (lv' := [(7, aI r7), (6, aR 15 i6), (5, aR 17 i5), (0, aR 0 v0), (2, aL v2)]) dX10_keep_54 (Nat.le_of_ble_eq_true rfl) rfl ?_
          refine j_iload (pc := 56) 0 dX10_keep_56 rfl ?_
          refine j_iconst (pc := 58) (v := (-1)) (by decide) dX10_keep_58 ?_
          refine j_icmpne (pc := 59) (tgt := 75) dX10_keep_59 rfl (fun _ => ?_) (fun _ => ?_)
          · refine j_sub [3, 4, 2, 1, 0] (lv' := [(0, aR 0 v0), (2, aL v2), (5, aR 17 i5), (6, aR 15 i6), (7, aI r7)]) rfl ?_
            exact jb10_keep_75 N  v0 v2 i5 i6 r7 σ8
          · refine j_aload (pc := 62) 2 dX10_keep_62 rfl ?_
            refine j_getI (pc := 64) fd_17_2 tw_3_92 dX10_keep_64 ?_
            refine j_bipush (pc := 67) (v := 12) (by decide) dX10_keep_67 ?_
            refine j_icmplt (pc := 69) (tgt := 75) dX10_keep_69 rfl (fun _ => ?_) (fun _ => ?_)
            · refine j_sub [3, 4, 2, 1, 0] (lv' := [(0, aR 0 v0), (2, aL v2), (5, aR 17 i5), (6, aR 15 i6), (7, aI r7)]) rfl ?_
              exact jb10_keep_75 N  v0 v2 i5 i6 r7 σ8
            · refine j_bipush (pc := 72) (v := (-104)) (by decide) dX10_keep_72 ?_
              exact j_ireturn (pc := 74) rfl (Nat.le_of_ble_eq_true rfl) (Nat.le_of_ble_eq_true rfl) dX10_keep_74
        · refine j_bipush (pc := 45) (v := (-103)) (by decide) dX10_keep_45 ?_
          exact j_ireturn (pc := 47) rfl (Nat.le_of_ble_eq_true rfl) (Nat.le_of_ble_eq_true rfl) dX10_keep_47
      · refine j_bipush (pc := 34) (v := (-102)) (by decide) dX10_keep_34 ?_
        exact j_ireturn (pc := 36) rfl (Nat.le_of_ble_eq_true rfl) (Nat.le_of_ble_eq_true rfl) dX10_keep_36
theorem c10_keep (l : Launch) (N : Nat) (v0 : Nat) (v1 : Int32) (v2 : Int64) (v4 : Int32) : Ctr l yX10_keep cX10_keep 9 (some .int) rm10_keep eI [aR 0 v0, aI v1, aL v2, aI v4] (f10_keep N v0 v1 v2 v4) := ctr_of (lv := [(0, aR 0 v0), (1, aI v1), (2, aL v2), (4, aI v4)]) (by decide +kernel) (fun _ => rfl) (fun _ => (Nat.le_of_ble_eq_true rfl)) (fun _ h => lvl_als h rfl) (fun _ σ _ => j10_keep N v0 v1 v2 v4 σ)
abbrev rm10_kind : Room := { frames := 1, cells := 0, slots := 0, locals := 21 }
set_option maxRecDepth 20000 in
set_option maxHeartbeats 4000000 in
theorem j10_kind {Γ : jX} {tg : Int32 × rS} (v0 : Nat) (v1 : Int32) (σ : rS) : J Γ rm10_kind eI cX10_kind RX10 3 (some .int) tg 0 0 0 [(0, aR 0 v0), (1, aI v1)] [] σ (f10_kind v0 v1 σ) := by
  unfold f10_kind
  refine j_aload_n (pc := 0) 0 dX10_kind_0 rfl rfl ?_
  refine j_iload_n (pc := 1) 1 dX10_kind_1 rfl rfl ?_
  refine j_callVR (pc := 2) (As := [aI v1]) (st := []) (fun l => c10_rowNumbered l v0 v1) cs_RX10_74 rfl rfl rfl rfl (Nat.le_of_ble_eq_true rfl) ⟨(Nat.le_of_ble_eq_true rfl), (Nat.le_of_ble_eq_true rfl)⟩ ⟨(Nat.le_of_ble_eq_true rfl), (Nat.le_of_ble_eq_true rfl)⟩ dX10_kind_2 (fun r1 σ2 => ?_)
  refine j_astore_n (pc := 5) (lv' := [(2, aO 13 r1), (0, aR 0 v0), (1, aI v1)]) dX10_kind_5 rfl (Nat.le_of_ble_eq_true rfl) rfl ?_
  refine j_sub [0] (lv' := [(2, aO 13 r1)]) rfl ?_
  refine j_aload_n (pc := 6) 0 dX10_kind_6 rfl rfl ?_
  refine j_ifnonnull (pc := 7) (tgt := 15) dX10_kind_7 rfl (fun hm => ?_) (fun i3 hm => ?_)
  · subst hm
    refine j_bipush (pc := 10) (v := (-101)) (by decide) dX10_kind_10 ?_
    refine j_goto (pc := 12) (tgt := 19) dX10_kind_12 rfl ?_
    exact j_ireturn (pc := 19) rfl (Nat.le_of_ble_eq_true rfl) (Nat.le_of_ble_eq_true rfl) dX10_kind_19
  · subst hm
    refine j_aload_n (pc := 15) 0 dX10_kind_15 rfl rfl ?_
    refine j_getI (pc := 16) fd_13_0 tw_1_174 dX10_kind_16 ?_
    exact j_ireturn (pc := 19) rfl (Nat.le_of_ble_eq_true rfl) (Nat.le_of_ble_eq_true rfl) dX10_kind_19
theorem c10_kind (l : Launch) (v0 : Nat) (v1 : Int32) : Ctr l yX10_kind cX10_kind 3 (some .int) rm10_kind eI [aR 0 v0, aI v1] (f10_kind v0 v1) := ctr_of (lv := [(0, aR 0 v0), (1, aI v1)]) (by decide +kernel) (fun _ => rfl) (fun _ => (Nat.le_of_ble_eq_true rfl)) (fun _ h => lvl_als h rfl) (fun _ σ _ => j10_kind v0 v1 σ)
abbrev rm10_length : Room := { frames := 1, cells := 0, slots := 0, locals := 21 }
set_option maxRecDepth 20000 in
set_option maxHeartbeats 4000000 in
theorem j10_length {Γ : jX} {tg : Int32 × rS} (v0 : Nat) (v1 : Int32) (σ : rS) : J Γ rm10_length eI cX10_length RX10 3 (some .int) tg 0 0 0 [(0, aR 0 v0), (1, aI v1)] [] σ (f10_length v0 v1 σ) := by
  unfold f10_length
  refine j_aload_n (pc := 0) 0 dX10_length_0 rfl rfl ?_
  refine j_iload_n (pc := 1) 1 dX10_length_1 rfl rfl ?_
  refine j_callVR (pc := 2) (As := [aI v1]) (st := []) (fun l => c10_rowNumbered l v0 v1) cs_RX10_74 rfl rfl rfl rfl (Nat.le_of_ble_eq_true rfl) ⟨(Nat.le_of_ble_eq_true rfl), (Nat.le_of_ble_eq_true rfl)⟩ ⟨(Nat.le_of_ble_eq_true rfl), (Nat.le_of_ble_eq_true rfl)⟩ dX10_length_2 (fun r1 σ2 => ?_)
  refine j_astore_n (pc := 5) (lv' := [(2, aO 13 r1), (0, aR 0 v0), (1, aI v1)]) dX10_length_5 rfl (Nat.le_of_ble_eq_true rfl) rfl ?_
  refine j_sub [0, 1] (lv' := [(2, aO 13 r1), (0, aR 0 v0)]) rfl ?_
  refine j_aload_n (pc := 6) 0 dX10_length_6 rfl rfl ?_
  refine j_ifnonnull (pc := 7) (tgt := 13) dX10_length_7 rfl (fun hm => ?_) (fun i3 hm => ?_)
  · subst hm
    refine j_bipush (pc := 10) (v := (-101)) (by decide) dX10_length_10 ?_
    exact j_ireturn (pc := 12) rfl (Nat.le_of_ble_eq_true rfl) (Nat.le_of_ble_eq_true rfl) dX10_length_12
  · subst hm
    refine j_aload_n (pc := 13) 0 dX10_length_13 rfl rfl ?_
    refine j_getI (pc := 14) fd_13_2 tw_1_177 dX10_length_14 ?_
    refine j_ifeq (pc := 17) (tgt := 26) dX10_length_17 rfl (fun _ => ?_) (fun _ => ?_)
    · refine j_aload_n (pc := 26) 0 dX10_length_26 rfl rfl ?_
      refine j_getF (pc := 27) fd_13_1 tw_1_176 dX10_length_27 ?_
      refine j_alen (pc := 30) rfl (by decide) dX10_length_30 ?_
      exact j_ireturn (pc := 31) rfl (Nat.le_of_ble_eq_true rfl) (Nat.le_of_ble_eq_true rfl) dX10_length_31
    · refine j_aload_n (pc := 20) 1 dX10_length_20 rfl rfl ?_
      refine j_iconst (pc := 21) (v := 1) (by decide) dX10_length_21 ?_
      refine j_callVI (pc := 22) (As := [aI 1]) (st := []) (fun l => c10_found l v0 1) cs_RX10_66 rfl rfl rfl rfl (Nat.le_of_ble_eq_true rfl) ⟨(Nat.le_of_ble_eq_true rfl), (Nat.le_of_ble_eq_true rfl)⟩ ⟨(Nat.le_of_ble_eq_true rfl), (Nat.le_of_ble_eq_true rfl)⟩ dX10_length_22 (fun r4 σ5 => ?_)
      exact j_ireturn (pc := 25) rfl (Nat.le_of_ble_eq_true rfl) (Nat.le_of_ble_eq_true rfl) dX10_length_25
theorem c10_length (l : Launch) (v0 : Nat) (v1 : Int32) : Ctr l yX10_length cX10_length 3 (some .int) rm10_length eI [aR 0 v0, aI v1] (f10_length v0 v1) := ctr_of (lv := [(0, aR 0 v0), (1, aI v1)]) (by decide +kernel) (fun _ => rfl) (fun _ => (Nat.le_of_ble_eq_true rfl)) (fun _ h => lvl_als h rfl) (fun _ σ _ => j10_length v0 v1 σ)
abbrev rm10_list : Room := { frames := 1, cells := 0, slots := 0, locals := 21 }
set_option maxRecDepth 20000 in
set_option maxHeartbeats 4000000 in
theorem j10_list {Γ : jX} {tg : Int32 × rS} (v0 : Nat) (v1 : Int32) (v2 : Int32) (σ : rS) : J Γ rm10_list eI cX10_list RX10 4 (some .int) tg 0 0 0 [(0, aR 0 v0), (1, aI v1), (2, aI v2)] [] σ (f10_list v0 v1 v2 σ) := by
  unfold f10_list
  refine j_aload_n (pc := 0) 0 dX10_list_0 rfl rfl ?_
  refine j_iload_n (pc := 1) 1 dX10_list_1 rfl rfl ?_
  refine j_callVR (pc := 2) (As := [aI v1]) (st := []) (fun l => c10_houseNumbered l v0 v1) cs_RX10_203 rfl rfl rfl rfl (Nat.le_of_ble_eq_true rfl) ⟨(Nat.le_of_ble_eq_true rfl), (Nat.le_of_ble_eq_true rfl)⟩ ⟨(Nat.le_of_ble_eq_true rfl), (Nat.le_of_ble_eq_true rfl)⟩ dX10_list_2 (fun r1 σ2 => ?_)
  refine j_astore_n (pc := 5) (lv' := [(3, aO 17 r1), (0, aR 0 v0), (1, aI v1), (2, aI v2)]) dX10_list_5 rfl (Nat.le_of_ble_eq_true rfl) rfl ?_
  refine j_sub [0, 1, 3] (lv' := [(3, aO 17 r1), (0, aR 0 v0), (2, aI v2)]) rfl ?_
  refine j_aload_n (pc := 6) 0 dX10_list_6 rfl rfl ?_
  refine j_ifnonnull (pc := 7) (tgt := 13) dX10_list_7 rfl (fun hm => ?_) (fun i3 hm => ?_)
  · subst hm
    refine j_bipush (pc := 10) (v := (-101)) (by decide) dX10_list_10 ?_
    exact j_ireturn (pc := 12) rfl (Nat.le_of_ble_eq_true rfl) (Nat.le_of_ble_eq_true rfl) dX10_list_12
  · subst hm
    refine j_iload_n (pc := 13) 2 dX10_list_13 rfl rfl ?_
    refine j_iflt (pc := 14) (tgt := 25) dX10_list_14 rfl (fun _ => ?_) (fun _ => ?_)
    · refine j_aload_n (pc := 25) 1 dX10_list_25 rfl rfl ?_
      refine j_iconst (pc := 26) (v := 2) (by decide) dX10_list_26 ?_
      refine j_callVI (pc := 27) (As := [aI 2]) (st := []) (fun l => c10_found l v0 2) cs_RX10_66 rfl rfl rfl rfl (Nat.le_of_ble_eq_true rfl) ⟨(Nat.le_of_ble_eq_true rfl), (Nat.le_of_ble_eq_true rfl)⟩ ⟨(Nat.le_of_ble_eq_true rfl), (Nat.le_of_ble_eq_true rfl)⟩ dX10_list_27 (fun r4 σ5 => ?_)
      exact j_ireturn (pc := 30) rfl (Nat.le_of_ble_eq_true rfl) (Nat.le_of_ble_eq_true rfl) dX10_list_30
    · refine j_iload_n (pc := 17) 2 dX10_list_17 rfl rfl ?_
      refine j_aload_n (pc := 18) 0 dX10_list_18 rfl rfl ?_
      refine j_getI (pc := 19) fd_17_2 tw_3_92 dX10_list_19 ?_
      refine j_icmplt (pc := 22) (tgt := 31) dX10_list_22 rfl (fun _ => ?_) (fun _ => ?_)
      · refine j_aload_n (pc := 31) 1 dX10_list_31 rfl rfl ?_
        refine j_aload_n (pc := 32) 0 dX10_list_32 rfl rfl ?_
        refine j_getF (pc := 33) fd_17_0 tw_3_88 dX10_list_33 ?_
        refine j_iload_n (pc := 36) 2 dX10_list_36 rfl rfl ?_
        refine j_lald (pc := 37) rfl rfl rfl dX10_list_37 (fun j6 => ?_)
        refine j_putL (pc := 38) fd_0_13 tw_1_122 dX10_list_38 ?_
        refine j_lets (fun σ7 => ?_)
        refine j_aload_n (pc := 41) 0 dX10_list_41 rfl rfl ?_
        refine j_getI (pc := 42) fd_17_2 tw_3_92 dX10_list_42 ?_
        exact j_ireturn (pc := 45) rfl (Nat.le_of_ble_eq_true rfl) (Nat.le_of_ble_eq_true rfl) dX10_list_45
      · refine j_aload_n (pc := 25) 1 dX10_list_25 rfl rfl ?_
        refine j_iconst (pc := 26) (v := 2) (by decide) dX10_list_26 ?_
        refine j_callVI (pc := 27) (As := [aI 2]) (st := []) (fun l => c10_found l v0 2) cs_RX10_66 rfl rfl rfl rfl (Nat.le_of_ble_eq_true rfl) ⟨(Nat.le_of_ble_eq_true rfl), (Nat.le_of_ble_eq_true rfl)⟩ ⟨(Nat.le_of_ble_eq_true rfl), (Nat.le_of_ble_eq_true rfl)⟩ dX10_list_27 (fun r8 σ9 => ?_)
        exact j_ireturn (pc := 30) rfl (Nat.le_of_ble_eq_true rfl) (Nat.le_of_ble_eq_true rfl) dX10_list_30
theorem c10_list (l : Launch) (v0 : Nat) (v1 : Int32) (v2 : Int32) : Ctr l yX10_list cX10_list 4 (some .int) rm10_list eI [aR 0 v0, aI v1, aI v2] (f10_list v0 v1 v2) := ctr_of (lv := [(0, aR 0 v0), (1, aI v1), (2, aI v2)]) (by decide +kernel) (fun _ => rfl) (fun _ => (Nat.le_of_ble_eq_true rfl)) (fun _ h => lvl_als h rfl) (fun _ σ _ => j10_list v0 v1 v2 σ)
abbrev rm10_lose : Room := { frames := 1, cells := 0, slots := 0, locals := 21 }
set_option maxRecDepth 20000 in
set_option maxHeartbeats 4000000 in
theorem j10_lose {Γ : jX} {tg : Int32 × rS} (v0 : Nat) (v1 : Int32) (σ : rS) : J Γ rm10_lose eI cX10_lose RX10 3 (some .int) tg 0 0 0 [(0, aR 0 v0), (1, aI v1)] [] σ (f10_lose v0 v1 σ) := by
  unfold f10_lose
  refine j_aload_n (pc := 0) 0 dX10_lose_0 rfl rfl ?_
  refine j_iload_n (pc := 1) 1 dX10_lose_1 rfl rfl ?_
  refine j_callVR (pc := 2) (As := [aI v1]) (st := []) (fun l => c10_rowNumbered l v0 v1) cs_RX10_74 rfl rfl rfl rfl (Nat.le_of_ble_eq_true rfl) ⟨(Nat.le_of_ble_eq_true rfl), (Nat.le_of_ble_eq_true rfl)⟩ ⟨(Nat.le_of_ble_eq_true rfl), (Nat.le_of_ble_eq_true rfl)⟩ dX10_lose_2 (fun r1 σ2 => ?_)
  refine j_astore_n (pc := 5) (lv' := [(2, aO 13 r1), (0, aR 0 v0), (1, aI v1)]) dX10_lose_5 rfl (Nat.le_of_ble_eq_true rfl) rfl ?_
  refine j_sub [0, 1] (lv' := [(2, aO 13 r1), (0, aR 0 v0)]) rfl ?_
  refine j_aload_n (pc := 6) 0 dX10_lose_6 rfl rfl ?_
  refine j_ifnonnull (pc := 7) (tgt := 13) dX10_lose_7 rfl (fun hm => ?_) (fun i3 hm => ?_)
  · subst hm
    refine j_bipush (pc := 10) (v := (-101)) (by decide) dX10_lose_10 ?_
    exact j_ireturn (pc := 12) rfl (Nat.le_of_ble_eq_true rfl) (Nat.le_of_ble_eq_true rfl) dX10_lose_12
  · subst hm
    refine j_aload_n (pc := 13) 0 dX10_lose_13 rfl rfl ?_
    refine j_getI (pc := 14) fd_13_2 tw_1_177 dX10_lose_14 ?_
    refine j_ifeq (pc := 17) (tgt := 26) dX10_lose_17 rfl (fun _ => ?_) (fun _ => ?_)
    · refine j_aload_n (pc := 26) 0 dX10_lose_26 rfl rfl ?_
      refine j_iconst (pc := 27) (v := 1) (by decide) dX10_lose_27 ?_
      refine j_putI (pc := 28) fd_13_2 rfl rfl tw_1_177 dX10_lose_28 ?_
      refine j_lets (fun σ4 => ?_)
      refine j_aload_n (pc := 31) 0 dX10_lose_31 rfl rfl ?_
      refine j_getF (pc := 32) fd_13_1 tw_1_176 dX10_lose_32 ?_
      refine j_alen (pc := 35) rfl (by decide) dX10_lose_35 ?_
      exact j_ireturn (pc := 36) rfl (Nat.le_of_ble_eq_true rfl) (Nat.le_of_ble_eq_true rfl) dX10_lose_36
    · refine j_aload_n (pc := 20) 1 dX10_lose_20 rfl rfl ?_
      refine j_iconst (pc := 21) (v := 1) (by decide) dX10_lose_21 ?_
      refine j_callVI (pc := 22) (As := [aI 1]) (st := []) (fun l => c10_found l v0 1) cs_RX10_66 rfl rfl rfl rfl (Nat.le_of_ble_eq_true rfl) ⟨(Nat.le_of_ble_eq_true rfl), (Nat.le_of_ble_eq_true rfl)⟩ ⟨(Nat.le_of_ble_eq_true rfl), (Nat.le_of_ble_eq_true rfl)⟩ dX10_lose_22 (fun r5 σ6 => ?_)
      exact j_ireturn (pc := 25) rfl (Nat.le_of_ble_eq_true rfl) (Nat.le_of_ble_eq_true rfl) dX10_lose_25
theorem c10_lose (l : Launch) (v0 : Nat) (v1 : Int32) : Ctr l yX10_lose cX10_lose 3 (some .int) rm10_lose eI [aR 0 v0, aI v1] (f10_lose v0 v1) := ctr_of (lv := [(0, aR 0 v0), (1, aI v1)]) (by decide +kernel) (fun _ => rfl) (fun _ => (Nat.le_of_ble_eq_true rfl)) (fun _ h => lvl_als h rfl) (fun _ σ _ => j10_lose v0 v1 σ)
theorem cs_RX7_17 : CaS RX7 17 yX4_isGap cX4_isGap 3 (some .boolean) 2 := ⟨tw_2_111, tw_2_10, tw_1_7, tw_2_11, by decide +kernel, by decide +kernel, by decide +kernel⟩
abbrev rm7_gaps : Room := { frames := 3, cells := 0, slots := 0, locals := 66 }
set_option maxRecDepth 20000 in
set_option maxHeartbeats 4000000 in
theorem jb7_gaps_40 {Γ : jX} {tg : Int32 × rS} (N : Nat) (K13 : Nat → Int32 → Nat → Int32 → Int32 → rS → Option (Int32 × rS)) (hK13 : ∀ (v0 : Nat) (v1 : Int32) (v2 : Nat) (v3 : Int32) (v4 : Int32) (σ : rS), J Γ rm7_gaps eI cX7_gaps RX7 7 (some .int) tg 0 0 13 [(0, aR 13 v0), (1, aI v1), (2, aR 14 v2), (3, aI v3), (4, aI v4)] [] σ (K13 v0 v1 v2 v3 v4 σ)) (v0 : Nat) (v1 : Int32) (v2 : Nat) (v3 : Int32) (v4 : Int32) (σ : rS) : J Γ rm7_gaps eI cX7_gaps RX7 7 (some .int) tg 0 0 40 [(0, aR 13 v0), (1, aI v1), (2, aR 14 v2), (3, aI v3), (4, aI v4)] [] σ (B7_gaps_40 N K13 v0 v1 v2 v3 v4 σ) := by
  unfold B7_gaps_40
  refine j_iinc (pc := 40) (w := 1) (lv' := [(4, aI (v4 + 1)), (0, aR 13 v0), (1, aI v1), (2, aR 14 v2), (3, aI v3)]) 4 dX7_gaps_40 rfl (by decide) (Nat.le_of_ble_eq_true rfl) rfl ?_
  refine j_goto (pc := 43) (tgt := 13) dX7_gaps_43 rfl ?_
  refine j_sub [1, 2, 3, 4, 0] (lv' := [(0, aR 13 v0), (1, aI v1), (2, aR 14 v2), (3, aI v3), (4, aI (v4 + 1))]) rfl ?_
  exact hK13 v0 v1 v2 v3 (v4 + 1) σ
set_option maxRecDepth 20000 in
set_option maxHeartbeats 4000000 in
theorem jb7_gaps_13 {Γ : jX} {tg : Int32 × rS} (N : Nat) (K13 : Nat → Int32 → Nat → Int32 → Int32 → rS → Option (Int32 × rS)) (hK13 : ∀ (v0 : Nat) (v1 : Int32) (v2 : Nat) (v3 : Int32) (v4 : Int32) (σ : rS), J Γ rm7_gaps eI cX7_gaps RX7 7 (some .int) tg 0 0 13 [(0, aR 13 v0), (1, aI v1), (2, aR 14 v2), (3, aI v3), (4, aI v4)] [] σ (K13 v0 v1 v2 v3 v4 σ)) (v0 : Nat) (v1 : Int32) (v2 : Nat) (v3 : Int32) (v4 : Int32) (σ : rS) : J Γ rm7_gaps eI cX7_gaps RX7 7 (some .int) tg 0 0 13 [(0, aR 13 v0), (1, aI v1), (2, aR 14 v2), (3, aI v3), (4, aI v4)] [] σ (B7_gaps_13 N K13 v0 v1 v2 v3 v4 σ) := by
  unfold B7_gaps_13
  refine j_iload (pc := 13) 4 dX7_gaps_13 rfl ?_
  refine j_iload_n (pc := 15) 3 dX7_gaps_15 rfl rfl ?_
  refine j_icmpge (pc := 16) (tgt := 46) dX7_gaps_16 rfl (fun _ => ?_) (fun _ => ?_)
  · refine j_iload_n (pc := 46) 1 dX7_gaps_46 rfl rfl ?_
    exact j_ireturn (pc := 47) rfl (Nat.le_of_ble_eq_true rfl) (Nat.le_of_ble_eq_true rfl) dX7_gaps_47
  · refine j_aload_n (pc := 19) 2 dX7_gaps_19 rfl rfl ?_
    refine j_iload (pc := 20) 4 dX7_gaps_20 rfl ?_
    refine j_lald (pc := 22) rfl rfl rfl dX7_gaps_22 (fun j1 => ?_)
    refine j_letl (fun x2 => ?_)
    refine j_lstore (pc := 23) (lv' := [(5, aL x2), (0, aR 13 v0), (1, aI v1), (2, aR 14 v2), (3, aI v3), (4, aI v4)]) dX7_gaps_23 (Nat.le_of_ble_eq_true rfl) rfl ?_
    refine j_aload_n (pc := 25) 1 dX7_gaps_25 rfl rfl ?_
    refine j_getI (pc := 26) fd_13_0 tw_1_173 dX7_gaps_26 ?_
    refine j_lload (pc := 29) 0 dX7_gaps_29 rfl ?_
    refine j_callSZ (pc := 31) (As := [aI (gI σ 13 v0 0), aL x2]) (st := []) (fun l => c4_isGap l (gI σ 13 v0 0) x2) cs_RX7_17 rfl rfl (Nat.le_of_ble_eq_true rfl) ⟨(Nat.le_of_ble_eq_true rfl), (Nat.le_of_ble_eq_true rfl)⟩ ⟨(Nat.le_of_ble_eq_true rfl), (Nat.le_of_ble_eq_true rfl)⟩ dX7_gaps_31 (fun r3 σ4 => ?_)
    refine j_ifeqB (pc := 34) (tgt := 40) dX7_gaps_34 rfl (fun _ => ?_) (fun _ => ?_)
    · refine j_sub [1, 2, 3, 4, 5] (lv' := [(0, aR 13 v0), (1, aI v1), (2, aR 14 v2), (3, aI v3), (4, aI v4)]) rfl ?_
      exact jb7_gaps_40 N K13 hK13 v0 v1 v2 v3 v4 σ4
    · refine j_iinc (pc := 37) (w := 1) (lv' := [(1, aI (v1 + 1)), (5, aL x2), (0, aR 13 v0), (2, aR 14 v2), (3, aI v3), (4, aI v4)]) 2 dX7_gaps_37 rfl (by decide) (Nat.le_of_ble_eq_true rfl) rfl ?_
      refine j_sub [2, 0, 3, 4, 5] (lv' := [(0, aR 13 v0), (1, aI (v1 + 1)), (2, aR 14 v2), (3, aI v3), (4, aI v4)]) rfl ?_
      exact jb7_gaps_40 N K13 hK13 v0 (v1 + 1) v2 v3 v4 σ4
theorem jl7_gaps_13 {Γ : jX} {tg : Int32 × rS} (N : Nat) : ∀ (n : Nat) (v0 : Nat) (v1 : Int32) (v2 : Nat) (v3 : Int32) (v4 : Int32) (σ : rS), J Γ rm7_gaps eI cX7_gaps RX7 7 (some .int) tg 0 0 13 [(0, aR 13 v0), (1, aI v1), (2, aR 14 v2), (3, aI v3), (4, aI v4)] [] σ (L7_gaps_13 N n v0 v1 v2 v3 v4 σ) := by
  intro n
  induction n with
  | zero => intro v0 v1 v2 v3 v4 σ; exact j_none
  | succ n ih => intro v0 v1 v2 v3 v4 σ; exact jb7_gaps_13 N (L7_gaps_13 N n) ih v0 v1 v2 v3 v4 σ
set_option maxRecDepth 20000 in
set_option maxHeartbeats 4000000 in
theorem j7_gaps {Γ : jX} {tg : Int32 × rS} (N : Nat) (v0 : Nat) (σ : rS) : J Γ rm7_gaps eI cX7_gaps RX7 7 (some .int) tg 0 0 0 [(0, aR 13 v0)] [] σ (f7_gaps N v0 σ) := by
  unfold f7_gaps
  refine j_iconst (pc := 0) (v := 0) (by decide) dX7_gaps_0 ?_
  refine j_istore_n (pc := 1) (lv' := [(1, aI 0), (0, aR 13 v0)]) dX7_gaps_1 rfl (Nat.le_of_ble_eq_true rfl) rfl ?_
  refine j_aload_n (pc := 2) 1 dX7_gaps_2 rfl rfl ?_
  refine j_getF (pc := 3) fd_13_1 tw_1_175 dX7_gaps_3 ?_
  refine j_astore_n (pc := 6) (lv' := [(2, aR 14 v0), (1, aI 0), (0, aR 13 v0)]) dX7_gaps_6 rfl (Nat.le_of_ble_eq_true rfl) rfl ?_
  refine j_aload_n (pc := 7) 0 dX7_gaps_7 rfl rfl ?_
  refine j_alen (pc := 8) rfl (by decide) dX7_gaps_8 ?_
  refine j_leti (fun x1 => ?_)
  refine j_istore_n (pc := 9) (lv' := [(3, aI x1), (2, aR 14 v0), (1, aI 0), (0, aR 13 v0)]) dX7_gaps_9 rfl (Nat.le_of_ble_eq_true rfl) rfl ?_
  refine j_iconst (pc := 10) (v := 0) (by decide) dX7_gaps_10 ?_
  refine j_istore (pc := 11) (lv' := [(4, aI 0), (3, aI x1), (2, aR 14 v0), (1, aI 0), (0, aR 13 v0)]) dX7_gaps_11 (Nat.le_of_ble_eq_true rfl) rfl ?_
  refine j_sub [4, 3, 2, 1, 0] (lv' := [(0, aR 13 v0), (1, aI 0), (2, aR 14 v0), (3, aI x1), (4, aI 0)]) rfl ?_
  exact jl7_gaps_13 N  N v0 0 v0 x1 0 σ
theorem c7_gaps (l : Launch) (N : Nat) (v0 : Nat) : Ctr l yX7_gaps cX7_gaps 7 (some .int) rm7_gaps eI [aR 13 v0] (f7_gaps N v0) := ctr_of (lv := [(0, aR 13 v0)]) (by decide +kernel) (fun _ => rfl) (fun _ => (Nat.le_of_ble_eq_true rfl)) (fun _ h => lvl_als h rfl) (fun _ σ _ => j7_gaps N v0 σ)
theorem cs_RX7_23 : CaS RX7 23 yX4_rank cX4_rank 3 (some .long) 2 := ⟨tw_2_116, tw_2_27, tw_1_7, tw_2_28, by decide +kernel, by decide +kernel, by decide +kernel⟩
abbrev rm7_utmost : Room := { frames := 3, cells := 0, slots := 0, locals := 66 }
set_option maxRecDepth 20000 in
set_option maxHeartbeats 4000000 in
theorem jb7_utmost_122 {Γ : jX} {tg : Int64 × rS} (N : Nat) (K18 : Nat → Bool → Bool → Int64 → Nat → Int32 → Int32 → rS → Option (Int64 × rS)) (hK18 : ∀ (v0 : Nat) (v1 : Bool) (v2 : Bool) (v3 : Int64) (v5 : Nat) (v6 : Int32) (v7 : Int32) (σ : rS), J Γ rm7_utmost eL cX7_utmost RX7 11 (some .long) tg 0 0 18 [(0, aR 13 v0), (1, aI (bi v1)), (2, aI (bi v2)), (3, aL v3), (5, aR 14 v5), (6, aI v6), (7, aI v7)] [] σ (K18 v0 v1 v2 v3 v5 v6 v7 σ)) (v0 : Nat) (v1 : Bool) (v2 : Bool) (v3 : Int64) (v5 : Nat) (v6 : Int32) (v7 : Int32) (σ : rS) : J Γ rm7_utmost eL cX7_utmost RX7 11 (some .long) tg 0 0 122 [(0, aR 13 v0), (1, aI (bi v1)), (2, aI (bi v2)), (3, aL v3), (5, aR 14 v5), (6, aI v6), (7, aI v7)] [] σ (B7_utmost_122 N K18 v0 v1 v2 v3 v5 v6 v7 σ) := by
  unfold B7_utmost_122
  refine j_iinc (pc := 122) (w := 1) (lv' := [(7, aI (v7 + 1)), (0, aR 13 v0), (1, aI (bi v1)), (2, aI (bi v2)), (3, aL v3), (5, aR 14 v5), (6, aI v6)]) 6 dX7_utmost_122 rfl (by decide) (Nat.le_of_ble_eq_true rfl) rfl ?_
  refine j_goto (pc := 125) (tgt := 18) dX7_utmost_125 rfl ?_
  refine j_sub [1, 2, 3, 4, 5, 6, 0] (lv' := [(0, aR 13 v0), (1, aI (bi v1)), (2, aI (bi v2)), (3, aL v3), (5, aR 14 v5), (6, aI v6), (7, aI (v7 + 1))]) rfl ?_
  exact hK18 v0 v1 v2 v3 v5 v6 (v7 + 1) σ
set_option maxRecDepth 20000 in
set_option maxHeartbeats 4000000 in
theorem jb7_utmost_120 {Γ : jX} {tg : Int64 × rS} (N : Nat) (K18 : Nat → Bool → Bool → Int64 → Nat → Int32 → Int32 → rS → Option (Int64 × rS)) (hK18 : ∀ (v0 : Nat) (v1 : Bool) (v2 : Bool) (v3 : Int64) (v5 : Nat) (v6 : Int32) (v7 : Int32) (σ : rS), J Γ rm7_utmost eL cX7_utmost RX7 11 (some .long) tg 0 0 18 [(0, aR 13 v0), (1, aI (bi v1)), (2, aI (bi v2)), (3, aL v3), (5, aR 14 v5), (6, aI v6), (7, aI v7)] [] σ (K18 v0 v1 v2 v3 v5 v6 v7 σ)) (v0 : Nat) (v1 : Bool) (v3 : Int64) (v5 : Nat) (v6 : Int32) (v7 : Int32) (σ : rS) : J Γ rm7_utmost eL cX7_utmost RX7 11 (some .long) tg 0 0 120 [(0, aR 13 v0), (1, aI (bi v1)), (3, aL v3), (5, aR 14 v5), (6, aI v6), (7, aI v7)] [] σ (B7_utmost_120 N K18 v0 v1 v3 v5 v6 v7 σ) := by
  unfold B7_utmost_120
  refine j_iconst (pc := 120) (v := 1) (by decide) dX7_utmost_120 ?_
  refine j_istore_n (pc := 121) (lv' := [(2, aI 1), (0, aR 13 v0), (1, aI (bi v1)), (3, aL v3), (5, aR 14 v5), (6, aI v6), (7, aI v7)]) dX7_utmost_121 rfl (Nat.le_of_ble_eq_true rfl) rfl ?_
  refine j_sub [1, 2, 0, 3, 4, 5, 6] (lv' := [(0, aR 13 v0), (1, aI (bi v1)), (2, aI 1), (3, aL v3), (5, aR 14 v5), (6, aI v6), (7, aI v7)]) rfl ?_
  exact jb7_utmost_122 N K18 hK18 v0 v1 true v3 v5 v6 v7 σ
set_option maxRecDepth 20000 in
set_option maxHeartbeats 4000000 in
theorem jb7_utmost_117 {Γ : jX} {tg : Int64 × rS} (N : Nat) (K18 : Nat → Bool → Bool → Int64 → Nat → Int32 → Int32 → rS → Option (Int64 × rS)) (hK18 : ∀ (v0 : Nat) (v1 : Bool) (v2 : Bool) (v3 : Int64) (v5 : Nat) (v6 : Int32) (v7 : Int32) (σ : rS), J Γ rm7_utmost eL cX7_utmost RX7 11 (some .long) tg 0 0 18 [(0, aR 13 v0), (1, aI (bi v1)), (2, aI (bi v2)), (3, aL v3), (5, aR 14 v5), (6, aI v6), (7, aI v7)] [] σ (K18 v0 v1 v2 v3 v5 v6 v7 σ)) (v0 : Nat) (v1 : Bool) (v5 : Nat) (v6 : Int32) (v7 : Int32) (v8 : Int64) (σ : rS) : J Γ rm7_utmost eL cX7_utmost RX7 11 (some .long) tg 0 0 117 [(0, aR 13 v0), (1, aI (bi v1)), (5, aR 14 v5), (6, aI v6), (7, aI v7), (8, aL v8)] [] σ (B7_utmost_117 N K18 v0 v1 v5 v6 v7 v8 σ) := by
  unfold B7_utmost_117
  refine j_lload (pc := 117) 5 dX7_utmost_117 rfl ?_
  refine j_lstore_n (pc := 119) (lv' := [(3, aL v8), (0, aR 13 v0), (1, aI (bi v1)), (5, aR 14 v5), (6, aI v6), (7, aI v7), (8, aL v8)]) dX7_utmost_119 rfl (Nat.le_of_ble_eq_true rfl) rfl ?_
  refine j_sub [0, 1, 2, 3, 4, 5] (lv' := [(3, aL v8), (0, aR 13 v0), (1, aI (bi v1)), (5, aR 14 v5), (6, aI v6), (7, aI v7)]) rfl ?_
  refine j_sub [1, 2, 0, 3, 4, 5] (lv' := [(0, aR 13 v0), (1, aI (bi v1)), (3, aL v8), (5, aR 14 v5), (6, aI v6), (7, aI v7)]) rfl ?_
  exact jb7_utmost_120 N K18 hK18 v0 v1 v8 v5 v6 v7 σ
set_option maxRecDepth 20000 in
set_option maxHeartbeats 4000000 in
theorem jb7_utmost_106 {Γ : jX} {tg : Int64 × rS} (N : Nat) (K18 : Nat → Bool → Bool → Int64 → Nat → Int32 → Int32 → rS → Option (Int64 × rS)) (hK18 : ∀ (v0 : Nat) (v1 : Bool) (v2 : Bool) (v3 : Int64) (v5 : Nat) (v6 : Int32) (v7 : Int32) (σ : rS), J Γ rm7_utmost eL cX7_utmost RX7 11 (some .long) tg 0 0 18 [(0, aR 13 v0), (1, aI (bi v1)), (2, aI (bi v2)), (3, aL v3), (5, aR 14 v5), (6, aI v6), (7, aI v7)] [] σ (K18 v0 v1 v2 v3 v5 v6 v7 σ)) (v0 : Nat) (v1 : Bool) (v2 : Bool) (v3 : Int64) (v5 : Nat) (v6 : Int32) (v7 : Int32) (v8 : Int64) (s0 : Bool) (σ : rS) : J Γ rm7_utmost eL cX7_utmost RX7 11 (some .long) tg 0 0 106 [(0, aR 13 v0), (1, aI (bi v1)), (2, aI (bi v2)), (3, aL v3), (5, aR 14 v5), (6, aI v6), (7, aI v7), (8, aL v8)] [aI (bi s0)] σ (B7_utmost_106 N K18 v0 v1 v2 v3 v5 v6 v7 v8 s0 σ) := by
  unfold B7_utmost_106
  refine j_istore (pc := 106) (lv' := [(10, aI (bi s0)), (0, aR 13 v0), (1, aI (bi v1)), (2, aI (bi v2)), (3, aL v3), (5, aR 14 v5), (6, aI v6), (7, aI v7), (8, aL v8)]) dX7_utmost_106 (Nat.le_of_ble_eq_true rfl) rfl ?_
  refine j_iload_n (pc := 108) 3 dX7_utmost_108 rfl rfl ?_
  refine j_ifeqB (pc := 109) (tgt := 117) dX7_utmost_109 rfl (fun _ => ?_) (fun _ => ?_)
  · refine j_sub [1, 2, 5, 6, 7, 8] (lv' := [(0, aR 13 v0), (1, aI (bi v1)), (5, aR 14 v5), (6, aI v6), (7, aI v7), (8, aL v8)]) rfl ?_
    exact jb7_utmost_117 N K18 hK18 v0 v1 v5 v6 v7 v8 σ
  · refine j_iload (pc := 112) 0 dX7_utmost_112 rfl ?_
    refine j_ifeqB (pc := 114) (tgt := 120) dX7_utmost_114 rfl (fun _ => ?_) (fun _ => ?_)
    · refine j_sub [1, 2, 4, 5, 6, 7] (lv' := [(0, aR 13 v0), (1, aI (bi v1)), (3, aL v3), (5, aR 14 v5), (6, aI v6), (7, aI v7)]) rfl ?_
      exact jb7_utmost_120 N K18 hK18 v0 v1 v3 v5 v6 v7 σ
    · refine j_sub [1, 2, 5, 6, 7, 8] (lv' := [(0, aR 13 v0), (1, aI (bi v1)), (5, aR 14 v5), (6, aI v6), (7, aI v7), (8, aL v8)]) rfl ?_
      exact jb7_utmost_117 N K18 hK18 v0 v1 v5 v6 v7 v8 σ
set_option maxRecDepth 20000 in
set_option maxHeartbeats 4000000 in
theorem jb7_utmost_18 {Γ : jX} {tg : Int64 × rS} (N : Nat) (K18 : Nat → Bool → Bool → Int64 → Nat → Int32 → Int32 → rS → Option (Int64 × rS)) (hK18 : ∀ (v0 : Nat) (v1 : Bool) (v2 : Bool) (v3 : Int64) (v5 : Nat) (v6 : Int32) (v7 : Int32) (σ : rS), J Γ rm7_utmost eL cX7_utmost RX7 11 (some .long) tg 0 0 18 [(0, aR 13 v0), (1, aI (bi v1)), (2, aI (bi v2)), (3, aL v3), (5, aR 14 v5), (6, aI v6), (7, aI v7)] [] σ (K18 v0 v1 v2 v3 v5 v6 v7 σ)) (v0 : Nat) (v1 : Bool) (v2 : Bool) (v3 : Int64) (v5 : Nat) (v6 : Int32) (v7 : Int32) (σ : rS) : J Γ rm7_utmost eL cX7_utmost RX7 11 (some .long) tg 0 0 18 [(0, aR 13 v0), (1, aI (bi v1)), (2, aI (bi v2)), (3, aL v3), (5, aR 14 v5), (6, aI v6), (7, aI v7)] [] σ (B7_utmost_18 N K18 v0 v1 v2 v3 v5 v6 v7 σ) := by
  unfold B7_utmost_18
  refine j_iload (pc := 18) 6 dX7_utmost_18 rfl ?_
  refine j_iload (pc := 20) 5 dX7_utmost_20 rfl ?_
  refine j_icmpge (pc := 22) (tgt := 128) dX7_utmost_22 rfl (fun _ => ?_) (fun _ => ?_)
  · refine j_lload_n (pc := 128) 3 dX7_utmost_128 rfl rfl ?_
    exact j_lreturn (pc := 129) rfl (Nat.le_of_ble_eq_true rfl) (Nat.le_of_ble_eq_true rfl) dX7_utmost_129
  · refine j_aload (pc := 25) 4 dX7_utmost_25 rfl ?_
    refine j_iload (pc := 27) 6 dX7_utmost_27 rfl ?_
    refine j_lald (pc := 29) rfl rfl rfl dX7_utmost_29 (fun j1 => ?_)
    refine j_letl (fun x2 => ?_)
    refine j_lstore (pc := 30) (lv' := [(8, aL x2), (0, aR 13 v0), (1, aI (bi v1)), (2, aI (bi v2)), (3, aL v3), (5, aR 14 v5), (6, aI v6), (7, aI v7)]) dX7_utmost_30 (Nat.le_of_ble_eq_true rfl) rfl ?_
    refine j_aload_n (pc := 32) 1 dX7_utmost_32 rfl rfl ?_
    refine j_getI (pc := 33) fd_13_0 tw_1_173 dX7_utmost_33 ?_
    refine j_lload (pc := 36) 0 dX7_utmost_36 rfl ?_
    refine j_callSZ (pc := 38) (As := [aI (gI σ 13 v0 0), aL x2]) (st := []) (fun l => c4_isGap l (gI σ 13 v0 0) x2) cs_RX7_17 rfl rfl (Nat.le_of_ble_eq_true rfl) ⟨(Nat.le_of_ble_eq_true rfl), (Nat.le_of_ble_eq_true rfl)⟩ ⟨(Nat.le_of_ble_eq_true rfl), (Nat.le_of_ble_eq_true rfl)⟩ dX7_utmost_38 (fun r3 σ4 => ?_)
    refine j_ifeqB (pc := 41) (tgt := 47) dX7_utmost_41 rfl (fun _ => ?_) (fun _ => ?_)
    · refine j_iload_n (pc := 47) 2 dX7_utmost_47 rfl rfl ?_
      refine j_ifeqB (pc := 48) (tgt := 80) dX7_utmost_48 rfl (fun _ => ?_) (fun _ => ?_)
      · refine j_aload_n (pc := 80) 1 dX7_utmost_80 rfl rfl ?_
        refine j_getI (pc := 81) fd_13_0 tw_1_173 dX7_utmost_81 ?_
        refine j_lload (pc := 84) 0 dX7_utmost_84 rfl ?_
        refine j_callSL (pc := 86) (As := [aI (gI σ4 13 v0 0), aL x2]) (st := []) (fun l => c4_rank l (gI σ4 13 v0 0) x2) cs_RX7_23 rfl rfl (Nat.le_of_ble_eq_true rfl) ⟨(Nat.le_of_ble_eq_true rfl), (Nat.le_of_ble_eq_true rfl)⟩ ⟨(Nat.le_of_ble_eq_true rfl), (Nat.le_of_ble_eq_true rfl)⟩ dX7_utmost_86 (fun r5 σ6 => ?_)
        refine j_aload_n (pc := 89) 1 dX7_utmost_89 rfl rfl ?_
        refine j_getI (pc := 90) fd_13_0 tw_1_173 dX7_utmost_90 ?_
        refine j_lload_n (pc := 93) 4 dX7_utmost_93 rfl rfl ?_
        refine j_callSL (pc := 94) (As := [aI (gI σ6 13 v0 0), aL v3]) (st := [aL r5]) (fun l => c4_rank l (gI σ6 13 v0 0) v3) cs_RX7_23 rfl rfl (Nat.le_of_ble_eq_true rfl) ⟨(Nat.le_of_ble_eq_true rfl), (Nat.le_of_ble_eq_true rfl)⟩ ⟨(Nat.le_of_ble_eq_true rfl), (Nat.le_of_ble_eq_true rfl)⟩ dX7_utmost_94 (fun r7 σ8 => ?_)
        refine j_lcmpge (pc := 97) (tgt := 105) dX7_utmost_97 dX7_utmost_98 rfl (fun _ => ?_) (fun _ => ?_)
        · refine j_iconst (pc := 105) (v := 0) (by decide) dX7_utmost_105 ?_
          refine j_sub [1, 2, 3, 4, 5, 6, 7, 0] (lv' := [(0, aR 13 v0), (1, aI (bi v1)), (2, aI (bi v2)), (3, aL v3), (5, aR 14 v5), (6, aI v6), (7, aI v7), (8, aL x2)]) rfl ?_
          exact jb7_utmost_106 N K18 hK18 v0 v1 v2 v3 v5 v6 v7 x2 false σ8
        · refine j_iconst (pc := 101) (v := 1) (by decide) dX7_utmost_101 ?_
          refine j_goto (pc := 102) (tgt := 106) dX7_utmost_102 rfl ?_
          refine j_sub [1, 2, 3, 4, 5, 6, 7, 0] (lv' := [(0, aR 13 v0), (1, aI (bi v1)), (2, aI (bi v2)), (3, aL v3), (5, aR 14 v5), (6, aI v6), (7, aI v7), (8, aL x2)]) rfl ?_
          exact jb7_utmost_106 N K18 hK18 v0 v1 v2 v3 v5 v6 v7 x2 true σ8
      · refine j_aload_n (pc := 51) 1 dX7_utmost_51 rfl rfl ?_
        refine j_getI (pc := 52) fd_13_0 tw_1_173 dX7_utmost_52 ?_
        refine j_lload (pc := 55) 0 dX7_utmost_55 rfl ?_
        refine j_callSL (pc := 57) (As := [aI (gI σ4 13 v0 0), aL x2]) (st := []) (fun l => c4_rank l (gI σ4 13 v0 0) x2) cs_RX7_23 rfl rfl (Nat.le_of_ble_eq_true rfl) ⟨(Nat.le_of_ble_eq_true rfl), (Nat.le_of_ble_eq_true rfl)⟩ ⟨(Nat.le_of_ble_eq_true rfl), (Nat.le_of_ble_eq_true rfl)⟩ dX7_utmost_57 (fun r9 σ10 => ?_)
        refine j_aload_n (pc := 60) 1 dX7_utmost_60 rfl rfl ?_
        refine j_getI (pc := 61) fd_13_0 tw_1_173 dX7_utmost_61 ?_
        refine j_lload_n (pc := 64) 4 dX7_utmost_64 rfl rfl ?_
        refine j_callSL (pc := 65) (As := [aI (gI σ10 13 v0 0), aL v3]) (st := [aL r9]) (fun l => c4_rank l (gI σ10 13 v0 0) v3) cs_RX7_23 rfl rfl (Nat.le_of_ble_eq_true rfl) ⟨(Nat.le_of_ble_eq_true rfl), (Nat.le_of_ble_eq_true rfl)⟩ ⟨(Nat.le_of_ble_eq_true rfl), (Nat.le_of_ble_eq_true rfl)⟩ dX7_utmost_65 (fun r11 σ12 => ?_)
        refine j_lcmple (pc := 68) (tgt := 76) dX7_utmost_68 dX7_utmost_69 rfl (fun _ => ?_) (fun _ => ?_)
        · refine j_iconst (pc := 76) (v := 0) (by decide) dX7_utmost_76 ?_
          refine j_goto (pc := 77) (tgt := 106) dX7_utmost_77 rfl ?_
          refine j_sub [1, 2, 3, 4, 5, 6, 7, 0] (lv' := [(0, aR 13 v0), (1, aI (bi v1)), (2, aI (bi v2)), (3, aL v3), (5, aR 14 v5), (6, aI v6), (7, aI v7), (8, aL x2)]) rfl ?_
          exact jb7_utmost_106 N K18 hK18 v0 v1 v2 v3 v5 v6 v7 x2 false σ12
        · refine j_iconst (pc := 72) (v := 1) (by decide) dX7_utmost_72 ?_
          refine j_goto (pc := 73) (tgt := 106) dX7_utmost_73 rfl ?_
          refine j_sub [1, 2, 3, 4, 5, 6, 7, 0] (lv' := [(0, aR 13 v0), (1, aI (bi v1)), (2, aI (bi v2)), (3, aL v3), (5, aR 14 v5), (6, aI v6), (7, aI v7), (8, aL x2)]) rfl ?_
          exact jb7_utmost_106 N K18 hK18 v0 v1 v2 v3 v5 v6 v7 x2 true σ12
    · refine j_goto (pc := 44) (tgt := 122) dX7_utmost_44 rfl ?_
      refine j_sub [1, 2, 3, 4, 5, 6, 7] (lv' := [(0, aR 13 v0), (1, aI (bi v1)), (2, aI (bi v2)), (3, aL v3), (5, aR 14 v5), (6, aI v6), (7, aI v7)]) rfl ?_
      exact jb7_utmost_122 N K18 hK18 v0 v1 v2 v3 v5 v6 v7 σ4
theorem jl7_utmost_18 {Γ : jX} {tg : Int64 × rS} (N : Nat) : ∀ (n : Nat) (v0 : Nat) (v1 : Bool) (v2 : Bool) (v3 : Int64) (v5 : Nat) (v6 : Int32) (v7 : Int32) (σ : rS), J Γ rm7_utmost eL cX7_utmost RX7 11 (some .long) tg 0 0 18 [(0, aR 13 v0), (1, aI (bi v1)), (2, aI (bi v2)), (3, aL v3), (5, aR 14 v5), (6, aI v6), (7, aI v7)] [] σ (L7_utmost_18 N n v0 v1 v2 v3 v5 v6 v7 σ) := by
  intro n
  induction n with
  | zero => intro v0 v1 v2 v3 v5 v6 v7 σ; exact j_none
  | succ n ih => intro v0 v1 v2 v3 v5 v6 v7 σ; exact jb7_utmost_18 N (L7_utmost_18 N n) ih v0 v1 v2 v3 v5 v6 v7 σ
set_option maxRecDepth 20000 in
set_option maxHeartbeats 4000000 in
theorem j7_utmost {Γ : jX} {tg : Int64 × rS} (N : Nat) (v0 : Nat) (v1 : Bool) (σ : rS) : J Γ rm7_utmost eL cX7_utmost RX7 11 (some .long) tg 0 0 0 [(0, aR 13 v0), (1, aI (bi v1))] [] σ (f7_utmost N v0 v1 σ) := by
  unfold f7_utmost
  refine j_iconst (pc := 0) (v := 0) (by decide) dX7_utmost_0 ?_
  refine j_istore_n (pc := 1) (lv' := [(2, aI 0), (0, aR 13 v0), (1, aI (bi v1))]) dX7_utmost_1 rfl (Nat.le_of_ble_eq_true rfl) rfl ?_
  refine j_lconst (pc := 2) (v := 0) (by decide) dX7_utmost_2 ?_
  refine j_lstore_n (pc := 3) (lv' := [(3, aL 0), (2, aI 0), (0, aR 13 v0), (1, aI (bi v1))]) dX7_utmost_3 rfl (Nat.le_of_ble_eq_true rfl) rfl ?_
  refine j_aload_n (pc := 4) 2 dX7_utmost_4 rfl rfl ?_
  refine j_getF (pc := 5) fd_13_1 tw_1_175 dX7_utmost_5 ?_
  refine j_astore (pc := 8) (lv' := [(5, aR 14 v0), (3, aL 0), (2, aI 0), (0, aR 13 v0), (1, aI (bi v1))]) dX7_utmost_8 (Nat.le_of_ble_eq_true rfl) rfl ?_
  refine j_aload (pc := 10) 0 dX7_utmost_10 rfl ?_
  refine j_alen (pc := 12) rfl (by decide) dX7_utmost_12 ?_
  refine j_leti (fun x1 => ?_)
  refine j_istore (pc := 13) (lv' := [(6, aI x1), (5, aR 14 v0), (3, aL 0), (2, aI 0), (0, aR 13 v0), (1, aI (bi v1))]) dX7_utmost_13 (Nat.le_of_ble_eq_true rfl) rfl ?_
  refine j_iconst (pc := 15) (v := 0) (by decide) dX7_utmost_15 ?_
  refine j_istore (pc := 16) (lv' := [(7, aI 0), (6, aI x1), (5, aR 14 v0), (3, aL 0), (2, aI 0), (0, aR 13 v0), (1, aI (bi v1))]) dX7_utmost_16 (Nat.le_of_ble_eq_true rfl) rfl ?_
  refine j_sub [5, 6, 4, 3, 2, 1, 0] (lv' := [(0, aR 13 v0), (1, aI (bi v1)), (2, aI 0), (3, aL 0), (5, aR 14 v0), (6, aI x1), (7, aI 0)]) rfl ?_
  exact jl7_utmost_18 N  N v0 v1 false 0 v0 x1 0 σ
theorem c7_utmost (l : Launch) (N : Nat) (v0 : Nat) (v1 : Bool) : Ctr l yX7_utmost cX7_utmost 11 (some .long) rm7_utmost eL [aR 13 v0, aI (bi v1)] (f7_utmost N v0 v1) := ctr_of (lv := [(0, aR 13 v0), (1, aI (bi v1))]) (by decide +kernel) (fun _ => rfl) (fun _ => (Nat.le_of_ble_eq_true rfl)) (fun _ h => lvl_als h rfl) (fun _ σ _ => j7_utmost N v0 v1 σ)
theorem cs_RX10_131 : CaV RX10 RX7 131 yX7_gaps cX7_gaps 7 (some .int) 0 := ⟨tw_2_107, tw_2_108, tw_2_109, tw_1_6, tw_2_110, rfl, by decide +kernel, by decide +kernel, by decide +kernel⟩
theorem cs_RX10_135 : CaV RX10 RX7 135 yX7_utmost cX7_utmost 11 (some .long) 1 := ⟨tw_2_112, tw_2_113, tw_2_114, tw_1_6, tw_2_115, rfl, by decide +kernel, by decide +kernel, by decide +kernel⟩
abbrev rm10_most : Room := { frames := 4, cells := 0, slots := 0, locals := 96 }
set_option maxRecDepth 20000 in
set_option maxHeartbeats 4000000 in
theorem j10_most {Γ : jX} {tg : Int32 × rS} (N : Nat) (v0 : Nat) (v1 : Int32) (v2 : Int32) (σ : rS) : J Γ rm10_most eI cX10_most RX10 5 (some .int) tg 0 0 0 [(0, aR 0 v0), (1, aI v1), (2, aI v2)] [] σ (f10_most N v0 v1 v2 σ) := by
  unfold f10_most
  refine j_aload_n (pc := 0) 0 dX10_most_0 rfl rfl ?_
  refine j_iload_n (pc := 1) 1 dX10_most_1 rfl rfl ?_
  refine j_callVR (pc := 2) (As := [aI v1]) (st := []) (fun l => c10_rowNumbered l v0 v1) cs_RX10_74 rfl rfl rfl rfl (Nat.le_of_ble_eq_true rfl) ⟨(Nat.le_of_ble_eq_true rfl), (Nat.le_of_ble_eq_true rfl)⟩ ⟨(Nat.le_of_ble_eq_true rfl), (Nat.le_of_ble_eq_true rfl)⟩ dX10_most_2 (fun r1 σ2 => ?_)
  refine j_astore_n (pc := 5) (lv' := [(3, aO 13 r1), (0, aR 0 v0), (1, aI v1), (2, aI v2)]) dX10_most_5 rfl (Nat.le_of_ble_eq_true rfl) rfl ?_
  refine j_sub [0, 1, 3] (lv' := [(3, aO 13 r1), (0, aR 0 v0), (2, aI v2)]) rfl ?_
  refine j_aload_n (pc := 6) 0 dX10_most_6 rfl rfl ?_
  refine j_ifnonnull (pc := 7) (tgt := 13) dX10_most_7 rfl (fun hm => ?_) (fun i3 hm => ?_)
  · subst hm
    refine j_bipush (pc := 10) (v := (-101)) (by decide) dX10_most_10 ?_
    exact j_ireturn (pc := 12) rfl (Nat.le_of_ble_eq_true rfl) (Nat.le_of_ble_eq_true rfl) dX10_most_12
  · subst hm
    refine j_iload_n (pc := 13) 2 dX10_most_13 rfl rfl ?_
    refine j_iflt (pc := 14) (tgt := 22) dX10_most_14 rfl (fun _ => ?_) (fun _ => ?_)
    · refine j_bipush (pc := 22) (v := (-102)) (by decide) dX10_most_22 ?_
      exact j_ireturn (pc := 24) rfl (Nat.le_of_ble_eq_true rfl) (Nat.le_of_ble_eq_true rfl) dX10_most_24
    · refine j_iload_n (pc := 17) 2 dX10_most_17 rfl rfl ?_
      refine j_iconst (pc := 18) (v := 2) (by decide) dX10_most_18 ?_
      refine j_icmple (pc := 19) (tgt := 25) dX10_most_19 rfl (fun _ => ?_) (fun _ => ?_)
      · refine j_aload_n (pc := 25) 0 dX10_most_25 rfl rfl ?_
        refine j_getI (pc := 26) fd_13_2 tw_1_177 dX10_most_26 ?_
        refine j_ifeq (pc := 29) (tgt := 38) dX10_most_29 rfl (fun _ => ?_) (fun _ => ?_)
        · refine j_aload_n (pc := 38) 0 dX10_most_38 rfl rfl ?_
          refine j_callVI (pc := 39) (As := []) (st := []) (fun l => c7_gaps l N i3) cs_RX10_131 rfl rfl rfl rfl (Nat.le_of_ble_eq_true rfl) ⟨(Nat.le_of_ble_eq_true rfl), (Nat.le_of_ble_eq_true rfl)⟩ ⟨(Nat.le_of_ble_eq_true rfl), (Nat.le_of_ble_eq_true rfl)⟩ dX10_most_39 (fun r4 σ5 => ?_)
          refine j_istore (pc := 42) (lv' := [(4, aI r4), (3, aR 13 i3), (0, aR 0 v0), (2, aI v2)]) dX10_most_42 (Nat.le_of_ble_eq_true rfl) rfl ?_
          refine j_iload_n (pc := 44) 3 dX10_most_44 rfl rfl ?_
          refine j_iconst (pc := 45) (v := 2) (by decide) dX10_most_45 ?_
          refine j_icmpne (pc := 46) (tgt := 58) dX10_most_46 rfl (fun _ => ?_) (fun _ => ?_)
          · refine j_iload (pc := 58) 0 dX10_most_58 rfl ?_
            refine j_aload_n (pc := 60) 1 dX10_most_60 rfl rfl ?_
            refine j_getF (pc := 61) fd_13_1 tw_1_176 dX10_most_61 ?_
            refine j_alen (pc := 64) rfl (by decide) dX10_most_64 ?_
            refine j_icmpne (pc := 65) (tgt := 74) dX10_most_65 rfl (fun _ => ?_) (fun _ => ?_)
            · refine j_aload_n (pc := 74) 2 dX10_most_74 rfl rfl ?_
              refine j_aload_n (pc := 75) 1 dX10_most_75 rfl rfl ?_
              refine j_iload_n (pc := 76) 3 dX10_most_76 rfl rfl ?_
              refine j_ifne (pc := 77) (tgt := 84) dX10_most_77 rfl (fun _ => ?_) (fun _ => ?_)
              · refine j_iconst (pc := 84) (v := 0) (by decide) dX10_most_84 ?_
                refine j_callVL (pc := 85) (As := [aI (bi false)]) (st := [aR 0 v0]) (fun l => c7_utmost l N i3 false) cs_RX10_135 rfl rfl rfl rfl (Nat.le_of_ble_eq_true rfl) ⟨(Nat.le_of_ble_eq_true rfl), (Nat.le_of_ble_eq_true rfl)⟩ ⟨(Nat.le_of_ble_eq_true rfl), (Nat.le_of_ble_eq_true rfl)⟩ dX10_most_85 (fun r6 σ7 => ?_)
                refine j_putL (pc := 88) fd_0_13 tw_1_122 dX10_most_88 ?_
                refine j_lets (fun σ8 => ?_)
                refine j_iconst (pc := 91) (v := 0) (by decide) dX10_most_91 ?_
                exact j_ireturn (pc := 92) rfl (Nat.le_of_ble_eq_true rfl) (Nat.le_of_ble_eq_true rfl) dX10_most_92
              · refine j_iconst (pc := 80) (v := 1) (by decide) dX10_most_80 ?_
                refine j_goto (pc := 81) (tgt := 85) dX10_most_81 rfl ?_
                refine j_callVL (pc := 85) (As := [aI (bi true)]) (st := [aR 0 v0]) (fun l => c7_utmost l N i3 true) cs_RX10_135 rfl rfl rfl rfl (Nat.le_of_ble_eq_true rfl) ⟨(Nat.le_of_ble_eq_true rfl), (Nat.le_of_ble_eq_true rfl)⟩ ⟨(Nat.le_of_ble_eq_true rfl), (Nat.le_of_ble_eq_true rfl)⟩ dX10_most_85 (fun r9 σ10 => ?_)
                refine j_putL (pc := 88) fd_0_13 tw_1_122 dX10_most_88 ?_
                refine j_lets (fun σ11 => ?_)
                refine j_iconst (pc := 91) (v := 0) (by decide) dX10_most_91 ?_
                exact j_ireturn (pc := 92) rfl (Nat.le_of_ble_eq_true rfl) (Nat.le_of_ble_eq_true rfl) dX10_most_92
            · refine j_aload_n (pc := 68) 2 dX10_most_68 rfl rfl ?_
              refine j_iconst (pc := 69) (v := 5) (by decide) dX10_most_69 ?_
              refine j_callVI (pc := 70) (As := [aI 5]) (st := []) (fun l => c10_found l v0 5) cs_RX10_66 rfl rfl rfl rfl (Nat.le_of_ble_eq_true rfl) ⟨(Nat.le_of_ble_eq_true rfl), (Nat.le_of_ble_eq_true rfl)⟩ ⟨(Nat.le_of_ble_eq_true rfl), (Nat.le_of_ble_eq_true rfl)⟩ dX10_most_70 (fun r12 σ13 => ?_)
              exact j_ireturn (pc := 73) rfl (Nat.le_of_ble_eq_true rfl) (Nat.le_of_ble_eq_true rfl) dX10_most_73
          · refine j_aload_n (pc := 49) 2 dX10_most_49 rfl rfl ?_
            refine j_iload (pc := 50) 0 dX10_most_50 rfl ?_
            refine j_i2l (pc := 52) dX10_most_52 ?_
            refine j_putL (pc := 53) fd_0_13 tw_1_122 dX10_most_53 ?_
            refine j_lets (fun σ14 => ?_)
            refine j_iconst (pc := 56) (v := 0) (by decide) dX10_most_56 ?_
            exact j_ireturn (pc := 57) rfl (Nat.le_of_ble_eq_true rfl) (Nat.le_of_ble_eq_true rfl) dX10_most_57
        · refine j_aload_n (pc := 32) 1 dX10_most_32 rfl rfl ?_
          refine j_iconst (pc := 33) (v := 1) (by decide) dX10_most_33 ?_
          refine j_callVI (pc := 34) (As := [aI 1]) (st := []) (fun l => c10_found l v0 1) cs_RX10_66 rfl rfl rfl rfl (Nat.le_of_ble_eq_true rfl) ⟨(Nat.le_of_ble_eq_true rfl), (Nat.le_of_ble_eq_true rfl)⟩ ⟨(Nat.le_of_ble_eq_true rfl), (Nat.le_of_ble_eq_true rfl)⟩ dX10_most_34 (fun r15 σ16 => ?_)
          exact j_ireturn (pc := 37) rfl (Nat.le_of_ble_eq_true rfl) (Nat.le_of_ble_eq_true rfl) dX10_most_37
      · refine j_bipush (pc := 22) (v := (-102)) (by decide) dX10_most_22 ?_
        exact j_ireturn (pc := 24) rfl (Nat.le_of_ble_eq_true rfl) (Nat.le_of_ble_eq_true rfl) dX10_most_24
theorem c10_most (l : Launch) (N : Nat) (v0 : Nat) (v1 : Int32) (v2 : Int32) : Ctr l yX10_most cX10_most 5 (some .int) rm10_most eI [aR 0 v0, aI v1, aI v2] (f10_most N v0 v1 v2) := ctr_of (lv := [(0, aR 0 v0), (1, aI v1), (2, aI v2)]) (by decide +kernel) (fun _ => rfl) (fun _ => (Nat.le_of_ble_eq_true rfl)) (fun _ h => lvl_als h rfl) (fun _ σ _ => j10_most N v0 v1 v2 σ)
abbrev rm10_newRow : Room := { frames := 2, cells := 2, slots := 27, locals := 50 }
set_option maxRecDepth 20000 in
set_option maxHeartbeats 4000000 in
theorem j10_newRow {Γ : jX} {tg : Int32 × rS} (v0 : Nat) (v1 : Int32) (v2 : Int32) (σ : rS) : J Γ rm10_newRow eI cX10_newRow RX10 3 (some .int) tg 0 0 0 [(0, aR 0 v0), (1, aI v1), (2, aI v2)] [] σ (f10_newRow v0 v1 v2 σ) := by
  unfold f10_newRow
  refine j_aload_n (pc := 0) 0 dX10_newRow_0 rfl rfl ?_
  refine j_getF (pc := 1) fd_0_0 tw_1_109 dX10_newRow_1 ?_
  refine j_aload_n (pc := 4) 0 dX10_newRow_4 rfl rfl ?_
  refine j_getI (pc := 5) fd_0_8 tw_1_117 dX10_newRow_5 ?_
  refine j_newRow10 (pc := 8) dX10_newRow_8 dX10_newRow_11 dX10_newRow_12 dX10_newRow_13 dX10_newRow_14 1 2 rfl rfl (Nat.le_of_ble_eq_true rfl) ⟨(Nat.le_of_ble_eq_true rfl), (Nat.le_of_ble_eq_true rfl)⟩ ⟨(Nat.le_of_ble_eq_true rfl), (Nat.le_of_ble_eq_true rfl)⟩ (fun i1 σ2 => ?_)
  refine j_aast (pc := 17) rfl rfl rfl rfl rfl dX10_newRow_17 (fun j3 => ?_)
  refine j_lets (fun σ4 => ?_)
  refine j_aload_n (pc := 18) 0 dX10_newRow_18 rfl rfl ?_
  refine j_dup (pc := 19) dX10_newRow_19 rfl ?_
  refine j_getI (pc := 20) fd_0_8 tw_1_117 dX10_newRow_20 ?_
  refine j_iconst (pc := 23) (v := 1) (by decide) dX10_newRow_23 ?_
  refine j_iadd (pc := 24) dX10_newRow_24 ?_
  refine j_putI (pc := 25) fd_0_8 rfl rfl tw_1_117 dX10_newRow_25 ?_
  refine j_lets (fun σ5 => ?_)
  refine j_aload_n (pc := 28) 0 dX10_newRow_28 rfl rfl ?_
  refine j_getI (pc := 29) fd_0_8 tw_1_117 dX10_newRow_29 ?_
  refine j_iconst (pc := 32) (v := 1) (by decide) dX10_newRow_32 ?_
  refine j_isub (pc := 33) dX10_newRow_33 ?_
  exact j_ireturn (pc := 34) rfl (Nat.le_of_ble_eq_true rfl) (Nat.le_of_ble_eq_true rfl) dX10_newRow_34
theorem c10_newRow (l : Launch) (v0 : Nat) (v1 : Int32) (v2 : Int32) : Ctr l yX10_newRow cX10_newRow 3 (some .int) rm10_newRow eI [aR 0 v0, aI v1, aI v2] (f10_newRow v0 v1 v2) := ctr_of (lv := [(0, aR 0 v0), (1, aI v1), (2, aI v2)]) (by decide +kernel) (fun _ => rfl) (fun _ => (Nat.le_of_ble_eq_true rfl)) (fun _ h => lvl_als h rfl) (fun _ σ _ => j10_newRow v0 v1 v2 σ)
abbrev rm2_orGap : Room := { frames := 1, cells := 0, slots := 0, locals := 22 }
set_option maxRecDepth 20000 in
set_option maxHeartbeats 4000000 in
theorem j2_orGap {Γ : jX} {tg : Int64 × rS} (v0 : Int32) (v1 : Int64) (σ : rS) : J Γ rm2_orGap eL cX2_orGap RX2 3 (some .long) tg 0 0 0 [(0, aI v0), (1, aL v1)] [] σ (f2_orGap v0 v1 σ) := by
  unfold f2_orGap
  refine j_iload_n (pc := 0) 0 dX2_orGap_0 rfl rfl ?_
  refine j_lload_n (pc := 1) 1 dX2_orGap_1 rfl rfl ?_
  refine j_callSL (pc := 2) (As := [aI v0, aL v1]) (st := []) (fun l => c2_sizeOf l v0 v1) cs_RX2_34 rfl rfl (Nat.le_of_ble_eq_true rfl) ⟨(Nat.le_of_ble_eq_true rfl), (Nat.le_of_ble_eq_true rfl)⟩ ⟨(Nat.le_of_ble_eq_true rfl), (Nat.le_of_ble_eq_true rfl)⟩ dX2_orGap_2 (fun r1 σ2 => ?_)
  refine j_iload_n (pc := 5) 0 dX2_orGap_5 rfl rfl ?_
  refine j_callSL (pc := 6) (As := [aI v0]) (st := [aL r1]) (fun l => c2_endless l v0) cs_RX2_38 rfl rfl (Nat.le_of_ble_eq_true rfl) ⟨(Nat.le_of_ble_eq_true rfl), (Nat.le_of_ble_eq_true rfl)⟩ ⟨(Nat.le_of_ble_eq_true rfl), (Nat.le_of_ble_eq_true rfl)⟩ dX2_orGap_6 (fun r3 σ4 => ?_)
  refine j_lcmpgt (pc := 9) (tgt := 15) dX2_orGap_9 dX2_orGap_10 rfl (fun _ => ?_) (fun _ => ?_)
  · refine j_iload_n (pc := 15) 0 dX2_orGap_15 rfl rfl ?_
    refine j_bipush (pc := 16) (v := 6) (by decide) dX2_orGap_16 ?_
    refine j_icmpne (pc := 18) (tgt := 27) dX2_orGap_18 rfl (fun _ => ?_) (fun _ => ?_)
    · refine j_ldc2 (pc := 27) tw_1_226 dX2_orGap_27 ?_
      exact j_lreturn (pc := 30) rfl (Nat.le_of_ble_eq_true rfl) (Nat.le_of_ble_eq_true rfl) dX2_orGap_30
    · refine j_ldc2 (pc := 21) tw_1_225 dX2_orGap_21 ?_
      refine j_goto (pc := 24) (tgt := 30) dX2_orGap_24 rfl ?_
      exact j_lreturn (pc := 30) rfl (Nat.le_of_ble_eq_true rfl) (Nat.le_of_ble_eq_true rfl) dX2_orGap_30
  · refine j_lload_n (pc := 13) 1 dX2_orGap_13 rfl rfl ?_
    exact j_lreturn (pc := 14) rfl (Nat.le_of_ble_eq_true rfl) (Nat.le_of_ble_eq_true rfl) dX2_orGap_14
theorem c2_orGap (l : Launch) (v0 : Int32) (v1 : Int64) : Ctr l yX2_orGap cX2_orGap 3 (some .long) rm2_orGap eL [aI v0, aL v1] (f2_orGap v0 v1) := ctr_of (lv := [(0, aI v0), (1, aL v1)]) (by decide +kernel) (fun _ => rfl) (fun _ => (Nat.le_of_ble_eq_true rfl)) (fun _ h => lvl_als h rfl) (fun _ σ _ => j2_orGap v0 v1 σ)
theorem cs_RX4_9 : CaS RX4 9 yX2_orGap cX2_orGap 3 (some .long) 2 := ⟨tw_1_212, tw_1_213, tw_1_8, tw_1_214, by decide +kernel, by decide +kernel, by decide +kernel⟩
abbrev rm4_told : Room := { frames := 2, cells := 0, slots := 0, locals := 44 }
set_option maxRecDepth 20000 in
set_option maxHeartbeats 4000000 in
theorem j4_told {Γ : jX} {tg : Int64 × rS} (v0 : Int32) (v1 : Int64) (σ : rS) : J Γ rm4_told eL cX4_told RX4 3 (some .long) tg 0 0 0 [(0, aI v0), (1, aL v1)] [] σ (f4_told v0 v1 σ) := by
  unfold f4_told
  refine j_iload_n (pc := 0) 0 dX4_told_0 rfl rfl ?_
  refine j_case 0 (fun h0 => ?_) (fun h0 => ?_)
  · refine j_tableIn (pc := 1) (off := 47) (tgt := 48) dX4_told_1 (by rw [h0]; decide) (by rw [h0]; decide) (by rw [h0]; rfl) rfl ?_
    refine j_lload_n (pc := 48) 1 dX4_told_48 rfl rfl ?_
    refine j_lconst (pc := 49) (v := 1) (by decide) dX4_told_49 ?_
    refine j_land (pc := 50) dX4_told_50 ?_
    exact j_lreturn (pc := 51) rfl (Nat.le_of_ble_eq_true rfl) (Nat.le_of_ble_eq_true rfl) dX4_told_51
  · refine j_case 1 (fun h1 => ?_) (fun h1 => ?_)
    · refine j_tableIn (pc := 1) (off := 51) (tgt := 52) dX4_told_1 (by rw [h1]; decide) (by rw [h1]; decide) (by rw [h1]; rfl) rfl ?_
      refine j_lload_n (pc := 52) 1 dX4_told_52 rfl rfl ?_
      refine j_l2i (pc := 53) dX4_told_53 ?_
      refine j_i2b (pc := 54) dX4_told_54 ?_
      refine j_i2l (pc := 55) dX4_told_55 ?_
      exact j_lreturn (pc := 56) rfl (Nat.le_of_ble_eq_true rfl) (Nat.le_of_ble_eq_true rfl) dX4_told_56
    · refine j_case 2 (fun h2 => ?_) (fun h2 => ?_)
      · refine j_tableIn (pc := 1) (off := 56) (tgt := 57) dX4_told_1 (by rw [h2]; decide) (by rw [h2]; decide) (by rw [h2]; rfl) rfl ?_
        refine j_lload_n (pc := 57) 1 dX4_told_57 rfl rfl ?_
        refine j_l2i (pc := 58) dX4_told_58 ?_
        refine j_i2c (pc := 59) dX4_told_59 ?_
        refine j_i2l (pc := 60) dX4_told_60 ?_
        exact j_lreturn (pc := 61) rfl (Nat.le_of_ble_eq_true rfl) (Nat.le_of_ble_eq_true rfl) dX4_told_61
      · refine j_case 3 (fun h3 => ?_) (fun h3 => ?_)
        · refine j_tableIn (pc := 1) (off := 61) (tgt := 62) dX4_told_1 (by rw [h3]; decide) (by rw [h3]; decide) (by rw [h3]; rfl) rfl ?_
          refine j_lload_n (pc := 62) 1 dX4_told_62 rfl rfl ?_
          refine j_l2i (pc := 63) dX4_told_63 ?_
          refine j_i2s (pc := 64) dX4_told_64 ?_
          refine j_i2l (pc := 65) dX4_told_65 ?_
          exact j_lreturn (pc := 66) rfl (Nat.le_of_ble_eq_true rfl) (Nat.le_of_ble_eq_true rfl) dX4_told_66
        · refine j_case 4 (fun h4 => ?_) (fun h4 => ?_)
          · refine j_tableIn (pc := 1) (off := 66) (tgt := 67) dX4_told_1 (by rw [h4]; decide) (by rw [h4]; decide) (by rw [h4]; rfl) rfl ?_
            refine j_lload_n (pc := 67) 1 dX4_told_67 rfl rfl ?_
            refine j_l2i (pc := 68) dX4_told_68 ?_
            refine j_i2l (pc := 69) dX4_told_69 ?_
            exact j_lreturn (pc := 70) rfl (Nat.le_of_ble_eq_true rfl) (Nat.le_of_ble_eq_true rfl) dX4_told_70
          · refine j_case 5 (fun h5 => ?_) (fun h5 => ?_)
            · refine j_tableIn (pc := 1) (off := 84) (tgt := 85) dX4_told_1 (by rw [h5]; decide) (by rw [h5]; decide) (by rw [h5]; rfl) rfl ?_
              refine j_lload_n (pc := 85) 1 dX4_told_85 rfl rfl ?_
              exact j_lreturn (pc := 86) rfl (Nat.le_of_ble_eq_true rfl) (Nat.le_of_ble_eq_true rfl) dX4_told_86
            · refine j_case 6 (fun h6 => ?_) (fun h6 => ?_)
              · refine j_tableIn (pc := 1) (off := 70) (tgt := 71) dX4_told_1 (by rw [h6]; decide) (by rw [h6]; decide) (by rw [h6]; rfl) rfl ?_
                refine j_iload_n (pc := 71) 0 dX4_told_71 rfl rfl ?_
                refine j_lload_n (pc := 72) 1 dX4_told_72 rfl rfl ?_
                refine j_l2i (pc := 73) dX4_told_73 ?_
                refine j_i2l (pc := 74) dX4_told_74 ?_
                refine j_callSL (pc := 75) (As := [aI v0, aL (Int32.toInt64 (Int64.toInt32 v1))]) (st := []) (fun l => c2_orGap l v0 (Int32.toInt64 (Int64.toInt32 v1))) cs_RX4_9 rfl rfl (Nat.le_of_ble_eq_true rfl) ⟨(Nat.le_of_ble_eq_true rfl), (Nat.le_of_ble_eq_true rfl)⟩ ⟨(Nat.le_of_ble_eq_true rfl), (Nat.le_of_ble_eq_true rfl)⟩ dX4_told_75 (fun r1 σ2 => ?_)
                exact j_lreturn (pc := 78) rfl (Nat.le_of_ble_eq_true rfl) (Nat.le_of_ble_eq_true rfl) dX4_told_78
              · refine j_case 7 (fun h7 => ?_) (fun h7 => ?_)
                · refine j_tableIn (pc := 1) (off := 78) (tgt := 79) dX4_told_1 (by rw [h7]; decide) (by rw [h7]; decide) (by rw [h7]; rfl) rfl ?_
                  refine j_iload_n (pc := 79) 0 dX4_told_79 rfl rfl ?_
                  refine j_lload_n (pc := 80) 1 dX4_told_80 rfl rfl ?_
                  refine j_callSL (pc := 81) (As := [aI v0, aL v1]) (st := []) (fun l => c2_orGap l v0 v1) cs_RX4_9 rfl rfl (Nat.le_of_ble_eq_true rfl) ⟨(Nat.le_of_ble_eq_true rfl), (Nat.le_of_ble_eq_true rfl)⟩ ⟨(Nat.le_of_ble_eq_true rfl), (Nat.le_of_ble_eq_true rfl)⟩ dX4_told_81 (fun r3 σ4 => ?_)
                  exact j_lreturn (pc := 84) rfl (Nat.le_of_ble_eq_true rfl) (Nat.le_of_ble_eq_true rfl) dX4_told_84
                · have g0 := lv_neT h0 (show ((0 : Int32)).toInt = 0 by decide)
                  have g1 := lv_neT h1 (show ((1 : Int32)).toInt = 1 by decide)
                  have g2 := lv_neT h2 (show ((2 : Int32)).toInt = 2 by decide)
                  have g3 := lv_neT h3 (show ((3 : Int32)).toInt = 3 by decide)
                  have g4 := lv_neT h4 (show ((4 : Int32)).toInt = 4 by decide)
                  have g5 := lv_neT h5 (show ((5 : Int32)).toInt = 5 by decide)
                  have g6 := lv_neT h6 (show ((6 : Int32)).toInt = 6 by decide)
                  have g7 := lv_neT h7 (show ((7 : Int32)).toInt = 7 by decide)
                  refine j_tableOut (pc := 1) (tgt := 85) dX4_told_1 (by omega) rfl ?_
                  refine j_lload_n (pc := 85) 1 dX4_told_85 rfl rfl ?_
                  exact j_lreturn (pc := 86) rfl (Nat.le_of_ble_eq_true rfl) (Nat.le_of_ble_eq_true rfl) dX4_told_86
theorem c4_told (l : Launch) (v0 : Int32) (v1 : Int64) : Ctr l yX4_told cX4_told 3 (some .long) rm4_told eL [aI v0, aL v1] (f4_told v0 v1) := ctr_of (lv := [(0, aI v0), (1, aL v1)]) (by decide +kernel) (fun _ => rfl) (fun _ => (Nat.le_of_ble_eq_true rfl)) (fun _ h => lvl_als h rfl) (fun _ σ _ => j4_told v0 v1 σ)
