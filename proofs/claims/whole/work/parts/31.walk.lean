abbrev rm5_widthOf : Room := { frames := 0, cells := 0, slots := 0, locals := 0 }
set_option maxRecDepth 20000 in
set_option maxHeartbeats 4000000 in
theorem jb5_widthOf_40 {Γ : jX} {tg : Int32 × rS} (N : Nat) (K4 : Int64 → Int32 → Int32 → rS → Option (Int32 × rS)) (hK4 : ∀ (v0 : Int64) (v2 : Int32) (v3 : Int32) (σ : rS), J Γ rm5_widthOf eI cX5_widthOf RX5 6 (some .int) tg 0 0 4 [(0, aL v0), (2, aI v2), (3, aI v3)] [] σ (K4 v0 v2 v3 σ)) (v0 : Int64) (v2 : Int32) (v3 : Int32) (σ : rS) : J Γ rm5_widthOf eI cX5_widthOf RX5 6 (some .int) tg 0 0 40 [(0, aL v0), (2, aI v2), (3, aI v3)] [] σ (B5_widthOf_40 N K4 v0 v2 v3 σ) := by
  unfold B5_widthOf_40
  refine j_iinc (pc := 40) (w := 1) (lv' := [(3, aI (v3 + 1)), (0, aL v0), (2, aI v2)]) 2 dX5_widthOf_40 rfl (by decide) (Nat.le_of_ble_eq_true rfl) rfl ?_
  refine j_goto (pc := 43) (tgt := 4) dX5_widthOf_43 rfl ?_
  refine j_sub [1, 2, 0] (lv' := [(0, aL v0), (2, aI v2), (3, aI (v3 + 1))]) rfl ?_
  exact hK4 v0 v2 (v3 + 1) σ
set_option maxRecDepth 20000 in
set_option maxHeartbeats 4000000 in
theorem jb5_widthOf_4 {Γ : jX} {tg : Int32 × rS} (N : Nat) (K4 : Int64 → Int32 → Int32 → rS → Option (Int32 × rS)) (hK4 : ∀ (v0 : Int64) (v2 : Int32) (v3 : Int32) (σ : rS), J Γ rm5_widthOf eI cX5_widthOf RX5 6 (some .int) tg 0 0 4 [(0, aL v0), (2, aI v2), (3, aI v3)] [] σ (K4 v0 v2 v3 σ)) (v0 : Int64) (v2 : Int32) (v3 : Int32) (σ : rS) : J Γ rm5_widthOf eI cX5_widthOf RX5 6 (some .int) tg 0 0 4 [(0, aL v0), (2, aI v2), (3, aI v3)] [] σ (B5_widthOf_4 N K4 v0 v2 v3 σ) := by
  unfold B5_widthOf_4
  refine j_iload_n (pc := 4) 2 dX5_widthOf_4 rfl rfl ?_
  refine j_bipush (pc := 5) (v := 8) (by decide) dX5_widthOf_5 ?_
  refine j_icmpge (pc := 7) (tgt := 46) dX5_widthOf_7 rfl (fun _ => ?_) (fun _ => ?_)
  · refine j_iload_n (pc := 46) 1 dX5_widthOf_46 rfl rfl ?_
    exact j_ireturn (pc := 47) rfl (Nat.le_of_ble_eq_true rfl) (Nat.le_of_ble_eq_true rfl) dX5_widthOf_47
  · refine j_lload_n (pc := 10) 0 dX5_widthOf_10 rfl rfl ?_
    refine j_bipush (pc := 11) (v := 8) (by decide) dX5_widthOf_11 ?_
    refine j_iload_n (pc := 13) 2 dX5_widthOf_13 rfl rfl ?_
    refine j_imul (pc := 14) dX5_widthOf_14 ?_
    refine j_iconst (pc := 15) (v := 1) (by decide) dX5_widthOf_15 ?_
    refine j_isub (pc := 16) dX5_widthOf_16 ?_
    refine j_lshr (pc := 17) dX5_widthOf_17 ?_
    refine j_letl (fun x1 => ?_)
    refine j_lstore (pc := 18) (lv' := [(4, aL x1), (0, aL v0), (2, aI v2), (3, aI v3)]) dX5_widthOf_18 (Nat.le_of_ble_eq_true rfl) rfl ?_
    refine j_lload (pc := 20) 0 dX5_widthOf_20 rfl ?_
    refine j_lconst (pc := 22) (v := 0) (by decide) dX5_widthOf_22 ?_
    refine j_lcmpeq (pc := 23) (tgt := 40) dX5_widthOf_23 dX5_widthOf_24 rfl (fun _ => ?_) (fun _ => ?_)
    · refine j_sub [1, 2, 3] (lv' := [(0, aL v0), (2, aI v2), (3, aI v3)]) rfl ?_
      exact jb5_widthOf_40 N K4 hK4 v0 v2 v3 σ
    · refine j_lload (pc := 27) 0 dX5_widthOf_27 rfl ?_
      refine j_ldc2 (pc := 29) tw_2_195 dX5_widthOf_29 ?_
      refine j_lcmpeq (pc := 32) (tgt := 40) dX5_widthOf_32 dX5_widthOf_33 rfl (fun _ => ?_) (fun _ => ?_)
      · refine j_sub [1, 2, 3] (lv' := [(0, aL v0), (2, aI v2), (3, aI v3)]) rfl ?_
        exact jb5_widthOf_40 N K4 hK4 v0 v2 v3 σ
      · refine j_iload_n (pc := 36) 3 dX5_widthOf_36 rfl rfl ?_
        refine j_iconst (pc := 37) (v := 1) (by decide) dX5_widthOf_37 ?_
        refine j_iadd (pc := 38) dX5_widthOf_38 ?_
        refine j_leti (fun x2 => ?_)
        refine j_istore_n (pc := 39) (lv' := [(2, aI x2), (4, aL x1), (0, aL v0), (3, aI v3)]) dX5_widthOf_39 rfl (Nat.le_of_ble_eq_true rfl) rfl ?_
        refine j_sub [0, 2, 3] (lv' := [(2, aI x2), (0, aL v0), (3, aI v3)]) rfl ?_
        refine j_sub [1, 0, 2] (lv' := [(0, aL v0), (2, aI x2), (3, aI v3)]) rfl ?_
        exact jb5_widthOf_40 N K4 hK4 v0 x2 v3 σ
theorem jl5_widthOf_4 {Γ : jX} {tg : Int32 × rS} (N : Nat) : ∀ (n : Nat) (v0 : Int64) (v2 : Int32) (v3 : Int32) (σ : rS), J Γ rm5_widthOf eI cX5_widthOf RX5 6 (some .int) tg 0 0 4 [(0, aL v0), (2, aI v2), (3, aI v3)] [] σ (L5_widthOf_4 N n v0 v2 v3 σ) := by
  intro n
  induction n with
  | zero => intro v0 v2 v3 σ; exact j_none
  | succ n ih => intro v0 v2 v3 σ; exact jb5_widthOf_4 N (L5_widthOf_4 N n) ih v0 v2 v3 σ
set_option maxRecDepth 20000 in
set_option maxHeartbeats 4000000 in
theorem j5_widthOf {Γ : jX} {tg : Int32 × rS} (N : Nat) (v0 : Int64) (σ : rS) : J Γ rm5_widthOf eI cX5_widthOf RX5 6 (some .int) tg 0 0 0 [(0, aL v0)] [] σ (f5_widthOf N v0 σ) := by
  unfold f5_widthOf
  refine j_iconst (pc := 0) (v := 1) (by decide) dX5_widthOf_0 ?_
  refine j_istore_n (pc := 1) (lv' := [(2, aI 1), (0, aL v0)]) dX5_widthOf_1 rfl (Nat.le_of_ble_eq_true rfl) rfl ?_
  refine j_iconst (pc := 2) (v := 1) (by decide) dX5_widthOf_2 ?_
  refine j_istore_n (pc := 3) (lv' := [(3, aI 1), (2, aI 1), (0, aL v0)]) dX5_widthOf_3 rfl (Nat.le_of_ble_eq_true rfl) rfl ?_
  refine j_sub [2, 1, 0] (lv' := [(0, aL v0), (2, aI 1), (3, aI 1)]) rfl ?_
  exact jl5_widthOf_4 N  N v0 1 1 σ
theorem c5_widthOf (l : Launch) (N : Nat) (v0 : Int64) : Ctr l yX5_widthOf cX5_widthOf 6 (some .int) rm5_widthOf eI [aL v0] (f5_widthOf N v0) := ctr_of (lv := [(0, aL v0)]) (by decide +kernel) (fun _ => rfl) (fun _ => (Nat.le_of_ble_eq_true rfl)) (fun _ h => lvl_als h rfl) (fun _ σ _ => j5_widthOf N v0 σ)
theorem cs_RX5_53 : CaS RX5 53 yX5_widthOf cX5_widthOf 6 (some .int) 1 := ⟨tw_2_192, tw_2_193, tw_1_3, tw_2_194, by decide +kernel, by decide +kernel, by decide +kernel⟩
theorem cs_RX5_57 : CaS RX5 57 yJ9_max_7cf53 cJ9_max_7cf53 2 (some .int) 2 := ⟨tw_2_196, tw_2_95, tw_1_13, tw_2_96, by decide +kernel, by decide +kernel, by decide +kernel⟩
abbrev rm5_packWide : Room := { frames := 1, cells := 0, slots := 0, locals := 25 }
set_option maxRecDepth 20000 in
set_option maxHeartbeats 4000000 in
theorem jb5_packWide_45 {Γ : jX} {tg : Unit × rS} (N : Nat) (K37 : Nat → Int32 → Int32 → Int32 → rS → Option (Unit × rS)) (K45 : Nat → Int32 → Int32 → Int32 → Int32 → rS → Option (Unit × rS)) (hK37 : ∀ (v0 : Nat) (v1 : Int32) (v2 : Int32) (v3 : Int32) (σ : rS), J Γ rm5_packWide eV cX5_packWide RX5 5 none tg 0 0 37 [(0, aR 8 v0), (1, aI v1), (2, aI v2), (3, aI v3)] [] σ (K37 v0 v1 v2 v3 σ)) (hK45 : ∀ (v0 : Nat) (v1 : Int32) (v2 : Int32) (v3 : Int32) (v4 : Int32) (σ : rS), J Γ rm5_packWide eV cX5_packWide RX5 5 none tg 0 0 45 [(0, aR 8 v0), (1, aI v1), (2, aI v2), (3, aI v3), (4, aI v4)] [] σ (K45 v0 v1 v2 v3 v4 σ)) (v0 : Nat) (v1 : Int32) (v2 : Int32) (v3 : Int32) (v4 : Int32) (σ : rS) : J Γ rm5_packWide eV cX5_packWide RX5 5 none tg 0 0 45 [(0, aR 8 v0), (1, aI v1), (2, aI v2), (3, aI v3), (4, aI v4)] [] σ (B5_packWide_45 N K37 K45 v0 v1 v2 v3 v4 σ) := by
  unfold B5_packWide_45
  refine j_iload (pc := 45) 4 dX5_packWide_45 rfl ?_
  refine j_iload_n (pc := 47) 2 dX5_packWide_47 rfl rfl ?_
  refine j_icmpge (pc := 48) (tgt := 73) dX5_packWide_48 rfl (fun _ => ?_) (fun _ => ?_)
  · refine j_iinc (pc := 73) (w := 1) (lv' := [(3, aI (v3 + 1)), (0, aR 8 v0), (1, aI v1), (2, aI v2), (4, aI v4)]) 3 dX5_packWide_73 rfl (by decide) (Nat.le_of_ble_eq_true rfl) rfl ?_
    refine j_goto (pc := 76) (tgt := 37) dX5_packWide_76 rfl ?_
    refine j_sub [1, 2, 3, 0] (lv' := [(0, aR 8 v0), (1, aI v1), (2, aI v2), (3, aI (v3 + 1))]) rfl ?_
    exact hK37 v0 v1 v2 (v3 + 1) σ
  · refine j_aload_n (pc := 51) 0 dX5_packWide_51 rfl rfl ?_
    refine j_aload_n (pc := 52) 0 dX5_packWide_52 rfl rfl ?_
    refine j_getF (pc := 53) fd_8_3 tw_1_66 dX5_packWide_53 ?_
    refine j_iload_n (pc := 56) 3 dX5_packWide_56 rfl rfl ?_
    refine j_lald (pc := 57) rfl rfl rfl dX5_packWide_57 (fun j1 => ?_)
    refine j_bipush (pc := 58) (v := 8) (by decide) dX5_packWide_58 ?_
    refine j_iload (pc := 60) 4 dX5_packWide_60 rfl ?_
    refine j_imul (pc := 62) dX5_packWide_62 ?_
    refine j_lshr (pc := 63) dX5_packWide_63 ?_
    refine j_callVV (pc := 64) (As := [aL ((gL σ 11 v0 j1) >>> (Int32.toInt64 (8 * v4) &&& 63))]) (st := []) (fun l => c5_packByte l v0 ((gL σ 11 v0 j1) >>> (Int32.toInt64 (8 * v4) &&& 63))) cs_RX5_50 rfl rfl rfl rfl (Nat.le_of_ble_eq_true rfl) ⟨(Nat.le_of_ble_eq_true rfl), (Nat.le_of_ble_eq_true rfl)⟩ ⟨(Nat.le_of_ble_eq_true rfl), (Nat.le_of_ble_eq_true rfl)⟩ dX5_packWide_64 (fun r2 σ3 => ?_)
    refine j_iinc (pc := 67) (w := 1) (lv' := [(4, aI (v4 + 1)), (0, aR 8 v0), (1, aI v1), (2, aI v2), (3, aI v3)]) 4 dX5_packWide_67 rfl (by decide) (Nat.le_of_ble_eq_true rfl) rfl ?_
    refine j_goto (pc := 70) (tgt := 45) dX5_packWide_70 rfl ?_
    refine j_sub [1, 2, 3, 4, 0] (lv' := [(0, aR 8 v0), (1, aI v1), (2, aI v2), (3, aI v3), (4, aI (v4 + 1))]) rfl ?_
    exact hK45 v0 v1 v2 v3 (v4 + 1) σ3
theorem jl5_packWide_45 {Γ : jX} {tg : Unit × rS} (N : Nat) (K37 : Nat → Int32 → Int32 → Int32 → rS → Option (Unit × rS)) (hK37 : ∀ (v0 : Nat) (v1 : Int32) (v2 : Int32) (v3 : Int32) (σ : rS), J Γ rm5_packWide eV cX5_packWide RX5 5 none tg 0 0 37 [(0, aR 8 v0), (1, aI v1), (2, aI v2), (3, aI v3)] [] σ (K37 v0 v1 v2 v3 σ)) : ∀ (n : Nat) (v0 : Nat) (v1 : Int32) (v2 : Int32) (v3 : Int32) (v4 : Int32) (σ : rS), J Γ rm5_packWide eV cX5_packWide RX5 5 none tg 0 0 45 [(0, aR 8 v0), (1, aI v1), (2, aI v2), (3, aI v3), (4, aI v4)] [] σ (L5_packWide_45 N K37 n v0 v1 v2 v3 v4 σ) := by
  intro n
  induction n with
  | zero => intro v0 v1 v2 v3 v4 σ; exact j_none
  | succ n ih => intro v0 v1 v2 v3 v4 σ; exact jb5_packWide_45 N K37 (L5_packWide_45 N K37 n) hK37 ih v0 v1 v2 v3 v4 σ
set_option maxRecDepth 20000 in
set_option maxHeartbeats 4000000 in
theorem jb5_packWide_37 {Γ : jX} {tg : Unit × rS} (N : Nat) (K37 : Nat → Int32 → Int32 → Int32 → rS → Option (Unit × rS)) (hK37 : ∀ (v0 : Nat) (v1 : Int32) (v2 : Int32) (v3 : Int32) (σ : rS), J Γ rm5_packWide eV cX5_packWide RX5 5 none tg 0 0 37 [(0, aR 8 v0), (1, aI v1), (2, aI v2), (3, aI v3)] [] σ (K37 v0 v1 v2 v3 σ)) (v0 : Nat) (v1 : Int32) (v2 : Int32) (v3 : Int32) (σ : rS) : J Γ rm5_packWide eV cX5_packWide RX5 5 none tg 0 0 37 [(0, aR 8 v0), (1, aI v1), (2, aI v2), (3, aI v3)] [] σ (B5_packWide_37 N K37 v0 v1 v2 v3 σ) := by
  unfold B5_packWide_37
  refine j_iload_n (pc := 37) 3 dX5_packWide_37 rfl rfl ?_
  refine j_iload_n (pc := 38) 1 dX5_packWide_38 rfl rfl ?_
  refine j_icmpge (pc := 39) (tgt := 79) dX5_packWide_39 rfl (fun _ => ?_) (fun _ => ?_)
  · exact j_return (pc := 79) rfl (Nat.le_of_ble_eq_true rfl) (Nat.le_of_ble_eq_true rfl) dX5_packWide_79
  · refine j_iconst (pc := 42) (v := 0) (by decide) dX5_packWide_42 ?_
    refine j_istore (pc := 43) (lv' := [(4, aI 0), (0, aR 8 v0), (1, aI v1), (2, aI v2), (3, aI v3)]) dX5_packWide_43 (Nat.le_of_ble_eq_true rfl) rfl ?_
    refine j_sub [1, 2, 3, 4, 0] (lv' := [(0, aR 8 v0), (1, aI v1), (2, aI v2), (3, aI v3), (4, aI 0)]) rfl ?_
    exact jl5_packWide_45 N K37 hK37 N v0 v1 v2 v3 0 σ
theorem jl5_packWide_37 {Γ : jX} {tg : Unit × rS} (N : Nat) : ∀ (n : Nat) (v0 : Nat) (v1 : Int32) (v2 : Int32) (v3 : Int32) (σ : rS), J Γ rm5_packWide eV cX5_packWide RX5 5 none tg 0 0 37 [(0, aR 8 v0), (1, aI v1), (2, aI v2), (3, aI v3)] [] σ (L5_packWide_37 N n v0 v1 v2 v3 σ) := by
  intro n
  induction n with
  | zero => intro v0 v1 v2 v3 σ; exact j_none
  | succ n ih => intro v0 v1 v2 v3 σ; exact jb5_packWide_37 N (L5_packWide_37 N n) ih v0 v1 v2 v3 σ
set_option maxRecDepth 20000 in
set_option maxHeartbeats 4000000 in
theorem jb5_packWide_4 {Γ : jX} {tg : Unit × rS} (N : Nat) (K4 : Nat → Int32 → Int32 → Int32 → rS → Option (Unit × rS)) (hK4 : ∀ (v0 : Nat) (v1 : Int32) (v2 : Int32) (v3 : Int32) (σ : rS), J Γ rm5_packWide eV cX5_packWide RX5 5 none tg 0 0 4 [(0, aR 8 v0), (1, aI v1), (2, aI v2), (3, aI v3)] [] σ (K4 v0 v1 v2 v3 σ)) (v0 : Nat) (v1 : Int32) (v2 : Int32) (v3 : Int32) (σ : rS) : J Γ rm5_packWide eV cX5_packWide RX5 5 none tg 0 0 4 [(0, aR 8 v0), (1, aI v1), (2, aI v2), (3, aI v3)] [] σ (B5_packWide_4 N K4 v0 v1 v2 v3 σ) := by
  unfold B5_packWide_4
  refine j_iload_n (pc := 4) 3 dX5_packWide_4 rfl rfl ?_
  refine j_iload_n (pc := 5) 1 dX5_packWide_5 rfl rfl ?_
  refine j_icmpge (pc := 6) (tgt := 29) dX5_packWide_6 rfl (fun _ => ?_) (fun _ => ?_)
  · refine j_aload_n (pc := 29) 0 dX5_packWide_29 rfl rfl ?_
    refine j_iload_n (pc := 30) 2 dX5_packWide_30 rfl rfl ?_
    refine j_i2l (pc := 31) dX5_packWide_31 ?_
    refine j_callVV (pc := 32) (As := [aL (Int32.toInt64 v2)]) (st := []) (fun l => c5_packByte l v0 (Int32.toInt64 v2)) cs_RX5_50 rfl rfl rfl rfl (Nat.le_of_ble_eq_true rfl) ⟨(Nat.le_of_ble_eq_true rfl), (Nat.le_of_ble_eq_true rfl)⟩ ⟨(Nat.le_of_ble_eq_true rfl), (Nat.le_of_ble_eq_true rfl)⟩ dX5_packWide_32 (fun r1 σ2 => ?_)
    refine j_iconst (pc := 35) (v := 0) (by decide) dX5_packWide_35 ?_
    refine j_istore_n (pc := 36) (lv' := [(3, aI 0), (0, aR 8 v0), (1, aI v1), (2, aI v2)]) dX5_packWide_36 rfl (Nat.le_of_ble_eq_true rfl) rfl ?_
    refine j_sub [1, 2, 3, 0] (lv' := [(0, aR 8 v0), (1, aI v1), (2, aI v2), (3, aI 0)]) rfl ?_
    exact jl5_packWide_37 N  N v0 v1 v2 0 σ2
  · refine j_iload_n (pc := 9) 2 dX5_packWide_9 rfl rfl ?_
    refine j_aload_n (pc := 10) 0 dX5_packWide_10 rfl rfl ?_
    refine j_getF (pc := 11) fd_8_3 tw_1_66 dX5_packWide_11 ?_
    refine j_iload_n (pc := 14) 3 dX5_packWide_14 rfl rfl ?_
    refine j_lald (pc := 15) rfl rfl rfl dX5_packWide_15 (fun j3 => ?_)
    refine j_callSI (pc := 16) (As := [aL (gL σ 11 v0 j3)]) (st := [aI v2]) (fun l => c5_widthOf l N (gL σ 11 v0 j3)) cs_RX5_53 rfl rfl (Nat.le_of_ble_eq_true rfl) ⟨(Nat.le_of_ble_eq_true rfl), (Nat.le_of_ble_eq_true rfl)⟩ ⟨(Nat.le_of_ble_eq_true rfl), (Nat.le_of_ble_eq_true rfl)⟩ dX5_packWide_16 (fun r4 σ5 => ?_)
    refine j_callSI (pc := 19) (As := [aI v2, aI r4]) (st := []) (fun l => cJ_max l v2 r4) cs_RX5_57 rfl rfl (Nat.le_of_ble_eq_true rfl) ⟨(Nat.le_of_ble_eq_true rfl), (Nat.le_of_ble_eq_true rfl)⟩ ⟨(Nat.le_of_ble_eq_true rfl), (Nat.le_of_ble_eq_true rfl)⟩ dX5_packWide_19 (fun r6 σ7 => ?_)
    refine j_istore_n (pc := 22) (lv' := [(2, aI r6), (0, aR 8 v0), (1, aI v1), (3, aI v3)]) dX5_packWide_22 rfl (Nat.le_of_ble_eq_true rfl) rfl ?_
    refine j_iinc (pc := 23) (w := 1) (lv' := [(3, aI (v3 + 1)), (2, aI r6), (0, aR 8 v0), (1, aI v1)]) 3 dX5_packWide_23 rfl (by decide) (Nat.le_of_ble_eq_true rfl) rfl ?_
    refine j_goto (pc := 26) (tgt := 4) dX5_packWide_26 rfl ?_
    refine j_sub [2, 3, 1, 0] (lv' := [(0, aR 8 v0), (1, aI v1), (2, aI r6), (3, aI (v3 + 1))]) rfl ?_
    exact hK4 v0 v1 r6 (v3 + 1) σ7
theorem jl5_packWide_4 {Γ : jX} {tg : Unit × rS} (N : Nat) : ∀ (n : Nat) (v0 : Nat) (v1 : Int32) (v2 : Int32) (v3 : Int32) (σ : rS), J Γ rm5_packWide eV cX5_packWide RX5 5 none tg 0 0 4 [(0, aR 8 v0), (1, aI v1), (2, aI v2), (3, aI v3)] [] σ (L5_packWide_4 N n v0 v1 v2 v3 σ) := by
  intro n
  induction n with
  | zero => intro v0 v1 v2 v3 σ; exact j_none
  | succ n ih => intro v0 v1 v2 v3 σ; exact jb5_packWide_4 N (L5_packWide_4 N n) ih v0 v1 v2 v3 σ
set_option maxRecDepth 20000 in
set_option maxHeartbeats 4000000 in
theorem j5_packWide {Γ : jX} {tg : Unit × rS} (N : Nat) (v0 : Nat) (v1 : Int32) (σ : rS) : J Γ rm5_packWide eV cX5_packWide RX5 5 none tg 0 0 0 [(0, aR 8 v0), (1, aI v1)] [] σ (f5_packWide N v0 v1 σ) := by
  unfold f5_packWide
  refine j_iconst (pc := 0) (v := 1) (by decide) dX5_packWide_0 ?_
  refine j_istore_n (pc := 1) (lv' := [(2, aI 1), (0, aR 8 v0), (1, aI v1)]) dX5_packWide_1 rfl (Nat.le_of_ble_eq_true rfl) rfl ?_
  refine j_iconst (pc := 2) (v := 0) (by decide) dX5_packWide_2 ?_
  refine j_istore_n (pc := 3) (lv' := [(3, aI 0), (2, aI 1), (0, aR 8 v0), (1, aI v1)]) dX5_packWide_3 rfl (Nat.le_of_ble_eq_true rfl) rfl ?_
  refine j_sub [2, 3, 1, 0] (lv' := [(0, aR 8 v0), (1, aI v1), (2, aI 1), (3, aI 0)]) rfl ?_
  exact jl5_packWide_4 N  N v0 v1 1 0 σ
theorem c5_packWide (l : Launch) (N : Nat) (v0 : Nat) (v1 : Int32) : Ctr l yX5_packWide cX5_packWide 5 none rm5_packWide eV [aR 8 v0, aI v1] (f5_packWide N v0 v1) := ctr_of (lv := [(0, aR 8 v0), (1, aI v1)]) (by decide +kernel) (fun _ => rfl) (fun _ => (Nat.le_of_ble_eq_true rfl)) (fun _ h => lvl_als h rfl) (fun _ σ _ => j5_packWide N v0 v1 σ)
theorem cs_RX5_32 : CaV RX5 RX5 32 yX5_makeSteps cX5_makeSteps 3 none 1 := ⟨tw_2_170, tw_2_172, tw_p5, tw_1_3, tw_2_173, rfl, by decide +kernel, by decide +kernel, by decide +kernel⟩
theorem cs_RX5_36 : CaV RX5 RX5 36 yX5_packRuns cX5_packRuns 4 none 1 := ⟨tw_2_174, tw_2_176, tw_p6, tw_1_3, tw_2_177, rfl, by decide +kernel, by decide +kernel, by decide +kernel⟩
theorem cs_RX5_39 : CaV RX5 RX5 39 yX5_packWide cX5_packWide 5 none 1 := ⟨tw_2_188, tw_2_190, tw_p9, tw_1_3, tw_2_191, rfl, by decide +kernel, by decide +kernel, by decide +kernel⟩
abbrev rm5_pack : Room := { frames := 3, cells := 0, slots := 0, locals := 70 }
set_option maxRecDepth 20000 in
set_option maxHeartbeats 4000000 in
theorem jb5_pack_91 {Γ : jX} {tg : Unit × rS} (N : Nat) (k2 : Nat) (hk2 : lyO k2 = none ∧ lyA k2 = (3, 0) ∧ lyT k2 = .long) (K91 : Nat → Int32 → Int32 → rS → Option (Unit × rS)) (hK91 : ∀ (v0 : Nat) (v3 : Int32) (v4 : Int32) (σ : rS), J Γ rm5_pack eV cX5_pack RX5 5 none tg 0 0 91 [(0, aR 8 v0), (3, aI v3), (4, aI v4)] [] σ (K91 v0 v3 v4 σ)) (v0 : Nat) (v3 : Int32) (v4 : Int32) (σ : rS) : J Γ rm5_pack eV cX5_pack RX5 5 none tg 0 0 91 [(0, aR 8 v0), (3, aI v3), (4, aI v4)] [] σ (B5_pack_91 N k2 K91 v0 v3 v4 σ) := by
  unfold B5_pack_91
  refine j_iload (pc := 91) 2 dX5_pack_91 rfl ?_
  refine j_iload_n (pc := 93) 1 dX5_pack_93 rfl rfl ?_
  refine j_icmpge (pc := 94) (tgt := 114) dX5_pack_94 rfl (fun _ => ?_) (fun _ => ?_)
  · exact j_return (pc := 114) rfl (Nat.le_of_ble_eq_true rfl) (Nat.le_of_ble_eq_true rfl) dX5_pack_114
  · refine j_aload_n (pc := 97) 0 dX5_pack_97 rfl rfl ?_
    refine j_aload_n (pc := 98) 0 dX5_pack_98 rfl rfl ?_
    refine j_getF (pc := 99) fd_8_3 tw_1_66 dX5_pack_99 ?_
    refine j_iload (pc := 102) 2 dX5_pack_102 rfl ?_
    refine j_lald (pc := 104) rfl rfl rfl dX5_pack_104 (fun j1 => ?_)
    refine j_callVV (pc := 105) (As := [aL (gL σ 11 v0 j1)]) (st := []) (fun l => c5_packPlain l N v0 (gL σ 11 v0 j1)) cs_RX5_42 rfl rfl rfl rfl (Nat.le_of_ble_eq_true rfl) ⟨(Nat.le_of_ble_eq_true rfl), (Nat.le_of_ble_eq_true rfl)⟩ ⟨(Nat.le_of_ble_eq_true rfl), (Nat.le_of_ble_eq_true rfl)⟩ dX5_pack_105 (fun r2 σ3 => ?_)
    refine j_iinc (pc := 108) (w := 1) (lv' := [(4, aI (v4 + 1)), (0, aR 8 v0), (3, aI v3)]) 2 dX5_pack_108 rfl (by decide) (Nat.le_of_ble_eq_true rfl) rfl ?_
    refine j_goto (pc := 111) (tgt := 91) dX5_pack_111 rfl ?_
    refine j_sub [1, 2, 0] (lv' := [(0, aR 8 v0), (3, aI v3), (4, aI (v4 + 1))]) rfl ?_
    exact hK91 v0 v3 (v4 + 1) σ3
theorem jl5_pack_91 {Γ : jX} {tg : Unit × rS} (N : Nat) (k2 : Nat) (hk2 : lyO k2 = none ∧ lyA k2 = (3, 0) ∧ lyT k2 = .long) : ∀ (n : Nat) (v0 : Nat) (v3 : Int32) (v4 : Int32) (σ : rS), J Γ rm5_pack eV cX5_pack RX5 5 none tg 0 0 91 [(0, aR 8 v0), (3, aI v3), (4, aI v4)] [] σ (L5_pack_91 N k2 n v0 v3 v4 σ) := by
  intro n
  induction n with
  | zero => intro v0 v3 v4 σ; exact j_none
  | succ n ih => intro v0 v3 v4 σ; exact jb5_pack_91 N k2 hk2 (L5_pack_91 N k2 n) ih v0 v3 v4 σ
set_option maxRecDepth 20000 in
set_option maxHeartbeats 4000000 in
theorem jb5_pack_46 {Γ : jX} {tg : Unit × rS} (N : Nat) (k2 : Nat) (hk2 : lyO k2 = none ∧ lyA k2 = (3, 0) ∧ lyT k2 = .long) (v0 : Nat) (v1 : Int32) (v3 : Int32) (σ : rS) : J Γ rm5_pack eV cX5_pack RX5 5 none tg 0 0 46 [(0, aR 8 v0), (1, aI v1), (3, aI v3)] [] σ (B5_pack_46 N k2 v0 v1 v3 σ) := by
  unfold B5_pack_46
  refine j_iload_n (pc := 46) 1 dX5_pack_46 rfl rfl ?_
  refine j_case 3 (fun h0 => ?_) (fun h0 => ?_)
  · refine j_lookup (pc := 47) (off := 25) (tgt := 72) dX5_pack_47 (by decide) (by rw [h0]; decide) rfl ?_
    refine j_aload_n (pc := 72) 0 dX5_pack_72 rfl rfl ?_
    refine j_iload_n (pc := 73) 2 dX5_pack_73 rfl rfl ?_
    refine j_callVV (pc := 74) (As := [aI v3]) (st := []) (fun l => c5_packRuns l N v0 v3) cs_RX5_36 rfl rfl rfl rfl (Nat.le_of_ble_eq_true rfl) ⟨(Nat.le_of_ble_eq_true rfl), (Nat.le_of_ble_eq_true rfl)⟩ ⟨(Nat.le_of_ble_eq_true rfl), (Nat.le_of_ble_eq_true rfl)⟩ dX5_pack_74 (fun r1 σ2 => ?_)
    refine j_goto (pc := 77) (tgt := 114) dX5_pack_77 rfl ?_
    exact j_return (pc := 114) rfl (Nat.le_of_ble_eq_true rfl) (Nat.le_of_ble_eq_true rfl) dX5_pack_114
  · refine j_case 4 (fun h1 => ?_) (fun h1 => ?_)
    · refine j_lookup (pc := 47) (off := 33) (tgt := 80) dX5_pack_47 (by decide) (by rw [h1]; decide) rfl ?_
      refine j_aload_n (pc := 80) 0 dX5_pack_80 rfl rfl ?_
      refine j_iload_n (pc := 81) 2 dX5_pack_81 rfl rfl ?_
      refine j_callVV (pc := 82) (As := [aI v3]) (st := []) (fun l => c5_packWide l N v0 v3) cs_RX5_39 rfl rfl rfl rfl (Nat.le_of_ble_eq_true rfl) ⟨(Nat.le_of_ble_eq_true rfl), (Nat.le_of_ble_eq_true rfl)⟩ ⟨(Nat.le_of_ble_eq_true rfl), (Nat.le_of_ble_eq_true rfl)⟩ dX5_pack_82 (fun r3 σ4 => ?_)
      refine j_goto (pc := 85) (tgt := 114) dX5_pack_85 rfl ?_
      exact j_return (pc := 114) rfl (Nat.le_of_ble_eq_true rfl) (Nat.le_of_ble_eq_true rfl) dX5_pack_114
    · refine j_lookup (pc := 47) (off := 41) (tgt := 88) dX5_pack_47 (by decide) (by show Op.lookupswitch.offset [(3, 25), (4, 33)] 41 v1.toInt = 41; rw [lv_osw h0 (show ((3 : Int32)).toInt = 3 by decide), lv_osw h1 (show ((4 : Int32)).toInt = 4 by decide)]; rfl) rfl ?_
      refine j_iconst (pc := 88) (v := 0) (by decide) dX5_pack_88 ?_
      refine j_istore (pc := 89) (lv' := [(4, aI 0), (0, aR 8 v0), (1, aI v1), (3, aI v3)]) dX5_pack_89 (Nat.le_of_ble_eq_true rfl) rfl ?_
      refine j_sub [0, 1, 3] (lv' := [(4, aI 0), (0, aR 8 v0), (3, aI v3)]) rfl ?_
      refine j_sub [1, 2, 0] (lv' := [(0, aR 8 v0), (3, aI v3), (4, aI 0)]) rfl ?_
      exact jl5_pack_91 N k2 hk2  N v0 v3 0 σ
set_option maxRecDepth 20000 in
set_option maxHeartbeats 4000000 in
theorem jb5_pack_36 {Γ : jX} {tg : Unit × rS} (N : Nat) (k2 : Nat) (hk2 : lyO k2 = none ∧ lyA k2 = (3, 0) ∧ lyT k2 = .long) (v0 : Nat) (v1 : Int32) (v3 : Int32) (σ : rS) : J Γ rm5_pack eV cX5_pack RX5 5 none tg 0 0 36 [(0, aR 8 v0), (1, aI v1), (3, aI v3)] [] σ (B5_pack_36 N k2 v0 v1 v3 σ) := by
  unfold B5_pack_36
  refine j_iload_n (pc := 36) 1 dX5_pack_36 rfl rfl ?_
  refine j_iconst (pc := 37) (v := 2) (by decide) dX5_pack_37 ?_
  refine j_icmpne (pc := 38) (tgt := 46) dX5_pack_38 rfl (fun _ => ?_) (fun _ => ?_)
  · exact jb5_pack_46 N k2 hk2  v0 v1 v3 σ
  · refine j_aload_n (pc := 41) 0 dX5_pack_41 rfl rfl ?_
    refine j_iload_n (pc := 42) 2 dX5_pack_42 rfl rfl ?_
    refine j_callVV (pc := 43) (As := [aI v3]) (st := []) (fun l => c5_makeSteps l N v0 v3) cs_RX5_32 rfl rfl rfl rfl (Nat.le_of_ble_eq_true rfl) ⟨(Nat.le_of_ble_eq_true rfl), (Nat.le_of_ble_eq_true rfl)⟩ ⟨(Nat.le_of_ble_eq_true rfl), (Nat.le_of_ble_eq_true rfl)⟩ dX5_pack_43 (fun r1 σ2 => ?_)
    exact jb5_pack_46 N k2 hk2  v0 v1 v3 σ2
set_option maxRecDepth 20000 in
set_option maxHeartbeats 4000000 in
theorem jb5_pack_31 {Γ : jX} {tg : Unit × rS} (N : Nat) (k2 : Nat) (hk2 : lyO k2 = none ∧ lyA k2 = (3, 0) ∧ lyT k2 = .long) (v0 : Nat) (v1 : Int32) (v3 : Int32) (σ : rS) : J Γ rm5_pack eV cX5_pack RX5 5 none tg 0 0 31 [(0, aR 8 v0), (1, aI v1), (3, aI v3)] [] σ (B5_pack_31 N k2 v0 v1 v3 σ) := by
  unfold B5_pack_31
  refine j_aload_n (pc := 31) 0 dX5_pack_31 rfl rfl ?_
  refine j_iload_n (pc := 32) 2 dX5_pack_32 rfl rfl ?_
  refine j_callVV (pc := 33) (As := [aI v3]) (st := []) (fun l => c5_makeSteps l N v0 v3) cs_RX5_32 rfl rfl rfl rfl (Nat.le_of_ble_eq_true rfl) ⟨(Nat.le_of_ble_eq_true rfl), (Nat.le_of_ble_eq_true rfl)⟩ ⟨(Nat.le_of_ble_eq_true rfl), (Nat.le_of_ble_eq_true rfl)⟩ dX5_pack_33 (fun r1 σ2 => ?_)
  exact jb5_pack_36 N k2 hk2  v0 v1 v3 σ2
set_option maxRecDepth 20000 in
set_option maxHeartbeats 4000000 in
theorem j5_pack {Γ : jX} {tg : Unit × rS} (N : Nat) (k2 : Nat) (hk2 : lyO k2 = none ∧ lyA k2 = (3, 0) ∧ lyT k2 = .long) (v0 : Nat) (v1 : Int32) (v2 : Nat) (v3 : Int32) (σ : rS) : J Γ rm5_pack eV cX5_pack RX5 5 none tg 0 0 0 [(0, aR 8 v0), (1, aI v1), (2, aR k2 v2), (3, aI v3)] [] σ (f5_pack N k2 v0 v1 v2 v3 σ) := by
  unfold f5_pack
  refine j_aload_n (pc := 0) 0 dX5_pack_0 rfl rfl ?_
  refine j_iconst (pc := 1) (v := 0) (by decide) dX5_pack_1 ?_
  refine j_putI (pc := 2) fd_8_1 rfl rfl tw_1_62 dX5_pack_2 ?_
  refine j_lets (fun σ1 => ?_)
  refine j_aload_n (pc := 5) 2 dX5_pack_5 rfl rfl ?_
  refine j_iconst (pc := 6) (v := 0) (by decide) dX5_pack_6 ?_
  refine j_aload_n (pc := 7) 0 dX5_pack_7 rfl rfl ?_
  refine j_getF (pc := 8) fd_8_3 tw_1_66 dX5_pack_8 ?_
  refine j_iconst (pc := 11) (v := 0) (by decide) dX5_pack_11 ?_
  refine j_iload_n (pc := 12) 3 dX5_pack_12 rfl rfl ?_
  refine j_ock (fun hn => ?_)
  refine j_copyL (pc := 13) tw_2_169 hk2.1 hk2.2.1 hk2.2.2 rfl rfl rfl hn (Nat.le_of_ble_eq_true rfl) (Nat.le_of_ble_eq_true rfl) dX5_pack_13 ?_
  refine j_lets (fun σ2 => ?_)
  refine j_iload_n (pc := 16) 1 dX5_pack_16 rfl rfl ?_
  refine j_iconst (pc := 17) (v := 1) (by decide) dX5_pack_17 ?_
  refine j_icmpeq (pc := 18) (tgt := 31) dX5_pack_18 rfl (fun _ => ?_) (fun _ => ?_)
  · refine j_sub [0, 1, 3] (lv' := [(0, aR 8 v0), (1, aI v1), (3, aI v3)]) rfl ?_
    exact jb5_pack_31 N k2 hk2  v0 v1 v3 σ2
  · refine j_iload_n (pc := 21) 1 dX5_pack_21 rfl rfl ?_
    refine j_iconst (pc := 22) (v := 2) (by decide) dX5_pack_22 ?_
    refine j_icmpeq (pc := 23) (tgt := 31) dX5_pack_23 rfl (fun _ => ?_) (fun _ => ?_)
    · refine j_sub [0, 1, 3] (lv' := [(0, aR 8 v0), (1, aI v1), (3, aI v3)]) rfl ?_
      exact jb5_pack_31 N k2 hk2  v0 v1 v3 σ2
    · refine j_iload_n (pc := 26) 1 dX5_pack_26 rfl rfl ?_
      refine j_iconst (pc := 27) (v := 4) (by decide) dX5_pack_27 ?_
      refine j_icmpne (pc := 28) (tgt := 36) dX5_pack_28 rfl (fun _ => ?_) (fun _ => ?_)
      · refine j_sub [0, 1, 3] (lv' := [(0, aR 8 v0), (1, aI v1), (3, aI v3)]) rfl ?_
        exact jb5_pack_36 N k2 hk2  v0 v1 v3 σ2
      · refine j_sub [0, 1, 3] (lv' := [(0, aR 8 v0), (1, aI v1), (3, aI v3)]) rfl ?_
        exact jb5_pack_31 N k2 hk2  v0 v1 v3 σ2
theorem c5_pack (l : Launch) (N : Nat) (k2 : Nat) (hk2 : lyO k2 = none ∧ lyA k2 = (3, 0) ∧ lyT k2 = .long) (v0 : Nat) (v1 : Int32) (v2 : Nat) (v3 : Int32) : Ctr l yX5_pack cX5_pack 5 none rm5_pack eV [aR 8 v0, aI v1, aR k2 v2, aI v3] (f5_pack N k2 v0 v1 v2 v3) := ctr_of (lv := [(0, aR 8 v0), (1, aI v1), (2, aR k2 v2), (3, aI v3)]) (by decide +kernel) (fun _ => rfl) (fun _ => (Nat.le_of_ble_eq_true rfl)) (fun _ h => lvl_als h rfl) (fun _ σ _ => j5_pack N k2 hk2 v0 v1 v2 v3 σ)
theorem cs_RX10_155 : CaV RX10 RX5 155 yX5_pack cX5_pack 5 none 3 := ⟨tw_2_165, tw_2_166, tw_2_167, tw_1_3, tw_2_168, rfl, by decide +kernel, by decide +kernel, by decide +kernel⟩
theorem cs_RX10_74 : CaV RX10 RX10 74 yX10_rowNumbered cX10_rowNumbered 2 (some (.object "PackDesk$Row")) 1 := ⟨tw_1_189, tw_1_191, tw_p2, tw_1_1, tw_1_192, rfl, by decide +kernel, by decide +kernel, by decide +kernel⟩
abbrev rm10_best : Room := { frames := 4, cells := 0, slots := 0, locals := 94 }
set_option maxRecDepth 20000 in
set_option maxHeartbeats 4000000 in
theorem jb10_best_84 {Γ : jX} {tg : Int32 × rS} (N : Nat) (K36 : Nat → Nat → Int32 → Int32 → Int32 → rS → Option (Int32 × rS)) (hK36 : ∀ (v0 : Nat) (v2 : Nat) (v3 : Int32) (v4 : Int32) (v5 : Int32) (σ : rS), J Γ rm10_best eI cX10_best RX10 6 (some .int) tg 0 0 36 [(0, aR 0 v0), (2, aR 13 v2), (3, aI v3), (4, aI v4), (5, aI v5)] [] σ (K36 v0 v2 v3 v4 v5 σ)) (v0 : Nat) (v2 : Nat) (v3 : Int32) (v4 : Int32) (v5 : Int32) (σ : rS) : J Γ rm10_best eI cX10_best RX10 6 (some .int) tg 0 0 84 [(0, aR 0 v0), (2, aR 13 v2), (3, aI v3), (4, aI v4), (5, aI v5)] [] σ (B10_best_84 N K36 v0 v2 v3 v4 v5 σ) := by
  unfold B10_best_84
  refine j_iinc (pc := 84) (w := 1) (lv' := [(5, aI (v5 + 1)), (0, aR 0 v0), (2, aR 13 v2), (3, aI v3), (4, aI v4)]) 4 dX10_best_84 rfl (by decide) (Nat.le_of_ble_eq_true rfl) rfl ?_
  refine j_goto (pc := 87) (tgt := 36) dX10_best_87 rfl ?_
  refine j_sub [1, 2, 3, 4, 0] (lv' := [(0, aR 0 v0), (2, aR 13 v2), (3, aI v3), (4, aI v4), (5, aI (v5 + 1))]) rfl ?_
  exact hK36 v0 v2 v3 v4 (v5 + 1) σ
set_option maxRecDepth 20000 in
set_option maxHeartbeats 4000000 in
theorem jb10_best_36 {Γ : jX} {tg : Int32 × rS} (N : Nat) (K36 : Nat → Nat → Int32 → Int32 → Int32 → rS → Option (Int32 × rS)) (hK36 : ∀ (v0 : Nat) (v2 : Nat) (v3 : Int32) (v4 : Int32) (v5 : Int32) (σ : rS), J Γ rm10_best eI cX10_best RX10 6 (some .int) tg 0 0 36 [(0, aR 0 v0), (2, aR 13 v2), (3, aI v3), (4, aI v4), (5, aI v5)] [] σ (K36 v0 v2 v3 v4 v5 σ)) (v0 : Nat) (v2 : Nat) (v3 : Int32) (v4 : Int32) (v5 : Int32) (σ : rS) : J Γ rm10_best eI cX10_best RX10 6 (some .int) tg 0 0 36 [(0, aR 0 v0), (2, aR 13 v2), (3, aI v3), (4, aI v4), (5, aI v5)] [] σ (B10_best_36 N K36 v0 v2 v3 v4 v5 σ) := by
  unfold B10_best_36
  refine j_iload (pc := 36) 4 dX10_best_36 rfl ?_
  refine j_iconst (pc := 38) (v := 4) (by decide) dX10_best_38 ?_
  refine j_icmpgt (pc := 39) (tgt := 90) dX10_best_39 rfl (fun _ => ?_) (fun _ => ?_)
  · refine j_iload_n (pc := 90) 2 dX10_best_90 rfl rfl ?_
    exact j_ireturn (pc := 91) rfl (Nat.le_of_ble_eq_true rfl) (Nat.le_of_ble_eq_true rfl) dX10_best_91
  · refine j_aload_n (pc := 42) 0 dX10_best_42 rfl rfl ?_
    refine j_getF (pc := 43) fd_0_5 tw_1_114 dX10_best_43 ?_
    refine j_iload (pc := 46) 4 dX10_best_46 rfl ?_
    refine j_aload_n (pc := 48) 1 dX10_best_48 rfl rfl ?_
    refine j_getF (pc := 49) fd_13_1 tw_1_176 dX10_best_49 ?_
    refine j_aload_n (pc := 52) 1 dX10_best_52 rfl rfl ?_
    refine j_getF (pc := 53) fd_13_1 tw_1_176 dX10_best_53 ?_
    refine j_alen (pc := 56) rfl (by decide) dX10_best_56 ?_
    refine j_callVV (pc := 57) (As := [aI v5, aR 14 v2, aI (nI (gN σ 14 v2))]) (st := []) (fun l => c5_pack l N 14 ⟨rfl, rfl, rfl⟩ v0 v5 v2 (nI (gN σ 14 v2))) cs_RX10_155 rfl rfl rfl rfl (Nat.le_of_ble_eq_true rfl) ⟨(Nat.le_of_ble_eq_true rfl), (Nat.le_of_ble_eq_true rfl)⟩ ⟨(Nat.le_of_ble_eq_true rfl), (Nat.le_of_ble_eq_true rfl)⟩ dX10_best_57 (fun r1 σ2 => ?_)
    refine j_aload_n (pc := 60) 0 dX10_best_60 rfl rfl ?_
    refine j_getF (pc := 61) fd_0_5 tw_1_114 dX10_best_61 ?_
    refine j_getI (pc := 64) fd_8_1 tw_1_63 dX10_best_64 ?_
    refine j_iload (pc := 67) 3 dX10_best_67 rfl ?_
    refine j_icmpge (pc := 69) (tgt := 84) dX10_best_69 rfl (fun _ => ?_) (fun _ => ?_)
    · exact jb10_best_84 N K36 hK36 v0 v2 v3 v4 v5 σ2
    · refine j_aload_n (pc := 72) 0 dX10_best_72 rfl rfl ?_
      refine j_getF (pc := 73) fd_0_5 tw_1_114 dX10_best_73 ?_
      refine j_getI (pc := 76) fd_8_1 tw_1_63 dX10_best_76 ?_
      refine j_leti (fun x3 => ?_)
      refine j_istore (pc := 79) (lv' := [(4, aI x3), (0, aR 0 v0), (2, aR 13 v2), (3, aI v3), (5, aI v5)]) dX10_best_79 (Nat.le_of_ble_eq_true rfl) rfl ?_
      refine j_sub [0, 1, 2, 4] (lv' := [(4, aI x3), (0, aR 0 v0), (2, aR 13 v2), (5, aI v5)]) rfl ?_
      refine j_iload (pc := 81) 3 dX10_best_81 rfl ?_
      refine j_istore_n (pc := 83) (lv' := [(3, aI v5), (4, aI x3), (0, aR 0 v0), (2, aR 13 v2), (5, aI v5)]) dX10_best_83 rfl (Nat.le_of_ble_eq_true rfl) rfl ?_
      refine j_sub [2, 3, 0, 1, 4] (lv' := [(0, aR 0 v0), (2, aR 13 v2), (3, aI v5), (4, aI x3), (5, aI v5)]) rfl ?_
      exact jb10_best_84 N K36 hK36 v0 v2 v5 x3 v5 σ2
theorem jl10_best_36 {Γ : jX} {tg : Int32 × rS} (N : Nat) : ∀ (n : Nat) (v0 : Nat) (v2 : Nat) (v3 : Int32) (v4 : Int32) (v5 : Int32) (σ : rS), J Γ rm10_best eI cX10_best RX10 6 (some .int) tg 0 0 36 [(0, aR 0 v0), (2, aR 13 v2), (3, aI v3), (4, aI v4), (5, aI v5)] [] σ (L10_best_36 N n v0 v2 v3 v4 v5 σ) := by
  intro n
  induction n with
  | zero => intro v0 v2 v3 v4 v5 σ; exact j_none
  | succ n ih => intro v0 v2 v3 v4 v5 σ; exact jb10_best_36 N (L10_best_36 N n) ih v0 v2 v3 v4 v5 σ
set_option maxRecDepth 20000 in
set_option maxHeartbeats 4000000 in
theorem j10_best {Γ : jX} {tg : Int32 × rS} (N : Nat) (v0 : Nat) (v1 : Int32) (σ : rS) : J Γ rm10_best eI cX10_best RX10 6 (some .int) tg 0 0 0 [(0, aR 0 v0), (1, aI v1)] [] σ (f10_best N v0 v1 σ) := by
  unfold f10_best
  refine j_aload_n (pc := 0) 0 dX10_best_0 rfl rfl ?_
  refine j_iload_n (pc := 1) 1 dX10_best_1 rfl rfl ?_
  refine j_callVR (pc := 2) (As := [aI v1]) (st := []) (fun l => c10_rowNumbered l v0 v1) cs_RX10_74 rfl rfl rfl rfl (Nat.le_of_ble_eq_true rfl) ⟨(Nat.le_of_ble_eq_true rfl), (Nat.le_of_ble_eq_true rfl)⟩ ⟨(Nat.le_of_ble_eq_true rfl), (Nat.le_of_ble_eq_true rfl)⟩ dX10_best_2 (fun r1 σ2 => ?_)
  refine j_astore_n (pc := 5) (lv' := [(2, aO 13 r1), (0, aR 0 v0), (1, aI v1)]) dX10_best_5 rfl (Nat.le_of_ble_eq_true rfl) rfl ?_
  refine j_sub [0, 1] (lv' := [(2, aO 13 r1), (0, aR 0 v0)]) rfl ?_
  refine j_aload_n (pc := 6) 0 dX10_best_6 rfl rfl ?_
  refine j_ifnonnull (pc := 7) (tgt := 13) dX10_best_7 rfl (fun hm => ?_) (fun i3 hm => ?_)
  · subst hm
    refine j_bipush (pc := 10) (v := (-101)) (by decide) dX10_best_10 ?_
    exact j_ireturn (pc := 12) rfl (Nat.le_of_ble_eq_true rfl) (Nat.le_of_ble_eq_true rfl) dX10_best_12
  · subst hm
    refine j_aload_n (pc := 13) 0 dX10_best_13 rfl rfl ?_
    refine j_getI (pc := 14) fd_13_2 tw_1_177 dX10_best_14 ?_
    refine j_ifeq (pc := 17) (tgt := 26) dX10_best_17 rfl (fun _ => ?_) (fun _ => ?_)
    · refine j_iconst (pc := 26) (v := 0) (by decide) dX10_best_26 ?_
      refine j_istore_n (pc := 27) (lv' := [(3, aI 0), (2, aR 13 i3), (0, aR 0 v0)]) dX10_best_27 rfl (Nat.le_of_ble_eq_true rfl) rfl ?_
      refine j_sipush (pc := 28) (v := 265) (by decide) dX10_best_28 ?_
      refine j_istore (pc := 31) (lv' := [(4, aI 265), (3, aI 0), (2, aR 13 i3), (0, aR 0 v0)]) dX10_best_31 (Nat.le_of_ble_eq_true rfl) rfl ?_
      refine j_iconst (pc := 33) (v := 0) (by decide) dX10_best_33 ?_
      refine j_istore (pc := 34) (lv' := [(5, aI 0), (4, aI 265), (3, aI 0), (2, aR 13 i3), (0, aR 0 v0)]) dX10_best_34 (Nat.le_of_ble_eq_true rfl) rfl ?_
      refine j_sub [4, 3, 2, 1, 0] (lv' := [(0, aR 0 v0), (2, aR 13 i3), (3, aI 0), (4, aI 265), (5, aI 0)]) rfl ?_
      exact jl10_best_36 N  N v0 i3 0 265 0 σ2
    · refine j_aload_n (pc := 20) 1 dX10_best_20 rfl rfl ?_
      refine j_iconst (pc := 21) (v := 1) (by decide) dX10_best_21 ?_
      refine j_callVI (pc := 22) (As := [aI 1]) (st := []) (fun l => c10_found l v0 1) cs_RX10_66 rfl rfl rfl rfl (Nat.le_of_ble_eq_true rfl) ⟨(Nat.le_of_ble_eq_true rfl), (Nat.le_of_ble_eq_true rfl)⟩ ⟨(Nat.le_of_ble_eq_true rfl), (Nat.le_of_ble_eq_true rfl)⟩ dX10_best_22 (fun r4 σ5 => ?_)
      exact j_ireturn (pc := 25) rfl (Nat.le_of_ble_eq_true rfl) (Nat.le_of_ble_eq_true rfl) dX10_best_25
theorem c10_best (l : Launch) (N : Nat) (v0 : Nat) (v1 : Int32) : Ctr l yX10_best cX10_best 6 (some .int) rm10_best eI [aR 0 v0, aI v1] (f10_best N v0 v1) := ctr_of (lv := [(0, aR 0 v0), (1, aI v1)]) (by decide +kernel) (fun _ => rfl) (fun _ => (Nat.le_of_ble_eq_true rfl)) (fun _ h => lvl_als h rfl) (fun _ σ _ => j10_best N v0 v1 σ)
abbrev rm2_endless : Room := { frames := 0, cells := 0, slots := 0, locals := 0 }
set_option maxRecDepth 20000 in
set_option maxHeartbeats 4000000 in
theorem j2_endless {Γ : jX} {tg : Int64 × rS} (v0 : Int32) (σ : rS) : J Γ rm2_endless eL cX2_endless RX2 1 (some .long) tg 0 0 0 [(0, aI v0)] [] σ (f2_endless v0 σ) := by
  unfold f2_endless
  refine j_iload_n (pc := 0) 0 dX2_endless_0 rfl rfl ?_
  refine j_bipush (pc := 1) (v := 6) (by decide) dX2_endless_1 ?_
  refine j_icmpne (pc := 3) (tgt := 12) dX2_endless_3 rfl (fun _ => ?_) (fun _ => ?_)
  · refine j_ldc2 (pc := 12) tw_1_224 dX2_endless_12 ?_
    exact j_lreturn (pc := 15) rfl (Nat.le_of_ble_eq_true rfl) (Nat.le_of_ble_eq_true rfl) dX2_endless_15
  · refine j_ldc2 (pc := 6) tw_1_223 dX2_endless_6 ?_
    refine j_goto (pc := 9) (tgt := 15) dX2_endless_9 rfl ?_
    exact j_lreturn (pc := 15) rfl (Nat.le_of_ble_eq_true rfl) (Nat.le_of_ble_eq_true rfl) dX2_endless_15
theorem c2_endless (l : Launch) (v0 : Int32) : Ctr l yX2_endless cX2_endless 1 (some .long) rm2_endless eL [aI v0] (f2_endless v0) := ctr_of (lv := [(0, aI v0)]) (by decide +kernel) (fun _ => rfl) (fun _ => (Nat.le_of_ble_eq_true rfl)) (fun _ h => lvl_als h rfl) (fun _ σ _ => j2_endless v0 σ)
abbrev rm2_sizeOf : Room := { frames := 0, cells := 0, slots := 0, locals := 0 }
set_option maxRecDepth 20000 in
set_option maxHeartbeats 4000000 in
theorem j2_sizeOf {Γ : jX} {tg : Int64 × rS} (v0 : Int32) (v1 : Int64) (σ : rS) : J Γ rm2_sizeOf eL cX2_sizeOf RX2 3 (some .long) tg 0 0 0 [(0, aI v0), (1, aL v1)] [] σ (f2_sizeOf v0 v1 σ) := by
  unfold f2_sizeOf
  refine j_lload_n (pc := 0) 1 dX2_sizeOf_0 rfl rfl ?_
  refine j_iload_n (pc := 1) 0 dX2_sizeOf_1 rfl rfl ?_
  refine j_bipush (pc := 2) (v := 6) (by decide) dX2_sizeOf_2 ?_
  refine j_icmpne (pc := 4) (tgt := 13) dX2_sizeOf_4 rfl (fun _ => ?_) (fun _ => ?_)
  · refine j_ldc2 (pc := 13) tw_1_219 dX2_sizeOf_13 ?_
    refine j_land (pc := 16) dX2_sizeOf_16 ?_
    exact j_lreturn (pc := 17) rfl (Nat.le_of_ble_eq_true rfl) (Nat.le_of_ble_eq_true rfl) dX2_sizeOf_17
  · refine j_ldc2 (pc := 7) tw_1_218 dX2_sizeOf_7 ?_
    refine j_goto (pc := 10) (tgt := 16) dX2_sizeOf_10 rfl ?_
    refine j_land (pc := 16) dX2_sizeOf_16 ?_
    exact j_lreturn (pc := 17) rfl (Nat.le_of_ble_eq_true rfl) (Nat.le_of_ble_eq_true rfl) dX2_sizeOf_17
theorem c2_sizeOf (l : Launch) (v0 : Int32) (v1 : Int64) : Ctr l yX2_sizeOf cX2_sizeOf 3 (some .long) rm2_sizeOf eL [aI v0, aL v1] (f2_sizeOf v0 v1) := ctr_of (lv := [(0, aI v0), (1, aL v1)]) (by decide +kernel) (fun _ => rfl) (fun _ => (Nat.le_of_ble_eq_true rfl)) (fun _ h => lvl_als h rfl) (fun _ σ _ => j2_sizeOf v0 v1 σ)
theorem cs_RX2_34 : CaS RX2 34 yX2_sizeOf cX2_sizeOf 3 (some .long) 2 := ⟨tw_1_215, tw_1_216, tw_1_8, tw_1_217, by decide +kernel, by decide +kernel, by decide +kernel⟩
theorem cs_RX2_38 : CaS RX2 38 yX2_endless cX2_endless 1 (some .long) 1 := ⟨tw_1_220, tw_1_221, tw_1_8, tw_1_222, by decide +kernel, by decide +kernel, by decide +kernel⟩
abbrev rm2_isNone : Room := { frames := 1, cells := 0, slots := 0, locals := 22 }
set_option maxRecDepth 20000 in
set_option maxHeartbeats 4000000 in
theorem j2_isNone {Γ : jX} {tg : Bool × rS} (v0 : Int32) (v1 : Int64) (σ : rS) : J Γ rm2_isNone eZ cX2_isNone RX2 3 (some .boolean) tg 0 0 0 [(0, aI v0), (1, aL v1)] [] σ (f2_isNone v0 v1 σ) := by
  unfold f2_isNone
  refine j_iload_n (pc := 0) 0 dX2_isNone_0 rfl rfl ?_
  refine j_lload_n (pc := 1) 1 dX2_isNone_1 rfl rfl ?_
  refine j_callSL (pc := 2) (As := [aI v0, aL v1]) (st := []) (fun l => c2_sizeOf l v0 v1) cs_RX2_34 rfl rfl (Nat.le_of_ble_eq_true rfl) ⟨(Nat.le_of_ble_eq_true rfl), (Nat.le_of_ble_eq_true rfl)⟩ ⟨(Nat.le_of_ble_eq_true rfl), (Nat.le_of_ble_eq_true rfl)⟩ dX2_isNone_2 (fun r1 σ2 => ?_)
  refine j_iload_n (pc := 5) 0 dX2_isNone_5 rfl rfl ?_
  refine j_callSL (pc := 6) (As := [aI v0]) (st := [aL r1]) (fun l => c2_endless l v0) cs_RX2_38 rfl rfl (Nat.le_of_ble_eq_true rfl) ⟨(Nat.le_of_ble_eq_true rfl), (Nat.le_of_ble_eq_true rfl)⟩ ⟨(Nat.le_of_ble_eq_true rfl), (Nat.le_of_ble_eq_true rfl)⟩ dX2_isNone_6 (fun r3 σ4 => ?_)
  refine j_lcmple (pc := 9) (tgt := 17) dX2_isNone_9 dX2_isNone_10 rfl (fun _ => ?_) (fun _ => ?_)
  · refine j_iconst (pc := 17) (v := 0) (by decide) dX2_isNone_17 ?_
    exact j_zret0 (pc := 18) rfl (Nat.le_of_ble_eq_true rfl) (Nat.le_of_ble_eq_true rfl) dX2_isNone_18
  · refine j_iconst (pc := 13) (v := 1) (by decide) dX2_isNone_13 ?_
    refine j_goto (pc := 14) (tgt := 18) dX2_isNone_14 rfl ?_
    exact j_zret1 (pc := 18) rfl (Nat.le_of_ble_eq_true rfl) (Nat.le_of_ble_eq_true rfl) dX2_isNone_18
theorem c2_isNone (l : Launch) (v0 : Int32) (v1 : Int64) : Ctr l yX2_isNone cX2_isNone 3 (some .boolean) rm2_isNone eZ [aI v0, aL v1] (f2_isNone v0 v1) := ctr_of (lv := [(0, aI v0), (1, aL v1)]) (by decide +kernel) (fun _ => rfl) (fun _ => (Nat.le_of_ble_eq_true rfl)) (fun _ h => lvl_als h rfl) (fun _ σ _ => j2_isNone v0 v1 σ)
abbrev rm4_areFloating : Room := { frames := 0, cells := 0, slots := 0, locals := 0 }
set_option maxRecDepth 20000 in
set_option maxHeartbeats 4000000 in
theorem j4_areFloating {Γ : jX} {tg : Bool × rS} (v0 : Int32) (σ : rS) : J Γ rm4_areFloating eZ cX4_areFloating RX4 1 (some .boolean) tg 0 0 0 [(0, aI v0)] [] σ (f4_areFloating v0 σ) := by
  unfold f4_areFloating
  refine j_iload_n (pc := 0) 0 dX4_areFloating_0 rfl rfl ?_
  refine j_bipush (pc := 1) (v := 6) (by decide) dX4_areFloating_1 ?_
  refine j_icmpeq (pc := 3) (tgt := 12) dX4_areFloating_3 rfl (fun _ => ?_) (fun _ => ?_)
  · refine j_iconst (pc := 12) (v := 1) (by decide) dX4_areFloating_12 ?_
    refine j_goto (pc := 13) (tgt := 17) dX4_areFloating_13 rfl ?_
    exact j_zret1 (pc := 17) rfl (Nat.le_of_ble_eq_true rfl) (Nat.le_of_ble_eq_true rfl) dX4_areFloating_17
  · refine j_iload_n (pc := 6) 0 dX4_areFloating_6 rfl rfl ?_
    refine j_bipush (pc := 7) (v := 7) (by decide) dX4_areFloating_7 ?_
    refine j_icmpne (pc := 9) (tgt := 16) dX4_areFloating_9 rfl (fun _ => ?_) (fun _ => ?_)
    · refine j_iconst (pc := 16) (v := 0) (by decide) dX4_areFloating_16 ?_
      exact j_zret0 (pc := 17) rfl (Nat.le_of_ble_eq_true rfl) (Nat.le_of_ble_eq_true rfl) dX4_areFloating_17
    · refine j_iconst (pc := 12) (v := 1) (by decide) dX4_areFloating_12 ?_
      refine j_goto (pc := 13) (tgt := 17) dX4_areFloating_13 rfl ?_
      exact j_zret1 (pc := 17) rfl (Nat.le_of_ble_eq_true rfl) (Nat.le_of_ble_eq_true rfl) dX4_areFloating_17
theorem c4_areFloating (l : Launch) (v0 : Int32) : Ctr l yX4_areFloating cX4_areFloating 1 (some .boolean) rm4_areFloating eZ [aI v0] (f4_areFloating v0) := ctr_of (lv := [(0, aI v0)]) (by decide +kernel) (fun _ => rfl) (fun _ => (Nat.le_of_ble_eq_true rfl)) (fun _ h => lvl_als h rfl) (fun _ σ _ => j4_areFloating v0 σ)
theorem cs_RX4_15 : CaS RX4 15 yX4_areFloating cX4_areFloating 1 (some .boolean) 1 := ⟨tw_2_12, tw_2_13, tw_1_7, tw_2_14, by decide +kernel, by decide +kernel, by decide +kernel⟩
theorem cs_RX4_21 : CaS RX4 21 yX2_isNone cX2_isNone 3 (some .boolean) 2 := ⟨tw_2_15, tw_2_16, tw_1_8, tw_2_17, by decide +kernel, by decide +kernel, by decide +kernel⟩
abbrev rm4_isGap : Room := { frames := 2, cells := 0, slots := 0, locals := 44 }
set_option maxRecDepth 20000 in
set_option maxHeartbeats 4000000 in
theorem j4_isGap {Γ : jX} {tg : Bool × rS} (v0 : Int32) (v1 : Int64) (σ : rS) : J Γ rm4_isGap eZ cX4_isGap RX4 3 (some .boolean) tg 0 0 0 [(0, aI v0), (1, aL v1)] [] σ (f4_isGap v0 v1 σ) := by
  unfold f4_isGap
  refine j_iload_n (pc := 0) 0 dX4_isGap_0 rfl rfl ?_
  refine j_callSZ (pc := 1) (As := [aI v0]) (st := []) (fun l => c4_areFloating l v0) cs_RX4_15 rfl rfl (Nat.le_of_ble_eq_true rfl) ⟨(Nat.le_of_ble_eq_true rfl), (Nat.le_of_ble_eq_true rfl)⟩ ⟨(Nat.le_of_ble_eq_true rfl), (Nat.le_of_ble_eq_true rfl)⟩ dX4_isGap_1 (fun r1 σ2 => ?_)
  refine j_ifeqB (pc := 4) (tgt := 19) dX4_isGap_4 rfl (fun _ => ?_) (fun _ => ?_)
  · refine j_iconst (pc := 19) (v := 0) (by decide) dX4_isGap_19 ?_
    exact j_zret0 (pc := 20) rfl (Nat.le_of_ble_eq_true rfl) (Nat.le_of_ble_eq_true rfl) dX4_isGap_20
  · refine j_iload_n (pc := 7) 0 dX4_isGap_7 rfl rfl ?_
    refine j_lload_n (pc := 8) 1 dX4_isGap_8 rfl rfl ?_
    refine j_callSZ (pc := 9) (As := [aI v0, aL v1]) (st := []) (fun l => c2_isNone l v0 v1) cs_RX4_21 rfl rfl (Nat.le_of_ble_eq_true rfl) ⟨(Nat.le_of_ble_eq_true rfl), (Nat.le_of_ble_eq_true rfl)⟩ ⟨(Nat.le_of_ble_eq_true rfl), (Nat.le_of_ble_eq_true rfl)⟩ dX4_isGap_9 (fun r3 σ4 => ?_)
    refine j_ifeqB (pc := 12) (tgt := 19) dX4_isGap_12 rfl (fun _ => ?_) (fun _ => ?_)
    · refine j_iconst (pc := 19) (v := 0) (by decide) dX4_isGap_19 ?_
      exact j_zret0 (pc := 20) rfl (Nat.le_of_ble_eq_true rfl) (Nat.le_of_ble_eq_true rfl) dX4_isGap_20
    · refine j_iconst (pc := 15) (v := 1) (by decide) dX4_isGap_15 ?_
      refine j_goto (pc := 16) (tgt := 20) dX4_isGap_16 rfl ?_
      exact j_zret1 (pc := 20) rfl (Nat.le_of_ble_eq_true rfl) (Nat.le_of_ble_eq_true rfl) dX4_isGap_20
theorem c4_isGap (l : Launch) (v0 : Int32) (v1 : Int64) : Ctr l yX4_isGap cX4_isGap 3 (some .boolean) rm4_isGap eZ [aI v0, aL v1] (f4_isGap v0 v1) := ctr_of (lv := [(0, aI v0), (1, aL v1)]) (by decide +kernel) (fun _ => rfl) (fun _ => (Nat.le_of_ble_eq_true rfl)) (fun _ h => lvl_als h rfl) (fun _ σ _ => j4_isGap v0 v1 σ)
abbrev rm4_rank : Room := { frames := 1, cells := 0, slots := 0, locals := 20 }
set_option maxRecDepth 20000 in
set_option maxHeartbeats 4000000 in
theorem j4_rank {Γ : jX} {tg : Int64 × rS} (v0 : Int32) (v1 : Int64) (σ : rS) : J Γ rm4_rank eL cX4_rank RX4 3 (some .long) tg 0 0 0 [(0, aI v0), (1, aL v1)] [] σ (f4_rank v0 v1 σ) := by
  unfold f4_rank
  refine j_iload_n (pc := 0) 0 dX4_rank_0 rfl rfl ?_
  refine j_callSZ (pc := 1) (As := [aI v0]) (st := []) (fun l => c4_areFloating l v0) cs_RX4_15 rfl rfl (Nat.le_of_ble_eq_true rfl) ⟨(Nat.le_of_ble_eq_true rfl), (Nat.le_of_ble_eq_true rfl)⟩ ⟨(Nat.le_of_ble_eq_true rfl), (Nat.le_of_ble_eq_true rfl)⟩ dX4_rank_1 (fun r1 σ2 => ?_)
  refine j_ifeqB (pc := 4) (tgt := 20) dX4_rank_4 rfl (fun _ => ?_) (fun _ => ?_)
  · refine j_lload_n (pc := 20) 1 dX4_rank_20 rfl rfl ?_
    exact j_lreturn (pc := 21) rfl (Nat.le_of_ble_eq_true rfl) (Nat.le_of_ble_eq_true rfl) dX4_rank_21
  · refine j_lload_n (pc := 7) 1 dX4_rank_7 rfl rfl ?_
    refine j_lload_n (pc := 8) 1 dX4_rank_8 rfl rfl ?_
    refine j_bipush (pc := 9) (v := 63) (by decide) dX4_rank_9 ?_
    refine j_lshr (pc := 11) dX4_rank_11 ?_
    refine j_ldc2 (pc := 12) tw_2_29 dX4_rank_12 ?_
    refine j_land (pc := 15) dX4_rank_15 ?_
    refine j_lxor (pc := 16) dX4_rank_16 ?_
    refine j_goto (pc := 17) (tgt := 21) dX4_rank_17 rfl ?_
    exact j_lreturn (pc := 21) rfl (Nat.le_of_ble_eq_true rfl) (Nat.le_of_ble_eq_true rfl) dX4_rank_21
theorem c4_rank (l : Launch) (v0 : Int32) (v1 : Int64) : Ctr l yX4_rank cX4_rank 3 (some .long) rm4_rank eL [aI v0, aL v1] (f4_rank v0 v1) := ctr_of (lv := [(0, aI v0), (1, aL v1)]) (by decide +kernel) (fun _ => rfl) (fun _ => (Nat.le_of_ble_eq_true rfl)) (fun _ h => lvl_als h rfl) (fun _ σ _ => j4_rank v0 v1 σ)
abbrev rm2_signBit : Room := { frames := 0, cells := 0, slots := 0, locals := 0 }
set_option maxRecDepth 20000 in
set_option maxHeartbeats 4000000 in
theorem j2_signBit {Γ : jX} {tg : Int64 × rS} (v0 : Int32) (σ : rS) : J Γ rm2_signBit eL cX2_signBit RX2 1 (some .long) tg 0 0 0 [(0, aI v0)] [] σ (f2_signBit v0 σ) := by
  unfold f2_signBit
  refine j_iload_n (pc := 0) 0 dX2_signBit_0 rfl rfl ?_
  refine j_bipush (pc := 1) (v := 6) (by decide) dX2_signBit_1 ?_
  refine j_icmpne (pc := 3) (tgt := 12) dX2_signBit_3 rfl (fun _ => ?_) (fun _ => ?_)
  · refine j_ldc2 (pc := 12) tw_2_25 dX2_signBit_12 ?_
    exact j_lreturn (pc := 15) rfl (Nat.le_of_ble_eq_true rfl) (Nat.le_of_ble_eq_true rfl) dX2_signBit_15
  · refine j_ldc2 (pc := 6) tw_2_24 dX2_signBit_6 ?_
    refine j_goto (pc := 9) (tgt := 15) dX2_signBit_9 rfl ?_
    exact j_lreturn (pc := 15) rfl (Nat.le_of_ble_eq_true rfl) (Nat.le_of_ble_eq_true rfl) dX2_signBit_15
theorem c2_signBit (l : Launch) (v0 : Int32) : Ctr l yX2_signBit cX2_signBit 1 (some .long) rm2_signBit eL [aI v0] (f2_signBit v0) := ctr_of (lv := [(0, aI v0)]) (by decide +kernel) (fun _ => rfl) (fun _ => (Nat.le_of_ble_eq_true rfl)) (fun _ h => lvl_als h rfl) (fun _ σ _ => j2_signBit v0 σ)
theorem cs_RX4_42 : CaS RX4 42 yX2_signBit cX2_signBit 1 (some .long) 1 := ⟨tw_2_21, tw_2_22, tw_1_8, tw_2_23, by decide +kernel, by decide +kernel, by decide +kernel⟩
abbrev rm4_unsignedZero : Room := { frames := 1, cells := 0, slots := 0, locals := 20 }
set_option maxRecDepth 20000 in
set_option maxHeartbeats 4000000 in
theorem j4_unsignedZero {Γ : jX} {tg : Int64 × rS} (v0 : Int32) (v1 : Int64) (σ : rS) : J Γ rm4_unsignedZero eL cX4_unsignedZero RX4 3 (some .long) tg 0 0 0 [(0, aI v0), (1, aL v1)] [] σ (f4_unsignedZero v0 v1 σ) := by
  unfold f4_unsignedZero
  refine j_iload_n (pc := 0) 0 dX4_unsignedZero_0 rfl rfl ?_
  refine j_callSZ (pc := 1) (As := [aI v0]) (st := []) (fun l => c4_areFloating l v0) cs_RX4_15 rfl rfl (Nat.le_of_ble_eq_true rfl) ⟨(Nat.le_of_ble_eq_true rfl), (Nat.le_of_ble_eq_true rfl)⟩ ⟨(Nat.le_of_ble_eq_true rfl), (Nat.le_of_ble_eq_true rfl)⟩ dX4_unsignedZero_1 (fun r1 σ2 => ?_)
  refine j_ifeqB (pc := 4) (tgt := 20) dX4_unsignedZero_4 rfl (fun _ => ?_) (fun _ => ?_)
  · refine j_lload_n (pc := 20) 1 dX4_unsignedZero_20 rfl rfl ?_
    exact j_lreturn (pc := 21) rfl (Nat.le_of_ble_eq_true rfl) (Nat.le_of_ble_eq_true rfl) dX4_unsignedZero_21
  · refine j_lload_n (pc := 7) 1 dX4_unsignedZero_7 rfl rfl ?_
    refine j_iload_n (pc := 8) 0 dX4_unsignedZero_8 rfl rfl ?_
    refine j_callSL (pc := 9) (As := [aI v0]) (st := [aL v1]) (fun l => c2_signBit l v0) cs_RX4_42 rfl rfl (Nat.le_of_ble_eq_true rfl) ⟨(Nat.le_of_ble_eq_true rfl), (Nat.le_of_ble_eq_true rfl)⟩ ⟨(Nat.le_of_ble_eq_true rfl), (Nat.le_of_ble_eq_true rfl)⟩ dX4_unsignedZero_9 (fun r3 σ4 => ?_)
    refine j_lcmpne (pc := 12) (tgt := 20) dX4_unsignedZero_12 dX4_unsignedZero_13 rfl (fun _ => ?_) (fun _ => ?_)
    · refine j_lload_n (pc := 20) 1 dX4_unsignedZero_20 rfl rfl ?_
      exact j_lreturn (pc := 21) rfl (Nat.le_of_ble_eq_true rfl) (Nat.le_of_ble_eq_true rfl) dX4_unsignedZero_21
    · refine j_lconst (pc := 16) (v := 0) (by decide) dX4_unsignedZero_16 ?_
      refine j_goto (pc := 17) (tgt := 21) dX4_unsignedZero_17 rfl ?_
      exact j_lreturn (pc := 21) rfl (Nat.le_of_ble_eq_true rfl) (Nat.le_of_ble_eq_true rfl) dX4_unsignedZero_21
theorem c4_unsignedZero (l : Launch) (v0 : Int32) (v1 : Int64) : Ctr l yX4_unsignedZero cX4_unsignedZero 3 (some .long) rm4_unsignedZero eL [aI v0, aL v1] (f4_unsignedZero v0 v1) := ctr_of (lv := [(0, aI v0), (1, aL v1)]) (by decide +kernel) (fun _ => rfl) (fun _ => (Nat.le_of_ble_eq_true rfl)) (fun _ h => lvl_als h rfl) (fun _ σ _ => j4_unsignedZero v0 v1 σ)
theorem cs_RX4_27 : CaS RX4 27 yX4_isGap cX4_isGap 3 (some .boolean) 2 := ⟨tw_2_9, tw_2_10, tw_1_7, tw_2_11, by decide +kernel, by decide +kernel, by decide +kernel⟩
theorem cs_RX4_30 : CaS RX4 30 yX4_unsignedZero cX4_unsignedZero 3 (some .long) 2 := ⟨tw_2_18, tw_2_19, tw_1_7, tw_2_20, by decide +kernel, by decide +kernel, by decide +kernel⟩
theorem cs_RX4_33 : CaS RX4 33 yX4_rank cX4_rank 3 (some .long) 2 := ⟨tw_2_26, tw_2_27, tw_1_7, tw_2_28, by decide +kernel, by decide +kernel, by decide +kernel⟩
theorem cs_RX4_36 : CaS RX4 36 yJ13_compare_74951 cJ13_compare_74951 4 (some .int) 2 := ⟨tw_2_30, tw_2_31, tw_1_10, tw_2_32, by decide +kernel, by decide +kernel, by decide +kernel⟩
abbrev rm4_compared : Room := { frames := 3, cells := 0, slots := 0, locals := 66 }
set_option maxRecDepth 20000 in
set_option maxHeartbeats 4000000 in
theorem j4_compared {Γ : jX} {tg : Int32 × rS} (v0 : Int32) (v1 : Int64) (v3 : Int64) (σ : rS) : J Γ rm4_compared eI cX4_compared RX4 6 (some .int) tg 0 0 0 [(0, aI v0), (1, aL v1), (3, aL v3)] [] σ (f4_compared v0 v1 v3 σ) := by
  unfold f4_compared
  refine j_iload_n (pc := 0) 0 dX4_compared_0 rfl rfl ?_
  refine j_lload_n (pc := 1) 1 dX4_compared_1 rfl rfl ?_
  refine j_callSZ (pc := 2) (As := [aI v0, aL v1]) (st := []) (fun l => c4_isGap l v0 v1) cs_RX4_27 rfl rfl (Nat.le_of_ble_eq_true rfl) ⟨(Nat.le_of_ble_eq_true rfl), (Nat.le_of_ble_eq_true rfl)⟩ ⟨(Nat.le_of_ble_eq_true rfl), (Nat.le_of_ble_eq_true rfl)⟩ dX4_compared_2 (fun r1 σ2 => ?_)
  refine j_ifneB (pc := 5) (tgt := 16) dX4_compared_5 rfl (fun _ => ?_) (fun _ => ?_)
  · refine j_bipush (pc := 16) (v := 32) (by decide) dX4_compared_16 ?_
    exact j_ireturn (pc := 18) rfl (Nat.le_of_ble_eq_true rfl) (Nat.le_of_ble_eq_true rfl) dX4_compared_18
  · refine j_iload_n (pc := 8) 0 dX4_compared_8 rfl rfl ?_
    refine j_lload_n (pc := 9) 2 dX4_compared_9 rfl rfl ?_
    refine j_callSZ (pc := 10) (As := [aI v0, aL v3]) (st := []) (fun l => c4_isGap l v0 v3) cs_RX4_27 rfl rfl (Nat.le_of_ble_eq_true rfl) ⟨(Nat.le_of_ble_eq_true rfl), (Nat.le_of_ble_eq_true rfl)⟩ ⟨(Nat.le_of_ble_eq_true rfl), (Nat.le_of_ble_eq_true rfl)⟩ dX4_compared_10 (fun r3 σ4 => ?_)
    refine j_ifeqB (pc := 13) (tgt := 19) dX4_compared_13 rfl (fun _ => ?_) (fun _ => ?_)
    · refine j_iload_n (pc := 19) 0 dX4_compared_19 rfl rfl ?_
      refine j_iload_n (pc := 20) 0 dX4_compared_20 rfl rfl ?_
      refine j_lload_n (pc := 21) 1 dX4_compared_21 rfl rfl ?_
      refine j_callSL (pc := 22) (As := [aI v0, aL v1]) (st := [aI v0]) (fun l => c4_unsignedZero l v0 v1) cs_RX4_30 rfl rfl (Nat.le_of_ble_eq_true rfl) ⟨(Nat.le_of_ble_eq_true rfl), (Nat.le_of_ble_eq_true rfl)⟩ ⟨(Nat.le_of_ble_eq_true rfl), (Nat.le_of_ble_eq_true rfl)⟩ dX4_compared_22 (fun r5 σ6 => ?_)
      refine j_callSL (pc := 25) (As := [aI v0, aL r5]) (st := []) (fun l => c4_rank l v0 r5) cs_RX4_33 rfl rfl (Nat.le_of_ble_eq_true rfl) ⟨(Nat.le_of_ble_eq_true rfl), (Nat.le_of_ble_eq_true rfl)⟩ ⟨(Nat.le_of_ble_eq_true rfl), (Nat.le_of_ble_eq_true rfl)⟩ dX4_compared_25 (fun r7 σ8 => ?_)
      refine j_iload_n (pc := 28) 0 dX4_compared_28 rfl rfl ?_
      refine j_iload_n (pc := 29) 0 dX4_compared_29 rfl rfl ?_
      refine j_lload_n (pc := 30) 2 dX4_compared_30 rfl rfl ?_
      refine j_callSL (pc := 31) (As := [aI v0, aL v3]) (st := [aI v0, aL r7]) (fun l => c4_unsignedZero l v0 v3) cs_RX4_30 rfl rfl (Nat.le_of_ble_eq_true rfl) ⟨(Nat.le_of_ble_eq_true rfl), (Nat.le_of_ble_eq_true rfl)⟩ ⟨(Nat.le_of_ble_eq_true rfl), (Nat.le_of_ble_eq_true rfl)⟩ dX4_compared_31 (fun r9 σ10 => ?_)
      refine j_callSL (pc := 34) (As := [aI v0, aL r9]) (st := [aL r7]) (fun l => c4_rank l v0 r9) cs_RX4_33 rfl rfl (Nat.le_of_ble_eq_true rfl) ⟨(Nat.le_of_ble_eq_true rfl), (Nat.le_of_ble_eq_true rfl)⟩ ⟨(Nat.le_of_ble_eq_true rfl), (Nat.le_of_ble_eq_true rfl)⟩ dX4_compared_34 (fun r11 σ12 => ?_)
      refine j_callSI (pc := 37) (As := [aL r7, aL r11]) (st := []) (fun l => cJ_cmp l r7 r11) cs_RX4_36 rfl rfl (Nat.le_of_ble_eq_true rfl) ⟨(Nat.le_of_ble_eq_true rfl), (Nat.le_of_ble_eq_true rfl)⟩ ⟨(Nat.le_of_ble_eq_true rfl), (Nat.le_of_ble_eq_true rfl)⟩ dX4_compared_37 (fun r13 σ14 => ?_)
      refine j_istore (pc := 40) (lv' := [(5, aI r13), (0, aI v0), (1, aL v1), (3, aL v3)]) dX4_compared_40 (Nat.le_of_ble_eq_true rfl) rfl ?_
      refine j_sub [0] (lv' := [(5, aI r13)]) rfl ?_
      refine j_iload (pc := 42) 0 dX4_compared_42 rfl ?_
      refine j_ifne (pc := 44) (tgt := 50) dX4_compared_44 rfl (fun _ => ?_) (fun _ => ?_)
      · refine j_iload (pc := 50) 0 dX4_compared_50 rfl ?_
        refine j_ifge (pc := 52) (tgt := 60) dX4_compared_52 rfl (fun _ => ?_) (fun _ => ?_)
        · refine j_bipush (pc := 60) (v := 44) (by decide) dX4_compared_60 ?_
          exact j_ireturn (pc := 62) rfl (Nat.le_of_ble_eq_true rfl) (Nat.le_of_ble_eq_true rfl) dX4_compared_62
        · refine j_bipush (pc := 55) (v := 35) (by decide) dX4_compared_55 ?_
          refine j_goto (pc := 57) (tgt := 62) dX4_compared_57 rfl ?_
          exact j_ireturn (pc := 62) rfl (Nat.le_of_ble_eq_true rfl) (Nat.le_of_ble_eq_true rfl) dX4_compared_62
      · refine j_bipush (pc := 47) (v := 26) (by decide) dX4_compared_47 ?_
        exact j_ireturn (pc := 49) rfl (Nat.le_of_ble_eq_true rfl) (Nat.le_of_ble_eq_true rfl) dX4_compared_49
    · refine j_bipush (pc := 16) (v := 32) (by decide) dX4_compared_16 ?_
      exact j_ireturn (pc := 18) rfl (Nat.le_of_ble_eq_true rfl) (Nat.le_of_ble_eq_true rfl) dX4_compared_18
theorem c4_compared (l : Launch) (v0 : Int32) (v1 : Int64) (v3 : Int64) : Ctr l yX4_compared cX4_compared 6 (some .int) rm4_compared eI [aI v0, aL v1, aL v3] (f4_compared v0 v1 v3) := ctr_of (lv := [(0, aI v0), (1, aL v1), (3, aL v3)]) (by decide +kernel) (fun _ => rfl) (fun _ => (Nat.le_of_ble_eq_true rfl)) (fun _ h => lvl_als h rfl) (fun _ σ _ => j4_compared v0 v1 v3 σ)
abbrev rm7_has : Room := { frames := 0, cells := 0, slots := 0, locals := 0 }
set_option maxRecDepth 20000 in
set_option maxHeartbeats 4000000 in
theorem j7_has {Γ : jX} {tg : Bool × rS} (v0 : Nat) (v1 : Int32) (σ : rS) : J Γ rm7_has eZ cX7_has RX7 2 (some .boolean) tg 0 0 0 [(0, aR 13 v0), (1, aI v1)] [] σ (f7_has v0 v1 σ) := by
  unfold f7_has
  refine j_iload_n (pc := 0) 1 dX7_has_0 rfl rfl ?_
  refine j_iflt (pc := 1) (tgt := 17) dX7_has_1 rfl (fun _ => ?_) (fun _ => ?_)
  · refine j_iconst (pc := 17) (v := 0) (by decide) dX7_has_17 ?_
    exact j_zret0 (pc := 18) rfl (Nat.le_of_ble_eq_true rfl) (Nat.le_of_ble_eq_true rfl) dX7_has_18
  · refine j_iload_n (pc := 4) 1 dX7_has_4 rfl rfl ?_
    refine j_aload_n (pc := 5) 0 dX7_has_5 rfl rfl ?_
    refine j_getF (pc := 6) fd_13_1 tw_1_175 dX7_has_6 ?_
    refine j_alen (pc := 9) rfl (by decide) dX7_has_9 ?_
    refine j_icmpge (pc := 10) (tgt := 17) dX7_has_10 rfl (fun _ => ?_) (fun _ => ?_)
    · refine j_iconst (pc := 17) (v := 0) (by decide) dX7_has_17 ?_
      exact j_zret0 (pc := 18) rfl (Nat.le_of_ble_eq_true rfl) (Nat.le_of_ble_eq_true rfl) dX7_has_18
    · refine j_iconst (pc := 13) (v := 1) (by decide) dX7_has_13 ?_
      refine j_goto (pc := 14) (tgt := 18) dX7_has_14 rfl ?_
      exact j_zret1 (pc := 18) rfl (Nat.le_of_ble_eq_true rfl) (Nat.le_of_ble_eq_true rfl) dX7_has_18
theorem c7_has (l : Launch) (v0 : Nat) (v1 : Int32) : Ctr l yX7_has cX7_has 2 (some .boolean) rm7_has eZ [aR 13 v0, aI v1] (f7_has v0 v1) := ctr_of (lv := [(0, aR 13 v0), (1, aI v1)]) (by decide +kernel) (fun _ => rfl) (fun _ => (Nat.le_of_ble_eq_true rfl)) (fun _ h => lvl_als h rfl) (fun _ σ _ => j7_has v0 v1 σ)
theorem cs_RX10_89 : CaV RX10 RX7 89 yX7_has cX7_has 2 (some .boolean) 1 := ⟨tw_1_205, tw_1_206, tw_1_207, tw_1_6, tw_1_208, rfl, by decide +kernel, by decide +kernel, by decide +kernel⟩
theorem cs_RX10_112 : CaS RX10 112 yX4_compared cX4_compared 6 (some .int) 3 := ⟨tw_2_6, tw_2_7, tw_1_7, tw_2_8, by decide +kernel, by decide +kernel, by decide +kernel⟩
abbrev rm10_compare : Room := { frames := 4, cells := 0, slots := 0, locals := 91 }
set_option maxRecDepth 20000 in
set_option maxHeartbeats 4000000 in
theorem j10_compare {Γ : jX} {tg : Int32 × rS} (v0 : Nat) (v1 : Int32) (v2 : Int32) (v3 : Int32) (σ : rS) : J Γ rm10_compare eI cX10_compare RX10 5 (some .int) tg 0 0 0 [(0, aR 0 v0), (1, aI v1), (2, aI v2), (3, aI v3)] [] σ (f10_compare v0 v1 v2 v3 σ) := by
  unfold f10_compare
  refine j_aload_n (pc := 0) 0 dX10_compare_0 rfl rfl ?_
  refine j_iload_n (pc := 1) 1 dX10_compare_1 rfl rfl ?_
  refine j_callVR (pc := 2) (As := [aI v1]) (st := []) (fun l => c10_rowNumbered l v0 v1) cs_RX10_74 rfl rfl rfl rfl (Nat.le_of_ble_eq_true rfl) ⟨(Nat.le_of_ble_eq_true rfl), (Nat.le_of_ble_eq_true rfl)⟩ ⟨(Nat.le_of_ble_eq_true rfl), (Nat.le_of_ble_eq_true rfl)⟩ dX10_compare_2 (fun r1 σ2 => ?_)
  refine j_astore (pc := 5) (lv' := [(4, aO 13 r1), (0, aR 0 v0), (1, aI v1), (2, aI v2), (3, aI v3)]) dX10_compare_5 (Nat.le_of_ble_eq_true rfl) rfl ?_
  refine j_sub [0, 1, 3, 4] (lv' := [(4, aO 13 r1), (0, aR 0 v0), (2, aI v2), (3, aI v3)]) rfl ?_
  refine j_aload (pc := 7) 0 dX10_compare_7 rfl ?_
  refine j_ifnonnull (pc := 9) (tgt := 15) dX10_compare_9 rfl (fun hm => ?_) (fun i3 hm => ?_)
  · subst hm
    refine j_bipush (pc := 12) (v := (-101)) (by decide) dX10_compare_12 ?_
    exact j_ireturn (pc := 14) rfl (Nat.le_of_ble_eq_true rfl) (Nat.le_of_ble_eq_true rfl) dX10_compare_14
  · subst hm
    refine j_aload (pc := 15) 0 dX10_compare_15 rfl ?_
    refine j_getI (pc := 17) fd_13_2 tw_1_177 dX10_compare_17 ?_
    refine j_ifeq (pc := 20) (tgt := 29) dX10_compare_20 rfl (fun _ => ?_) (fun _ => ?_)
    · refine j_aload (pc := 29) 0 dX10_compare_29 rfl ?_
      refine j_iload_n (pc := 31) 2 dX10_compare_31 rfl rfl ?_
      refine j_callVZ (pc := 32) (As := [aI v2]) (st := []) (fun l => c7_has l i3 v2) cs_RX10_89 rfl rfl rfl rfl (Nat.le_of_ble_eq_true rfl) ⟨(Nat.le_of_ble_eq_true rfl), (Nat.le_of_ble_eq_true rfl)⟩ ⟨(Nat.le_of_ble_eq_true rfl), (Nat.le_of_ble_eq_true rfl)⟩ dX10_compare_32 (fun r4 σ5 => ?_)
      refine j_ifeqB (pc := 35) (tgt := 47) dX10_compare_35 rfl (fun _ => ?_) (fun _ => ?_)
      · refine j_aload_n (pc := 47) 1 dX10_compare_47 rfl rfl ?_
        refine j_iconst (pc := 48) (v := 2) (by decide) dX10_compare_48 ?_
        refine j_callVI (pc := 49) (As := [aI 2]) (st := []) (fun l => c10_found l v0 2) cs_RX10_66 rfl rfl rfl rfl (Nat.le_of_ble_eq_true rfl) ⟨(Nat.le_of_ble_eq_true rfl), (Nat.le_of_ble_eq_true rfl)⟩ ⟨(Nat.le_of_ble_eq_true rfl), (Nat.le_of_ble_eq_true rfl)⟩ dX10_compare_49 (fun r6 σ7 => ?_)
        exact j_ireturn (pc := 52) rfl (Nat.le_of_ble_eq_true rfl) (Nat.le_of_ble_eq_true rfl) dX10_compare_52
      · refine j_aload (pc := 38) 0 dX10_compare_38 rfl ?_
        refine j_iload_n (pc := 40) 3 dX10_compare_40 rfl rfl ?_
        refine j_callVZ (pc := 41) (As := [aI v3]) (st := []) (fun l => c7_has l i3 v3) cs_RX10_89 rfl rfl rfl rfl (Nat.le_of_ble_eq_true rfl) ⟨(Nat.le_of_ble_eq_true rfl), (Nat.le_of_ble_eq_true rfl)⟩ ⟨(Nat.le_of_ble_eq_true rfl), (Nat.le_of_ble_eq_true rfl)⟩ dX10_compare_41 (fun r8 σ9 => ?_)
        refine j_ifneB (pc := 44) (tgt := 53) dX10_compare_44 rfl (fun _ => ?_) (fun _ => ?_)
        · refine j_aload (pc := 53) 0 dX10_compare_53 rfl ?_
          refine j_getI (pc := 55) fd_13_0 tw_1_174 dX10_compare_55 ?_
          refine j_aload (pc := 58) 0 dX10_compare_58 rfl ?_
          refine j_getF (pc := 60) fd_13_1 tw_1_176 dX10_compare_60 ?_
          refine j_iload_n (pc := 63) 2 dX10_compare_63 rfl rfl ?_
          refine j_lald (pc := 64) rfl rfl rfl dX10_compare_64 (fun j10 => ?_)
          refine j_aload (pc := 65) 0 dX10_compare_65 rfl ?_
          refine j_getF (pc := 67) fd_13_1 tw_1_176 dX10_compare_67 ?_
          refine j_iload_n (pc := 70) 3 dX10_compare_70 rfl rfl ?_
          refine j_lald (pc := 71) rfl rfl rfl dX10_compare_71 (fun j11 => ?_)
          refine j_callSI (pc := 72) (As := [aI (gI σ9 13 i3 0), aL (gL σ9 14 i3 j10), aL (gL σ9 14 i3 j11)]) (st := []) (fun l => c4_compared l (gI σ9 13 i3 0) (gL σ9 14 i3 j10) (gL σ9 14 i3 j11)) cs_RX10_112 rfl rfl (Nat.le_of_ble_eq_true rfl) ⟨(Nat.le_of_ble_eq_true rfl), (Nat.le_of_ble_eq_true rfl)⟩ ⟨(Nat.le_of_ble_eq_true rfl), (Nat.le_of_ble_eq_true rfl)⟩ dX10_compare_72 (fun r12 σ13 => ?_)
          exact j_ireturn (pc := 75) rfl (Nat.le_of_ble_eq_true rfl) (Nat.le_of_ble_eq_true rfl) dX10_compare_75
        · refine j_aload_n (pc := 47) 1 dX10_compare_47 rfl rfl ?_
          refine j_iconst (pc := 48) (v := 2) (by decide) dX10_compare_48 ?_
          refine j_callVI (pc := 49) (As := [aI 2]) (st := []) (fun l => c10_found l v0 2) cs_RX10_66 rfl rfl rfl rfl (Nat.le_of_ble_eq_true rfl) ⟨(Nat.le_of_ble_eq_true rfl), (Nat.le_of_ble_eq_true rfl)⟩ ⟨(Nat.le_of_ble_eq_true rfl), (Nat.le_of_ble_eq_true rfl)⟩ dX10_compare_49 (fun r14 σ15 => ?_)
          exact j_ireturn (pc := 52) rfl (Nat.le_of_ble_eq_true rfl) (Nat.le_of_ble_eq_true rfl) dX10_compare_52
    · refine j_aload_n (pc := 23) 1 dX10_compare_23 rfl rfl ?_
      refine j_iconst (pc := 24) (v := 1) (by decide) dX10_compare_24 ?_
      refine j_callVI (pc := 25) (As := [aI 1]) (st := []) (fun l => c10_found l v0 1) cs_RX10_66 rfl rfl rfl rfl (Nat.le_of_ble_eq_true rfl) ⟨(Nat.le_of_ble_eq_true rfl), (Nat.le_of_ble_eq_true rfl)⟩ ⟨(Nat.le_of_ble_eq_true rfl), (Nat.le_of_ble_eq_true rfl)⟩ dX10_compare_25 (fun r16 σ17 => ?_)
      exact j_ireturn (pc := 28) rfl (Nat.le_of_ble_eq_true rfl) (Nat.le_of_ble_eq_true rfl) dX10_compare_28
theorem c10_compare (l : Launch) (v0 : Nat) (v1 : Int32) (v2 : Int32) (v3 : Int32) : Ctr l yX10_compare cX10_compare 5 (some .int) rm10_compare eI [aR 0 v0, aI v1, aI v2, aI v3] (f10_compare v0 v1 v2 v3) := ctr_of (lv := [(0, aR 0 v0), (1, aI v1), (2, aI v2), (3, aI v3)]) (by decide +kernel) (fun _ => rfl) (fun _ => (Nat.le_of_ble_eq_true rfl)) (fun _ h => lvl_als h rfl) (fun _ σ _ => j10_compare v0 v1 v2 v3 σ)
abbrev rm7_hasStretch : Room := { frames := 0, cells := 0, slots := 0, locals := 0 }
set_option maxRecDepth 20000 in
set_option maxHeartbeats 4000000 in
theorem j7_hasStretch {Γ : jX} {tg : Bool × rS} (v0 : Nat) (v1 : Int32) (v2 : Int32) (σ : rS) : J Γ rm7_hasStretch eZ cX7_hasStretch RX7 3 (some .boolean) tg 0 0 0 [(0, aR 13 v0), (1, aI v1), (2, aI v2)] [] σ (f7_hasStretch v0 v1 v2 σ) := by
  unfold f7_hasStretch
  refine j_iload_n (pc := 0) 1 dX7_hasStretch_0 rfl rfl ?_
  refine j_iflt (pc := 1) (tgt := 32) dX7_hasStretch_1 rfl (fun _ => ?_) (fun _ => ?_)
  · refine j_iconst (pc := 32) (v := 0) (by decide) dX7_hasStretch_32 ?_
    exact j_zret0 (pc := 33) rfl (Nat.le_of_ble_eq_true rfl) (Nat.le_of_ble_eq_true rfl) dX7_hasStretch_33
  · refine j_iload_n (pc := 4) 2 dX7_hasStretch_4 rfl rfl ?_
    refine j_iflt (pc := 5) (tgt := 32) dX7_hasStretch_5 rfl (fun _ => ?_) (fun _ => ?_)
    · refine j_iconst (pc := 32) (v := 0) (by decide) dX7_hasStretch_32 ?_
      exact j_zret0 (pc := 33) rfl (Nat.le_of_ble_eq_true rfl) (Nat.le_of_ble_eq_true rfl) dX7_hasStretch_33
    · refine j_iload_n (pc := 8) 1 dX7_hasStretch_8 rfl rfl ?_
      refine j_aload_n (pc := 9) 0 dX7_hasStretch_9 rfl rfl ?_
      refine j_getF (pc := 10) fd_13_1 tw_1_175 dX7_hasStretch_10 ?_
      refine j_alen (pc := 13) rfl (by decide) dX7_hasStretch_13 ?_
      refine j_icmpgt (pc := 14) (tgt := 32) dX7_hasStretch_14 rfl (fun _ => ?_) (fun _ => ?_)
      · refine j_iconst (pc := 32) (v := 0) (by decide) dX7_hasStretch_32 ?_
        exact j_zret0 (pc := 33) rfl (Nat.le_of_ble_eq_true rfl) (Nat.le_of_ble_eq_true rfl) dX7_hasStretch_33
      · refine j_iload_n (pc := 17) 2 dX7_hasStretch_17 rfl rfl ?_
        refine j_aload_n (pc := 18) 0 dX7_hasStretch_18 rfl rfl ?_
        refine j_getF (pc := 19) fd_13_1 tw_1_175 dX7_hasStretch_19 ?_
        refine j_alen (pc := 22) rfl (by decide) dX7_hasStretch_22 ?_
        refine j_iload_n (pc := 23) 1 dX7_hasStretch_23 rfl rfl ?_
        refine j_isub (pc := 24) dX7_hasStretch_24 ?_
        refine j_icmpgt (pc := 25) (tgt := 32) dX7_hasStretch_25 rfl (fun _ => ?_) (fun _ => ?_)
        · refine j_iconst (pc := 32) (v := 0) (by decide) dX7_hasStretch_32 ?_
          exact j_zret0 (pc := 33) rfl (Nat.le_of_ble_eq_true rfl) (Nat.le_of_ble_eq_true rfl) dX7_hasStretch_33
        · refine j_iconst (pc := 28) (v := 1) (by decide) dX7_hasStretch_28 ?_
          refine j_goto (pc := 29) (tgt := 33) dX7_hasStretch_29 rfl ?_
          exact j_zret1 (pc := 33) rfl (Nat.le_of_ble_eq_true rfl) (Nat.le_of_ble_eq_true rfl) dX7_hasStretch_33
theorem c7_hasStretch (l : Launch) (v0 : Nat) (v1 : Int32) (v2 : Int32) : Ctr l yX7_hasStretch cX7_hasStretch 3 (some .boolean) rm7_hasStretch eZ [aR 13 v0, aI v1, aI v2] (f7_hasStretch v0 v1 v2) := ctr_of (lv := [(0, aR 13 v0), (1, aI v1), (2, aI v2)]) (by decide +kernel) (fun _ => rfl) (fun _ => (Nat.le_of_ble_eq_true rfl)) (fun _ h => lvl_als h rfl) (fun _ σ _ => j7_hasStretch v0 v1 v2 σ)
theorem cs_RX10_102 : CaV RX10 RX7 102 yX7_hasStretch cX7_hasStretch 3 (some .boolean) 2 := ⟨tw_1_235, tw_1_236, tw_1_237, tw_1_6, tw_1_238, rfl, by decide +kernel, by decide +kernel, by decide +kernel⟩
abbrev rm10_copy : Room := { frames := 1, cells := 0, slots := 0, locals := 40 }
set_option maxRecDepth 20000 in
set_option maxHeartbeats 4000000 in
theorem j10_copy {Γ : jX} {tg : Int32 × rS} (v0 : Nat) (v1 : Int32) (v2 : Int32) (v3 : Int32) (v4 : Int32) (v5 : Int32) (σ : rS) : J Γ rm10_copy eI cX10_copy RX10 8 (some .int) tg 0 0 0 [(0, aR 0 v0), (1, aI v1), (2, aI v2), (3, aI v3), (4, aI v4), (5, aI v5)] [] σ (f10_copy v0 v1 v2 v3 v4 v5 σ) := by
  unfold f10_copy
  refine j_aload_n (pc := 0) 0 dX10_copy_0 rfl rfl ?_
  refine j_iload_n (pc := 1) 1 dX10_copy_1 rfl rfl ?_
  refine j_callVR (pc := 2) (As := [aI v1]) (st := []) (fun l => c10_rowNumbered l v0 v1) cs_RX10_74 rfl rfl rfl rfl (Nat.le_of_ble_eq_true rfl) ⟨(Nat.le_of_ble_eq_true rfl), (Nat.le_of_ble_eq_true rfl)⟩ ⟨(Nat.le_of_ble_eq_true rfl), (Nat.le_of_ble_eq_true rfl)⟩ dX10_copy_2 (fun r1 σ2 => ?_)
  refine j_astore (pc := 5) (lv' := [(6, aO 13 r1), (0, aR 0 v0), (1, aI v1), (2, aI v2), (3, aI v3), (4, aI v4), (5, aI v5)]) dX10_copy_5 (Nat.le_of_ble_eq_true rfl) rfl ?_
  refine j_sub [0, 1, 3, 4, 5, 6] (lv' := [(6, aO 13 r1), (0, aR 0 v0), (2, aI v2), (3, aI v3), (4, aI v4), (5, aI v5)]) rfl ?_
  refine j_aload_n (pc := 7) 1 dX10_copy_7 rfl rfl ?_
  refine j_iload_n (pc := 8) 3 dX10_copy_8 rfl rfl ?_
  refine j_callVR (pc := 9) (As := [aI v3]) (st := []) (fun l => c10_rowNumbered l v0 v3) cs_RX10_74 rfl rfl rfl rfl (Nat.le_of_ble_eq_true rfl) ⟨(Nat.le_of_ble_eq_true rfl), (Nat.le_of_ble_eq_true rfl)⟩ ⟨(Nat.le_of_ble_eq_true rfl), (Nat.le_of_ble_eq_true rfl)⟩ dX10_copy_9 (fun r3 σ4 => ?_)
  refine j_astore (pc := 12) (lv' := [(7, aO 13 r3), (6, aO 13 r1), (0, aR 0 v0), (2, aI v2), (3, aI v3), (4, aI v4), (5, aI v5)]) dX10_copy_12 (Nat.le_of_ble_eq_true rfl) rfl ?_
  refine j_sub [0, 1, 2, 3, 5, 6] (lv' := [(7, aO 13 r3), (6, aO 13 r1), (0, aR 0 v0), (2, aI v2), (4, aI v4), (5, aI v5)]) rfl ?_
  refine j_aload (pc := 14) 1 dX10_copy_14 rfl ?_
  refine j_ifnull (pc := 16) (tgt := 24) dX10_copy_16 rfl (fun hm => ?_) (fun i5 hm => ?_)
  · subst hm
    refine j_bipush (pc := 24) (v := (-101)) (by decide) dX10_copy_24 ?_
    exact j_ireturn (pc := 26) rfl (Nat.le_of_ble_eq_true rfl) (Nat.le_of_ble_eq_true rfl) dX10_copy_26
  · subst hm
    refine j_aload (pc := 19) 0 dX10_copy_19 rfl ?_
    refine j_ifnonnull (pc := 21) (tgt := 27) dX10_copy_21 rfl (fun hm => ?_) (fun i6 hm => ?_)
    · subst hm
      refine j_bipush (pc := 24) (v := (-101)) (by decide) dX10_copy_24 ?_
      exact j_ireturn (pc := 26) rfl (Nat.le_of_ble_eq_true rfl) (Nat.le_of_ble_eq_true rfl) dX10_copy_26
    · subst hm
      refine j_aload (pc := 27) 1 dX10_copy_27 rfl ?_
      refine j_getI (pc := 29) fd_13_0 tw_1_174 dX10_copy_29 ?_
      refine j_aload (pc := 32) 0 dX10_copy_32 rfl ?_
      refine j_getI (pc := 34) fd_13_0 tw_1_174 dX10_copy_34 ?_
      refine j_icmpeq (pc := 37) (tgt := 46) dX10_copy_37 rfl (fun _ => ?_) (fun _ => ?_)
      · refine j_aload (pc := 46) 1 dX10_copy_46 rfl ?_
        refine j_getI (pc := 48) fd_13_2 tw_1_177 dX10_copy_48 ?_
        refine j_ifne (pc := 51) (tgt := 62) dX10_copy_51 rfl (fun _ => ?_) (fun _ => ?_)
        · refine j_aload_n (pc := 62) 2 dX10_copy_62 rfl rfl ?_
          refine j_iconst (pc := 63) (v := 1) (by decide) dX10_copy_63 ?_
          refine j_callVI (pc := 64) (As := [aI 1]) (st := []) (fun l => c10_found l v0 1) cs_RX10_66 rfl rfl rfl rfl (Nat.le_of_ble_eq_true rfl) ⟨(Nat.le_of_ble_eq_true rfl), (Nat.le_of_ble_eq_true rfl)⟩ ⟨(Nat.le_of_ble_eq_true rfl), (Nat.le_of_ble_eq_true rfl)⟩ dX10_copy_64 (fun r7 σ8 => ?_)
          exact j_ireturn (pc := 67) rfl (Nat.le_of_ble_eq_true rfl) (Nat.le_of_ble_eq_true rfl) dX10_copy_67
        · refine j_aload (pc := 54) 0 dX10_copy_54 rfl ?_
          refine j_getI (pc := 56) fd_13_2 tw_1_177 dX10_copy_56 ?_
          refine j_ifeq (pc := 59) (tgt := 68) dX10_copy_59 rfl (fun _ => ?_) (fun _ => ?_)
          · refine j_aload (pc := 68) 1 dX10_copy_68 rfl ?_
            refine j_iload_n (pc := 70) 3 dX10_copy_70 rfl rfl ?_
            refine j_iload (pc := 71) 5 dX10_copy_71 rfl ?_
            refine j_callVZ (pc := 73) (As := [aI v2, aI v5]) (st := []) (fun l => c7_hasStretch l i5 v2 v5) cs_RX10_102 rfl rfl rfl rfl (Nat.le_of_ble_eq_true rfl) ⟨(Nat.le_of_ble_eq_true rfl), (Nat.le_of_ble_eq_true rfl)⟩ ⟨(Nat.le_of_ble_eq_true rfl), (Nat.le_of_ble_eq_true rfl)⟩ dX10_copy_73 (fun r9 σ10 => ?_)
            refine j_ifeqB (pc := 76) (tgt := 91) dX10_copy_76 rfl (fun _ => ?_) (fun _ => ?_)
            · refine j_aload_n (pc := 91) 2 dX10_copy_91 rfl rfl ?_
              refine j_iconst (pc := 92) (v := 2) (by decide) dX10_copy_92 ?_
              refine j_callVI (pc := 93) (As := [aI 2]) (st := []) (fun l => c10_found l v0 2) cs_RX10_66 rfl rfl rfl rfl (Nat.le_of_ble_eq_true rfl) ⟨(Nat.le_of_ble_eq_true rfl), (Nat.le_of_ble_eq_true rfl)⟩ ⟨(Nat.le_of_ble_eq_true rfl), (Nat.le_of_ble_eq_true rfl)⟩ dX10_copy_93 (fun r11 σ12 => ?_)
              exact j_ireturn (pc := 96) rfl (Nat.le_of_ble_eq_true rfl) (Nat.le_of_ble_eq_true rfl) dX10_copy_96
            · refine j_aload (pc := 79) 0 dX10_copy_79 rfl ?_
              refine j_iload (pc := 81) 4 dX10_copy_81 rfl ?_
              refine j_iload (pc := 83) 5 dX10_copy_83 rfl ?_
              refine j_callVZ (pc := 85) (As := [aI v4, aI v5]) (st := []) (fun l => c7_hasStretch l i6 v4 v5) cs_RX10_102 rfl rfl rfl rfl (Nat.le_of_ble_eq_true rfl) ⟨(Nat.le_of_ble_eq_true rfl), (Nat.le_of_ble_eq_true rfl)⟩ ⟨(Nat.le_of_ble_eq_true rfl), (Nat.le_of_ble_eq_true rfl)⟩ dX10_copy_85 (fun r13 σ14 => ?_)
              refine j_ifneB (pc := 88) (tgt := 97) dX10_copy_88 rfl (fun _ => ?_) (fun _ => ?_)
              · refine j_aload (pc := 97) 1 dX10_copy_97 rfl ?_
                refine j_getF (pc := 99) fd_13_1 tw_1_176 dX10_copy_99 ?_
                refine j_iload_n (pc := 102) 3 dX10_copy_102 rfl rfl ?_
                refine j_aload (pc := 103) 0 dX10_copy_103 rfl ?_
                refine j_getF (pc := 105) fd_13_1 tw_1_176 dX10_copy_105 ?_
                refine j_iload (pc := 108) 4 dX10_copy_108 rfl ?_
                refine j_iload (pc := 110) 5 dX10_copy_110 rfl ?_
                refine j_ock (fun hn => ?_)
                refine j_copyL (pc := 112) tw_1_239 rfl rfl rfl rfl rfl rfl hn (Nat.le_of_ble_eq_true rfl) (Nat.le_of_ble_eq_true rfl) dX10_copy_112 ?_
                refine j_lets (fun σ15 => ?_)
                refine j_iconst (pc := 115) (v := 0) (by decide) dX10_copy_115 ?_
                exact j_ireturn (pc := 116) rfl (Nat.le_of_ble_eq_true rfl) (Nat.le_of_ble_eq_true rfl) dX10_copy_116
              · refine j_aload_n (pc := 91) 2 dX10_copy_91 rfl rfl ?_
                refine j_iconst (pc := 92) (v := 2) (by decide) dX10_copy_92 ?_
                refine j_callVI (pc := 93) (As := [aI 2]) (st := []) (fun l => c10_found l v0 2) cs_RX10_66 rfl rfl rfl rfl (Nat.le_of_ble_eq_true rfl) ⟨(Nat.le_of_ble_eq_true rfl), (Nat.le_of_ble_eq_true rfl)⟩ ⟨(Nat.le_of_ble_eq_true rfl), (Nat.le_of_ble_eq_true rfl)⟩ dX10_copy_93 (fun r16 σ17 => ?_)
                exact j_ireturn (pc := 96) rfl (Nat.le_of_ble_eq_true rfl) (Nat.le_of_ble_eq_true rfl) dX10_copy_96
          · refine j_aload_n (pc := 62) 2 dX10_copy_62 rfl rfl ?_
            refine j_iconst (pc := 63) (v := 1) (by decide) dX10_copy_63 ?_
            refine j_callVI (pc := 64) (As := [aI 1]) (st := []) (fun l => c10_found l v0 1) cs_RX10_66 rfl rfl rfl rfl (Nat.le_of_ble_eq_true rfl) ⟨(Nat.le_of_ble_eq_true rfl), (Nat.le_of_ble_eq_true rfl)⟩ ⟨(Nat.le_of_ble_eq_true rfl), (Nat.le_of_ble_eq_true rfl)⟩ dX10_copy_64 (fun r18 σ19 => ?_)
            exact j_ireturn (pc := 67) rfl (Nat.le_of_ble_eq_true rfl) (Nat.le_of_ble_eq_true rfl) dX10_copy_67
      · refine j_aload_n (pc := 40) 2 dX10_copy_40 rfl rfl ?_
        refine j_iconst (pc := 41) (v := 3) (by decide) dX10_copy_41 ?_
        refine j_callVI (pc := 42) (As := [aI 3]) (st := []) (fun l => c10_found l v0 3) cs_RX10_66 rfl rfl rfl rfl (Nat.le_of_ble_eq_true rfl) ⟨(Nat.le_of_ble_eq_true rfl), (Nat.le_of_ble_eq_true rfl)⟩ ⟨(Nat.le_of_ble_eq_true rfl), (Nat.le_of_ble_eq_true rfl)⟩ dX10_copy_42 (fun r20 σ21 => ?_)
        exact j_ireturn (pc := 45) rfl (Nat.le_of_ble_eq_true rfl) (Nat.le_of_ble_eq_true rfl) dX10_copy_45
theorem c10_copy (l : Launch) (v0 : Nat) (v1 : Int32) (v2 : Int32) (v3 : Int32) (v4 : Int32) (v5 : Int32) : Ctr l yX10_copy cX10_copy 8 (some .int) rm10_copy eI [aR 0 v0, aI v1, aI v2, aI v3, aI v4, aI v5] (f10_copy v0 v1 v2 v3 v4 v5) := ctr_of (lv := [(0, aR 0 v0), (1, aI v1), (2, aI v2), (3, aI v3), (4, aI v4), (5, aI v5)]) (by decide +kernel) (fun _ => rfl) (fun _ => (Nat.le_of_ble_eq_true rfl)) (fun _ h => lvl_als h rfl) (fun _ σ _ => j10_copy v0 v1 v2 v3 v4 v5 σ)
abbrev rm10_isCoder : Room := { frames := 0, cells := 0, slots := 0, locals := 0 }
set_option maxRecDepth 20000 in
set_option maxHeartbeats 4000000 in
theorem j10_isCoder {Γ : jX} {tg : Bool × rS} (v0 : Int32) (σ : rS) : J Γ rm10_isCoder eZ cX10_isCoder RX10 1 (some .boolean) tg 0 0 0 [(0, aI v0)] [] σ (f10_isCoder v0 σ) := by
  unfold f10_isCoder
  refine j_iload_n (pc := 0) 0 dX10_isCoder_0 rfl rfl ?_
  refine j_iflt (pc := 1) (tgt := 13) dX10_isCoder_1 rfl (fun _ => ?_) (fun _ => ?_)
  · refine j_iconst (pc := 13) (v := 0) (by decide) dX10_isCoder_13 ?_
    exact j_zret0 (pc := 14) rfl (Nat.le_of_ble_eq_true rfl) (Nat.le_of_ble_eq_true rfl) dX10_isCoder_14
  · refine j_iload_n (pc := 4) 0 dX10_isCoder_4 rfl rfl ?_
    refine j_iconst (pc := 5) (v := 4) (by decide) dX10_isCoder_5 ?_
    refine j_icmpgt (pc := 6) (tgt := 13) dX10_isCoder_6 rfl (fun _ => ?_) (fun _ => ?_)
    · refine j_iconst (pc := 13) (v := 0) (by decide) dX10_isCoder_13 ?_
      exact j_zret0 (pc := 14) rfl (Nat.le_of_ble_eq_true rfl) (Nat.le_of_ble_eq_true rfl) dX10_isCoder_14
    · refine j_iconst (pc := 9) (v := 1) (by decide) dX10_isCoder_9 ?_
      refine j_goto (pc := 10) (tgt := 14) dX10_isCoder_10 rfl ?_
      exact j_zret1 (pc := 14) rfl (Nat.le_of_ble_eq_true rfl) (Nat.le_of_ble_eq_true rfl) dX10_isCoder_14
theorem c10_isCoder (l : Launch) (v0 : Int32) : Ctr l yX10_isCoder cX10_isCoder 1 (some .boolean) rm10_isCoder eZ [aI v0] (f10_isCoder v0) := ctr_of (lv := [(0, aI v0)]) (by decide +kernel) (fun _ => rfl) (fun _ => (Nat.le_of_ble_eq_true rfl)) (fun _ h => lvl_als h rfl) (fun _ σ _ => j10_isCoder v0 σ)
theorem cs_RX10_149 : CaS RX10 149 yX10_isCoder cX10_isCoder 1 (some .boolean) 1 := ⟨tw_2_162, tw_2_163, tw_1_1, tw_2_164, by decide +kernel, by decide +kernel, by decide +kernel⟩
abbrev rm10_cost : Room := { frames := 4, cells := 0, slots := 0, locals := 94 }
set_option maxRecDepth 20000 in
set_option maxHeartbeats 4000000 in
theorem j10_cost {Γ : jX} {tg : Int32 × rS} (N : Nat) (v0 : Nat) (v1 : Int32) (v2 : Int32) (σ : rS) : J Γ rm10_cost eI cX10_cost RX10 4 (some .int) tg 0 0 0 [(0, aR 0 v0), (1, aI v1), (2, aI v2)] [] σ (f10_cost N v0 v1 v2 σ) := by
  unfold f10_cost
  refine j_aload_n (pc := 0) 0 dX10_cost_0 rfl rfl ?_
  refine j_iload_n (pc := 1) 1 dX10_cost_1 rfl rfl ?_
  refine j_callVR (pc := 2) (As := [aI v1]) (st := []) (fun l => c10_rowNumbered l v0 v1) cs_RX10_74 rfl rfl rfl rfl (Nat.le_of_ble_eq_true rfl) ⟨(Nat.le_of_ble_eq_true rfl), (Nat.le_of_ble_eq_true rfl)⟩ ⟨(Nat.le_of_ble_eq_true rfl), (Nat.le_of_ble_eq_true rfl)⟩ dX10_cost_2 (fun r1 σ2 => ?_)
  refine j_astore_n (pc := 5) (lv' := [(3, aO 13 r1), (0, aR 0 v0), (1, aI v1), (2, aI v2)]) dX10_cost_5 rfl (Nat.le_of_ble_eq_true rfl) rfl ?_
  refine j_sub [0, 1, 3] (lv' := [(3, aO 13 r1), (0, aR 0 v0), (2, aI v2)]) rfl ?_
  refine j_aload_n (pc := 6) 0 dX10_cost_6 rfl rfl ?_
  refine j_ifnonnull (pc := 7) (tgt := 13) dX10_cost_7 rfl (fun hm => ?_) (fun i3 hm => ?_)
  · subst hm
    refine j_bipush (pc := 10) (v := (-101)) (by decide) dX10_cost_10 ?_
    exact j_ireturn (pc := 12) rfl (Nat.le_of_ble_eq_true rfl) (Nat.le_of_ble_eq_true rfl) dX10_cost_12
  · subst hm
    refine j_iload_n (pc := 13) 2 dX10_cost_13 rfl rfl ?_
    refine j_callSZ (pc := 14) (As := [aI v2]) (st := []) (fun l => c10_isCoder l v2) cs_RX10_149 rfl rfl (Nat.le_of_ble_eq_true rfl) ⟨(Nat.le_of_ble_eq_true rfl), (Nat.le_of_ble_eq_true rfl)⟩ ⟨(Nat.le_of_ble_eq_true rfl), (Nat.le_of_ble_eq_true rfl)⟩ dX10_cost_14 (fun r4 σ5 => ?_)
    refine j_ifneB (pc := 17) (tgt := 23) dX10_cost_17 rfl (fun _ => ?_) (fun _ => ?_)
    · refine j_aload_n (pc := 23) 0 dX10_cost_23 rfl rfl ?_
      refine j_getI (pc := 24) fd_13_2 tw_1_177 dX10_cost_24 ?_
      refine j_ifeq (pc := 27) (tgt := 36) dX10_cost_27 rfl (fun _ => ?_) (fun _ => ?_)
      · refine j_aload_n (pc := 36) 1 dX10_cost_36 rfl rfl ?_
        refine j_getF (pc := 37) fd_0_5 tw_1_114 dX10_cost_37 ?_
        refine j_iload_n (pc := 40) 2 dX10_cost_40 rfl rfl ?_
        refine j_aload_n (pc := 41) 0 dX10_cost_41 rfl rfl ?_
        refine j_getF (pc := 42) fd_13_1 tw_1_176 dX10_cost_42 ?_
        refine j_aload_n (pc := 45) 0 dX10_cost_45 rfl rfl ?_
        refine j_getF (pc := 46) fd_13_1 tw_1_176 dX10_cost_46 ?_
        refine j_alen (pc := 49) rfl (by decide) dX10_cost_49 ?_
        refine j_callVV (pc := 50) (As := [aI v2, aR 14 i3, aI (nI (gN σ5 14 i3))]) (st := []) (fun l => c5_pack l N 14 ⟨rfl, rfl, rfl⟩ v0 v2 i3 (nI (gN σ5 14 i3))) cs_RX10_155 rfl rfl rfl rfl (Nat.le_of_ble_eq_true rfl) ⟨(Nat.le_of_ble_eq_true rfl), (Nat.le_of_ble_eq_true rfl)⟩ ⟨(Nat.le_of_ble_eq_true rfl), (Nat.le_of_ble_eq_true rfl)⟩ dX10_cost_50 (fun r6 σ7 => ?_)
        refine j_aload_n (pc := 53) 1 dX10_cost_53 rfl rfl ?_
        refine j_getF (pc := 54) fd_0_5 tw_1_114 dX10_cost_54 ?_
        refine j_getI (pc := 57) fd_8_1 tw_1_63 dX10_cost_57 ?_
        exact j_ireturn (pc := 60) rfl (Nat.le_of_ble_eq_true rfl) (Nat.le_of_ble_eq_true rfl) dX10_cost_60
      · refine j_aload_n (pc := 30) 1 dX10_cost_30 rfl rfl ?_
        refine j_iconst (pc := 31) (v := 1) (by decide) dX10_cost_31 ?_
        refine j_callVI (pc := 32) (As := [aI 1]) (st := []) (fun l => c10_found l v0 1) cs_RX10_66 rfl rfl rfl rfl (Nat.le_of_ble_eq_true rfl) ⟨(Nat.le_of_ble_eq_true rfl), (Nat.le_of_ble_eq_true rfl)⟩ ⟨(Nat.le_of_ble_eq_true rfl), (Nat.le_of_ble_eq_true rfl)⟩ dX10_cost_32 (fun r8 σ9 => ?_)
        exact j_ireturn (pc := 35) rfl (Nat.le_of_ble_eq_true rfl) (Nat.le_of_ble_eq_true rfl) dX10_cost_35
    · refine j_bipush (pc := 20) (v := (-102)) (by decide) dX10_cost_20 ?_
      exact j_ireturn (pc := 22) rfl (Nat.le_of_ble_eq_true rfl) (Nat.le_of_ble_eq_true rfl) dX10_cost_22
theorem c10_cost (l : Launch) (N : Nat) (v0 : Nat) (v1 : Int32) (v2 : Int32) : Ctr l yX10_cost cX10_cost 4 (some .int) rm10_cost eI [aR 0 v0, aI v1, aI v2] (f10_cost N v0 v1 v2) := ctr_of (lv := [(0, aR 0 v0), (1, aI v1), (2, aI v2)]) (by decide +kernel) (fun _ => rfl) (fun _ => (Nat.le_of_ble_eq_true rfl)) (fun _ h => lvl_als h rfl) (fun _ σ _ => j10_cost N v0 v1 v2 σ)
abbrev rm10_count : Room := { frames := 0, cells := 0, slots := 0, locals := 0 }
set_option maxRecDepth 20000 in
set_option maxHeartbeats 4000000 in
theorem j10_count {Γ : jX} {tg : Int32 × rS} (v0 : Nat) (v1 : Int32) (σ : rS) : J Γ rm10_count eI cX10_count RX10 2 (some .int) tg 0 0 0 [(0, aR 0 v0), (1, aI v1)] [] σ (f10_count v0 v1 σ) := by
  unfold f10_count
  refine j_iload_n (pc := 0) 1 dX10_count_0 rfl rfl ?_
  refine j_case 0 (fun h0 => ?_) (fun h0 => ?_)
  · refine j_tableIn (pc := 1) (off := 39) (tgt := 40) dX10_count_1 (by rw [h0]; decide) (by rw [h0]; decide) (by rw [h0]; rfl) rfl ?_
    refine j_aload_n (pc := 40) 0 dX10_count_40 rfl rfl ?_
    refine j_getI (pc := 41) fd_0_8 tw_1_117 dX10_count_41 ?_
    exact j_ireturn (pc := 44) rfl (Nat.le_of_ble_eq_true rfl) (Nat.le_of_ble_eq_true rfl) dX10_count_44
  · refine j_case 1 (fun h1 => ?_) (fun h1 => ?_)
    · refine j_tableIn (pc := 1) (off := 44) (tgt := 45) dX10_count_1 (by rw [h1]; decide) (by rw [h1]; decide) (by rw [h1]; rfl) rfl ?_
      refine j_aload_n (pc := 45) 0 dX10_count_45 rfl rfl ?_
      refine j_getI (pc := 46) fd_0_9 tw_1_118 dX10_count_46 ?_
      exact j_ireturn (pc := 49) rfl (Nat.le_of_ble_eq_true rfl) (Nat.le_of_ble_eq_true rfl) dX10_count_49
    · refine j_case 2 (fun h2 => ?_) (fun h2 => ?_)
      · refine j_tableIn (pc := 1) (off := 49) (tgt := 50) dX10_count_1 (by rw [h2]; decide) (by rw [h2]; decide) (by rw [h2]; rfl) rfl ?_
        refine j_aload_n (pc := 50) 0 dX10_count_50 rfl rfl ?_
        refine j_getF (pc := 51) fd_0_4 tw_1_113 dX10_count_51 ?_
        refine j_getI (pc := 54) fd_6_1 tw_1_44 dX10_count_54 ?_
        exact j_ireturn (pc := 57) rfl (Nat.le_of_ble_eq_true rfl) (Nat.le_of_ble_eq_true rfl) dX10_count_57
      · refine j_case 3 (fun h3 => ?_) (fun h3 => ?_)
        · refine j_tableIn (pc := 1) (off := 57) (tgt := 58) dX10_count_1 (by rw [h3]; decide) (by rw [h3]; decide) (by rw [h3]; rfl) rfl ?_
          refine j_aload_n (pc := 58) 0 dX10_count_58 rfl rfl ?_
          refine j_getF (pc := 59) fd_0_4 tw_1_113 dX10_count_59 ?_
          refine j_getI (pc := 62) fd_6_2 tw_1_46 dX10_count_62 ?_
          exact j_ireturn (pc := 65) rfl (Nat.le_of_ble_eq_true rfl) (Nat.le_of_ble_eq_true rfl) dX10_count_65
        · refine j_case 4 (fun h4 => ?_) (fun h4 => ?_)
          · refine j_tableIn (pc := 1) (off := 65) (tgt := 66) dX10_count_1 (by rw [h4]; decide) (by rw [h4]; decide) (by rw [h4]; rfl) rfl ?_
            refine j_aload_n (pc := 66) 0 dX10_count_66 rfl rfl ?_
            refine j_getI (pc := 67) fd_0_10 tw_1_119 dX10_count_67 ?_
            exact j_ireturn (pc := 70) rfl (Nat.le_of_ble_eq_true rfl) (Nat.le_of_ble_eq_true rfl) dX10_count_70
          · refine j_case 5 (fun h5 => ?_) (fun h5 => ?_)
            · refine j_tableIn (pc := 1) (off := 70) (tgt := 71) dX10_count_1 (by rw [h5]; decide) (by rw [h5]; decide) (by rw [h5]; rfl) rfl ?_
              refine j_aload_n (pc := 71) 0 dX10_count_71 rfl rfl ?_
              refine j_getI (pc := 72) fd_0_11 tw_1_120 dX10_count_72 ?_
              exact j_ireturn (pc := 75) rfl (Nat.le_of_ble_eq_true rfl) (Nat.le_of_ble_eq_true rfl) dX10_count_75
            · have g0 := lv_neT h0 (show ((0 : Int32)).toInt = 0 by decide)
              have g1 := lv_neT h1 (show ((1 : Int32)).toInt = 1 by decide)
              have g2 := lv_neT h2 (show ((2 : Int32)).toInt = 2 by decide)
              have g3 := lv_neT h3 (show ((3 : Int32)).toInt = 3 by decide)
              have g4 := lv_neT h4 (show ((4 : Int32)).toInt = 4 by decide)
              have g5 := lv_neT h5 (show ((5 : Int32)).toInt = 5 by decide)
              refine j_tableOut (pc := 1) (tgt := 76) dX10_count_1 (by omega) rfl ?_
              refine j_bipush (pc := 76) (v := (-102)) (by decide) dX10_count_76 ?_
              exact j_ireturn (pc := 78) rfl (Nat.le_of_ble_eq_true rfl) (Nat.le_of_ble_eq_true rfl) dX10_count_78
theorem c10_count (l : Launch) (v0 : Nat) (v1 : Int32) : Ctr l yX10_count cX10_count 2 (some .int) rm10_count eI [aR 0 v0, aI v1] (f10_count v0 v1) := ctr_of (lv := [(0, aR 0 v0), (1, aI v1)]) (by decide +kernel) (fun _ => rfl) (fun _ => (Nat.le_of_ble_eq_true rfl)) (fun _ h => lvl_als h rfl) (fun _ σ _ => j10_count v0 v1 σ)
theorem cs_RX10_262 : CaV RX10 RX1 262 yX1_fill cX1_fill 7 none 2 := ⟨tw_3_217, tw_3_218, tw_3_219, tw_1_17, tw_3_220, rfl, by decide +kernel, by decide +kernel, by decide +kernel⟩
abbrev rm10_delta : Room := { frames := 4, cells := 4, slots := 1208, locals := 98 }
set_option maxRecDepth 20000 in
set_option maxHeartbeats 4000000 in
theorem j10_delta {Γ : jX} {tg : Int32 × rS} (N : Nat) (v0 : Nat) (v1 : Int32) (v2 : Int32) (σ : rS) : J Γ rm10_delta eI cX10_delta RX10 5 (some .int) tg 0 0 0 [(0, aR 0 v0), (1, aI v1), (2, aI v2)] [] σ (f10_delta N v0 v1 v2 σ) := by
  unfold f10_delta
  refine j_aload_n (pc := 0) 0 dX10_delta_0 rfl rfl ?_
  refine j_iload_n (pc := 1) 1 dX10_delta_1 rfl rfl ?_
  refine j_callVR (pc := 2) (As := [aI v1]) (st := []) (fun l => c10_streamNumbered l v0 v1) cs_RX10_145 rfl rfl rfl rfl (Nat.le_of_ble_eq_true rfl) ⟨(Nat.le_of_ble_eq_true rfl), (Nat.le_of_ble_eq_true rfl)⟩ ⟨(Nat.le_of_ble_eq_true rfl), (Nat.le_of_ble_eq_true rfl)⟩ dX10_delta_2 (fun r1 σ2 => ?_)
  refine j_astore_n (pc := 5) (lv' := [(3, aO 15 r1), (0, aR 0 v0), (1, aI v1), (2, aI v2)]) dX10_delta_5 rfl (Nat.le_of_ble_eq_true rfl) rfl ?_
  refine j_sub [0, 1, 3] (lv' := [(3, aO 15 r1), (0, aR 0 v0), (2, aI v2)]) rfl ?_
  refine j_aload_n (pc := 6) 1 dX10_delta_6 rfl rfl ?_
  refine j_iload_n (pc := 7) 2 dX10_delta_7 rfl rfl ?_
  refine j_callVR (pc := 8) (As := [aI v2]) (st := []) (fun l => c10_streamNumbered l v0 v2) cs_RX10_145 rfl rfl rfl rfl (Nat.le_of_ble_eq_true rfl) ⟨(Nat.le_of_ble_eq_true rfl), (Nat.le_of_ble_eq_true rfl)⟩ ⟨(Nat.le_of_ble_eq_true rfl), (Nat.le_of_ble_eq_true rfl)⟩ dX10_delta_8 (fun r3 σ4 => ?_)
  refine j_astore (pc := 11) (lv' := [(4, aO 15 r3), (3, aO 15 r1), (0, aR 0 v0), (2, aI v2)]) dX10_delta_11 (Nat.le_of_ble_eq_true rfl) rfl ?_
  refine j_sub [0, 1, 2] (lv' := [(4, aO 15 r3), (3, aO 15 r1), (0, aR 0 v0)]) rfl ?_
  refine j_aload_n (pc := 13) 1 dX10_delta_13 rfl rfl ?_
  refine j_ifnull (pc := 14) (tgt := 22) dX10_delta_14 rfl (fun hm => ?_) (fun i5 hm => ?_)
  · subst hm
    refine j_bipush (pc := 22) (v := (-101)) (by decide) dX10_delta_22 ?_
    exact j_ireturn (pc := 24) rfl (Nat.le_of_ble_eq_true rfl) (Nat.le_of_ble_eq_true rfl) dX10_delta_24
  · subst hm
    refine j_aload (pc := 17) 0 dX10_delta_17 rfl ?_
    refine j_ifnonnull (pc := 19) (tgt := 25) dX10_delta_19 rfl (fun hm => ?_) (fun i6 hm => ?_)
    · subst hm
      refine j_bipush (pc := 22) (v := (-101)) (by decide) dX10_delta_22 ?_
      exact j_ireturn (pc := 24) rfl (Nat.le_of_ble_eq_true rfl) (Nat.le_of_ble_eq_true rfl) dX10_delta_24
    · subst hm
      refine j_aload_n (pc := 25) 2 dX10_delta_25 rfl rfl ?_
      refine j_getI (pc := 26) fd_0_11 tw_1_120 dX10_delta_26 ?_
      refine j_bipush (pc := 29) (v := 16) (by decide) dX10_delta_29 ?_
      refine j_icmplt (pc := 31) (tgt := 37) dX10_delta_31 rfl (fun _ => ?_) (fun _ => ?_)
      · refine j_aload_n (pc := 37) 2 dX10_delta_37 rfl rfl ?_
        refine j_getF (pc := 38) fd_0_3 tw_1_112 dX10_delta_38 ?_
        refine j_aload_n (pc := 41) 2 dX10_delta_41 rfl rfl ?_
        refine j_getI (pc := 42) fd_0_11 tw_1_120 dX10_delta_42 ?_
        refine j_newDelta10 (pc := 45) dX10_delta_45 dX10_delta_48 dX10_delta_49 dX10_delta_50 dX10_delta_52 1 0 rfl rfl (Nat.le_of_ble_eq_true rfl) ⟨(Nat.le_of_ble_eq_true rfl), (Nat.le_of_ble_eq_true rfl)⟩ ⟨(Nat.le_of_ble_eq_true rfl), (Nat.le_of_ble_eq_true rfl)⟩ (fun i7 σ8 => ?_)
        refine j_aast (pc := 55) rfl rfl rfl rfl rfl dX10_delta_55 (fun j9 => ?_)
        refine j_lets (fun σ10 => ?_)
        refine j_aload_n (pc := 56) 2 dX10_delta_56 rfl rfl ?_
        refine j_getF (pc := 57) fd_0_3 tw_1_112 dX10_delta_57 ?_
        refine j_aload_n (pc := 60) 2 dX10_delta_60 rfl rfl ?_
        refine j_getI (pc := 61) fd_0_11 tw_1_120 dX10_delta_61 ?_
        refine j_aald (pc := 64) rfl rfl rfl dX10_delta_64 (fun j11 o12 => ?_)
        refine j_aload_n (pc := 65) 1 dX10_delta_65 rfl rfl ?_
        refine j_aload (pc := 66) 0 dX10_delta_66 rfl ?_
        refine j_must (fun i13 hm => ?_)
        subst hm
        refine j_callVV (pc := 68) (As := [aR 15 i5, aR 15 i6]) (st := []) (fun l => c1_fill l N i13 i5 i6) cs_RX10_262 rfl rfl rfl rfl (Nat.le_of_ble_eq_true rfl) ⟨(Nat.le_of_ble_eq_true rfl), (Nat.le_of_ble_eq_true rfl)⟩ ⟨(Nat.le_of_ble_eq_true rfl), (Nat.le_of_ble_eq_true rfl)⟩ dX10_delta_68 (fun r14 σ15 => ?_)
        refine j_aload_n (pc := 71) 2 dX10_delta_71 rfl rfl ?_
        refine j_dup (pc := 72) dX10_delta_72 rfl ?_
        refine j_getI (pc := 73) fd_0_11 tw_1_120 dX10_delta_73 ?_
        refine j_iconst (pc := 76) (v := 1) (by decide) dX10_delta_76 ?_
        refine j_iadd (pc := 77) dX10_delta_77 ?_
        refine j_putI (pc := 78) fd_0_11 rfl rfl tw_1_120 dX10_delta_78 ?_
        refine j_lets (fun σ16 => ?_)
        refine j_aload_n (pc := 81) 2 dX10_delta_81 rfl rfl ?_
        refine j_getI (pc := 82) fd_0_11 tw_1_120 dX10_delta_82 ?_
        refine j_iconst (pc := 85) (v := 1) (by decide) dX10_delta_85 ?_
        refine j_isub (pc := 86) dX10_delta_86 ?_
        exact j_ireturn (pc := 87) rfl (Nat.le_of_ble_eq_true rfl) (Nat.le_of_ble_eq_true rfl) dX10_delta_87
      · refine j_bipush (pc := 34) (v := (-104)) (by decide) dX10_delta_34 ?_
        exact j_ireturn (pc := 36) rfl (Nat.le_of_ble_eq_true rfl) (Nat.le_of_ble_eq_true rfl) dX10_delta_36
theorem c10_delta (l : Launch) (N : Nat) (v0 : Nat) (v1 : Int32) (v2 : Int32) : Ctr l yX10_delta cX10_delta 5 (some .int) rm10_delta eI [aR 0 v0, aI v1, aI v2] (f10_delta N v0 v1 v2) := ctr_of (lv := [(0, aR 0 v0), (1, aI v1), (2, aI v2)]) (by decide +kernel) (fun _ => rfl) (fun _ => (Nat.le_of_ble_eq_true rfl)) (fun _ h => lvl_als h rfl) (fun _ σ _ => j10_delta N v0 v1 v2 σ)
abbrev rm10_mixed : Room := { frames := 0, cells := 0, slots := 0, locals := 0 }
set_option maxRecDepth 20000 in
set_option maxHeartbeats 4000000 in
theorem j10_mixed {Γ : jX} {tg : Int64 × rS} (v0 : Int64) (v2 : Int64) (σ : rS) : J Γ rm10_mixed eL cX10_mixed RX10 4 (some .long) tg 0 0 0 [(0, aL v0), (2, aL v2)] [] σ (f10_mixed v0 v2 σ) := by
  unfold f10_mixed
  refine j_ldc2 (pc := 0) tw_4_46 dX10_mixed_0 ?_
  refine j_lload_n (pc := 3) 0 dX10_mixed_3 rfl rfl ?_
  refine j_lmul (pc := 4) dX10_mixed_4 ?_
  refine j_lload_n (pc := 5) 1 dX10_mixed_5 rfl rfl ?_
  refine j_ladd (pc := 6) dX10_mixed_6 ?_
  exact j_lreturn (pc := 7) rfl (Nat.le_of_ble_eq_true rfl) (Nat.le_of_ble_eq_true rfl) dX10_mixed_7
theorem c10_mixed (l : Launch) (v0 : Int64) (v2 : Int64) : Ctr l yX10_mixed cX10_mixed 4 (some .long) rm10_mixed eL [aL v0, aL v2] (f10_mixed v0 v2) := ctr_of (lv := [(0, aL v0), (2, aL v2)]) (by decide +kernel) (fun _ => rfl) (fun _ => (Nat.le_of_ble_eq_true rfl)) (fun _ h => lvl_als h rfl) (fun _ σ _ => j10_mixed v0 v2 σ)
theorem cs_RX10_295 : CaS RX10 295 yX10_mixed cX10_mixed 4 (some .long) 2 := ⟨tw_4_43, tw_4_44, tw_1_1, tw_4_45, by decide +kernel, by decide +kernel, by decide +kernel⟩
abbrev rm10_mixedWithHouse : Room := { frames := 1, cells := 0, slots := 0, locals := 23 }
set_option maxRecDepth 20000 in
set_option maxHeartbeats 4000000 in
theorem jb10_mixedWithHouse_12 {Γ : jX} {tg : Int64 × rS} (N : Nat) (K12 : Int64 → Nat → Int32 → rS → Option (Int64 × rS)) (hK12 : ∀ (v0 : Int64) (v2 : Nat) (v3 : Int32) (σ : rS), J Γ rm10_mixedWithHouse eL cX10_mixedWithHouse RX10 4 (some .long) tg 0 0 12 [(0, aL v0), (2, aR 17 v2), (3, aI v3)] [] σ (K12 v0 v2 v3 σ)) (v0 : Int64) (v2 : Nat) (v3 : Int32) (σ : rS) : J Γ rm10_mixedWithHouse eL cX10_mixedWithHouse RX10 4 (some .long) tg 0 0 12 [(0, aL v0), (2, aR 17 v2), (3, aI v3)] [] σ (B10_mixedWithHouse_12 N K12 v0 v2 v3 σ) := by
  unfold B10_mixedWithHouse_12
  refine j_iload_n (pc := 12) 2 dX10_mixedWithHouse_12 rfl rfl ?_
  refine j_aload_n (pc := 13) 1 dX10_mixedWithHouse_13 rfl rfl ?_
  refine j_getI (pc := 14) fd_17_2 tw_3_92 dX10_mixedWithHouse_14 ?_
  refine j_icmpge (pc := 17) (tgt := 52) dX10_mixedWithHouse_17 rfl (fun _ => ?_) (fun _ => ?_)
  · refine j_lload_n (pc := 52) 0 dX10_mixedWithHouse_52 rfl rfl ?_
    exact j_lreturn (pc := 53) rfl (Nat.le_of_ble_eq_true rfl) (Nat.le_of_ble_eq_true rfl) dX10_mixedWithHouse_53
  · refine j_lload_n (pc := 20) 0 dX10_mixedWithHouse_20 rfl rfl ?_
    refine j_aload_n (pc := 21) 1 dX10_mixedWithHouse_21 rfl rfl ?_
    refine j_getF (pc := 22) fd_17_0 tw_3_88 dX10_mixedWithHouse_22 ?_
    refine j_iload_n (pc := 25) 2 dX10_mixedWithHouse_25 rfl rfl ?_
    refine j_lald (pc := 26) rfl rfl rfl dX10_mixedWithHouse_26 (fun j1 => ?_)
    refine j_callSL (pc := 27) (As := [aL v0, aL (gL σ 18 v2 j1)]) (st := []) (fun l => c10_mixed l v0 (gL σ 18 v2 j1)) cs_RX10_295 rfl rfl (Nat.le_of_ble_eq_true rfl) ⟨(Nat.le_of_ble_eq_true rfl), (Nat.le_of_ble_eq_true rfl)⟩ ⟨(Nat.le_of_ble_eq_true rfl), (Nat.le_of_ble_eq_true rfl)⟩ dX10_mixedWithHouse_27 (fun r2 σ3 => ?_)
    refine j_lstore_n (pc := 30) (lv' := [(0, aL r2), (2, aR 17 v2), (3, aI v3)]) dX10_mixedWithHouse_30 rfl (Nat.le_of_ble_eq_true rfl) rfl ?_
    refine j_lload_n (pc := 31) 0 dX10_mixedWithHouse_31 rfl rfl ?_
    refine j_aload_n (pc := 32) 1 dX10_mixedWithHouse_32 rfl rfl ?_
    refine j_getF (pc := 33) fd_17_1 tw_3_90 dX10_mixedWithHouse_33 ?_
    refine j_iload_n (pc := 36) 2 dX10_mixedWithHouse_36 rfl rfl ?_
    refine j_aald (pc := 37) rfl rfl rfl dX10_mixedWithHouse_37 (fun j4 o5 => ?_)
    refine j_must (fun i6 hm => ?_)
    subst hm
    refine j_getI (pc := 38) fd_20_2 tw_3_132 dX10_mixedWithHouse_38 ?_
    refine j_i2l (pc := 41) dX10_mixedWithHouse_41 ?_
    refine j_callSL (pc := 42) (As := [aL r2, aL (Int32.toInt64 (gI σ3 20 i6 2))]) (st := []) (fun l => c10_mixed l r2 (Int32.toInt64 (gI σ3 20 i6 2))) cs_RX10_295 rfl rfl (Nat.le_of_ble_eq_true rfl) ⟨(Nat.le_of_ble_eq_true rfl), (Nat.le_of_ble_eq_true rfl)⟩ ⟨(Nat.le_of_ble_eq_true rfl), (Nat.le_of_ble_eq_true rfl)⟩ dX10_mixedWithHouse_42 (fun r7 σ8 => ?_)
    refine j_lstore_n (pc := 45) (lv' := [(0, aL r7), (2, aR 17 v2), (3, aI v3)]) dX10_mixedWithHouse_45 rfl (Nat.le_of_ble_eq_true rfl) rfl ?_
    refine j_iinc (pc := 46) (w := 1) (lv' := [(3, aI (v3 + 1)), (0, aL r7), (2, aR 17 v2)]) 2 dX10_mixedWithHouse_46 rfl (by decide) (Nat.le_of_ble_eq_true rfl) rfl ?_
    refine j_goto (pc := 49) (tgt := 12) dX10_mixedWithHouse_49 rfl ?_
    refine j_sub [1, 2, 0] (lv' := [(0, aL r7), (2, aR 17 v2), (3, aI (v3 + 1))]) rfl ?_
    exact hK12 r7 v2 (v3 + 1) σ8
theorem jl10_mixedWithHouse_12 {Γ : jX} {tg : Int64 × rS} (N : Nat) : ∀ (n : Nat) (v0 : Int64) (v2 : Nat) (v3 : Int32) (σ : rS), J Γ rm10_mixedWithHouse eL cX10_mixedWithHouse RX10 4 (some .long) tg 0 0 12 [(0, aL v0), (2, aR 17 v2), (3, aI v3)] [] σ (L10_mixedWithHouse_12 N n v0 v2 v3 σ) := by
  intro n
  induction n with
  | zero => intro v0 v2 v3 σ; exact j_none
  | succ n ih => intro v0 v2 v3 σ; exact jb10_mixedWithHouse_12 N (L10_mixedWithHouse_12 N n) ih v0 v2 v3 σ
set_option maxRecDepth 20000 in
set_option maxHeartbeats 4000000 in
theorem j10_mixedWithHouse {Γ : jX} {tg : Int64 × rS} (N : Nat) (v0 : Int64) (v2 : Nat) (σ : rS) : J Γ rm10_mixedWithHouse eL cX10_mixedWithHouse RX10 4 (some .long) tg 0 0 0 [(0, aL v0), (2, aR 17 v2)] [] σ (f10_mixedWithHouse N v0 v2 σ) := by
  unfold f10_mixedWithHouse
  refine j_lload_n (pc := 0) 0 dX10_mixedWithHouse_0 rfl rfl ?_
  refine j_aload_n (pc := 1) 1 dX10_mixedWithHouse_1 rfl rfl ?_
  refine j_getI (pc := 2) fd_17_2 tw_3_92 dX10_mixedWithHouse_2 ?_
  refine j_i2l (pc := 5) dX10_mixedWithHouse_5 ?_
  refine j_callSL (pc := 6) (As := [aL v0, aL (Int32.toInt64 (gI σ 17 v2 2))]) (st := []) (fun l => c10_mixed l v0 (Int32.toInt64 (gI σ 17 v2 2))) cs_RX10_295 rfl rfl (Nat.le_of_ble_eq_true rfl) ⟨(Nat.le_of_ble_eq_true rfl), (Nat.le_of_ble_eq_true rfl)⟩ ⟨(Nat.le_of_ble_eq_true rfl), (Nat.le_of_ble_eq_true rfl)⟩ dX10_mixedWithHouse_6 (fun r1 σ2 => ?_)
  refine j_lstore_n (pc := 9) (lv' := [(0, aL r1), (2, aR 17 v2)]) dX10_mixedWithHouse_9 rfl (Nat.le_of_ble_eq_true rfl) rfl ?_
  refine j_iconst (pc := 10) (v := 0) (by decide) dX10_mixedWithHouse_10 ?_
  refine j_istore_n (pc := 11) (lv' := [(3, aI 0), (0, aL r1), (2, aR 17 v2)]) dX10_mixedWithHouse_11 rfl (Nat.le_of_ble_eq_true rfl) rfl ?_
  refine j_sub [1, 2, 0] (lv' := [(0, aL r1), (2, aR 17 v2), (3, aI 0)]) rfl ?_
  exact jl10_mixedWithHouse_12 N  N r1 v2 0 σ2
theorem c10_mixedWithHouse (l : Launch) (N : Nat) (v0 : Int64) (v2 : Nat) : Ctr l yX10_mixedWithHouse cX10_mixedWithHouse 4 (some .long) rm10_mixedWithHouse eL [aL v0, aR 17 v2] (f10_mixedWithHouse N v0 v2) := ctr_of (lv := [(0, aL v0), (2, aR 17 v2)]) (by decide +kernel) (fun _ => rfl) (fun _ => (Nat.le_of_ble_eq_true rfl)) (fun _ h => lvl_als h rfl) (fun _ σ _ => j10_mixedWithHouse N v0 v2 σ)
abbrev rm10_mixedWithRow : Room := { frames := 1, cells := 0, slots := 0, locals := 23 }
set_option maxRecDepth 20000 in
set_option maxHeartbeats 4000000 in
theorem jb10_mixedWithRow_48 {Γ : jX} {tg : Int64 × rS} (N : Nat) (K48 : Int64 → Nat → Int32 → Int32 → rS → Option (Int64 × rS)) (hK48 : ∀ (v0 : Int64) (v3 : Nat) (v4 : Int32) (v5 : Int32) (σ : rS), J Γ rm10_mixedWithRow eL cX10_mixedWithRow RX10 8 (some .long) tg 0 0 48 [(0, aL v0), (3, aR 14 v3), (4, aI v4), (5, aI v5)] [] σ (K48 v0 v3 v4 v5 σ)) (v0 : Int64) (v3 : Nat) (v4 : Int32) (v5 : Int32) (σ : rS) : J Γ rm10_mixedWithRow eL cX10_mixedWithRow RX10 8 (some .long) tg 0 0 48 [(0, aL v0), (3, aR 14 v3), (4, aI v4), (5, aI v5)] [] σ (B10_mixedWithRow_48 N K48 v0 v3 v4 v5 σ) := by
  unfold B10_mixedWithRow_48
  refine j_iload (pc := 48) 3 dX10_mixedWithRow_48 rfl ?_
  refine j_iload (pc := 50) 2 dX10_mixedWithRow_50 rfl ?_
  refine j_icmpge (pc := 52) (tgt := 74) dX10_mixedWithRow_52 rfl (fun _ => ?_) (fun _ => ?_)
  · refine j_lload_n (pc := 74) 0 dX10_mixedWithRow_74 rfl rfl ?_
    exact j_lreturn (pc := 75) rfl (Nat.le_of_ble_eq_true rfl) (Nat.le_of_ble_eq_true rfl) dX10_mixedWithRow_75
  · refine j_aload_n (pc := 55) 1 dX10_mixedWithRow_55 rfl rfl ?_
    refine j_iload (pc := 56) 3 dX10_mixedWithRow_56 rfl ?_
    refine j_lald (pc := 58) rfl rfl rfl dX10_mixedWithRow_58 (fun j1 => ?_)
    refine j_letl (fun x2 => ?_)
    refine j_lstore (pc := 59) (lv' := [(6, aL x2), (0, aL v0), (3, aR 14 v3), (4, aI v4), (5, aI v5)]) dX10_mixedWithRow_59 (Nat.le_of_ble_eq_true rfl) rfl ?_
    refine j_lload_n (pc := 61) 1 dX10_mixedWithRow_61 rfl rfl ?_
    refine j_lload (pc := 62) 0 dX10_mixedWithRow_62 rfl ?_
    refine j_callSL (pc := 64) (As := [aL v0, aL x2]) (st := []) (fun l => c10_mixed l v0 x2) cs_RX10_295 rfl rfl (Nat.le_of_ble_eq_true rfl) ⟨(Nat.le_of_ble_eq_true rfl), (Nat.le_of_ble_eq_true rfl)⟩ ⟨(Nat.le_of_ble_eq_true rfl), (Nat.le_of_ble_eq_true rfl)⟩ dX10_mixedWithRow_64 (fun r3 σ4 => ?_)
    refine j_lstore_n (pc := 67) (lv' := [(0, aL r3), (6, aL x2), (3, aR 14 v3), (4, aI v4), (5, aI v5)]) dX10_mixedWithRow_67 rfl (Nat.le_of_ble_eq_true rfl) rfl ?_
    refine j_sub [0, 2, 3, 4] (lv' := [(0, aL r3), (3, aR 14 v3), (4, aI v4), (5, aI v5)]) rfl ?_
    refine j_iinc (pc := 68) (w := 1) (lv' := [(5, aI (v5 + 1)), (0, aL r3), (3, aR 14 v3), (4, aI v4)]) 3 dX10_mixedWithRow_68 rfl (by decide) (Nat.le_of_ble_eq_true rfl) rfl ?_
    refine j_goto (pc := 71) (tgt := 48) dX10_mixedWithRow_71 rfl ?_
    refine j_sub [1, 2, 3, 0] (lv' := [(0, aL r3), (3, aR 14 v3), (4, aI v4), (5, aI (v5 + 1))]) rfl ?_
    exact hK48 r3 v3 v4 (v5 + 1) σ4
theorem jl10_mixedWithRow_48 {Γ : jX} {tg : Int64 × rS} (N : Nat) : ∀ (n : Nat) (v0 : Int64) (v3 : Nat) (v4 : Int32) (v5 : Int32) (σ : rS), J Γ rm10_mixedWithRow eL cX10_mixedWithRow RX10 8 (some .long) tg 0 0 48 [(0, aL v0), (3, aR 14 v3), (4, aI v4), (5, aI v5)] [] σ (L10_mixedWithRow_48 N n v0 v3 v4 v5 σ) := by
  intro n
  induction n with
  | zero => intro v0 v3 v4 v5 σ; exact j_none
  | succ n ih => intro v0 v3 v4 v5 σ; exact jb10_mixedWithRow_48 N (L10_mixedWithRow_48 N n) ih v0 v3 v4 v5 σ
set_option maxRecDepth 20000 in
set_option maxHeartbeats 4000000 in
theorem j10_mixedWithRow {Γ : jX} {tg : Int64 × rS} (N : Nat) (v0 : Int64) (v2 : Nat) (σ : rS) : J Γ rm10_mixedWithRow eL cX10_mixedWithRow RX10 8 (some .long) tg 0 0 0 [(0, aL v0), (2, aR 13 v2)] [] σ (f10_mixedWithRow N v0 v2 σ) := by
  unfold f10_mixedWithRow
  refine j_lload_n (pc := 0) 0 dX10_mixedWithRow_0 rfl rfl ?_
  refine j_aload_n (pc := 1) 1 dX10_mixedWithRow_1 rfl rfl ?_
  refine j_getI (pc := 2) fd_13_0 tw_1_174 dX10_mixedWithRow_2 ?_
  refine j_i2l (pc := 5) dX10_mixedWithRow_5 ?_
  refine j_callSL (pc := 6) (As := [aL v0, aL (Int32.toInt64 (gI σ 13 v2 0))]) (st := []) (fun l => c10_mixed l v0 (Int32.toInt64 (gI σ 13 v2 0))) cs_RX10_295 rfl rfl (Nat.le_of_ble_eq_true rfl) ⟨(Nat.le_of_ble_eq_true rfl), (Nat.le_of_ble_eq_true rfl)⟩ ⟨(Nat.le_of_ble_eq_true rfl), (Nat.le_of_ble_eq_true rfl)⟩ dX10_mixedWithRow_6 (fun r1 σ2 => ?_)
  refine j_lstore_n (pc := 9) (lv' := [(0, aL r1), (2, aR 13 v2)]) dX10_mixedWithRow_9 rfl (Nat.le_of_ble_eq_true rfl) rfl ?_
  refine j_aload_n (pc := 10) 1 dX10_mixedWithRow_10 rfl rfl ?_
  refine j_getI (pc := 11) fd_13_2 tw_1_177 dX10_mixedWithRow_11 ?_
  refine j_ifeq (pc := 14) (tgt := 25) dX10_mixedWithRow_14 rfl (fun _ => ?_) (fun _ => ?_)
  · refine j_lload_n (pc := 25) 0 dX10_mixedWithRow_25 rfl rfl ?_
    refine j_aload_n (pc := 26) 1 dX10_mixedWithRow_26 rfl rfl ?_
    refine j_getF (pc := 27) fd_13_1 tw_1_176 dX10_mixedWithRow_27 ?_
    refine j_alen (pc := 30) rfl (by decide) dX10_mixedWithRow_30 ?_
    refine j_i2l (pc := 31) dX10_mixedWithRow_31 ?_
    refine j_callSL (pc := 32) (As := [aL r1, aL (Int32.toInt64 (nI (gN σ2 14 v2)))]) (st := []) (fun l => c10_mixed l r1 (Int32.toInt64 (nI (gN σ2 14 v2)))) cs_RX10_295 rfl rfl (Nat.le_of_ble_eq_true rfl) ⟨(Nat.le_of_ble_eq_true rfl), (Nat.le_of_ble_eq_true rfl)⟩ ⟨(Nat.le_of_ble_eq_true rfl), (Nat.le_of_ble_eq_true rfl)⟩ dX10_mixedWithRow_32 (fun r3 σ4 => ?_)
    refine j_lstore_n (pc := 35) (lv' := [(0, aL r3), (2, aR 13 v2)]) dX10_mixedWithRow_35 rfl (Nat.le_of_ble_eq_true rfl) rfl ?_
    refine j_aload_n (pc := 36) 1 dX10_mixedWithRow_36 rfl rfl ?_
    refine j_getF (pc := 37) fd_13_1 tw_1_176 dX10_mixedWithRow_37 ?_
    refine j_astore_n (pc := 40) (lv' := [(3, aR 14 v2), (0, aL r3), (2, aR 13 v2)]) dX10_mixedWithRow_40 rfl (Nat.le_of_ble_eq_true rfl) rfl ?_
    refine j_sub [0, 1] (lv' := [(3, aR 14 v2), (0, aL r3)]) rfl ?_
    refine j_aload_n (pc := 41) 0 dX10_mixedWithRow_41 rfl rfl ?_
    refine j_alen (pc := 42) rfl (by decide) dX10_mixedWithRow_42 ?_
    refine j_leti (fun x5 => ?_)
    refine j_istore (pc := 43) (lv' := [(4, aI x5), (3, aR 14 v2), (0, aL r3)]) dX10_mixedWithRow_43 (Nat.le_of_ble_eq_true rfl) rfl ?_
    refine j_iconst (pc := 45) (v := 0) (by decide) dX10_mixedWithRow_45 ?_
    refine j_istore (pc := 46) (lv' := [(5, aI 0), (4, aI x5), (3, aR 14 v2), (0, aL r3)]) dX10_mixedWithRow_46 (Nat.le_of_ble_eq_true rfl) rfl ?_
    refine j_sub [3, 2, 1, 0] (lv' := [(0, aL r3), (3, aR 14 v2), (4, aI x5), (5, aI 0)]) rfl ?_
    exact jl10_mixedWithRow_48 N  N r3 v2 x5 0 σ4
  · refine j_lload_n (pc := 17) 0 dX10_mixedWithRow_17 rfl rfl ?_
    refine j_ldc2 (pc := 18) tw_4_50 dX10_mixedWithRow_18 ?_
    refine j_callSL (pc := 21) (As := [aL r1, aL (-1)]) (st := []) (fun l => c10_mixed l r1 (-1)) cs_RX10_295 rfl rfl (Nat.le_of_ble_eq_true rfl) ⟨(Nat.le_of_ble_eq_true rfl), (Nat.le_of_ble_eq_true rfl)⟩ ⟨(Nat.le_of_ble_eq_true rfl), (Nat.le_of_ble_eq_true rfl)⟩ dX10_mixedWithRow_21 (fun r6 σ7 => ?_)
    exact j_lreturn (pc := 24) rfl (Nat.le_of_ble_eq_true rfl) (Nat.le_of_ble_eq_true rfl) dX10_mixedWithRow_24
theorem c10_mixedWithRow (l : Launch) (N : Nat) (v0 : Int64) (v2 : Nat) : Ctr l yX10_mixedWithRow cX10_mixedWithRow 8 (some .long) rm10_mixedWithRow eL [aL v0, aR 13 v2] (f10_mixedWithRow N v0 v2) := ctr_of (lv := [(0, aL v0), (2, aR 13 v2)]) (by decide +kernel) (fun _ => rfl) (fun _ => (Nat.le_of_ble_eq_true rfl)) (fun _ h => lvl_als h rfl) (fun _ σ _ => j10_mixedWithRow N v0 v2 σ)
abbrev rm10_mixedWithStream : Room := { frames := 2, cells := 0, slots := 0, locals := 45 }
set_option maxRecDepth 20000 in
set_option maxHeartbeats 4000000 in
theorem j10_mixedWithStream {Γ : jX} {tg : Int64 × rS} (N : Nat) (v0 : Int64) (v2 : Nat) (σ : rS) : J Γ rm10_mixedWithStream eL cX10_mixedWithStream RX10 3 (some .long) tg 0 0 0 [(0, aL v0), (2, aR 15 v2)] [] σ (f10_mixedWithStream N v0 v2 σ) := by
  unfold f10_mixedWithStream
  refine j_lload_n (pc := 0) 0 dX10_mixedWithStream_0 rfl rfl ?_
  refine j_aload_n (pc := 1) 1 dX10_mixedWithStream_1 rfl rfl ?_
  refine j_getI (pc := 2) fd_15_1 tw_2_142 dX10_mixedWithStream_2 ?_
  refine j_i2l (pc := 5) dX10_mixedWithStream_5 ?_
  refine j_callSL (pc := 6) (As := [aL v0, aL (Int32.toInt64 (gI σ 15 v2 1))]) (st := []) (fun l => c10_mixed l v0 (Int32.toInt64 (gI σ 15 v2 1))) cs_RX10_295 rfl rfl (Nat.le_of_ble_eq_true rfl) ⟨(Nat.le_of_ble_eq_true rfl), (Nat.le_of_ble_eq_true rfl)⟩ ⟨(Nat.le_of_ble_eq_true rfl), (Nat.le_of_ble_eq_true rfl)⟩ dX10_mixedWithStream_6 (fun r1 σ2 => ?_)
  refine j_lstore_n (pc := 9) (lv' := [(0, aL r1), (2, aR 15 v2)]) dX10_mixedWithStream_9 rfl (Nat.le_of_ble_eq_true rfl) rfl ?_
  refine j_lload_n (pc := 10) 0 dX10_mixedWithStream_10 rfl rfl ?_
  refine j_aload_n (pc := 11) 1 dX10_mixedWithStream_11 rfl rfl ?_
  refine j_iconst (pc := 12) (v := 0) (by decide) dX10_mixedWithStream_12 ?_
  refine j_aload_n (pc := 13) 1 dX10_mixedWithStream_13 rfl rfl ?_
  refine j_getI (pc := 14) fd_15_1 tw_2_142 dX10_mixedWithStream_14 ?_
  refine j_callVI (pc := 17) (As := [aI 0, aI (gI σ2 15 v2 1)]) (st := [aL r1]) (fun l => c9_sum l N v2 0 (gI σ2 15 v2 1)) cs_RX10_174 rfl rfl rfl rfl (Nat.le_of_ble_eq_true rfl) ⟨(Nat.le_of_ble_eq_true rfl), (Nat.le_of_ble_eq_true rfl)⟩ ⟨(Nat.le_of_ble_eq_true rfl), (Nat.le_of_ble_eq_true rfl)⟩ dX10_mixedWithStream_17 (fun r3 σ4 => ?_)
  refine j_i2l (pc := 20) dX10_mixedWithStream_20 ?_
  refine j_callSL (pc := 21) (As := [aL r1, aL (Int32.toInt64 r3)]) (st := []) (fun l => c10_mixed l r1 (Int32.toInt64 r3)) cs_RX10_295 rfl rfl (Nat.le_of_ble_eq_true rfl) ⟨(Nat.le_of_ble_eq_true rfl), (Nat.le_of_ble_eq_true rfl)⟩ ⟨(Nat.le_of_ble_eq_true rfl), (Nat.le_of_ble_eq_true rfl)⟩ dX10_mixedWithStream_21 (fun r5 σ6 => ?_)
  refine j_lstore_n (pc := 24) (lv' := [(0, aL r5), (2, aR 15 v2)]) dX10_mixedWithStream_24 rfl (Nat.le_of_ble_eq_true rfl) rfl ?_
  refine j_lload_n (pc := 25) 0 dX10_mixedWithStream_25 rfl rfl ?_
  refine j_aload_n (pc := 26) 1 dX10_mixedWithStream_26 rfl rfl ?_
  refine j_getI (pc := 27) fd_15_2 tw_2_143 dX10_mixedWithStream_27 ?_
  refine j_i2l (pc := 30) dX10_mixedWithStream_30 ?_
  refine j_callSL (pc := 31) (As := [aL r5, aL (Int32.toInt64 (gI σ6 15 v2 2))]) (st := []) (fun l => c10_mixed l r5 (Int32.toInt64 (gI σ6 15 v2 2))) cs_RX10_295 rfl rfl (Nat.le_of_ble_eq_true rfl) ⟨(Nat.le_of_ble_eq_true rfl), (Nat.le_of_ble_eq_true rfl)⟩ ⟨(Nat.le_of_ble_eq_true rfl), (Nat.le_of_ble_eq_true rfl)⟩ dX10_mixedWithStream_31 (fun r7 σ8 => ?_)
  refine j_lstore_n (pc := 34) (lv' := [(0, aL r7), (2, aR 15 v2)]) dX10_mixedWithStream_34 rfl (Nat.le_of_ble_eq_true rfl) rfl ?_
  refine j_lload_n (pc := 35) 0 dX10_mixedWithStream_35 rfl rfl ?_
  refine j_aload_n (pc := 36) 1 dX10_mixedWithStream_36 rfl rfl ?_
  refine j_getI (pc := 37) fd_15_3 tw_2_144 dX10_mixedWithStream_37 ?_
  refine j_ifeq (pc := 40) (tgt := 47) dX10_mixedWithStream_40 rfl (fun _ => ?_) (fun _ => ?_)
  · refine j_lconst (pc := 47) (v := 0) (by decide) dX10_mixedWithStream_47 ?_
    refine j_callSL (pc := 48) (As := [aL r7, aL 0]) (st := []) (fun l => c10_mixed l r7 0) cs_RX10_295 rfl rfl (Nat.le_of_ble_eq_true rfl) ⟨(Nat.le_of_ble_eq_true rfl), (Nat.le_of_ble_eq_true rfl)⟩ ⟨(Nat.le_of_ble_eq_true rfl), (Nat.le_of_ble_eq_true rfl)⟩ dX10_mixedWithStream_48 (fun r9 σ10 => ?_)
    exact j_lreturn (pc := 51) rfl (Nat.le_of_ble_eq_true rfl) (Nat.le_of_ble_eq_true rfl) dX10_mixedWithStream_51
  · refine j_lconst (pc := 43) (v := 1) (by decide) dX10_mixedWithStream_43 ?_
    refine j_goto (pc := 44) (tgt := 48) dX10_mixedWithStream_44 rfl ?_
    refine j_callSL (pc := 48) (As := [aL r7, aL 1]) (st := []) (fun l => c10_mixed l r7 1) cs_RX10_295 rfl rfl (Nat.le_of_ble_eq_true rfl) ⟨(Nat.le_of_ble_eq_true rfl), (Nat.le_of_ble_eq_true rfl)⟩ ⟨(Nat.le_of_ble_eq_true rfl), (Nat.le_of_ble_eq_true rfl)⟩ dX10_mixedWithStream_48 (fun r11 σ12 => ?_)
    exact j_lreturn (pc := 51) rfl (Nat.le_of_ble_eq_true rfl) (Nat.le_of_ble_eq_true rfl) dX10_mixedWithStream_51
theorem c10_mixedWithStream (l : Launch) (N : Nat) (v0 : Int64) (v2 : Nat) : Ctr l yX10_mixedWithStream cX10_mixedWithStream 3 (some .long) rm10_mixedWithStream eL [aL v0, aR 15 v2] (f10_mixedWithStream N v0 v2) := ctr_of (lv := [(0, aL v0), (2, aR 15 v2)]) (by decide +kernel) (fun _ => rfl) (fun _ => (Nat.le_of_ble_eq_true rfl)) (fun _ h => lvl_als h rfl) (fun _ σ _ => j10_mixedWithStream N v0 v2 σ)
theorem cs_RX10_307 : CaS RX10 307 yX10_mixedWithHouse cX10_mixedWithHouse 4 (some .long) 2 := ⟨tw_4_54, tw_4_55, tw_1_1, tw_4_56, by decide +kernel, by decide +kernel, by decide +kernel⟩
theorem cs_RX10_303 : CaS RX10 303 yX10_mixedWithStream cX10_mixedWithStream 3 (some .long) 2 := ⟨tw_4_51, tw_4_52, tw_1_1, tw_4_53, by decide +kernel, by decide +kernel, by decide +kernel⟩
theorem cs_RX10_299 : CaS RX10 299 yX10_mixedWithRow cX10_mixedWithRow 8 (some .long) 2 := ⟨tw_4_47, tw_4_48, tw_1_1, tw_4_49, by decide +kernel, by decide +kernel, by decide +kernel⟩
abbrev rm10_digest : Room := { frames := 3, cells := 0, slots := 0, locals := 67 }
set_option maxRecDepth 20000 in
set_option maxHeartbeats 4000000 in
theorem jb10_digest_78 {Γ : jX} {tg : Int64 × rS} (N : Nat) (K78 : Nat → Int64 → Int32 → rS → Option (Int64 × rS)) (hK78 : ∀ (v0 : Nat) (v1 : Int64) (v3 : Int32) (σ : rS), J Γ rm10_digest eL cX10_digest RX10 4 (some .long) tg 0 0 78 [(0, aR 0 v0), (1, aL v1), (3, aI v3)] [] σ (K78 v0 v1 v3 σ)) (v0 : Nat) (v1 : Int64) (v3 : Int32) (σ : rS) : J Γ rm10_digest eL cX10_digest RX10 4 (some .long) tg 0 0 78 [(0, aR 0 v0), (1, aL v1), (3, aI v3)] [] σ (B10_digest_78 N K78 v0 v1 v3 σ) := by
  unfold B10_digest_78
  refine j_iload_n (pc := 78) 2 dX10_digest_78 rfl rfl ?_
  refine j_aload_n (pc := 79) 0 dX10_digest_79 rfl rfl ?_
  refine j_getI (pc := 80) fd_0_10 tw_1_119 dX10_digest_80 ?_
  refine j_icmpge (pc := 83) (tgt := 103) dX10_digest_83 rfl (fun _ => ?_) (fun _ => ?_)
  · refine j_lload_n (pc := 103) 1 dX10_digest_103 rfl rfl ?_
    refine j_aload_n (pc := 104) 0 dX10_digest_104 rfl rfl ?_
    refine j_getI (pc := 105) fd_0_11 tw_1_120 dX10_digest_105 ?_
    refine j_i2l (pc := 108) dX10_digest_108 ?_
    refine j_callSL (pc := 109) (As := [aL v1, aL (Int32.toInt64 (gI σ 0 v0 11))]) (st := []) (fun l => c10_mixed l v1 (Int32.toInt64 (gI σ 0 v0 11))) cs_RX10_295 rfl rfl (Nat.le_of_ble_eq_true rfl) ⟨(Nat.le_of_ble_eq_true rfl), (Nat.le_of_ble_eq_true rfl)⟩ ⟨(Nat.le_of_ble_eq_true rfl), (Nat.le_of_ble_eq_true rfl)⟩ dX10_digest_109 (fun r1 σ2 => ?_)
    exact j_lreturn (pc := 112) rfl (Nat.le_of_ble_eq_true rfl) (Nat.le_of_ble_eq_true rfl) dX10_digest_112
  · refine j_lload_n (pc := 86) 1 dX10_digest_86 rfl rfl ?_
    refine j_aload_n (pc := 87) 0 dX10_digest_87 rfl rfl ?_
    refine j_getF (pc := 88) fd_0_2 tw_1_111 dX10_digest_88 ?_
    refine j_iload_n (pc := 91) 2 dX10_digest_91 rfl rfl ?_
    refine j_aald (pc := 92) rfl rfl rfl dX10_digest_92 (fun j3 o4 => ?_)
    refine j_must (fun i5 hm => ?_)
    subst hm
    refine j_callSL (pc := 93) (As := [aL v1, aR 17 i5]) (st := []) (fun l => c10_mixedWithHouse l N v1 i5) cs_RX10_307 rfl rfl (Nat.le_of_ble_eq_true rfl) ⟨(Nat.le_of_ble_eq_true rfl), (Nat.le_of_ble_eq_true rfl)⟩ ⟨(Nat.le_of_ble_eq_true rfl), (Nat.le_of_ble_eq_true rfl)⟩ dX10_digest_93 (fun r6 σ7 => ?_)
    refine j_lstore_n (pc := 96) (lv' := [(1, aL r6), (0, aR 0 v0), (3, aI v3)]) dX10_digest_96 rfl (Nat.le_of_ble_eq_true rfl) rfl ?_
    refine j_iinc (pc := 97) (w := 1) (lv' := [(3, aI (v3 + 1)), (1, aL r6), (0, aR 0 v0)]) 2 dX10_digest_97 rfl (by decide) (Nat.le_of_ble_eq_true rfl) rfl ?_
    refine j_goto (pc := 100) (tgt := 78) dX10_digest_100 rfl ?_
    refine j_sub [2, 1, 0] (lv' := [(0, aR 0 v0), (1, aL r6), (3, aI (v3 + 1))]) rfl ?_
    exact hK78 v0 r6 (v3 + 1) σ7
theorem jl10_digest_78 {Γ : jX} {tg : Int64 × rS} (N : Nat) : ∀ (n : Nat) (v0 : Nat) (v1 : Int64) (v3 : Int32) (σ : rS), J Γ rm10_digest eL cX10_digest RX10 4 (some .long) tg 0 0 78 [(0, aR 0 v0), (1, aL v1), (3, aI v3)] [] σ (L10_digest_78 N n v0 v1 v3 σ) := by
  intro n
  induction n with
  | zero => intro v0 v1 v3 σ; exact j_none
  | succ n ih => intro v0 v1 v3 σ; exact jb10_digest_78 N (L10_digest_78 N n) ih v0 v1 v3 σ
set_option maxRecDepth 20000 in
set_option maxHeartbeats 4000000 in
theorem jb10_digest_51 {Γ : jX} {tg : Int64 × rS} (N : Nat) (K51 : Nat → Int64 → Int32 → rS → Option (Int64 × rS)) (hK51 : ∀ (v0 : Nat) (v1 : Int64) (v3 : Int32) (σ : rS), J Γ rm10_digest eL cX10_digest RX10 4 (some .long) tg 0 0 51 [(0, aR 0 v0), (1, aL v1), (3, aI v3)] [] σ (K51 v0 v1 v3 σ)) (v0 : Nat) (v1 : Int64) (v3 : Int32) (σ : rS) : J Γ rm10_digest eL cX10_digest RX10 4 (some .long) tg 0 0 51 [(0, aR 0 v0), (1, aL v1), (3, aI v3)] [] σ (B10_digest_51 N K51 v0 v1 v3 σ) := by
  unfold B10_digest_51
  refine j_iload_n (pc := 51) 2 dX10_digest_51 rfl rfl ?_
  refine j_aload_n (pc := 52) 0 dX10_digest_52 rfl rfl ?_
  refine j_getI (pc := 53) fd_0_9 tw_1_118 dX10_digest_53 ?_
  refine j_icmpge (pc := 56) (tgt := 76) dX10_digest_56 rfl (fun _ => ?_) (fun _ => ?_)
  · refine j_iconst (pc := 76) (v := 0) (by decide) dX10_digest_76 ?_
    refine j_istore_n (pc := 77) (lv' := [(3, aI 0), (0, aR 0 v0), (1, aL v1)]) dX10_digest_77 rfl (Nat.le_of_ble_eq_true rfl) rfl ?_
    refine j_sub [1, 2, 0] (lv' := [(0, aR 0 v0), (1, aL v1), (3, aI 0)]) rfl ?_
    exact jl10_digest_78 N  N v0 v1 0 σ
  · refine j_lload_n (pc := 59) 1 dX10_digest_59 rfl rfl ?_
    refine j_aload_n (pc := 60) 0 dX10_digest_60 rfl rfl ?_
    refine j_getF (pc := 61) fd_0_1 tw_1_110 dX10_digest_61 ?_
    refine j_iload_n (pc := 64) 2 dX10_digest_64 rfl rfl ?_
    refine j_aald (pc := 65) rfl rfl rfl dX10_digest_65 (fun j1 o2 => ?_)
    refine j_must (fun i3 hm => ?_)
    subst hm
    refine j_callSL (pc := 66) (As := [aL v1, aR 15 i3]) (st := []) (fun l => c10_mixedWithStream l N v1 i3) cs_RX10_303 rfl rfl (Nat.le_of_ble_eq_true rfl) ⟨(Nat.le_of_ble_eq_true rfl), (Nat.le_of_ble_eq_true rfl)⟩ ⟨(Nat.le_of_ble_eq_true rfl), (Nat.le_of_ble_eq_true rfl)⟩ dX10_digest_66 (fun r4 σ5 => ?_)
    refine j_lstore_n (pc := 69) (lv' := [(1, aL r4), (0, aR 0 v0), (3, aI v3)]) dX10_digest_69 rfl (Nat.le_of_ble_eq_true rfl) rfl ?_
    refine j_iinc (pc := 70) (w := 1) (lv' := [(3, aI (v3 + 1)), (1, aL r4), (0, aR 0 v0)]) 2 dX10_digest_70 rfl (by decide) (Nat.le_of_ble_eq_true rfl) rfl ?_
    refine j_goto (pc := 73) (tgt := 51) dX10_digest_73 rfl ?_
    refine j_sub [2, 1, 0] (lv' := [(0, aR 0 v0), (1, aL r4), (3, aI (v3 + 1))]) rfl ?_
    exact hK51 v0 r4 (v3 + 1) σ5
theorem jl10_digest_51 {Γ : jX} {tg : Int64 × rS} (N : Nat) : ∀ (n : Nat) (v0 : Nat) (v1 : Int64) (v3 : Int32) (σ : rS), J Γ rm10_digest eL cX10_digest RX10 4 (some .long) tg 0 0 51 [(0, aR 0 v0), (1, aL v1), (3, aI v3)] [] σ (L10_digest_51 N n v0 v1 v3 σ) := by
  intro n
  induction n with
  | zero => intro v0 v1 v3 σ; exact j_none
  | succ n ih => intro v0 v1 v3 σ; exact jb10_digest_51 N (L10_digest_51 N n) ih v0 v1 v3 σ
set_option maxRecDepth 20000 in
set_option maxHeartbeats 4000000 in
theorem jb10_digest_14 {Γ : jX} {tg : Int64 × rS} (N : Nat) (K14 : Nat → Int64 → Int32 → rS → Option (Int64 × rS)) (hK14 : ∀ (v0 : Nat) (v1 : Int64) (v3 : Int32) (σ : rS), J Γ rm10_digest eL cX10_digest RX10 4 (some .long) tg 0 0 14 [(0, aR 0 v0), (1, aL v1), (3, aI v3)] [] σ (K14 v0 v1 v3 σ)) (v0 : Nat) (v1 : Int64) (v3 : Int32) (σ : rS) : J Γ rm10_digest eL cX10_digest RX10 4 (some .long) tg 0 0 14 [(0, aR 0 v0), (1, aL v1), (3, aI v3)] [] σ (B10_digest_14 N K14 v0 v1 v3 σ) := by
  unfold B10_digest_14
  refine j_iload_n (pc := 14) 2 dX10_digest_14 rfl rfl ?_
  refine j_aload_n (pc := 15) 0 dX10_digest_15 rfl rfl ?_
  refine j_getI (pc := 16) fd_0_8 tw_1_117 dX10_digest_16 ?_
  refine j_icmpge (pc := 19) (tgt := 39) dX10_digest_19 rfl (fun _ => ?_) (fun _ => ?_)
  · refine j_lload_n (pc := 39) 1 dX10_digest_39 rfl rfl ?_
    refine j_aload_n (pc := 40) 0 dX10_digest_40 rfl rfl ?_
    refine j_getI (pc := 41) fd_0_9 tw_1_118 dX10_digest_41 ?_
    refine j_i2l (pc := 44) dX10_digest_44 ?_
    refine j_callSL (pc := 45) (As := [aL v1, aL (Int32.toInt64 (gI σ 0 v0 9))]) (st := []) (fun l => c10_mixed l v1 (Int32.toInt64 (gI σ 0 v0 9))) cs_RX10_295 rfl rfl (Nat.le_of_ble_eq_true rfl) ⟨(Nat.le_of_ble_eq_true rfl), (Nat.le_of_ble_eq_true rfl)⟩ ⟨(Nat.le_of_ble_eq_true rfl), (Nat.le_of_ble_eq_true rfl)⟩ dX10_digest_45 (fun r1 σ2 => ?_)
    refine j_lstore_n (pc := 48) (lv' := [(1, aL r1), (0, aR 0 v0), (3, aI v3)]) dX10_digest_48 rfl (Nat.le_of_ble_eq_true rfl) rfl ?_
    refine j_sub [0, 1] (lv' := [(1, aL r1), (0, aR 0 v0)]) rfl ?_
    refine j_iconst (pc := 49) (v := 0) (by decide) dX10_digest_49 ?_
    refine j_istore_n (pc := 50) (lv' := [(3, aI 0), (1, aL r1), (0, aR 0 v0)]) dX10_digest_50 rfl (Nat.le_of_ble_eq_true rfl) rfl ?_
    refine j_sub [2, 1, 0] (lv' := [(0, aR 0 v0), (1, aL r1), (3, aI 0)]) rfl ?_
    exact jl10_digest_51 N  N v0 r1 0 σ2
  · refine j_lload_n (pc := 22) 1 dX10_digest_22 rfl rfl ?_
    refine j_aload_n (pc := 23) 0 dX10_digest_23 rfl rfl ?_
    refine j_getF (pc := 24) fd_0_0 tw_1_109 dX10_digest_24 ?_
    refine j_iload_n (pc := 27) 2 dX10_digest_27 rfl rfl ?_
    refine j_aald (pc := 28) rfl rfl rfl dX10_digest_28 (fun j3 o4 => ?_)
    refine j_must (fun i5 hm => ?_)
    subst hm
    refine j_callSL (pc := 29) (As := [aL v1, aR 13 i5]) (st := []) (fun l => c10_mixedWithRow l N v1 i5) cs_RX10_299 rfl rfl (Nat.le_of_ble_eq_true rfl) ⟨(Nat.le_of_ble_eq_true rfl), (Nat.le_of_ble_eq_true rfl)⟩ ⟨(Nat.le_of_ble_eq_true rfl), (Nat.le_of_ble_eq_true rfl)⟩ dX10_digest_29 (fun r6 σ7 => ?_)
    refine j_lstore_n (pc := 32) (lv' := [(1, aL r6), (0, aR 0 v0), (3, aI v3)]) dX10_digest_32 rfl (Nat.le_of_ble_eq_true rfl) rfl ?_
    refine j_iinc (pc := 33) (w := 1) (lv' := [(3, aI (v3 + 1)), (1, aL r6), (0, aR 0 v0)]) 2 dX10_digest_33 rfl (by decide) (Nat.le_of_ble_eq_true rfl) rfl ?_
    refine j_goto (pc := 36) (tgt := 14) dX10_digest_36 rfl ?_
    refine j_sub [2, 1, 0] (lv' := [(0, aR 0 v0), (1, aL r6), (3, aI (v3 + 1))]) rfl ?_
    exact hK14 v0 r6 (v3 + 1) σ7
theorem jl10_digest_14 {Γ : jX} {tg : Int64 × rS} (N : Nat) : ∀ (n : Nat) (v0 : Nat) (v1 : Int64) (v3 : Int32) (σ : rS), J Γ rm10_digest eL cX10_digest RX10 4 (some .long) tg 0 0 14 [(0, aR 0 v0), (1, aL v1), (3, aI v3)] [] σ (L10_digest_14 N n v0 v1 v3 σ) := by
  intro n
  induction n with
  | zero => intro v0 v1 v3 σ; exact j_none
  | succ n ih => intro v0 v1 v3 σ; exact jb10_digest_14 N (L10_digest_14 N n) ih v0 v1 v3 σ
set_option maxRecDepth 20000 in
set_option maxHeartbeats 4000000 in
theorem j10_digest {Γ : jX} {tg : Int64 × rS} (N : Nat) (v0 : Nat) (σ : rS) : J Γ rm10_digest eL cX10_digest RX10 4 (some .long) tg 0 0 0 [(0, aR 0 v0)] [] σ (f10_digest N v0 σ) := by
  unfold f10_digest
  refine j_ldc2 (pc := 0) tw_4_42 dX10_digest_0 ?_
  refine j_aload_n (pc := 3) 0 dX10_digest_3 rfl rfl ?_
  refine j_getI (pc := 4) fd_0_8 tw_1_117 dX10_digest_4 ?_
  refine j_i2l (pc := 7) dX10_digest_7 ?_
  refine j_callSL (pc := 8) (As := [aL 19, aL (Int32.toInt64 (gI σ 0 v0 8))]) (st := []) (fun l => c10_mixed l 19 (Int32.toInt64 (gI σ 0 v0 8))) cs_RX10_295 rfl rfl (Nat.le_of_ble_eq_true rfl) ⟨(Nat.le_of_ble_eq_true rfl), (Nat.le_of_ble_eq_true rfl)⟩ ⟨(Nat.le_of_ble_eq_true rfl), (Nat.le_of_ble_eq_true rfl)⟩ dX10_digest_8 (fun r1 σ2 => ?_)
  refine j_lstore_n (pc := 11) (lv' := [(1, aL r1), (0, aR 0 v0)]) dX10_digest_11 rfl (Nat.le_of_ble_eq_true rfl) rfl ?_
  refine j_iconst (pc := 12) (v := 0) (by decide) dX10_digest_12 ?_
  refine j_istore_n (pc := 13) (lv' := [(3, aI 0), (1, aL r1), (0, aR 0 v0)]) dX10_digest_13 rfl (Nat.le_of_ble_eq_true rfl) rfl ?_
  refine j_sub [2, 1, 0] (lv' := [(0, aR 0 v0), (1, aL r1), (3, aI 0)]) rfl ?_
  exact jl10_digest_14 N  N v0 r1 0 σ2
theorem c10_digest (l : Launch) (N : Nat) (v0 : Nat) : Ctr l yX10_digest cX10_digest 4 (some .long) rm10_digest eL [aR 0 v0] (f10_digest N v0) := ctr_of (lv := [(0, aR 0 v0)]) (by decide +kernel) (fun _ => rfl) (fun _ => (Nat.le_of_ble_eq_true rfl)) (fun _ h => lvl_als h rfl) (fun _ σ _ => j10_digest N v0 σ)
abbrev rm10_houseNumbered : Room := { frames := 0, cells := 0, slots := 0, locals := 0 }
set_option maxRecDepth 20000 in
set_option maxHeartbeats 4000000 in
theorem j10_houseNumbered {Γ : jX} {tg : Option Nat × rS} (v0 : Nat) (v1 : Int32) (σ : rS) : J Γ rm10_houseNumbered (eR 17) cX10_houseNumbered RX10 2 (some (.object "PackDesk$House")) tg 0 0 0 [(0, aR 0 v0), (1, aI v1)] [] σ (f10_houseNumbered v0 v1 σ) := by
  unfold f10_houseNumbered
  refine j_iload_n (pc := 0) 1 dX10_houseNumbered_0 rfl rfl ?_
  refine j_iflt (pc := 1) (tgt := 21) dX10_houseNumbered_1 rfl (fun _ => ?_) (fun _ => ?_)
  · refine j_null (pc := 21) 17 dX10_houseNumbered_21 ?_
    exact j_areturn (pc := 22) rfl (Nat.le_of_ble_eq_true rfl) (Nat.le_of_ble_eq_true rfl) dX10_houseNumbered_22
  · refine j_iload_n (pc := 4) 1 dX10_houseNumbered_4 rfl rfl ?_
    refine j_aload_n (pc := 5) 0 dX10_houseNumbered_5 rfl rfl ?_
    refine j_getI (pc := 6) fd_0_10 tw_1_119 dX10_houseNumbered_6 ?_
    refine j_icmpge (pc := 9) (tgt := 21) dX10_houseNumbered_9 rfl (fun _ => ?_) (fun _ => ?_)
    · refine j_null (pc := 21) 17 dX10_houseNumbered_21 ?_
      exact j_areturn (pc := 22) rfl (Nat.le_of_ble_eq_true rfl) (Nat.le_of_ble_eq_true rfl) dX10_houseNumbered_22
    · refine j_aload_n (pc := 12) 0 dX10_houseNumbered_12 rfl rfl ?_
      refine j_getF (pc := 13) fd_0_2 tw_1_111 dX10_houseNumbered_13 ?_
      refine j_iload_n (pc := 16) 1 dX10_houseNumbered_16 rfl rfl ?_
      refine j_aald (pc := 17) rfl rfl rfl dX10_houseNumbered_17 (fun j1 o2 => ?_)
      refine j_goto (pc := 18) (tgt := 22) dX10_houseNumbered_18 rfl ?_
      exact j_areturn (pc := 22) rfl (Nat.le_of_ble_eq_true rfl) (Nat.le_of_ble_eq_true rfl) dX10_houseNumbered_22
theorem c10_houseNumbered (l : Launch) (v0 : Nat) (v1 : Int32) : Ctr l yX10_houseNumbered cX10_houseNumbered 2 (some (.object "PackDesk$House")) rm10_houseNumbered (eR 17) [aR 0 v0, aI v1] (f10_houseNumbered v0 v1) := ctr_of (lv := [(0, aR 0 v0), (1, aI v1)]) (by decide +kernel) (fun _ => rfl) (fun _ => (Nat.le_of_ble_eq_true rfl)) (fun _ h => lvl_als h rfl) (fun _ σ _ => j10_houseNumbered v0 v1 σ)
abbrev rm3_entryOf : Room := { frames := 0, cells := 0, slots := 0, locals := 0 }
set_option maxRecDepth 20000 in
set_option maxHeartbeats 4000000 in
theorem jb3_entryOf_2 {Γ : jX} {tg : Int32 × rS} (N : Nat) (K2 : Nat → Int64 → Int32 → rS → Option (Int32 × rS)) (hK2 : ∀ (v0 : Nat) (v1 : Int64) (v3 : Int32) (σ : rS), J Γ rm3_entryOf eI cX3_entryOf RX3 4 (some .int) tg 0 0 2 [(0, aR 17 v0), (1, aL v1), (3, aI v3)] [] σ (K2 v0 v1 v3 σ)) (v0 : Nat) (v1 : Int64) (v3 : Int32) (σ : rS) : J Γ rm3_entryOf eI cX3_entryOf RX3 4 (some .int) tg 0 0 2 [(0, aR 17 v0), (1, aL v1), (3, aI v3)] [] σ (B3_entryOf_2 N K2 v0 v1 v3 σ) := by
  unfold B3_entryOf_2
  refine j_iload_n (pc := 2) 2 dX3_entryOf_2 rfl rfl ?_
  refine j_aload_n (pc := 3) 0 dX3_entryOf_3 rfl rfl ?_
  refine j_getI (pc := 4) fd_17_2 tw_3_91 dX3_entryOf_4 ?_
  refine j_icmpge (pc := 7) (tgt := 29) dX3_entryOf_7 rfl (fun _ => ?_) (fun _ => ?_)
  · refine j_iconst (pc := 29) (v := (-1)) (by decide) dX3_entryOf_29 ?_
    exact j_ireturn (pc := 30) rfl (Nat.le_of_ble_eq_true rfl) (Nat.le_of_ble_eq_true rfl) dX3_entryOf_30
  · refine j_aload_n (pc := 10) 0 dX3_entryOf_10 rfl rfl ?_
    refine j_getF (pc := 11) fd_17_0 tw_3_87 dX3_entryOf_11 ?_
    refine j_iload_n (pc := 14) 2 dX3_entryOf_14 rfl rfl ?_
    refine j_lald (pc := 15) rfl rfl rfl dX3_entryOf_15 (fun j1 => ?_)
    refine j_lload_n (pc := 16) 1 dX3_entryOf_16 rfl rfl ?_
    refine j_lcmpne (pc := 17) (tgt := 23) dX3_entryOf_17 dX3_entryOf_18 rfl (fun _ => ?_) (fun _ => ?_)
    · refine j_iinc (pc := 23) (w := 1) (lv' := [(3, aI (v3 + 1)), (0, aR 17 v0), (1, aL v1)]) 2 dX3_entryOf_23 rfl (by decide) (Nat.le_of_ble_eq_true rfl) rfl ?_
      refine j_goto (pc := 26) (tgt := 2) dX3_entryOf_26 rfl ?_
      refine j_sub [1, 2, 0] (lv' := [(0, aR 17 v0), (1, aL v1), (3, aI (v3 + 1))]) rfl ?_
      exact hK2 v0 v1 (v3 + 1) σ
    · refine j_iload_n (pc := 21) 2 dX3_entryOf_21 rfl rfl ?_
      exact j_ireturn (pc := 22) rfl (Nat.le_of_ble_eq_true rfl) (Nat.le_of_ble_eq_true rfl) dX3_entryOf_22
theorem jl3_entryOf_2 {Γ : jX} {tg : Int32 × rS} (N : Nat) : ∀ (n : Nat) (v0 : Nat) (v1 : Int64) (v3 : Int32) (σ : rS), J Γ rm3_entryOf eI cX3_entryOf RX3 4 (some .int) tg 0 0 2 [(0, aR 17 v0), (1, aL v1), (3, aI v3)] [] σ (L3_entryOf_2 N n v0 v1 v3 σ) := by
  intro n
  induction n with
  | zero => intro v0 v1 v3 σ; exact j_none
  | succ n ih => intro v0 v1 v3 σ; exact jb3_entryOf_2 N (L3_entryOf_2 N n) ih v0 v1 v3 σ
set_option maxRecDepth 20000 in
set_option maxHeartbeats 4000000 in
theorem j3_entryOf {Γ : jX} {tg : Int32 × rS} (N : Nat) (v0 : Nat) (v1 : Int64) (σ : rS) : J Γ rm3_entryOf eI cX3_entryOf RX3 4 (some .int) tg 0 0 0 [(0, aR 17 v0), (1, aL v1)] [] σ (f3_entryOf N v0 v1 σ) := by
  unfold f3_entryOf
  refine j_iconst (pc := 0) (v := 0) (by decide) dX3_entryOf_0 ?_
  refine j_istore_n (pc := 1) (lv' := [(3, aI 0), (0, aR 17 v0), (1, aL v1)]) dX3_entryOf_1 rfl (Nat.le_of_ble_eq_true rfl) rfl ?_
  refine j_sub [1, 2, 0] (lv' := [(0, aR 17 v0), (1, aL v1), (3, aI 0)]) rfl ?_
  exact jl3_entryOf_2 N  N v0 v1 0 σ
theorem c3_entryOf (l : Launch) (N : Nat) (v0 : Nat) (v1 : Int64) : Ctr l yX3_entryOf cX3_entryOf 4 (some .int) rm3_entryOf eI [aR 17 v0, aL v1] (f3_entryOf N v0 v1) := ctr_of (lv := [(0, aR 17 v0), (1, aL v1)]) (by decide +kernel) (fun _ => rfl) (fun _ => (Nat.le_of_ble_eq_true rfl)) (fun _ h => lvl_als h rfl) (fun _ σ _ => j3_entryOf N v0 v1 σ)
