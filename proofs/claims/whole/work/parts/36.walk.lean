abbrev rm11_entry : Room := { frames := 0, cells := 0, slots := 0, locals := 0 }
set_option maxRecDepth 20000 in
set_option maxHeartbeats 4000000 in
theorem jb11_entry_3 {Γ : jX} {tg : Int32 × rS} (N : Nat) (K3 : Nat → Int32 → Int64 → Int32 → rS → Option (Int32 × rS)) (hK3 : ∀ (v0 : Nat) (v1 : Int32) (v2 : Int64) (v4 : Int32) (σ : rS), J Γ rm11_entry eI cX11_entry RX11 5 (some .int) tg 0 0 3 [(0, aR 29 v0), (1, aI v1), (2, aL v2), (4, aI v4)] [] σ (K3 v0 v1 v2 v4 σ)) (v0 : Nat) (v1 : Int32) (v2 : Int64) (v4 : Int32) (σ : rS) : J Γ rm11_entry eI cX11_entry RX11 5 (some .int) tg 0 0 3 [(0, aR 29 v0), (1, aI v1), (2, aL v2), (4, aI v4)] [] σ (B11_entry_3 N K3 v0 v1 v2 v4 σ) := by
  unfold B11_entry_3
  refine j_iload (pc := 3) 3 dX11_entry_3 rfl ?_
  refine j_aload_n (pc := 5) 0 dX11_entry_5 rfl rfl ?_
  refine j_getF (pc := 6) fd_29_27 tw_4_93 dX11_entry_6 ?_
  refine j_iload_n (pc := 9) 1 dX11_entry_9 rfl rfl ?_
  refine j_iald (pc := 10) rfl rfl rfl dX11_entry_10 (fun j1 => ?_)
  refine j_icmpge (pc := 11) (tgt := 45) dX11_entry_11 rfl (fun _ => ?_) (fun _ => ?_)
  · refine j_iconst (pc := 45) (v := (-1)) (by decide) dX11_entry_45 ?_
    exact j_ireturn (pc := 46) rfl (Nat.le_of_ble_eq_true rfl) (Nat.le_of_ble_eq_true rfl) dX11_entry_46
  · refine j_aload_n (pc := 14) 0 dX11_entry_14 rfl rfl ?_
    refine j_getF (pc := 15) fd_29_28 tw_4_94 dX11_entry_15 ?_
    refine j_bipush (pc := 18) (v := 12) (by decide) dX11_entry_18 ?_
    refine j_iload_n (pc := 20) 1 dX11_entry_20 rfl rfl ?_
    refine j_imul (pc := 21) dX11_entry_21 ?_
    refine j_iload (pc := 22) 3 dX11_entry_22 rfl ?_
    refine j_iadd (pc := 24) dX11_entry_24 ?_
    refine j_lald (pc := 25) rfl rfl rfl dX11_entry_25 (fun j2 => ?_)
    refine j_lload_n (pc := 26) 2 dX11_entry_26 rfl rfl ?_
    refine j_lcmpne (pc := 27) (tgt := 39) dX11_entry_27 dX11_entry_28 rfl (fun _ => ?_) (fun _ => ?_)
    · refine j_iinc (pc := 39) (w := 1) (lv' := [(4, aI (v4 + 1)), (0, aR 29 v0), (1, aI v1), (2, aL v2)]) 3 dX11_entry_39 rfl (by decide) (Nat.le_of_ble_eq_true rfl) rfl ?_
      refine j_goto (pc := 42) (tgt := 3) dX11_entry_42 rfl ?_
      refine j_sub [1, 2, 3, 0] (lv' := [(0, aR 29 v0), (1, aI v1), (2, aL v2), (4, aI (v4 + 1))]) rfl ?_
      exact hK3 v0 v1 v2 (v4 + 1) σ
    · refine j_bipush (pc := 31) (v := 12) (by decide) dX11_entry_31 ?_
      refine j_iload_n (pc := 33) 1 dX11_entry_33 rfl rfl ?_
      refine j_imul (pc := 34) dX11_entry_34 ?_
      refine j_iload (pc := 35) 3 dX11_entry_35 rfl ?_
      refine j_iadd (pc := 37) dX11_entry_37 ?_
      exact j_ireturn (pc := 38) rfl (Nat.le_of_ble_eq_true rfl) (Nat.le_of_ble_eq_true rfl) dX11_entry_38
theorem jl11_entry_3 {Γ : jX} {tg : Int32 × rS} (N : Nat) : ∀ (n : Nat) (v0 : Nat) (v1 : Int32) (v2 : Int64) (v4 : Int32) (σ : rS), J Γ rm11_entry eI cX11_entry RX11 5 (some .int) tg 0 0 3 [(0, aR 29 v0), (1, aI v1), (2, aL v2), (4, aI v4)] [] σ (L11_entry_3 N n v0 v1 v2 v4 σ) := by
  intro n
  induction n with
  | zero => intro v0 v1 v2 v4 σ; exact j_none
  | succ n ih => intro v0 v1 v2 v4 σ; exact jb11_entry_3 N (L11_entry_3 N n) ih v0 v1 v2 v4 σ
set_option maxRecDepth 20000 in
set_option maxHeartbeats 4000000 in
theorem j11_entry {Γ : jX} {tg : Int32 × rS} (N : Nat) (v0 : Nat) (v1 : Int32) (v2 : Int64) (σ : rS) : J Γ rm11_entry eI cX11_entry RX11 5 (some .int) tg 0 0 0 [(0, aR 29 v0), (1, aI v1), (2, aL v2)] [] σ (f11_entry N v0 v1 v2 σ) := by
  unfold f11_entry
  refine j_iconst (pc := 0) (v := 0) (by decide) dX11_entry_0 ?_
  refine j_istore (pc := 1) (lv' := [(4, aI 0), (0, aR 29 v0), (1, aI v1), (2, aL v2)]) dX11_entry_1 (Nat.le_of_ble_eq_true rfl) rfl ?_
  refine j_sub [1, 2, 3, 0] (lv' := [(0, aR 29 v0), (1, aI v1), (2, aL v2), (4, aI 0)]) rfl ?_
  exact jl11_entry_3 N  N v0 v1 v2 0 σ
theorem c11_entry (l : Launch) (N : Nat) (v0 : Nat) (v1 : Int32) (v2 : Int64) : Ctr l yX11_entry cX11_entry 5 (some .int) rm11_entry eI [aR 29 v0, aI v1, aL v2] (f11_entry N v0 v1 v2) := ctr_of (lv := [(0, aR 29 v0), (1, aI v1), (2, aL v2)]) (by decide +kernel) (fun _ => rfl) (fun _ => (Nat.le_of_ble_eq_true rfl)) (fun _ h => lvl_als h rfl) (fun _ σ _ => j11_entry N v0 v1 v2 σ)
abbrev rm11_isHouse : Room := { frames := 1, cells := 0, slots := 0, locals := 25 }
set_option maxRecDepth 20000 in
set_option maxHeartbeats 4000000 in
theorem j11_isHouse {Γ : jX} {tg : Bool × rS} (v0 : Nat) (v1 : Int32) (σ : rS) : J Γ rm11_isHouse eZ cX11_isHouse RX11 2 (some .boolean) tg 0 0 0 [(0, aR 29 v0), (1, aI v1)] [] σ (f11_isHouse v0 v1 σ) := by
  unfold f11_isHouse
  refine j_iload_n (pc := 0) 1 dX11_isHouse_0 rfl rfl ?_
  refine j_i2l (pc := 1) dX11_isHouse_1 ?_
  refine j_lconst (pc := 2) (v := 0) (by decide) dX11_isHouse_2 ?_
  refine j_aload_n (pc := 3) 0 dX11_isHouse_3 rfl rfl ?_
  refine j_getI (pc := 4) fd_29_26 tw_4_92 dX11_isHouse_4 ?_
  refine j_iconst (pc := 7) (v := 1) (by decide) dX11_isHouse_7 ?_
  refine j_isub (pc := 8) dX11_isHouse_8 ?_
  refine j_i2l (pc := 9) dX11_isHouse_9 ?_
  refine j_callSZ (pc := 10) (As := [aL (Int32.toInt64 v1), aL 0, aL (Int32.toInt64 ((gI σ 29 v0 26) - 1))]) (st := []) (fun l => c11_in l (Int32.toInt64 v1) 0 (Int32.toInt64 ((gI σ 29 v0 26) - 1))) cs_RX11_140 rfl rfl (Nat.le_of_ble_eq_true rfl) ⟨(Nat.le_of_ble_eq_true rfl), (Nat.le_of_ble_eq_true rfl)⟩ ⟨(Nat.le_of_ble_eq_true rfl), (Nat.le_of_ble_eq_true rfl)⟩ dX11_isHouse_10 (fun r1 σ2 => ?_)
  exact j_zretB (pc := 13) rfl (Nat.le_of_ble_eq_true rfl) (Nat.le_of_ble_eq_true rfl) dX11_isHouse_13
theorem c11_isHouse (l : Launch) (v0 : Nat) (v1 : Int32) : Ctr l yX11_isHouse cX11_isHouse 2 (some .boolean) rm11_isHouse eZ [aR 29 v0, aI v1] (f11_isHouse v0 v1) := ctr_of (lv := [(0, aR 29 v0), (1, aI v1)]) (by decide +kernel) (fun _ => rfl) (fun _ => (Nat.le_of_ble_eq_true rfl)) (fun _ h => lvl_als h rfl) (fun _ σ _ => j11_isHouse v0 v1 σ)
abbrev rm11_leave : Room := { frames := 0, cells := 0, slots := 0, locals := 0 }
set_option maxRecDepth 20000 in
set_option maxHeartbeats 4000000 in
theorem j11_leave {Γ : jX} {tg : Unit × rS} (v0 : Nat) (v1 : Int32) (σ : rS) : J Γ rm11_leave eV cX11_leave RX11 2 none tg 0 0 0 [(0, aR 29 v0), (1, aI v1)] [] σ (f11_leave v0 v1 σ) := by
  unfold f11_leave
  refine j_aload_n (pc := 0) 0 dX11_leave_0 rfl rfl ?_
  refine j_getF (pc := 1) fd_29_23 tw_4_89 dX11_leave_1 ?_
  refine j_iload_n (pc := 4) 1 dX11_leave_4 rfl rfl ?_
  refine j_dup2 (pc := 5) dX11_leave_5 rfl rfl ?_
  refine j_iald (pc := 6) rfl rfl rfl dX11_leave_6 (fun j1 => ?_)
  refine j_iconst (pc := 7) (v := 1) (by decide) dX11_leave_7 ?_
  refine j_isub (pc := 8) dX11_leave_8 ?_
  refine j_iast (pc := 9) rfl rfl rfl dX11_leave_9 (fun j2 => ?_)
  refine j_lets (fun σ3 => ?_)
  refine j_aload_n (pc := 10) 0 dX11_leave_10 rfl rfl ?_
  refine j_getF (pc := 11) fd_29_23 tw_4_89 dX11_leave_11 ?_
  refine j_iload_n (pc := 14) 1 dX11_leave_14 rfl rfl ?_
  refine j_iald (pc := 15) rfl rfl rfl dX11_leave_15 (fun j4 => ?_)
  refine j_ifne (pc := 16) (tgt := 26) dX11_leave_16 rfl (fun _ => ?_) (fun _ => ?_)
  · exact j_return (pc := 26) rfl (Nat.le_of_ble_eq_true rfl) (Nat.le_of_ble_eq_true rfl) dX11_leave_26
  · refine j_aload_n (pc := 19) 0 dX11_leave_19 rfl rfl ?_
    refine j_getF (pc := 20) fd_29_21 tw_4_87 dX11_leave_20 ?_
    refine j_iload_n (pc := 23) 1 dX11_leave_23 rfl rfl ?_
    refine j_iconst (pc := 24) (v := (-1)) (by decide) dX11_leave_24 ?_
    refine j_iast (pc := 25) rfl rfl rfl dX11_leave_25 (fun j5 => ?_)
    refine j_lets (fun σ6 => ?_)
    exact j_return (pc := 26) rfl (Nat.le_of_ble_eq_true rfl) (Nat.le_of_ble_eq_true rfl) dX11_leave_26
theorem c11_leave (l : Launch) (v0 : Nat) (v1 : Int32) : Ctr l yX11_leave cX11_leave 2 none rm11_leave eV [aR 29 v0, aI v1] (f11_leave v0 v1) := ctr_of (lv := [(0, aR 29 v0), (1, aI v1)]) (by decide +kernel) (fun _ => rfl) (fun _ => (Nat.le_of_ble_eq_true rfl)) (fun _ h => lvl_als h rfl) (fun _ σ _ => j11_leave v0 v1 σ)
theorem cs_RX11_287 : CaV RX11 RX11 287 yX11_isHouse cX11_isHouse 2 (some .boolean) 1 := ⟨tw_5_197, tw_5_199, tw_p38, tw_1_5, tw_5_200, rfl, by decide +kernel, by decide +kernel, by decide +kernel⟩
theorem cs_RX11_290 : CaV RX11 RX11 290 yX11_entry cX11_entry 5 (some .int) 2 := ⟨tw_5_201, tw_5_203, tw_p39, tw_1_5, tw_5_204, rfl, by decide +kernel, by decide +kernel, by decide +kernel⟩
theorem cs_RX11_303 : CaV RX11 RX11 303 yX11_leave cX11_leave 2 none 1 := ⟨tw_5_213, tw_5_215, tw_p42, tw_1_5, tw_5_216, rfl, by decide +kernel, by decide +kernel, by decide +kernel⟩
abbrev rm11_drop : Room := { frames := 2, cells := 0, slots := 0, locals := 46 }
set_option maxRecDepth 20000 in
set_option maxHeartbeats 4000000 in
theorem jb11_drop_75 {Γ : jX} {tg : Int32 × rS} (N : Nat) (K75 : Nat → Int32 → Int32 → Int32 → rS → Option (Int32 × rS)) (hK75 : ∀ (v0 : Nat) (v1 : Int32) (v5 : Int32) (v6 : Int32) (σ : rS), J Γ rm11_drop eI cX11_drop RX11 7 (some .int) tg 0 0 75 [(0, aR 29 v0), (1, aI v1), (5, aI v5), (6, aI v6)] [] σ (K75 v0 v1 v5 v6 σ)) (v0 : Nat) (v1 : Int32) (v5 : Int32) (v6 : Int32) (σ : rS) : J Γ rm11_drop eI cX11_drop RX11 7 (some .int) tg 0 0 75 [(0, aR 29 v0), (1, aI v1), (5, aI v5), (6, aI v6)] [] σ (B11_drop_75 N K75 v0 v1 v5 v6 σ) := by
  unfold B11_drop_75
  refine j_iload (pc := 75) 3 dX11_drop_75 rfl ?_
  refine j_bipush (pc := 77) (v := 12) (by decide) dX11_drop_77 ?_
  refine j_iload_n (pc := 79) 1 dX11_drop_79 rfl rfl ?_
  refine j_imul (pc := 80) dX11_drop_80 ?_
  refine j_aload_n (pc := 81) 0 dX11_drop_81 rfl rfl ?_
  refine j_getF (pc := 82) fd_29_27 tw_4_93 dX11_drop_82 ?_
  refine j_iload_n (pc := 85) 1 dX11_drop_85 rfl rfl ?_
  refine j_iald (pc := 86) rfl rfl rfl dX11_drop_86 (fun j1 => ?_)
  refine j_iadd (pc := 87) dX11_drop_87 ?_
  refine j_icmpge (pc := 88) (tgt := 129) dX11_drop_88 rfl (fun _ => ?_) (fun _ => ?_)
  · refine j_iload (pc := 129) 2 dX11_drop_129 rfl ?_
    exact j_ireturn (pc := 131) rfl (Nat.le_of_ble_eq_true rfl) (Nat.le_of_ble_eq_true rfl) dX11_drop_131
  · refine j_aload_n (pc := 91) 0 dX11_drop_91 rfl rfl ?_
    refine j_getF (pc := 92) fd_29_28 tw_4_94 dX11_drop_92 ?_
    refine j_iload (pc := 95) 3 dX11_drop_95 rfl ?_
    refine j_aload_n (pc := 97) 0 dX11_drop_97 rfl rfl ?_
    refine j_getF (pc := 98) fd_29_28 tw_4_94 dX11_drop_98 ?_
    refine j_iload (pc := 101) 3 dX11_drop_101 rfl ?_
    refine j_iconst (pc := 103) (v := 1) (by decide) dX11_drop_103 ?_
    refine j_iadd (pc := 104) dX11_drop_104 ?_
    refine j_lald (pc := 105) rfl rfl rfl dX11_drop_105 (fun j2 => ?_)
    refine j_last (pc := 106) rfl rfl rfl dX11_drop_106 (fun j3 => ?_)
    refine j_lets (fun σ4 => ?_)
    refine j_aload_n (pc := 107) 0 dX11_drop_107 rfl rfl ?_
    refine j_getF (pc := 108) fd_29_29 tw_4_95 dX11_drop_108 ?_
    refine j_iload (pc := 111) 3 dX11_drop_111 rfl ?_
    refine j_aload_n (pc := 113) 0 dX11_drop_113 rfl rfl ?_
    refine j_getF (pc := 114) fd_29_29 tw_4_95 dX11_drop_114 ?_
    refine j_iload (pc := 117) 3 dX11_drop_117 rfl ?_
    refine j_iconst (pc := 119) (v := 1) (by decide) dX11_drop_119 ?_
    refine j_iadd (pc := 120) dX11_drop_120 ?_
    refine j_iald (pc := 121) rfl rfl rfl dX11_drop_121 (fun j5 => ?_)
    refine j_iast (pc := 122) rfl rfl rfl dX11_drop_122 (fun j6 => ?_)
    refine j_lets (fun σ7 => ?_)
    refine j_iinc (pc := 123) (w := 1) (lv' := [(6, aI (v6 + 1)), (0, aR 29 v0), (1, aI v1), (5, aI v5)]) 3 dX11_drop_123 rfl (by decide) (Nat.le_of_ble_eq_true rfl) rfl ?_
    refine j_goto (pc := 126) (tgt := 75) dX11_drop_126 rfl ?_
    refine j_sub [1, 2, 3, 0] (lv' := [(0, aR 29 v0), (1, aI v1), (5, aI v5), (6, aI (v6 + 1))]) rfl ?_
    exact hK75 v0 v1 v5 (v6 + 1) σ7
theorem jl11_drop_75 {Γ : jX} {tg : Int32 × rS} (N : Nat) : ∀ (n : Nat) (v0 : Nat) (v1 : Int32) (v5 : Int32) (v6 : Int32) (σ : rS), J Γ rm11_drop eI cX11_drop RX11 7 (some .int) tg 0 0 75 [(0, aR 29 v0), (1, aI v1), (5, aI v5), (6, aI v6)] [] σ (L11_drop_75 N n v0 v1 v5 v6 σ) := by
  intro n
  induction n with
  | zero => intro v0 v1 v5 v6 σ; exact j_none
  | succ n ih => intro v0 v1 v5 v6 σ; exact jb11_drop_75 N (L11_drop_75 N n) ih v0 v1 v5 v6 σ
set_option maxRecDepth 20000 in
set_option maxHeartbeats 4000000 in
theorem j11_drop {Γ : jX} {tg : Int32 × rS} (N : Nat) (v0 : Nat) (v1 : Int32) (v2 : Int64) (σ : rS) : J Γ rm11_drop eI cX11_drop RX11 7 (some .int) tg 0 0 0 [(0, aR 29 v0), (1, aI v1), (2, aL v2)] [] σ (f11_drop N v0 v1 v2 σ) := by
  unfold f11_drop
  refine j_aload_n (pc := 0) 0 dX11_drop_0 rfl rfl ?_
  refine j_iload_n (pc := 1) 1 dX11_drop_1 rfl rfl ?_
  refine j_callVZ (pc := 2) (As := [aI v1]) (st := []) (fun l => c11_isHouse l v0 v1) cs_RX11_287 rfl rfl rfl rfl (Nat.le_of_ble_eq_true rfl) ⟨(Nat.le_of_ble_eq_true rfl), (Nat.le_of_ble_eq_true rfl)⟩ ⟨(Nat.le_of_ble_eq_true rfl), (Nat.le_of_ble_eq_true rfl)⟩ dX11_drop_2 (fun r1 σ2 => ?_)
  refine j_ifneB (pc := 5) (tgt := 11) dX11_drop_5 rfl (fun _ => ?_) (fun _ => ?_)
  · refine j_lload_n (pc := 11) 2 dX11_drop_11 rfl rfl ?_
    refine j_lconst (pc := 12) (v := 0) (by decide) dX11_drop_12 ?_
    refine j_lcmpge (pc := 13) (tgt := 20) dX11_drop_13 dX11_drop_14 rfl (fun _ => ?_) (fun _ => ?_)
    · refine j_aload_n (pc := 20) 0 dX11_drop_20 rfl rfl ?_
      refine j_iload_n (pc := 21) 1 dX11_drop_21 rfl rfl ?_
      refine j_lload_n (pc := 22) 2 dX11_drop_22 rfl rfl ?_
      refine j_callVI (pc := 23) (As := [aI v1, aL v2]) (st := []) (fun l => c11_entry l N v0 v1 v2) cs_RX11_290 rfl rfl rfl rfl (Nat.le_of_ble_eq_true rfl) ⟨(Nat.le_of_ble_eq_true rfl), (Nat.le_of_ble_eq_true rfl)⟩ ⟨(Nat.le_of_ble_eq_true rfl), (Nat.le_of_ble_eq_true rfl)⟩ dX11_drop_23 (fun r3 σ4 => ?_)
      refine j_istore (pc := 26) (lv' := [(4, aI r3), (0, aR 29 v0), (1, aI v1), (2, aL v2)]) dX11_drop_26 (Nat.le_of_ble_eq_true rfl) rfl ?_
      refine j_sub [0, 1, 2] (lv' := [(4, aI r3), (0, aR 29 v0), (1, aI v1)]) rfl ?_
      refine j_iload (pc := 28) 0 dX11_drop_28 rfl ?_
      refine j_iconst (pc := 30) (v := (-1)) (by decide) dX11_drop_30 ?_
      refine j_icmpne (pc := 31) (tgt := 36) dX11_drop_31 rfl (fun _ => ?_) (fun _ => ?_)
      · refine j_aload_n (pc := 36) 1 dX11_drop_36 rfl rfl ?_
        refine j_getF (pc := 37) fd_29_21 tw_4_87 dX11_drop_37 ?_
        refine j_aload_n (pc := 40) 1 dX11_drop_40 rfl rfl ?_
        refine j_getF (pc := 41) fd_29_29 tw_4_95 dX11_drop_41 ?_
        refine j_iload (pc := 44) 0 dX11_drop_44 rfl ?_
        refine j_iald (pc := 46) rfl rfl rfl dX11_drop_46 (fun j5 => ?_)
        refine j_iald (pc := 47) rfl rfl rfl dX11_drop_47 (fun j6 => ?_)
        refine j_leti (fun x7 => ?_)
        refine j_istore (pc := 48) (lv' := [(5, aI x7), (4, aI r3), (0, aR 29 v0), (1, aI v1)]) dX11_drop_48 (Nat.le_of_ble_eq_true rfl) rfl ?_
        refine j_aload_n (pc := 50) 2 dX11_drop_50 rfl rfl ?_
        refine j_aload_n (pc := 51) 2 dX11_drop_51 rfl rfl ?_
        refine j_getF (pc := 52) fd_29_29 tw_4_95 dX11_drop_52 ?_
        refine j_iload (pc := 55) 1 dX11_drop_55 rfl ?_
        refine j_iald (pc := 57) rfl rfl rfl dX11_drop_57 (fun j8 => ?_)
        refine j_callVV (pc := 58) (As := [aI (gI σ4 59 v0 j8)]) (st := []) (fun l => c11_leave l v0 (gI σ4 59 v0 j8)) cs_RX11_303 rfl rfl rfl rfl (Nat.le_of_ble_eq_true rfl) ⟨(Nat.le_of_ble_eq_true rfl), (Nat.le_of_ble_eq_true rfl)⟩ ⟨(Nat.le_of_ble_eq_true rfl), (Nat.le_of_ble_eq_true rfl)⟩ dX11_drop_58 (fun r9 σ10 => ?_)
        refine j_aload_n (pc := 61) 2 dX11_drop_61 rfl rfl ?_
        refine j_getF (pc := 62) fd_29_27 tw_4_93 dX11_drop_62 ?_
        refine j_iload_n (pc := 65) 3 dX11_drop_65 rfl rfl ?_
        refine j_dup2 (pc := 66) dX11_drop_66 rfl rfl ?_
        refine j_iald (pc := 67) rfl rfl rfl dX11_drop_67 (fun j11 => ?_)
        refine j_iconst (pc := 68) (v := 1) (by decide) dX11_drop_68 ?_
        refine j_isub (pc := 69) dX11_drop_69 ?_
        refine j_iast (pc := 70) rfl rfl rfl dX11_drop_70 (fun j12 => ?_)
        refine j_lets (fun σ13 => ?_)
        refine j_iload (pc := 71) 1 dX11_drop_71 rfl ?_
        refine j_istore (pc := 73) (lv' := [(6, aI r3), (5, aI x7), (4, aI r3), (0, aR 29 v0), (1, aI v1)]) dX11_drop_73 (Nat.le_of_ble_eq_true rfl) rfl ?_
        refine j_sub [0, 1, 3, 4] (lv' := [(6, aI r3), (5, aI x7), (0, aR 29 v0), (1, aI v1)]) rfl ?_
        refine j_sub [2, 3, 1, 0] (lv' := [(0, aR 29 v0), (1, aI v1), (5, aI x7), (6, aI r3)]) rfl ?_
        exact jl11_drop_75 N  N v0 v1 x7 r3 σ13
      · refine j_iconst (pc := 34) (v := (-1)) (by decide) dX11_drop_34 ?_
        exact j_ireturn (pc := 35) rfl (Nat.le_of_ble_eq_true rfl) (Nat.le_of_ble_eq_true rfl) dX11_drop_35
    · refine j_bipush (pc := 17) (v := (-102)) (by decide) dX11_drop_17 ?_
      exact j_ireturn (pc := 19) rfl (Nat.le_of_ble_eq_true rfl) (Nat.le_of_ble_eq_true rfl) dX11_drop_19
  · refine j_bipush (pc := 8) (v := (-101)) (by decide) dX11_drop_8 ?_
    exact j_ireturn (pc := 10) rfl (Nat.le_of_ble_eq_true rfl) (Nat.le_of_ble_eq_true rfl) dX11_drop_10
theorem c11_drop (l : Launch) (N : Nat) (v0 : Nat) (v1 : Int32) (v2 : Int64) : Ctr l yX11_drop cX11_drop 7 (some .int) rm11_drop eI [aR 29 v0, aI v1, aL v2] (f11_drop N v0 v1 v2) := ctr_of (lv := [(0, aR 29 v0), (1, aI v1), (2, aL v2)]) (by decide +kernel) (fun _ => rfl) (fun _ => (Nat.le_of_ble_eq_true rfl)) (fun _ h => lvl_als h rfl) (fun _ σ _ => j11_drop N v0 v1 v2 σ)
abbrev rm11_end : Room := { frames := 2, cells := 0, slots := 0, locals := 46 }
set_option maxRecDepth 20000 in
set_option maxHeartbeats 4000000 in
theorem j11_end {Γ : jX} {tg : Int32 × rS} (v0 : Nat) (v1 : Int32) (σ : rS) : J Γ rm11_end eI cX11_end RX11 2 (some .int) tg 0 0 0 [(0, aR 29 v0), (1, aI v1)] [] σ (f11_end v0 v1 σ) := by
  unfold f11_end
  refine j_aload_n (pc := 0) 0 dX11_end_0 rfl rfl ?_
  refine j_iload_n (pc := 1) 1 dX11_end_1 rfl rfl ?_
  refine j_callVZ (pc := 2) (As := [aI v1]) (st := []) (fun l => c11_isStream l v0 v1) cs_RX11_247 rfl rfl rfl rfl (Nat.le_of_ble_eq_true rfl) ⟨(Nat.le_of_ble_eq_true rfl), (Nat.le_of_ble_eq_true rfl)⟩ ⟨(Nat.le_of_ble_eq_true rfl), (Nat.le_of_ble_eq_true rfl)⟩ dX11_end_2 (fun r1 σ2 => ?_)
  refine j_ifneB (pc := 5) (tgt := 11) dX11_end_5 rfl (fun _ => ?_) (fun _ => ?_)
  · refine j_aload_n (pc := 11) 0 dX11_end_11 rfl rfl ?_
    refine j_getF (pc := 12) fd_29_17 tw_4_83 dX11_end_12 ?_
    refine j_iload_n (pc := 15) 1 dX11_end_15 rfl rfl ?_
    refine j_zald (pc := 16) rfl rfl rfl dX11_end_16 (fun j3 => ?_)
    refine j_ifeq (pc := 17) (tgt := 23) dX11_end_17 rfl (fun _ => ?_) (fun _ => ?_)
    · refine j_aload_n (pc := 23) 0 dX11_end_23 rfl rfl ?_
      refine j_getF (pc := 24) fd_29_17 tw_4_83 dX11_end_24 ?_
      refine j_iload_n (pc := 27) 1 dX11_end_27 rfl rfl ?_
      refine j_iconst (pc := 28) (v := 1) (by decide) dX11_end_28 ?_
      refine j_zast (pc := 29) rfl rfl rfl dX11_end_29 (fun j4 => ?_)
      refine j_lets (fun σ5 => ?_)
      refine j_aload_n (pc := 30) 0 dX11_end_30 rfl rfl ?_
      refine j_getF (pc := 31) fd_29_15 tw_4_81 dX11_end_31 ?_
      refine j_iload_n (pc := 34) 1 dX11_end_34 rfl rfl ?_
      refine j_iald (pc := 35) rfl rfl rfl dX11_end_35 (fun j6 => ?_)
      exact j_ireturn (pc := 36) rfl (Nat.le_of_ble_eq_true rfl) (Nat.le_of_ble_eq_true rfl) dX11_end_36
    · refine j_bipush (pc := 20) (v := (-103)) (by decide) dX11_end_20 ?_
      exact j_ireturn (pc := 22) rfl (Nat.le_of_ble_eq_true rfl) (Nat.le_of_ble_eq_true rfl) dX11_end_22
  · refine j_bipush (pc := 8) (v := (-101)) (by decide) dX11_end_8 ?_
    exact j_ireturn (pc := 10) rfl (Nat.le_of_ble_eq_true rfl) (Nat.le_of_ble_eq_true rfl) dX11_end_10
theorem c11_end (l : Launch) (v0 : Nat) (v1 : Int32) : Ctr l yX11_end cX11_end 2 (some .int) rm11_end eI [aR 29 v0, aI v1] (f11_end v0 v1) := ctr_of (lv := [(0, aR 29 v0), (1, aI v1)]) (by decide +kernel) (fun _ => rfl) (fun _ => (Nat.le_of_ble_eq_true rfl)) (fun _ h => lvl_als h rfl) (fun _ σ _ => j11_end v0 v1 σ)
abbrev rm11_find : Room := { frames := 2, cells := 0, slots := 0, locals := 46 }
set_option maxRecDepth 20000 in
set_option maxHeartbeats 4000000 in
theorem j11_find {Γ : jX} {tg : Int32 × rS} (N : Nat) (v0 : Nat) (v1 : Int32) (v2 : Int64) (σ : rS) : J Γ rm11_find eI cX11_find RX11 5 (some .int) tg 0 0 0 [(0, aR 29 v0), (1, aI v1), (2, aL v2)] [] σ (f11_find N v0 v1 v2 σ) := by
  unfold f11_find
  refine j_aload_n (pc := 0) 0 dX11_find_0 rfl rfl ?_
  refine j_iload_n (pc := 1) 1 dX11_find_1 rfl rfl ?_
  refine j_callVZ (pc := 2) (As := [aI v1]) (st := []) (fun l => c11_isHouse l v0 v1) cs_RX11_287 rfl rfl rfl rfl (Nat.le_of_ble_eq_true rfl) ⟨(Nat.le_of_ble_eq_true rfl), (Nat.le_of_ble_eq_true rfl)⟩ ⟨(Nat.le_of_ble_eq_true rfl), (Nat.le_of_ble_eq_true rfl)⟩ dX11_find_2 (fun r1 σ2 => ?_)
  refine j_ifneB (pc := 5) (tgt := 11) dX11_find_5 rfl (fun _ => ?_) (fun _ => ?_)
  · refine j_lload_n (pc := 11) 2 dX11_find_11 rfl rfl ?_
    refine j_lconst (pc := 12) (v := 0) (by decide) dX11_find_12 ?_
    refine j_lcmpge (pc := 13) (tgt := 20) dX11_find_13 dX11_find_14 rfl (fun _ => ?_) (fun _ => ?_)
    · refine j_aload_n (pc := 20) 0 dX11_find_20 rfl rfl ?_
      refine j_iload_n (pc := 21) 1 dX11_find_21 rfl rfl ?_
      refine j_lload_n (pc := 22) 2 dX11_find_22 rfl rfl ?_
      refine j_callVI (pc := 23) (As := [aI v1, aL v2]) (st := []) (fun l => c11_entry l N v0 v1 v2) cs_RX11_290 rfl rfl rfl rfl (Nat.le_of_ble_eq_true rfl) ⟨(Nat.le_of_ble_eq_true rfl), (Nat.le_of_ble_eq_true rfl)⟩ ⟨(Nat.le_of_ble_eq_true rfl), (Nat.le_of_ble_eq_true rfl)⟩ dX11_find_23 (fun r3 σ4 => ?_)
      refine j_istore (pc := 26) (lv' := [(4, aI r3), (0, aR 29 v0), (1, aI v1), (2, aL v2)]) dX11_find_26 (Nat.le_of_ble_eq_true rfl) rfl ?_
      refine j_sub [0, 1] (lv' := [(4, aI r3), (0, aR 29 v0)]) rfl ?_
      refine j_iload (pc := 28) 0 dX11_find_28 rfl ?_
      refine j_iconst (pc := 30) (v := (-1)) (by decide) dX11_find_30 ?_
      refine j_icmpne (pc := 31) (tgt := 38) dX11_find_31 rfl (fun _ => ?_) (fun _ => ?_)
      · refine j_aload_n (pc := 38) 1 dX11_find_38 rfl rfl ?_
        refine j_getF (pc := 39) fd_29_21 tw_4_87 dX11_find_39 ?_
        refine j_aload_n (pc := 42) 1 dX11_find_42 rfl rfl ?_
        refine j_getF (pc := 43) fd_29_29 tw_4_95 dX11_find_43 ?_
        refine j_iload (pc := 46) 0 dX11_find_46 rfl ?_
        refine j_iald (pc := 48) rfl rfl rfl dX11_find_48 (fun j5 => ?_)
        refine j_iald (pc := 49) rfl rfl rfl dX11_find_49 (fun j6 => ?_)
        exact j_ireturn (pc := 50) rfl (Nat.le_of_ble_eq_true rfl) (Nat.le_of_ble_eq_true rfl) dX11_find_50
      · refine j_iconst (pc := 34) (v := (-1)) (by decide) dX11_find_34 ?_
        refine j_goto (pc := 35) (tgt := 50) dX11_find_35 rfl ?_
        exact j_ireturn (pc := 50) rfl (Nat.le_of_ble_eq_true rfl) (Nat.le_of_ble_eq_true rfl) dX11_find_50
    · refine j_bipush (pc := 17) (v := (-102)) (by decide) dX11_find_17 ?_
      exact j_ireturn (pc := 19) rfl (Nat.le_of_ble_eq_true rfl) (Nat.le_of_ble_eq_true rfl) dX11_find_19
  · refine j_bipush (pc := 8) (v := (-101)) (by decide) dX11_find_8 ?_
    exact j_ireturn (pc := 10) rfl (Nat.le_of_ble_eq_true rfl) (Nat.le_of_ble_eq_true rfl) dX11_find_10
theorem c11_find (l : Launch) (N : Nat) (v0 : Nat) (v1 : Int32) (v2 : Int64) : Ctr l yX11_find cX11_find 5 (some .int) rm11_find eI [aR 29 v0, aI v1, aL v2] (f11_find N v0 v1 v2) := ctr_of (lv := [(0, aR 29 v0), (1, aI v1), (2, aL v2)]) (by decide +kernel) (fun _ => rfl) (fun _ => (Nat.le_of_ble_eq_true rfl)) (fun _ h => lvl_als h rfl) (fun _ σ _ => j11_find N v0 v1 v2 σ)
abbrev rm11_finding : Room := { frames := 0, cells := 0, slots := 0, locals := 0 }
set_option maxRecDepth 20000 in
set_option maxHeartbeats 4000000 in
theorem j11_finding {Γ : jX} {tg : Int32 × rS} (v0 : Nat) (σ : rS) : J Γ rm11_finding eI cX11_finding RX11 1 (some .int) tg 0 0 0 [(0, aR 29 v0)] [] σ (f11_finding v0 σ) := by
  unfold f11_finding
  refine j_aload_n (pc := 0) 0 dX11_finding_0 rfl rfl ?_
  refine j_getI (pc := 1) fd_29_0 tw_4_66 dX11_finding_1 ?_
  exact j_ireturn (pc := 4) rfl (Nat.le_of_ble_eq_true rfl) (Nat.le_of_ble_eq_true rfl) dX11_finding_4
theorem c11_finding (l : Launch) (v0 : Nat) : Ctr l yX11_finding cX11_finding 1 (some .int) rm11_finding eI [aR 29 v0] (f11_finding v0) := ctr_of (lv := [(0, aR 29 v0)]) (by decide +kernel) (fun _ => rfl) (fun _ => (Nat.le_of_ble_eq_true rfl)) (fun _ h => lvl_als h rfl) (fun _ σ _ => j11_finding v0 σ)
abbrev rm11_findings : Room := { frames := 1, cells := 0, slots := 0, locals := 25 }
set_option maxRecDepth 20000 in
set_option maxHeartbeats 4000000 in
theorem j11_findings {Γ : jX} {tg : Int32 × rS} (v0 : Nat) (v1 : Int32) (σ : rS) : J Γ rm11_findings eI cX11_findings RX11 2 (some .int) tg 0 0 0 [(0, aR 29 v0), (1, aI v1)] [] σ (f11_findings v0 v1 σ) := by
  unfold f11_findings
  refine j_iload_n (pc := 0) 1 dX11_findings_0 rfl rfl ?_
  refine j_i2l (pc := 1) dX11_findings_1 ?_
  refine j_lconst (pc := 2) (v := 1) (by decide) dX11_findings_2 ?_
  refine j_ldc2 (pc := 3) tw_6_29 dX11_findings_3 ?_
  refine j_callSZ (pc := 6) (As := [aL (Int32.toInt64 v1), aL 1, aL 9]) (st := []) (fun l => c11_in l (Int32.toInt64 v1) 1 9) cs_RX11_140 rfl rfl (Nat.le_of_ble_eq_true rfl) ⟨(Nat.le_of_ble_eq_true rfl), (Nat.le_of_ble_eq_true rfl)⟩ ⟨(Nat.le_of_ble_eq_true rfl), (Nat.le_of_ble_eq_true rfl)⟩ dX11_findings_6 (fun r1 σ2 => ?_)
  refine j_ifeqB (pc := 9) (tgt := 21) dX11_findings_9 rfl (fun _ => ?_) (fun _ => ?_)
  · refine j_bipush (pc := 21) (v := (-102)) (by decide) dX11_findings_21 ?_
    exact j_ireturn (pc := 23) rfl (Nat.le_of_ble_eq_true rfl) (Nat.le_of_ble_eq_true rfl) dX11_findings_23
  · refine j_aload_n (pc := 12) 0 dX11_findings_12 rfl rfl ?_
    refine j_getF (pc := 13) fd_29_1 tw_4_67 dX11_findings_13 ?_
    refine j_iload_n (pc := 16) 1 dX11_findings_16 rfl rfl ?_
    refine j_iald (pc := 17) rfl rfl rfl dX11_findings_17 (fun j3 => ?_)
    refine j_goto (pc := 18) (tgt := 23) dX11_findings_18 rfl ?_
    exact j_ireturn (pc := 23) rfl (Nat.le_of_ble_eq_true rfl) (Nat.le_of_ble_eq_true rfl) dX11_findings_23
theorem c11_findings (l : Launch) (v0 : Nat) (v1 : Int32) : Ctr l yX11_findings cX11_findings 2 (some .int) rm11_findings eI [aR 29 v0, aI v1] (f11_findings v0 v1) := ctr_of (lv := [(0, aR 29 v0), (1, aI v1)]) (by decide +kernel) (fun _ => rfl) (fun _ => (Nat.le_of_ble_eq_true rfl)) (fun _ h => lvl_als h rfl) (fun _ σ _ => j11_findings v0 v1 σ)
abbrev rm11_freeBody : Room := { frames := 0, cells := 0, slots := 0, locals := 0 }
set_option maxRecDepth 20000 in
set_option maxHeartbeats 4000000 in
theorem jb11_freeBody_2 {Γ : jX} {tg : Int32 × rS} (N : Nat) (K2 : Nat → Int32 → rS → Option (Int32 × rS)) (hK2 : ∀ (v0 : Nat) (v1 : Int32) (σ : rS), J Γ rm11_freeBody eI cX11_freeBody RX11 2 (some .int) tg 0 0 2 [(0, aR 29 v0), (1, aI v1)] [] σ (K2 v0 v1 σ)) (v0 : Nat) (v1 : Int32) (σ : rS) : J Γ rm11_freeBody eI cX11_freeBody RX11 2 (some .int) tg 0 0 2 [(0, aR 29 v0), (1, aI v1)] [] σ (B11_freeBody_2 N K2 v0 v1 σ) := by
  unfold B11_freeBody_2
  refine j_iload_n (pc := 2) 1 dX11_freeBody_2 rfl rfl ?_
  refine j_bipush (pc := 3) (v := 30) (by decide) dX11_freeBody_3 ?_
  refine j_icmpge (pc := 5) (tgt := 24) dX11_freeBody_5 rfl (fun _ => ?_) (fun _ => ?_)
  · refine j_iload_n (pc := 24) 1 dX11_freeBody_24 rfl rfl ?_
    exact j_ireturn (pc := 25) rfl (Nat.le_of_ble_eq_true rfl) (Nat.le_of_ble_eq_true rfl) dX11_freeBody_25
  · refine j_aload_n (pc := 8) 0 dX11_freeBody_8 rfl rfl ?_
    refine j_getF (pc := 9) fd_29_21 tw_4_87 dX11_freeBody_9 ?_
    refine j_iload_n (pc := 12) 1 dX11_freeBody_12 rfl rfl ?_
    refine j_iald (pc := 13) rfl rfl rfl dX11_freeBody_13 (fun j1 => ?_)
    refine j_iconst (pc := 14) (v := (-1)) (by decide) dX11_freeBody_14 ?_
    refine j_icmpeq (pc := 15) (tgt := 24) dX11_freeBody_15 rfl (fun _ => ?_) (fun _ => ?_)
    · refine j_iload_n (pc := 24) 1 dX11_freeBody_24 rfl rfl ?_
      exact j_ireturn (pc := 25) rfl (Nat.le_of_ble_eq_true rfl) (Nat.le_of_ble_eq_true rfl) dX11_freeBody_25
    · refine j_iinc (pc := 18) (w := 1) (lv' := [(1, aI (v1 + 1)), (0, aR 29 v0)]) 1 dX11_freeBody_18 rfl (by decide) (Nat.le_of_ble_eq_true rfl) rfl ?_
      refine j_goto (pc := 21) (tgt := 2) dX11_freeBody_21 rfl ?_
      refine j_sub [1, 0] (lv' := [(0, aR 29 v0), (1, aI (v1 + 1))]) rfl ?_
      exact hK2 v0 (v1 + 1) σ
theorem jl11_freeBody_2 {Γ : jX} {tg : Int32 × rS} (N : Nat) : ∀ (n : Nat) (v0 : Nat) (v1 : Int32) (σ : rS), J Γ rm11_freeBody eI cX11_freeBody RX11 2 (some .int) tg 0 0 2 [(0, aR 29 v0), (1, aI v1)] [] σ (L11_freeBody_2 N n v0 v1 σ) := by
  intro n
  induction n with
  | zero => intro v0 v1 σ; exact j_none
  | succ n ih => intro v0 v1 σ; exact jb11_freeBody_2 N (L11_freeBody_2 N n) ih v0 v1 σ
set_option maxRecDepth 20000 in
set_option maxHeartbeats 4000000 in
theorem j11_freeBody {Γ : jX} {tg : Int32 × rS} (N : Nat) (v0 : Nat) (σ : rS) : J Γ rm11_freeBody eI cX11_freeBody RX11 2 (some .int) tg 0 0 0 [(0, aR 29 v0)] [] σ (f11_freeBody N v0 σ) := by
  unfold f11_freeBody
  refine j_iconst (pc := 0) (v := 0) (by decide) dX11_freeBody_0 ?_
  refine j_istore_n (pc := 1) (lv' := [(1, aI 0), (0, aR 29 v0)]) dX11_freeBody_1 rfl (Nat.le_of_ble_eq_true rfl) rfl ?_
  refine j_sub [1, 0] (lv' := [(0, aR 29 v0), (1, aI 0)]) rfl ?_
  exact jl11_freeBody_2 N  N v0 0 σ
theorem c11_freeBody (l : Launch) (N : Nat) (v0 : Nat) : Ctr l yX11_freeBody cX11_freeBody 2 (some .int) rm11_freeBody eI [aR 29 v0] (f11_freeBody N v0) := ctr_of (lv := [(0, aR 29 v0)]) (by decide +kernel) (fun _ => rfl) (fun _ => (Nat.le_of_ble_eq_true rfl)) (fun _ h => lvl_als h rfl) (fun _ σ _ => j11_freeBody N v0 σ)
abbrev rm11_get : Room := { frames := 3, cells := 0, slots := 0, locals := 68 }
set_option maxRecDepth 20000 in
set_option maxHeartbeats 4000000 in
theorem j11_get {Γ : jX} {tg : Int32 × rS} (v0 : Nat) (v1 : Int32) (v2 : Int32) (σ : rS) : J Γ rm11_get eI cX11_get RX11 4 (some .int) tg 0 0 0 [(0, aR 29 v0), (1, aI v1), (2, aI v2)] [] σ (f11_get v0 v1 v2 σ) := by
  unfold f11_get
  refine j_aload_n (pc := 0) 0 dX11_get_0 rfl rfl ?_
  refine j_iload_n (pc := 1) 1 dX11_get_1 rfl rfl ?_
  refine j_iload_n (pc := 2) 2 dX11_get_2 rfl rfl ?_
  refine j_callVI (pc := 3) (As := [aI v1, aI v2]) (st := []) (fun l => c11_against l v0 v1 v2) cs_RX11_158 rfl rfl rfl rfl (Nat.le_of_ble_eq_true rfl) ⟨(Nat.le_of_ble_eq_true rfl), (Nat.le_of_ble_eq_true rfl)⟩ ⟨(Nat.le_of_ble_eq_true rfl), (Nat.le_of_ble_eq_true rfl)⟩ dX11_get_3 (fun r1 σ2 => ?_)
  refine j_istore_n (pc := 6) (lv' := [(3, aI r1), (0, aR 29 v0), (1, aI v1), (2, aI v2)]) dX11_get_6 rfl (Nat.le_of_ble_eq_true rfl) rfl ?_
  refine j_iload_n (pc := 7) 0 dX11_get_7 rfl rfl ?_
  refine j_ifne (pc := 8) (tgt := 26) dX11_get_8 rfl (fun _ => ?_) (fun _ => ?_)
  · refine j_iload_n (pc := 26) 0 dX11_get_26 rfl rfl ?_
    exact j_ireturn (pc := 27) rfl (Nat.le_of_ble_eq_true rfl) (Nat.le_of_ble_eq_true rfl) dX11_get_27
  · refine j_aload_n (pc := 11) 1 dX11_get_11 rfl rfl ?_
    refine j_aload_n (pc := 12) 1 dX11_get_12 rfl rfl ?_
    refine j_getF (pc := 13) fd_29_7 tw_4_73 dX11_get_13 ?_
    refine j_bipush (pc := 16) (v := 24) (by decide) dX11_get_16 ?_
    refine j_iload_n (pc := 18) 2 dX11_get_18 rfl rfl ?_
    refine j_imul (pc := 19) dX11_get_19 ?_
    refine j_iload_n (pc := 20) 3 dX11_get_20 rfl rfl ?_
    refine j_iadd (pc := 21) dX11_get_21 ?_
    refine j_lald (pc := 22) rfl rfl rfl dX11_get_22 (fun j3 => ?_)
    refine j_putL (pc := 23) fd_29_2 tw_4_68 dX11_get_23 ?_
    refine j_lets (fun σ4 => ?_)
    refine j_iload_n (pc := 26) 0 dX11_get_26 rfl rfl ?_
    exact j_ireturn (pc := 27) rfl (Nat.le_of_ble_eq_true rfl) (Nat.le_of_ble_eq_true rfl) dX11_get_27
theorem c11_get (l : Launch) (v0 : Nat) (v1 : Int32) (v2 : Int32) : Ctr l yX11_get cX11_get 4 (some .int) rm11_get eI [aR 29 v0, aI v1, aI v2] (f11_get v0 v1 v2) := ctr_of (lv := [(0, aR 29 v0), (1, aI v1), (2, aI v2)]) (by decide +kernel) (fun _ => rfl) (fun _ => (Nat.le_of_ble_eq_true rfl)) (fun _ h => lvl_als h rfl) (fun _ σ _ => j11_get v0 v1 v2 σ)
abbrev rm11_harm : Room := { frames := 2, cells := 0, slots := 0, locals := 46 }
set_option maxRecDepth 20000 in
set_option maxHeartbeats 4000000 in
theorem j11_harm {Γ : jX} {tg : Int32 × rS} (v0 : Nat) (v1 : Int32) (v2 : Int32) (v3 : Int32) (σ : rS) : J Γ rm11_harm eI cX11_harm RX11 4 (some .int) tg 0 0 0 [(0, aR 29 v0), (1, aI v1), (2, aI v2), (3, aI v3)] [] σ (f11_harm v0 v1 v2 v3 σ) := by
  unfold f11_harm
  refine j_aload_n (pc := 0) 0 dX11_harm_0 rfl rfl ?_
  refine j_iload_n (pc := 1) 1 dX11_harm_1 rfl rfl ?_
  refine j_callVZ (pc := 2) (As := [aI v1]) (st := []) (fun l => c11_isStream l v0 v1) cs_RX11_247 rfl rfl rfl rfl (Nat.le_of_ble_eq_true rfl) ⟨(Nat.le_of_ble_eq_true rfl), (Nat.le_of_ble_eq_true rfl)⟩ ⟨(Nat.le_of_ble_eq_true rfl), (Nat.le_of_ble_eq_true rfl)⟩ dX11_harm_2 (fun r1 σ2 => ?_)
  refine j_ifneB (pc := 5) (tgt := 11) dX11_harm_5 rfl (fun _ => ?_) (fun _ => ?_)
  · refine j_iload_n (pc := 11) 2 dX11_harm_11 rfl rfl ?_
    refine j_i2l (pc := 12) dX11_harm_12 ?_
    refine j_lconst (pc := 13) (v := 0) (by decide) dX11_harm_13 ?_
    refine j_aload_n (pc := 14) 0 dX11_harm_14 rfl rfl ?_
    refine j_getF (pc := 15) fd_29_15 tw_4_81 dX11_harm_15 ?_
    refine j_iload_n (pc := 18) 1 dX11_harm_18 rfl rfl ?_
    refine j_iald (pc := 19) rfl rfl rfl dX11_harm_19 (fun j3 => ?_)
    refine j_iconst (pc := 20) (v := 1) (by decide) dX11_harm_20 ?_
    refine j_isub (pc := 21) dX11_harm_21 ?_
    refine j_i2l (pc := 22) dX11_harm_22 ?_
    refine j_callSZ (pc := 23) (As := [aL (Int32.toInt64 v2), aL 0, aL (Int32.toInt64 ((gI σ2 45 v0 j3) - 1))]) (st := []) (fun l => c11_in l (Int32.toInt64 v2) 0 (Int32.toInt64 ((gI σ2 45 v0 j3) - 1))) cs_RX11_140 rfl rfl (Nat.le_of_ble_eq_true rfl) ⟨(Nat.le_of_ble_eq_true rfl), (Nat.le_of_ble_eq_true rfl)⟩ ⟨(Nat.le_of_ble_eq_true rfl), (Nat.le_of_ble_eq_true rfl)⟩ dX11_harm_23 (fun r4 σ5 => ?_)
    refine j_ifneB (pc := 26) (tgt := 35) dX11_harm_26 rfl (fun _ => ?_) (fun _ => ?_)
    · refine j_aload_n (pc := 35) 0 dX11_harm_35 rfl rfl ?_
      refine j_getF (pc := 36) fd_29_14 tw_4_80 dX11_harm_36 ?_
      refine j_sipush (pc := 39) (v := 400) (by decide) dX11_harm_39 ?_
      refine j_iload_n (pc := 42) 1 dX11_harm_42 rfl rfl ?_
      refine j_imul (pc := 43) dX11_harm_43 ?_
      refine j_iload_n (pc := 44) 2 dX11_harm_44 rfl rfl ?_
      refine j_iadd (pc := 45) dX11_harm_45 ?_
      refine j_dup2 (pc := 46) dX11_harm_46 rfl rfl ?_
      refine j_iald (pc := 47) rfl rfl rfl dX11_harm_47 (fun j6 => ?_)
      refine j_iload_n (pc := 48) 3 dX11_harm_48 rfl rfl ?_
      refine j_sipush (pc := 49) (v := 255) (by decide) dX11_harm_49 ?_
      refine j_iand (pc := 52) dX11_harm_52 ?_
      refine j_ixor (pc := 53) dX11_harm_53 ?_
      refine j_iast (pc := 54) rfl rfl rfl dX11_harm_54 (fun j7 => ?_)
      refine j_lets (fun σ8 => ?_)
      refine j_aload_n (pc := 55) 0 dX11_harm_55 rfl rfl ?_
      refine j_getF (pc := 56) fd_29_14 tw_4_80 dX11_harm_56 ?_
      refine j_sipush (pc := 59) (v := 400) (by decide) dX11_harm_59 ?_
      refine j_iload_n (pc := 62) 1 dX11_harm_62 rfl rfl ?_
      refine j_imul (pc := 63) dX11_harm_63 ?_
      refine j_iload_n (pc := 64) 2 dX11_harm_64 rfl rfl ?_
      refine j_iadd (pc := 65) dX11_harm_65 ?_
      refine j_iald (pc := 66) rfl rfl rfl dX11_harm_66 (fun j9 => ?_)
      exact j_ireturn (pc := 67) rfl (Nat.le_of_ble_eq_true rfl) (Nat.le_of_ble_eq_true rfl) dX11_harm_67
    · refine j_aload_n (pc := 29) 0 dX11_harm_29 rfl rfl ?_
      refine j_iconst (pc := 30) (v := 2) (by decide) dX11_harm_30 ?_
      refine j_callVI (pc := 31) (As := [aI 2]) (st := []) (fun l => c11_meets l v0 2) cs_RX11_146 rfl rfl rfl rfl (Nat.le_of_ble_eq_true rfl) ⟨(Nat.le_of_ble_eq_true rfl), (Nat.le_of_ble_eq_true rfl)⟩ ⟨(Nat.le_of_ble_eq_true rfl), (Nat.le_of_ble_eq_true rfl)⟩ dX11_harm_31 (fun r10 σ11 => ?_)
      exact j_ireturn (pc := 34) rfl (Nat.le_of_ble_eq_true rfl) (Nat.le_of_ble_eq_true rfl) dX11_harm_34
  · refine j_bipush (pc := 8) (v := (-101)) (by decide) dX11_harm_8 ?_
    exact j_ireturn (pc := 10) rfl (Nat.le_of_ble_eq_true rfl) (Nat.le_of_ble_eq_true rfl) dX11_harm_10
theorem c11_harm (l : Launch) (v0 : Nat) (v1 : Int32) (v2 : Int32) (v3 : Int32) : Ctr l yX11_harm cX11_harm 4 (some .int) rm11_harm eI [aR 29 v0, aI v1, aI v2, aI v3] (f11_harm v0 v1 v2 v3) := ctr_of (lv := [(0, aR 29 v0), (1, aI v1), (2, aI v2), (3, aI v3)]) (by decide +kernel) (fun _ => rfl) (fun _ => (Nat.le_of_ble_eq_true rfl)) (fun _ h => lvl_als h rfl) (fun _ σ _ => j11_harm v0 v1 v2 v3 σ)
abbrev rm11_house : Room := { frames := 0, cells := 0, slots := 0, locals := 0 }
set_option maxRecDepth 20000 in
set_option maxHeartbeats 4000000 in
theorem j11_house {Γ : jX} {tg : Int32 × rS} (v0 : Nat) (σ : rS) : J Γ rm11_house eI cX11_house RX11 1 (some .int) tg 0 0 0 [(0, aR 29 v0)] [] σ (f11_house v0 σ) := by
  unfold f11_house
  refine j_aload_n (pc := 0) 0 dX11_house_0 rfl rfl ?_
  refine j_getI (pc := 1) fd_29_26 tw_4_92 dX11_house_1 ?_
  refine j_bipush (pc := 4) (v := 6) (by decide) dX11_house_4 ?_
  refine j_icmpne (pc := 6) (tgt := 12) dX11_house_6 rfl (fun _ => ?_) (fun _ => ?_)
  · refine j_aload_n (pc := 12) 0 dX11_house_12 rfl rfl ?_
    refine j_getF (pc := 13) fd_29_27 tw_4_93 dX11_house_13 ?_
    refine j_aload_n (pc := 16) 0 dX11_house_16 rfl rfl ?_
    refine j_getI (pc := 17) fd_29_26 tw_4_92 dX11_house_17 ?_
    refine j_iconst (pc := 20) (v := 0) (by decide) dX11_house_20 ?_
    refine j_iast (pc := 21) rfl rfl rfl dX11_house_21 (fun j1 => ?_)
    refine j_lets (fun σ2 => ?_)
    refine j_aload_n (pc := 22) 0 dX11_house_22 rfl rfl ?_
    refine j_dup (pc := 23) dX11_house_23 rfl ?_
    refine j_getI (pc := 24) fd_29_26 tw_4_92 dX11_house_24 ?_
    refine j_iconst (pc := 27) (v := 1) (by decide) dX11_house_27 ?_
    refine j_iadd (pc := 28) dX11_house_28 ?_
    refine j_putI (pc := 29) fd_29_26 rfl rfl tw_4_92 dX11_house_29 ?_
    refine j_lets (fun σ3 => ?_)
    refine j_aload_n (pc := 32) 0 dX11_house_32 rfl rfl ?_
    refine j_getI (pc := 33) fd_29_26 tw_4_92 dX11_house_33 ?_
    refine j_iconst (pc := 36) (v := 1) (by decide) dX11_house_36 ?_
    refine j_isub (pc := 37) dX11_house_37 ?_
    exact j_ireturn (pc := 38) rfl (Nat.le_of_ble_eq_true rfl) (Nat.le_of_ble_eq_true rfl) dX11_house_38
  · refine j_bipush (pc := 9) (v := (-104)) (by decide) dX11_house_9 ?_
    exact j_ireturn (pc := 11) rfl (Nat.le_of_ble_eq_true rfl) (Nat.le_of_ble_eq_true rfl) dX11_house_11
theorem c11_house (l : Launch) (v0 : Nat) : Ctr l yX11_house cX11_house 1 (some .int) rm11_house eI [aR 29 v0] (f11_house v0) := ctr_of (lv := [(0, aR 29 v0)]) (by decide +kernel) (fun _ => rfl) (fun _ => (Nat.le_of_ble_eq_true rfl)) (fun _ h => lvl_als h rfl) (fun _ σ _ => j11_house v0 σ)
abbrev rm11_kEndless : Room := { frames := 0, cells := 0, slots := 0, locals := 0 }
set_option maxRecDepth 20000 in
set_option maxHeartbeats 4000000 in
theorem j11_kEndless {Γ : jX} {tg : Int64 × rS} (v0 : Int32) (σ : rS) : J Γ rm11_kEndless eL cX11_kEndless RX11 1 (some .long) tg 0 0 0 [(0, aI v0)] [] σ (f11_kEndless v0 σ) := by
  unfold f11_kEndless
  refine j_iload_n (pc := 0) 0 dX11_kEndless_0 rfl rfl ?_
  refine j_bipush (pc := 1) (v := 6) (by decide) dX11_kEndless_1 ?_
  refine j_icmpne (pc := 3) (tgt := 12) dX11_kEndless_3 rfl (fun _ => ?_) (fun _ => ?_)
  · refine j_ldc2 (pc := 12) tw_4_228 dX11_kEndless_12 ?_
    exact j_lreturn (pc := 15) rfl (Nat.le_of_ble_eq_true rfl) (Nat.le_of_ble_eq_true rfl) dX11_kEndless_15
  · refine j_ldc2 (pc := 6) tw_4_226 dX11_kEndless_6 ?_
    refine j_goto (pc := 9) (tgt := 15) dX11_kEndless_9 rfl ?_
    exact j_lreturn (pc := 15) rfl (Nat.le_of_ble_eq_true rfl) (Nat.le_of_ble_eq_true rfl) dX11_kEndless_15
theorem c11_kEndless (l : Launch) (v0 : Int32) : Ctr l yX11_kEndless cX11_kEndless 1 (some .long) rm11_kEndless eL [aI v0] (f11_kEndless v0) := ctr_of (lv := [(0, aI v0)]) (by decide +kernel) (fun _ => rfl) (fun _ => (Nat.le_of_ble_eq_true rfl)) (fun _ h => lvl_als h rfl) (fun _ σ _ => j11_kEndless v0 σ)
abbrev rm11_kMask : Room := { frames := 0, cells := 0, slots := 0, locals := 0 }
set_option maxRecDepth 20000 in
set_option maxHeartbeats 4000000 in
theorem j11_kMask {Γ : jX} {tg : Int64 × rS} (v0 : Int32) (σ : rS) : J Γ rm11_kMask eL cX11_kMask RX11 1 (some .long) tg 0 0 0 [(0, aI v0)] [] σ (f11_kMask v0 σ) := by
  unfold f11_kMask
  refine j_iload_n (pc := 0) 0 dX11_kMask_0 rfl rfl ?_
  refine j_bipush (pc := 1) (v := 6) (by decide) dX11_kMask_1 ?_
  refine j_icmpne (pc := 3) (tgt := 12) dX11_kMask_3 rfl (fun _ => ?_) (fun _ => ?_)
  · refine j_ldc2 (pc := 12) tw_4_227 dX11_kMask_12 ?_
    exact j_lreturn (pc := 15) rfl (Nat.le_of_ble_eq_true rfl) (Nat.le_of_ble_eq_true rfl) dX11_kMask_15
  · refine j_ldc2 (pc := 6) tw_4_225 dX11_kMask_6 ?_
    refine j_goto (pc := 9) (tgt := 15) dX11_kMask_9 rfl ?_
    exact j_lreturn (pc := 15) rfl (Nat.le_of_ble_eq_true rfl) (Nat.le_of_ble_eq_true rfl) dX11_kMask_15
theorem c11_kMask (l : Launch) (v0 : Int32) : Ctr l yX11_kMask cX11_kMask 1 (some .long) rm11_kMask eL [aI v0] (f11_kMask v0) := ctr_of (lv := [(0, aI v0)]) (by decide +kernel) (fun _ => rfl) (fun _ => (Nat.le_of_ble_eq_true rfl)) (fun _ h => lvl_als h rfl) (fun _ σ _ => j11_kMask v0 σ)
abbrev rm11_likeBody : Room := { frames := 0, cells := 0, slots := 0, locals := 0 }
set_option maxRecDepth 20000 in
set_option maxHeartbeats 4000000 in
theorem jb11_likeBody_98 {Γ : jX} {tg : Int32 × rS} (N : Nat) (K2 : Nat → Int32 → Int32 → rS → Option (Int32 × rS)) (hK2 : ∀ (v0 : Nat) (v1 : Int32) (v2 : Int32) (σ : rS), J Γ rm11_likeBody eI cX11_likeBody RX11 5 (some .int) tg 0 0 2 [(0, aR 29 v0), (1, aI v1), (2, aI v2)] [] σ (K2 v0 v1 v2 σ)) (v0 : Nat) (v1 : Int32) (v2 : Int32) (v3 : Bool) (σ : rS) : J Γ rm11_likeBody eI cX11_likeBody RX11 5 (some .int) tg 0 0 98 [(0, aR 29 v0), (1, aI v1), (2, aI v2), (3, aI (bi v3))] [] σ (B11_likeBody_98 N K2 v0 v1 v2 v3 σ) := by
  unfold B11_likeBody_98
  refine j_iload_n (pc := 98) 3 dX11_likeBody_98 rfl rfl ?_
  refine j_ifeqB (pc := 99) (tgt := 104) dX11_likeBody_99 rfl (fun _ => ?_) (fun _ => ?_)
  · refine j_iinc (pc := 104) (w := 1) (lv' := [(2, aI (v2 + 1)), (0, aR 29 v0), (1, aI v1), (3, aI (bi v3))]) 2 dX11_likeBody_104 rfl (by decide) (Nat.le_of_ble_eq_true rfl) rfl ?_
    refine j_goto (pc := 107) (tgt := 2) dX11_likeBody_107 rfl ?_
    refine j_sub [1, 2, 0] (lv' := [(0, aR 29 v0), (1, aI v1), (2, aI (v2 + 1))]) rfl ?_
    exact hK2 v0 v1 (v2 + 1) σ
  · refine j_iload_n (pc := 102) 2 dX11_likeBody_102 rfl rfl ?_
    exact j_ireturn (pc := 103) rfl (Nat.le_of_ble_eq_true rfl) (Nat.le_of_ble_eq_true rfl) dX11_likeBody_103
set_option maxRecDepth 20000 in
set_option maxHeartbeats 4000000 in
theorem jb11_likeBody_91 {Γ : jX} {tg : Int32 × rS} (N : Nat) (K2 : Nat → Int32 → Int32 → rS → Option (Int32 × rS)) (K42 : Nat → Int32 → Int32 → Bool → Int32 → rS → Option (Int32 × rS)) (hK2 : ∀ (v0 : Nat) (v1 : Int32) (v2 : Int32) (σ : rS), J Γ rm11_likeBody eI cX11_likeBody RX11 5 (some .int) tg 0 0 2 [(0, aR 29 v0), (1, aI v1), (2, aI v2)] [] σ (K2 v0 v1 v2 σ)) (hK42 : ∀ (v0 : Nat) (v1 : Int32) (v2 : Int32) (v3 : Bool) (v4 : Int32) (σ : rS), J Γ rm11_likeBody eI cX11_likeBody RX11 5 (some .int) tg 0 0 42 [(0, aR 29 v0), (1, aI v1), (2, aI v2), (3, aI (bi v3)), (4, aI v4)] [] σ (K42 v0 v1 v2 v3 v4 σ)) (v0 : Nat) (v1 : Int32) (v2 : Int32) (v4 : Int32) (s0 : Bool) (σ : rS) : J Γ rm11_likeBody eI cX11_likeBody RX11 5 (some .int) tg 0 0 91 [(0, aR 29 v0), (1, aI v1), (2, aI v2), (4, aI v4)] [aI (bi s0)] σ (B11_likeBody_91 N K2 K42 v0 v1 v2 v4 s0 σ) := by
  unfold B11_likeBody_91
  refine j_istore_n (pc := 91) (lv' := [(3, aI (bi s0)), (0, aR 29 v0), (1, aI v1), (2, aI v2), (4, aI v4)]) dX11_likeBody_91 rfl (Nat.le_of_ble_eq_true rfl) rfl ?_
  refine j_iinc (pc := 92) (w := 1) (lv' := [(4, aI (v4 + 1)), (3, aI (bi s0)), (0, aR 29 v0), (1, aI v1), (2, aI v2)]) 4 dX11_likeBody_92 rfl (by decide) (Nat.le_of_ble_eq_true rfl) rfl ?_
  refine j_goto (pc := 95) (tgt := 42) dX11_likeBody_95 rfl ?_
  refine j_sub [2, 3, 4, 1, 0] (lv' := [(0, aR 29 v0), (1, aI v1), (2, aI v2), (3, aI (bi s0)), (4, aI (v4 + 1))]) rfl ?_
  exact hK42 v0 v1 v2 s0 (v4 + 1) σ
set_option maxRecDepth 20000 in
set_option maxHeartbeats 4000000 in
theorem jb11_likeBody_42 {Γ : jX} {tg : Int32 × rS} (N : Nat) (K2 : Nat → Int32 → Int32 → rS → Option (Int32 × rS)) (K42 : Nat → Int32 → Int32 → Bool → Int32 → rS → Option (Int32 × rS)) (hK2 : ∀ (v0 : Nat) (v1 : Int32) (v2 : Int32) (σ : rS), J Γ rm11_likeBody eI cX11_likeBody RX11 5 (some .int) tg 0 0 2 [(0, aR 29 v0), (1, aI v1), (2, aI v2)] [] σ (K2 v0 v1 v2 σ)) (hK42 : ∀ (v0 : Nat) (v1 : Int32) (v2 : Int32) (v3 : Bool) (v4 : Int32) (σ : rS), J Γ rm11_likeBody eI cX11_likeBody RX11 5 (some .int) tg 0 0 42 [(0, aR 29 v0), (1, aI v1), (2, aI v2), (3, aI (bi v3)), (4, aI v4)] [] σ (K42 v0 v1 v2 v3 v4 σ)) (v0 : Nat) (v1 : Int32) (v2 : Int32) (v3 : Bool) (v4 : Int32) (σ : rS) : J Γ rm11_likeBody eI cX11_likeBody RX11 5 (some .int) tg 0 0 42 [(0, aR 29 v0), (1, aI v1), (2, aI v2), (3, aI (bi v3)), (4, aI v4)] [] σ (B11_likeBody_42 N K2 K42 v0 v1 v2 v3 v4 σ) := by
  unfold B11_likeBody_42
  refine j_iload (pc := 42) 4 dX11_likeBody_42 rfl ?_
  refine j_aload_n (pc := 44) 0 dX11_likeBody_44 rfl rfl ?_
  refine j_getF (pc := 45) fd_29_15 tw_4_81 dX11_likeBody_45 ?_
  refine j_iload_n (pc := 48) 1 dX11_likeBody_48 rfl rfl ?_
  refine j_iald (pc := 49) rfl rfl rfl dX11_likeBody_49 (fun j1 => ?_)
  refine j_icmpge (pc := 50) (tgt := 98) dX11_likeBody_50 rfl (fun _ => ?_) (fun _ => ?_)
  · refine j_sub [0, 1, 2, 3] (lv' := [(0, aR 29 v0), (1, aI v1), (2, aI v2), (3, aI (bi v3))]) rfl ?_
    exact jb11_likeBody_98 N K2 hK2 v0 v1 v2 v3 σ
  · refine j_iload_n (pc := 53) 3 dX11_likeBody_53 rfl rfl ?_
    refine j_ifeqB (pc := 54) (tgt := 98) dX11_likeBody_54 rfl (fun _ => ?_) (fun _ => ?_)
    · refine j_sub [0, 1, 2, 3] (lv' := [(0, aR 29 v0), (1, aI v1), (2, aI v2), (3, aI (bi v3))]) rfl ?_
      exact jb11_likeBody_98 N K2 hK2 v0 v1 v2 v3 σ
    · refine j_aload_n (pc := 57) 0 dX11_likeBody_57 rfl rfl ?_
      refine j_getF (pc := 58) fd_29_24 tw_4_90 dX11_likeBody_58 ?_
      refine j_sipush (pc := 61) (v := 400) (by decide) dX11_likeBody_61 ?_
      refine j_iload_n (pc := 64) 2 dX11_likeBody_64 rfl rfl ?_
      refine j_imul (pc := 65) dX11_likeBody_65 ?_
      refine j_iload (pc := 66) 4 dX11_likeBody_66 rfl ?_
      refine j_iadd (pc := 68) dX11_likeBody_68 ?_
      refine j_iald (pc := 69) rfl rfl rfl dX11_likeBody_69 (fun j2 => ?_)
      refine j_aload_n (pc := 70) 0 dX11_likeBody_70 rfl rfl ?_
      refine j_getF (pc := 71) fd_29_14 tw_4_80 dX11_likeBody_71 ?_
      refine j_sipush (pc := 74) (v := 400) (by decide) dX11_likeBody_74 ?_
      refine j_iload_n (pc := 77) 1 dX11_likeBody_77 rfl rfl ?_
      refine j_imul (pc := 78) dX11_likeBody_78 ?_
      refine j_iload (pc := 79) 4 dX11_likeBody_79 rfl ?_
      refine j_iadd (pc := 81) dX11_likeBody_81 ?_
      refine j_iald (pc := 82) rfl rfl rfl dX11_likeBody_82 (fun j3 => ?_)
      refine j_icmpne (pc := 83) (tgt := 90) dX11_likeBody_83 rfl (fun _ => ?_) (fun _ => ?_)
      · refine j_iconst (pc := 90) (v := 0) (by decide) dX11_likeBody_90 ?_
        refine j_sub [0, 1, 2, 4] (lv' := [(0, aR 29 v0), (1, aI v1), (2, aI v2), (4, aI v4)]) rfl ?_
        exact jb11_likeBody_91 N K2 K42 hK2 hK42 v0 v1 v2 v4 false σ
      · refine j_iconst (pc := 86) (v := 1) (by decide) dX11_likeBody_86 ?_
        refine j_goto (pc := 87) (tgt := 91) dX11_likeBody_87 rfl ?_
        refine j_sub [0, 1, 2, 4] (lv' := [(0, aR 29 v0), (1, aI v1), (2, aI v2), (4, aI v4)]) rfl ?_
        exact jb11_likeBody_91 N K2 K42 hK2 hK42 v0 v1 v2 v4 true σ
theorem jl11_likeBody_42 {Γ : jX} {tg : Int32 × rS} (N : Nat) (K2 : Nat → Int32 → Int32 → rS → Option (Int32 × rS)) (hK2 : ∀ (v0 : Nat) (v1 : Int32) (v2 : Int32) (σ : rS), J Γ rm11_likeBody eI cX11_likeBody RX11 5 (some .int) tg 0 0 2 [(0, aR 29 v0), (1, aI v1), (2, aI v2)] [] σ (K2 v0 v1 v2 σ)) : ∀ (n : Nat) (v0 : Nat) (v1 : Int32) (v2 : Int32) (v3 : Bool) (v4 : Int32) (σ : rS), J Γ rm11_likeBody eI cX11_likeBody RX11 5 (some .int) tg 0 0 42 [(0, aR 29 v0), (1, aI v1), (2, aI v2), (3, aI (bi v3)), (4, aI v4)] [] σ (L11_likeBody_42 N K2 n v0 v1 v2 v3 v4 σ) := by
  intro n
  induction n with
  | zero => intro v0 v1 v2 v3 v4 σ; exact j_none
  | succ n ih => intro v0 v1 v2 v3 v4 σ; exact jb11_likeBody_42 N K2 (L11_likeBody_42 N K2 n) hK2 ih v0 v1 v2 v3 v4 σ
set_option maxRecDepth 20000 in
set_option maxHeartbeats 4000000 in
theorem jb11_likeBody_38 {Γ : jX} {tg : Int32 × rS} (N : Nat) (K2 : Nat → Int32 → Int32 → rS → Option (Int32 × rS)) (hK2 : ∀ (v0 : Nat) (v1 : Int32) (v2 : Int32) (σ : rS), J Γ rm11_likeBody eI cX11_likeBody RX11 5 (some .int) tg 0 0 2 [(0, aR 29 v0), (1, aI v1), (2, aI v2)] [] σ (K2 v0 v1 v2 σ)) (v0 : Nat) (v1 : Int32) (v2 : Int32) (s0 : Bool) (σ : rS) : J Γ rm11_likeBody eI cX11_likeBody RX11 5 (some .int) tg 0 0 38 [(0, aR 29 v0), (1, aI v1), (2, aI v2)] [aI (bi s0)] σ (B11_likeBody_38 N K2 v0 v1 v2 s0 σ) := by
  unfold B11_likeBody_38
  refine j_istore_n (pc := 38) (lv' := [(3, aI (bi s0)), (0, aR 29 v0), (1, aI v1), (2, aI v2)]) dX11_likeBody_38 rfl (Nat.le_of_ble_eq_true rfl) rfl ?_
  refine j_iconst (pc := 39) (v := 0) (by decide) dX11_likeBody_39 ?_
  refine j_istore (pc := 40) (lv' := [(4, aI 0), (3, aI (bi s0)), (0, aR 29 v0), (1, aI v1), (2, aI v2)]) dX11_likeBody_40 (Nat.le_of_ble_eq_true rfl) rfl ?_
  refine j_sub [2, 3, 4, 1, 0] (lv' := [(0, aR 29 v0), (1, aI v1), (2, aI v2), (3, aI (bi s0)), (4, aI 0)]) rfl ?_
  exact jl11_likeBody_42 N K2 hK2 N v0 v1 v2 s0 0 σ
set_option maxRecDepth 20000 in
set_option maxHeartbeats 4000000 in
theorem jb11_likeBody_37 {Γ : jX} {tg : Int32 × rS} (N : Nat) (K2 : Nat → Int32 → Int32 → rS → Option (Int32 × rS)) (hK2 : ∀ (v0 : Nat) (v1 : Int32) (v2 : Int32) (σ : rS), J Γ rm11_likeBody eI cX11_likeBody RX11 5 (some .int) tg 0 0 2 [(0, aR 29 v0), (1, aI v1), (2, aI v2)] [] σ (K2 v0 v1 v2 σ)) (v0 : Nat) (v1 : Int32) (v2 : Int32) (σ : rS) : J Γ rm11_likeBody eI cX11_likeBody RX11 5 (some .int) tg 0 0 37 [(0, aR 29 v0), (1, aI v1), (2, aI v2)] [] σ (B11_likeBody_37 N K2 v0 v1 v2 σ) := by
  unfold B11_likeBody_37
  refine j_iconst (pc := 37) (v := 0) (by decide) dX11_likeBody_37 ?_
  exact jb11_likeBody_38 N K2 hK2 v0 v1 v2 false σ
set_option maxRecDepth 20000 in
set_option maxHeartbeats 4000000 in
theorem jb11_likeBody_2 {Γ : jX} {tg : Int32 × rS} (N : Nat) (K2 : Nat → Int32 → Int32 → rS → Option (Int32 × rS)) (hK2 : ∀ (v0 : Nat) (v1 : Int32) (v2 : Int32) (σ : rS), J Γ rm11_likeBody eI cX11_likeBody RX11 5 (some .int) tg 0 0 2 [(0, aR 29 v0), (1, aI v1), (2, aI v2)] [] σ (K2 v0 v1 v2 σ)) (v0 : Nat) (v1 : Int32) (v2 : Int32) (σ : rS) : J Γ rm11_likeBody eI cX11_likeBody RX11 5 (some .int) tg 0 0 2 [(0, aR 29 v0), (1, aI v1), (2, aI v2)] [] σ (B11_likeBody_2 N K2 v0 v1 v2 σ) := by
  unfold B11_likeBody_2
  refine j_iload_n (pc := 2) 2 dX11_likeBody_2 rfl rfl ?_
  refine j_bipush (pc := 3) (v := 30) (by decide) dX11_likeBody_3 ?_
  refine j_icmpge (pc := 5) (tgt := 110) dX11_likeBody_5 rfl (fun _ => ?_) (fun _ => ?_)
  · refine j_iconst (pc := 110) (v := (-1)) (by decide) dX11_likeBody_110 ?_
    exact j_ireturn (pc := 111) rfl (Nat.le_of_ble_eq_true rfl) (Nat.le_of_ble_eq_true rfl) dX11_likeBody_111
  · refine j_aload_n (pc := 8) 0 dX11_likeBody_8 rfl rfl ?_
    refine j_getF (pc := 9) fd_29_21 tw_4_87 dX11_likeBody_9 ?_
    refine j_iload_n (pc := 12) 2 dX11_likeBody_12 rfl rfl ?_
    refine j_iald (pc := 13) rfl rfl rfl dX11_likeBody_13 (fun j1 => ?_)
    refine j_iconst (pc := 14) (v := (-1)) (by decide) dX11_likeBody_14 ?_
    refine j_icmpeq (pc := 15) (tgt := 37) dX11_likeBody_15 rfl (fun _ => ?_) (fun _ => ?_)
    · exact jb11_likeBody_37 N K2 hK2 v0 v1 v2 σ
    · refine j_aload_n (pc := 18) 0 dX11_likeBody_18 rfl rfl ?_
      refine j_getF (pc := 19) fd_29_22 tw_4_88 dX11_likeBody_19 ?_
      refine j_iload_n (pc := 22) 2 dX11_likeBody_22 rfl rfl ?_
      refine j_iald (pc := 23) rfl rfl rfl dX11_likeBody_23 (fun j2 => ?_)
      refine j_aload_n (pc := 24) 0 dX11_likeBody_24 rfl rfl ?_
      refine j_getF (pc := 25) fd_29_15 tw_4_81 dX11_likeBody_25 ?_
      refine j_iload_n (pc := 28) 1 dX11_likeBody_28 rfl rfl ?_
      refine j_iald (pc := 29) rfl rfl rfl dX11_likeBody_29 (fun j3 => ?_)
      refine j_icmpne (pc := 30) (tgt := 37) dX11_likeBody_30 rfl (fun _ => ?_) (fun _ => ?_)
      · exact jb11_likeBody_37 N K2 hK2 v0 v1 v2 σ
      · refine j_iconst (pc := 33) (v := 1) (by decide) dX11_likeBody_33 ?_
        refine j_goto (pc := 34) (tgt := 38) dX11_likeBody_34 rfl ?_
        exact jb11_likeBody_38 N K2 hK2 v0 v1 v2 true σ
theorem jl11_likeBody_2 {Γ : jX} {tg : Int32 × rS} (N : Nat) : ∀ (n : Nat) (v0 : Nat) (v1 : Int32) (v2 : Int32) (σ : rS), J Γ rm11_likeBody eI cX11_likeBody RX11 5 (some .int) tg 0 0 2 [(0, aR 29 v0), (1, aI v1), (2, aI v2)] [] σ (L11_likeBody_2 N n v0 v1 v2 σ) := by
  intro n
  induction n with
  | zero => intro v0 v1 v2 σ; exact j_none
  | succ n ih => intro v0 v1 v2 σ; exact jb11_likeBody_2 N (L11_likeBody_2 N n) ih v0 v1 v2 σ
set_option maxRecDepth 20000 in
set_option maxHeartbeats 4000000 in
theorem j11_likeBody {Γ : jX} {tg : Int32 × rS} (N : Nat) (v0 : Nat) (v1 : Int32) (σ : rS) : J Γ rm11_likeBody eI cX11_likeBody RX11 5 (some .int) tg 0 0 0 [(0, aR 29 v0), (1, aI v1)] [] σ (f11_likeBody N v0 v1 σ) := by
  unfold f11_likeBody
  refine j_iconst (pc := 0) (v := 0) (by decide) dX11_likeBody_0 ?_
  refine j_istore_n (pc := 1) (lv' := [(2, aI 0), (0, aR 29 v0), (1, aI v1)]) dX11_likeBody_1 rfl (Nat.le_of_ble_eq_true rfl) rfl ?_
  refine j_sub [1, 2, 0] (lv' := [(0, aR 29 v0), (1, aI v1), (2, aI 0)]) rfl ?_
  exact jl11_likeBody_2 N  N v0 v1 0 σ
theorem c11_likeBody (l : Launch) (N : Nat) (v0 : Nat) (v1 : Int32) : Ctr l yX11_likeBody cX11_likeBody 5 (some .int) rm11_likeBody eI [aR 29 v0, aI v1] (f11_likeBody N v0 v1) := ctr_of (lv := [(0, aR 29 v0), (1, aI v1)]) (by decide +kernel) (fun _ => rfl) (fun _ => (Nat.le_of_ble_eq_true rfl)) (fun _ h => lvl_als h rfl) (fun _ σ _ => j11_likeBody N v0 v1 σ)
theorem cs_RX11_297 : CaV RX11 RX11 297 yX11_freeBody cX11_freeBody 2 (some .int) 0 := ⟨tw_5_209, tw_5_211, tw_p41, tw_1_5, tw_5_212, rfl, by decide +kernel, by decide +kernel, by decide +kernel⟩
theorem cs_RX11_294 : CaV RX11 RX11 294 yX11_likeBody cX11_likeBody 5 (some .int) 1 := ⟨tw_5_205, tw_5_207, tw_p40, tw_1_5, tw_5_208, rfl, by decide +kernel, by decide +kernel, by decide +kernel⟩
abbrev rm11_keep : Room := { frames := 2, cells := 0, slots := 0, locals := 46 }
set_option maxRecDepth 20000 in
set_option maxHeartbeats 4000000 in
theorem jb11_keep_316 {Γ : jX} {tg : Int32 × rS} (N : Nat) (v0 : Nat) (v1 : Int32) (v2 : Int64) (v6 : Int32) (v7 : Int32) (σ : rS) : J Γ rm11_keep eI cX11_keep RX11 8 (some .int) tg 0 0 316 [(0, aR 29 v0), (1, aI v1), (2, aL v2), (6, aI v6), (7, aI v7)] [] σ (B11_keep_316 N v0 v1 v2 v6 v7 σ) := by
  unfold B11_keep_316
  refine j_aload_n (pc := 316) 0 dX11_keep_316 rfl rfl ?_
  refine j_getF (pc := 317) fd_29_28 tw_4_94 dX11_keep_317 ?_
  refine j_iload (pc := 320) 4 dX11_keep_320 rfl ?_
  refine j_lload_n (pc := 322) 2 dX11_keep_322 rfl rfl ?_
  refine j_last (pc := 323) rfl rfl rfl dX11_keep_323 (fun j1 => ?_)
  refine j_lets (fun σ2 => ?_)
  refine j_aload_n (pc := 324) 0 dX11_keep_324 rfl rfl ?_
  refine j_getF (pc := 325) fd_29_29 tw_4_95 dX11_keep_325 ?_
  refine j_iload (pc := 328) 4 dX11_keep_328 rfl ?_
  refine j_iload (pc := 330) 3 dX11_keep_330 rfl ?_
  refine j_iast (pc := 332) rfl rfl rfl dX11_keep_332 (fun j3 => ?_)
  refine j_lets (fun σ4 => ?_)
  refine j_aload_n (pc := 333) 0 dX11_keep_333 rfl rfl ?_
  refine j_getF (pc := 334) fd_29_27 tw_4_93 dX11_keep_334 ?_
  refine j_iload_n (pc := 337) 1 dX11_keep_337 rfl rfl ?_
  refine j_dup2 (pc := 338) dX11_keep_338 rfl rfl ?_
  refine j_iald (pc := 339) rfl rfl rfl dX11_keep_339 (fun j5 => ?_)
  refine j_iconst (pc := 340) (v := 1) (by decide) dX11_keep_340 ?_
  refine j_iadd (pc := 341) dX11_keep_341 ?_
  refine j_iast (pc := 342) rfl rfl rfl dX11_keep_342 (fun j6 => ?_)
  refine j_lets (fun σ7 => ?_)
  refine j_aload_n (pc := 343) 0 dX11_keep_343 rfl rfl ?_
  refine j_getF (pc := 344) fd_29_21 tw_4_87 dX11_keep_344 ?_
  refine j_iload (pc := 347) 3 dX11_keep_347 rfl ?_
  refine j_iald (pc := 349) rfl rfl rfl dX11_keep_349 (fun j8 => ?_)
  exact j_ireturn (pc := 350) rfl (Nat.le_of_ble_eq_true rfl) (Nat.le_of_ble_eq_true rfl) dX11_keep_350
set_option maxRecDepth 20000 in
set_option maxHeartbeats 4000000 in
theorem jb11_keep_255 {Γ : jX} {tg : Int32 × rS} (N : Nat) (K255 : Nat → Int32 → Int64 → Int32 → Int32 → rS → Option (Int32 × rS)) (hK255 : ∀ (v0 : Nat) (v1 : Int32) (v2 : Int64) (v6 : Int32) (v7 : Int32) (σ : rS), J Γ rm11_keep eI cX11_keep RX11 8 (some .int) tg 0 0 255 [(0, aR 29 v0), (1, aI v1), (2, aL v2), (6, aI v6), (7, aI v7)] [] σ (K255 v0 v1 v2 v6 v7 σ)) (v0 : Nat) (v1 : Int32) (v2 : Int64) (v6 : Int32) (v7 : Int32) (σ : rS) : J Γ rm11_keep eI cX11_keep RX11 8 (some .int) tg 0 0 255 [(0, aR 29 v0), (1, aI v1), (2, aL v2), (6, aI v6), (7, aI v7)] [] σ (B11_keep_255 N K255 v0 v1 v2 v6 v7 σ) := by
  unfold B11_keep_255
  refine j_iload (pc := 255) 4 dX11_keep_255 rfl ?_
  refine j_bipush (pc := 257) (v := 12) (by decide) dX11_keep_257 ?_
  refine j_iload_n (pc := 259) 1 dX11_keep_259 rfl rfl ?_
  refine j_imul (pc := 260) dX11_keep_260 ?_
  refine j_icmple (pc := 261) (tgt := 316) dX11_keep_261 rfl (fun _ => ?_) (fun _ => ?_)
  · exact jb11_keep_316 N  v0 v1 v2 v6 v7 σ
  · refine j_aload_n (pc := 264) 0 dX11_keep_264 rfl rfl ?_
    refine j_getF (pc := 265) fd_29_28 tw_4_94 dX11_keep_265 ?_
    refine j_iload (pc := 268) 4 dX11_keep_268 rfl ?_
    refine j_iconst (pc := 270) (v := 1) (by decide) dX11_keep_270 ?_
    refine j_isub (pc := 271) dX11_keep_271 ?_
    refine j_lald (pc := 272) rfl rfl rfl dX11_keep_272 (fun j1 => ?_)
    refine j_lload_n (pc := 273) 2 dX11_keep_273 rfl rfl ?_
    refine j_lcmple (pc := 274) (tgt := 316) dX11_keep_274 dX11_keep_275 rfl (fun _ => ?_) (fun _ => ?_)
    · exact jb11_keep_316 N  v0 v1 v2 v6 v7 σ
    · refine j_aload_n (pc := 278) 0 dX11_keep_278 rfl rfl ?_
      refine j_getF (pc := 279) fd_29_28 tw_4_94 dX11_keep_279 ?_
      refine j_iload (pc := 282) 4 dX11_keep_282 rfl ?_
      refine j_aload_n (pc := 284) 0 dX11_keep_284 rfl rfl ?_
      refine j_getF (pc := 285) fd_29_28 tw_4_94 dX11_keep_285 ?_
      refine j_iload (pc := 288) 4 dX11_keep_288 rfl ?_
      refine j_iconst (pc := 290) (v := 1) (by decide) dX11_keep_290 ?_
      refine j_isub (pc := 291) dX11_keep_291 ?_
      refine j_lald (pc := 292) rfl rfl rfl dX11_keep_292 (fun j2 => ?_)
      refine j_last (pc := 293) rfl rfl rfl dX11_keep_293 (fun j3 => ?_)
      refine j_lets (fun σ4 => ?_)
      refine j_aload_n (pc := 294) 0 dX11_keep_294 rfl rfl ?_
      refine j_getF (pc := 295) fd_29_29 tw_4_95 dX11_keep_295 ?_
      refine j_iload (pc := 298) 4 dX11_keep_298 rfl ?_
      refine j_aload_n (pc := 300) 0 dX11_keep_300 rfl rfl ?_
      refine j_getF (pc := 301) fd_29_29 tw_4_95 dX11_keep_301 ?_
      refine j_iload (pc := 304) 4 dX11_keep_304 rfl ?_
      refine j_iconst (pc := 306) (v := 1) (by decide) dX11_keep_306 ?_
      refine j_isub (pc := 307) dX11_keep_307 ?_
      refine j_iald (pc := 308) rfl rfl rfl dX11_keep_308 (fun j5 => ?_)
      refine j_iast (pc := 309) rfl rfl rfl dX11_keep_309 (fun j6 => ?_)
      refine j_lets (fun σ7 => ?_)
      refine j_iinc (pc := 310) (w := (-1)) (lv' := [(7, aI (v7 + (-1))), (0, aR 29 v0), (1, aI v1), (2, aL v2), (6, aI v6)]) 4 dX11_keep_310 rfl (by decide) (Nat.le_of_ble_eq_true rfl) rfl ?_
      refine j_goto (pc := 313) (tgt := 255) dX11_keep_313 rfl ?_
      refine j_sub [1, 2, 3, 4, 0] (lv' := [(0, aR 29 v0), (1, aI v1), (2, aL v2), (6, aI v6), (7, aI (v7 + (-1)))]) rfl ?_
      exact hK255 v0 v1 v2 v6 (v7 + (-1)) σ7
theorem jl11_keep_255 {Γ : jX} {tg : Int32 × rS} (N : Nat) : ∀ (n : Nat) (v0 : Nat) (v1 : Int32) (v2 : Int64) (v6 : Int32) (v7 : Int32) (σ : rS), J Γ rm11_keep eI cX11_keep RX11 8 (some .int) tg 0 0 255 [(0, aR 29 v0), (1, aI v1), (2, aL v2), (6, aI v6), (7, aI v7)] [] σ (L11_keep_255 N n v0 v1 v2 v6 v7 σ) := by
  intro n
  induction n with
  | zero => intro v0 v1 v2 v6 v7 σ; exact j_none
  | succ n ih => intro v0 v1 v2 v6 v7 σ; exact jb11_keep_255 N (L11_keep_255 N n) ih v0 v1 v2 v6 v7 σ
set_option maxRecDepth 20000 in
set_option maxHeartbeats 4000000 in
theorem jb11_keep_197 {Γ : jX} {tg : Int32 × rS} (N : Nat) (v0 : Nat) (v1 : Int32) (v2 : Int64) (v5 : Int32) (v6 : Int32) (σ : rS) : J Γ rm11_keep eI cX11_keep RX11 8 (some .int) tg 0 0 197 [(0, aR 29 v0), (1, aI v1), (2, aL v2), (5, aI v5), (6, aI v6)] [] σ (B11_keep_197 N v0 v1 v2 v5 v6 σ) := by
  unfold B11_keep_197
  refine j_aload_n (pc := 197) 0 dX11_keep_197 rfl rfl ?_
  refine j_getF (pc := 198) fd_29_23 tw_4_89 dX11_keep_198 ?_
  refine j_iload (pc := 201) 4 dX11_keep_201 rfl ?_
  refine j_dup2 (pc := 203) dX11_keep_203 rfl rfl ?_
  refine j_iald (pc := 204) rfl rfl rfl dX11_keep_204 (fun j1 => ?_)
  refine j_iconst (pc := 205) (v := 1) (by decide) dX11_keep_205 ?_
  refine j_iadd (pc := 206) dX11_keep_206 ?_
  refine j_iast (pc := 207) rfl rfl rfl dX11_keep_207 (fun j2 => ?_)
  refine j_lets (fun σ3 => ?_)
  refine j_iload (pc := 208) 3 dX11_keep_208 rfl ?_
  refine j_iconst (pc := 210) (v := (-1)) (by decide) dX11_keep_210 ?_
  refine j_icmpeq (pc := 211) (tgt := 242) dX11_keep_211 rfl (fun _ => ?_) (fun _ => ?_)
  · refine j_bipush (pc := 242) (v := 12) (by decide) dX11_keep_242 ?_
    refine j_iload_n (pc := 244) 1 dX11_keep_244 rfl rfl ?_
    refine j_imul (pc := 245) dX11_keep_245 ?_
    refine j_aload_n (pc := 246) 0 dX11_keep_246 rfl rfl ?_
    refine j_getF (pc := 247) fd_29_27 tw_4_93 dX11_keep_247 ?_
    refine j_iload_n (pc := 250) 1 dX11_keep_250 rfl rfl ?_
    refine j_iald (pc := 251) rfl rfl rfl dX11_keep_251 (fun j4 => ?_)
    refine j_iadd (pc := 252) dX11_keep_252 ?_
    refine j_leti (fun x5 => ?_)
    refine j_istore (pc := 253) (lv' := [(7, aI x5), (0, aR 29 v0), (1, aI v1), (2, aL v2), (5, aI v5), (6, aI v6)]) dX11_keep_253 (Nat.le_of_ble_eq_true rfl) rfl ?_
    refine j_sub [0, 1, 2, 3, 5] (lv' := [(7, aI x5), (0, aR 29 v0), (1, aI v1), (2, aL v2), (6, aI v6)]) rfl ?_
    refine j_sub [1, 2, 3, 4, 0] (lv' := [(0, aR 29 v0), (1, aI v1), (2, aL v2), (6, aI v6), (7, aI x5)]) rfl ?_
    exact jl11_keep_255 N  N v0 v1 v2 v6 x5 σ3
  · refine j_aload_n (pc := 214) 0 dX11_keep_214 rfl rfl ?_
    refine j_aload_n (pc := 215) 0 dX11_keep_215 rfl rfl ?_
    refine j_getF (pc := 216) fd_29_29 tw_4_95 dX11_keep_216 ?_
    refine j_iload (pc := 219) 3 dX11_keep_219 rfl ?_
    refine j_iald (pc := 221) rfl rfl rfl dX11_keep_221 (fun j6 => ?_)
    refine j_callVV (pc := 222) (As := [aI (gI σ3 59 v0 j6)]) (st := []) (fun l => c11_leave l v0 (gI σ3 59 v0 j6)) cs_RX11_303 rfl rfl rfl rfl (Nat.le_of_ble_eq_true rfl) ⟨(Nat.le_of_ble_eq_true rfl), (Nat.le_of_ble_eq_true rfl)⟩ ⟨(Nat.le_of_ble_eq_true rfl), (Nat.le_of_ble_eq_true rfl)⟩ dX11_keep_222 (fun r7 σ8 => ?_)
    refine j_aload_n (pc := 225) 0 dX11_keep_225 rfl rfl ?_
    refine j_getF (pc := 226) fd_29_29 tw_4_95 dX11_keep_226 ?_
    refine j_iload (pc := 229) 3 dX11_keep_229 rfl ?_
    refine j_iload (pc := 231) 4 dX11_keep_231 rfl ?_
    refine j_iast (pc := 233) rfl rfl rfl dX11_keep_233 (fun j9 => ?_)
    refine j_lets (fun σ10 => ?_)
    refine j_aload_n (pc := 234) 0 dX11_keep_234 rfl rfl ?_
    refine j_getF (pc := 235) fd_29_21 tw_4_87 dX11_keep_235 ?_
    refine j_iload (pc := 238) 4 dX11_keep_238 rfl ?_
    refine j_iald (pc := 240) rfl rfl rfl dX11_keep_240 (fun j11 => ?_)
    exact j_ireturn (pc := 241) rfl (Nat.le_of_ble_eq_true rfl) (Nat.le_of_ble_eq_true rfl) dX11_keep_241
set_option maxRecDepth 20000 in
set_option maxHeartbeats 4000000 in
theorem jb11_keep_151 {Γ : jX} {tg : Int32 × rS} (N : Nat) (K151 : Nat → Int32 → Int64 → Int32 → Int32 → Int32 → Int32 → rS → Option (Int32 × rS)) (hK151 : ∀ (v0 : Nat) (v1 : Int32) (v2 : Int64) (v4 : Int32) (v5 : Int32) (v6 : Int32) (v7 : Int32) (σ : rS), J Γ rm11_keep eI cX11_keep RX11 8 (some .int) tg 0 0 151 [(0, aR 29 v0), (1, aI v1), (2, aL v2), (4, aI v4), (5, aI v5), (6, aI v6), (7, aI v7)] [] σ (K151 v0 v1 v2 v4 v5 v6 v7 σ)) (v0 : Nat) (v1 : Int32) (v2 : Int64) (v4 : Int32) (v5 : Int32) (v6 : Int32) (v7 : Int32) (σ : rS) : J Γ rm11_keep eI cX11_keep RX11 8 (some .int) tg 0 0 151 [(0, aR 29 v0), (1, aI v1), (2, aL v2), (4, aI v4), (5, aI v5), (6, aI v6), (7, aI v7)] [] σ (B11_keep_151 N K151 v0 v1 v2 v4 v5 v6 v7 σ) := by
  unfold B11_keep_151
  refine j_iload (pc := 151) 6 dX11_keep_151 rfl ?_
  refine j_aload_n (pc := 153) 0 dX11_keep_153 rfl rfl ?_
  refine j_getF (pc := 154) fd_29_15 tw_4_81 dX11_keep_154 ?_
  refine j_iload (pc := 157) 3 dX11_keep_157 rfl ?_
  refine j_iald (pc := 159) rfl rfl rfl dX11_keep_159 (fun j1 => ?_)
  refine j_icmpge (pc := 160) (tgt := 197) dX11_keep_160 rfl (fun _ => ?_) (fun _ => ?_)
  · refine j_sub [0, 1, 2, 4, 5] (lv' := [(0, aR 29 v0), (1, aI v1), (2, aL v2), (5, aI v5), (6, aI v6)]) rfl ?_
    exact jb11_keep_197 N  v0 v1 v2 v5 v6 σ
  · refine j_aload_n (pc := 163) 0 dX11_keep_163 rfl rfl ?_
    refine j_getF (pc := 164) fd_29_24 tw_4_90 dX11_keep_164 ?_
    refine j_sipush (pc := 167) (v := 400) (by decide) dX11_keep_167 ?_
    refine j_iload (pc := 170) 5 dX11_keep_170 rfl ?_
    refine j_imul (pc := 172) dX11_keep_172 ?_
    refine j_iload (pc := 173) 6 dX11_keep_173 rfl ?_
    refine j_iadd (pc := 175) dX11_keep_175 ?_
    refine j_aload_n (pc := 176) 0 dX11_keep_176 rfl rfl ?_
    refine j_getF (pc := 177) fd_29_14 tw_4_80 dX11_keep_177 ?_
    refine j_sipush (pc := 180) (v := 400) (by decide) dX11_keep_180 ?_
    refine j_iload (pc := 183) 3 dX11_keep_183 rfl ?_
    refine j_imul (pc := 185) dX11_keep_185 ?_
    refine j_iload (pc := 186) 6 dX11_keep_186 rfl ?_
    refine j_iadd (pc := 188) dX11_keep_188 ?_
    refine j_iald (pc := 189) rfl rfl rfl dX11_keep_189 (fun j2 => ?_)
    refine j_iast (pc := 190) rfl rfl rfl dX11_keep_190 (fun j3 => ?_)
    refine j_lets (fun σ4 => ?_)
    refine j_iinc (pc := 191) (w := 1) (lv' := [(7, aI (v7 + 1)), (0, aR 29 v0), (1, aI v1), (2, aL v2), (4, aI v4), (5, aI v5), (6, aI v6)]) 6 dX11_keep_191 rfl (by decide) (Nat.le_of_ble_eq_true rfl) rfl ?_
    refine j_goto (pc := 194) (tgt := 151) dX11_keep_194 rfl ?_
    refine j_sub [1, 2, 3, 4, 5, 6, 0] (lv' := [(0, aR 29 v0), (1, aI v1), (2, aL v2), (4, aI v4), (5, aI v5), (6, aI v6), (7, aI (v7 + 1))]) rfl ?_
    exact hK151 v0 v1 v2 v4 v5 v6 (v7 + 1) σ4
theorem jl11_keep_151 {Γ : jX} {tg : Int32 × rS} (N : Nat) : ∀ (n : Nat) (v0 : Nat) (v1 : Int32) (v2 : Int64) (v4 : Int32) (v5 : Int32) (v6 : Int32) (v7 : Int32) (σ : rS), J Γ rm11_keep eI cX11_keep RX11 8 (some .int) tg 0 0 151 [(0, aR 29 v0), (1, aI v1), (2, aL v2), (4, aI v4), (5, aI v5), (6, aI v6), (7, aI v7)] [] σ (L11_keep_151 N n v0 v1 v2 v4 v5 v6 v7 σ) := by
  intro n
  induction n with
  | zero => intro v0 v1 v2 v4 v5 v6 v7 σ; exact j_none
  | succ n ih => intro v0 v1 v2 v4 v5 v6 v7 σ; exact jb11_keep_151 N (L11_keep_151 N n) ih v0 v1 v2 v4 v5 v6 v7 σ
set_option maxRecDepth 20000 in
set_option maxHeartbeats 4000000 in
theorem jb11_keep_93 {Γ : jX} {tg : Int32 × rS} (N : Nat) (v0 : Nat) (v1 : Int32) (v2 : Int64) (v4 : Int32) (v5 : Int32) (v6 : Int32) (σ : rS) : J Γ rm11_keep eI cX11_keep RX11 8 (some .int) tg 0 0 93 [(0, aR 29 v0), (1, aI v1), (2, aL v2), (4, aI v4), (5, aI v5), (6, aI v6)] [] σ (B11_keep_93 N v0 v1 v2 v4 v5 v6 σ) := by
  unfold B11_keep_93
  refine j_iload (pc := 93) 5 dX11_keep_93 rfl ?_
  refine j_iconst (pc := 95) (v := (-1)) (by decide) dX11_keep_95 ?_
  refine j_icmpne (pc := 96) (tgt := 197) dX11_keep_96 rfl (fun _ => ?_) (fun _ => ?_)
  · refine j_sub [0, 1, 2, 4, 5] (lv' := [(0, aR 29 v0), (1, aI v1), (2, aL v2), (5, aI v5), (6, aI v6)]) rfl ?_
    exact jb11_keep_197 N  v0 v1 v2 v5 v6 σ
  · refine j_aload_n (pc := 99) 0 dX11_keep_99 rfl rfl ?_
    refine j_callVI (pc := 100) (As := []) (st := []) (fun l => c11_freeBody l N v0) cs_RX11_297 rfl rfl rfl rfl (Nat.le_of_ble_eq_true rfl) ⟨(Nat.le_of_ble_eq_true rfl), (Nat.le_of_ble_eq_true rfl)⟩ ⟨(Nat.le_of_ble_eq_true rfl), (Nat.le_of_ble_eq_true rfl)⟩ dX11_keep_100 (fun r1 σ2 => ?_)
    refine j_istore (pc := 103) (lv' := [(6, aI r1), (0, aR 29 v0), (1, aI v1), (2, aL v2), (4, aI v4), (5, aI v5)]) dX11_keep_103 (Nat.le_of_ble_eq_true rfl) rfl ?_
    refine j_aload_n (pc := 105) 1 dX11_keep_105 rfl rfl ?_
    refine j_getF (pc := 106) fd_29_21 tw_4_87 dX11_keep_106 ?_
    refine j_iload (pc := 109) 0 dX11_keep_109 rfl ?_
    refine j_aload_n (pc := 111) 1 dX11_keep_111 rfl rfl ?_
    refine j_getI (pc := 112) fd_29_25 tw_4_91 dX11_keep_112 ?_
    refine j_iast (pc := 115) rfl rfl rfl dX11_keep_115 (fun j3 => ?_)
    refine j_lets (fun σ4 => ?_)
    refine j_aload_n (pc := 116) 1 dX11_keep_116 rfl rfl ?_
    refine j_dup (pc := 117) dX11_keep_117 rfl ?_
    refine j_getI (pc := 118) fd_29_25 tw_4_91 dX11_keep_118 ?_
    refine j_iconst (pc := 121) (v := 1) (by decide) dX11_keep_121 ?_
    refine j_iadd (pc := 122) dX11_keep_122 ?_
    refine j_putI (pc := 123) fd_29_25 rfl rfl tw_4_91 dX11_keep_123 ?_
    refine j_lets (fun σ5 => ?_)
    refine j_aload_n (pc := 126) 1 dX11_keep_126 rfl rfl ?_
    refine j_getF (pc := 127) fd_29_22 tw_4_88 dX11_keep_127 ?_
    refine j_iload (pc := 130) 0 dX11_keep_130 rfl ?_
    refine j_aload_n (pc := 132) 1 dX11_keep_132 rfl rfl ?_
    refine j_getF (pc := 133) fd_29_15 tw_4_81 dX11_keep_133 ?_
    refine j_iload (pc := 136) 4 dX11_keep_136 rfl ?_
    refine j_iald (pc := 138) rfl rfl rfl dX11_keep_138 (fun j6 => ?_)
    refine j_iast (pc := 139) rfl rfl rfl dX11_keep_139 (fun j7 => ?_)
    refine j_lets (fun σ8 => ?_)
    refine j_aload_n (pc := 140) 1 dX11_keep_140 rfl rfl ?_
    refine j_getF (pc := 141) fd_29_23 tw_4_89 dX11_keep_141 ?_
    refine j_iload (pc := 144) 0 dX11_keep_144 rfl ?_
    refine j_iconst (pc := 146) (v := 0) (by decide) dX11_keep_146 ?_
    refine j_iast (pc := 147) rfl rfl rfl dX11_keep_147 (fun j9 => ?_)
    refine j_lets (fun σ10 => ?_)
    refine j_iconst (pc := 148) (v := 0) (by decide) dX11_keep_148 ?_
    refine j_istore (pc := 149) (lv' := [(7, aI 0), (6, aI r1), (0, aR 29 v0), (1, aI v1), (2, aL v2), (4, aI v4), (5, aI v5)]) dX11_keep_149 (Nat.le_of_ble_eq_true rfl) rfl ?_
    refine j_sub [2, 3, 4, 5, 6, 1, 0] (lv' := [(0, aR 29 v0), (1, aI v1), (2, aL v2), (4, aI v4), (5, aI v5), (6, aI r1), (7, aI 0)]) rfl ?_
    exact jl11_keep_151 N  N v0 v1 v2 v4 v5 r1 0 σ10
set_option maxRecDepth 20000 in
set_option maxHeartbeats 4000000 in
theorem jb11_keep_75 {Γ : jX} {tg : Int32 × rS} (N : Nat) (v0 : Nat) (v1 : Int32) (v2 : Int64) (v4 : Int32) (v5 : Int32) (v6 : Int32) (σ : rS) : J Γ rm11_keep eI cX11_keep RX11 8 (some .int) tg 0 0 75 [(0, aR 29 v0), (1, aI v1), (2, aL v2), (4, aI v4), (5, aI v5), (6, aI v6)] [] σ (B11_keep_75 N v0 v1 v2 v4 v5 v6 σ) := by
  unfold B11_keep_75
  refine j_iload (pc := 75) 5 dX11_keep_75 rfl ?_
  refine j_iconst (pc := 77) (v := (-1)) (by decide) dX11_keep_77 ?_
  refine j_icmpne (pc := 78) (tgt := 93) dX11_keep_78 rfl (fun _ => ?_) (fun _ => ?_)
  · exact jb11_keep_93 N  v0 v1 v2 v4 v5 v6 σ
  · refine j_aload_n (pc := 81) 0 dX11_keep_81 rfl rfl ?_
    refine j_callVI (pc := 82) (As := []) (st := []) (fun l => c11_freeBody l N v0) cs_RX11_297 rfl rfl rfl rfl (Nat.le_of_ble_eq_true rfl) ⟨(Nat.le_of_ble_eq_true rfl), (Nat.le_of_ble_eq_true rfl)⟩ ⟨(Nat.le_of_ble_eq_true rfl), (Nat.le_of_ble_eq_true rfl)⟩ dX11_keep_82 (fun r1 σ2 => ?_)
    refine j_bipush (pc := 85) (v := 30) (by decide) dX11_keep_85 ?_
    refine j_icmpne (pc := 87) (tgt := 93) dX11_keep_87 rfl (fun _ => ?_) (fun _ => ?_)
    · exact jb11_keep_93 N  v0 v1 v2 v4 v5 v6 σ2
    · refine j_bipush (pc := 90) (v := (-104)) (by decide) dX11_keep_90 ?_
      exact j_ireturn (pc := 92) rfl (Nat.le_of_ble_eq_true rfl) (Nat.le_of_ble_eq_true rfl) dX11_keep_92
set_option maxRecDepth 20000 in
set_option maxHeartbeats 4000000 in
theorem j11_keep {Γ : jX} {tg : Int32 × rS} (N : Nat) (v0 : Nat) (v1 : Int32) (v2 : Int64) (v4 : Int32) (σ : rS) : J Γ rm11_keep eI cX11_keep RX11 8 (some .int) tg 0 0 0 [(0, aR 29 v0), (1, aI v1), (2, aL v2), (4, aI v4)] [] σ (f11_keep N v0 v1 v2 v4 σ) := by
  unfold f11_keep
  refine j_aload_n (pc := 0) 0 dX11_keep_0 rfl rfl ?_
  refine j_iload_n (pc := 1) 1 dX11_keep_1 rfl rfl ?_
  refine j_callVZ (pc := 2) (As := [aI v1]) (st := []) (fun l => c11_isHouse l v0 v1) cs_RX11_287 rfl rfl rfl rfl (Nat.le_of_ble_eq_true rfl) ⟨(Nat.le_of_ble_eq_true rfl), (Nat.le_of_ble_eq_true rfl)⟩ ⟨(Nat.le_of_ble_eq_true rfl), (Nat.le_of_ble_eq_true rfl)⟩ dX11_keep_2 (fun r1 σ2 => ?_)
  refine j_ifeqB (pc := 5) (tgt := 17) dX11_keep_5 rfl (fun _ => ?_) (fun _ => ?_)
  · refine j_bipush (pc := 17) (v := (-101)) (by decide) dX11_keep_17 ?_
    exact j_ireturn (pc := 19) rfl (Nat.le_of_ble_eq_true rfl) (Nat.le_of_ble_eq_true rfl) dX11_keep_19
  · refine j_aload_n (pc := 8) 0 dX11_keep_8 rfl rfl ?_
    refine j_iload (pc := 9) 3 dX11_keep_9 rfl ?_
    refine j_callVZ (pc := 11) (As := [aI v4]) (st := []) (fun l => c11_isStream l v0 v4) cs_RX11_247 rfl rfl rfl rfl (Nat.le_of_ble_eq_true rfl) ⟨(Nat.le_of_ble_eq_true rfl), (Nat.le_of_ble_eq_true rfl)⟩ ⟨(Nat.le_of_ble_eq_true rfl), (Nat.le_of_ble_eq_true rfl)⟩ dX11_keep_11 (fun r3 σ4 => ?_)
    refine j_ifneB (pc := 14) (tgt := 20) dX11_keep_14 rfl (fun _ => ?_) (fun _ => ?_)
    · refine j_lload_n (pc := 20) 2 dX11_keep_20 rfl rfl ?_
      refine j_lconst (pc := 21) (v := 0) (by decide) dX11_keep_21 ?_
      refine j_lcmpge (pc := 22) (tgt := 29) dX11_keep_22 dX11_keep_23 rfl (fun _ => ?_) (fun _ => ?_)
      · refine j_aload_n (pc := 29) 0 dX11_keep_29 rfl rfl ?_
        refine j_getF (pc := 30) fd_29_17 tw_4_83 dX11_keep_30 ?_
        refine j_iload (pc := 33) 3 dX11_keep_33 rfl ?_
        refine j_zald (pc := 35) rfl rfl rfl dX11_keep_35 (fun j5 => ?_)
        refine j_ifne (pc := 36) (tgt := 42) dX11_keep_36 rfl (fun _ => ?_) (fun _ => ?_)
        · refine j_aload_n (pc := 42) 0 dX11_keep_42 rfl rfl ?_
          refine j_iload_n (pc := 43) 1 dX11_keep_43 rfl rfl ?_
          refine j_lload_n (pc := 44) 2 dX11_keep_44 rfl rfl ?_
          refine j_callVI (pc := 45) (As := [aI v1, aL v2]) (st := []) (fun l => c11_entry l N v0 v1 v2) cs_RX11_290 rfl rfl rfl rfl (Nat.le_of_ble_eq_true rfl) ⟨(Nat.le_of_ble_eq_true rfl), (Nat.le_of_ble_eq_true rfl)⟩ ⟨(Nat.le_of_ble_eq_true rfl), (Nat.le_of_ble_eq_true rfl)⟩ dX11_keep_45 (fun r6 σ7 => ?_)
          refine j_istore (pc := 48) (lv' := [(5, aI r6), (0, aR 29 v0), (1, aI v1), (2, aL v2), (4, aI v4)]) dX11_keep_48 (Nat.le_of_ble_eq_true rfl) rfl ?_
          refine j_aload_n (pc := 50) 1 dX11_keep_50 rfl rfl ?_
          refine j_iload (pc := 51) 4 dX11_keep_51 rfl ?_
          refine j_callVI (pc := 53) (As := [aI v4]) (st := []) (fun l => c11_likeBody l N v0 v4) cs_RX11_294 rfl rfl rfl rfl (Nat.le_of_ble_eq_true rfl) ⟨(Nat.le_of_ble_eq_true rfl), (Nat.le_of_ble_eq_true rfl)⟩ ⟨(Nat.le_of_ble_eq_true rfl), (Nat.le_of_ble_eq_true rfl)⟩ dX11_keep_53 (fun r8 σ9 => ?_)
          refine j_istore (pc := 56) (lv' := [(6, aI r8), (5, aI r6), (0, aR 29 v0), (1, aI v1), (2, aL v2), (4, aI v4)]) dX11_keep_56 (Nat.le_of_ble_eq_true rfl) rfl ?_
          refine j_iload (pc := 58) 1 dX11_keep_58 rfl ?_
          refine j_iconst (pc := 60) (v := (-1)) (by decide) dX11_keep_60 ?_
          refine j_icmpne (pc := 61) (tgt := 75) dX11_keep_61 rfl (fun _ => ?_) (fun _ => ?_)
          · refine j_sub [2, 3, 4, 5, 1, 0] (lv' := [(0, aR 29 v0), (1, aI v1), (2, aL v2), (4, aI v4), (5, aI r6), (6, aI r8)]) rfl ?_
            exact jb11_keep_75 N  v0 v1 v2 v4 r6 r8 σ9
          · refine j_aload_n (pc := 64) 2 dX11_keep_64 rfl rfl ?_
            refine j_getF (pc := 65) fd_29_27 tw_4_93 dX11_keep_65 ?_
            refine j_iload_n (pc := 68) 3 dX11_keep_68 rfl rfl ?_
            refine j_iald (pc := 69) rfl rfl rfl dX11_keep_69 (fun j10 => ?_)
            refine j_bipush (pc := 70) (v := 12) (by decide) dX11_keep_70 ?_
            refine j_icmpeq (pc := 72) (tgt := 90) dX11_keep_72 rfl (fun _ => ?_) (fun _ => ?_)
            · refine j_bipush (pc := 90) (v := (-104)) (by decide) dX11_keep_90 ?_
              exact j_ireturn (pc := 92) rfl (Nat.le_of_ble_eq_true rfl) (Nat.le_of_ble_eq_true rfl) dX11_keep_92
            · refine j_sub [2, 3, 4, 5, 1, 0] (lv' := [(0, aR 29 v0), (1, aI v1), (2, aL v2), (4, aI v4), (5, aI r6), (6, aI r8)]) rfl ?_
              exact jb11_keep_75 N  v0 v1 v2 v4 r6 r8 σ9
        · refine j_bipush (pc := 39) (v := (-103)) (by decide) dX11_keep_39 ?_
          exact j_ireturn (pc := 41) rfl (Nat.le_of_ble_eq_true rfl) (Nat.le_of_ble_eq_true rfl) dX11_keep_41
      · refine j_bipush (pc := 26) (v := (-102)) (by decide) dX11_keep_26 ?_
        exact j_ireturn (pc := 28) rfl (Nat.le_of_ble_eq_true rfl) (Nat.le_of_ble_eq_true rfl) dX11_keep_28
    · refine j_bipush (pc := 17) (v := (-101)) (by decide) dX11_keep_17 ?_
      exact j_ireturn (pc := 19) rfl (Nat.le_of_ble_eq_true rfl) (Nat.le_of_ble_eq_true rfl) dX11_keep_19
theorem c11_keep (l : Launch) (N : Nat) (v0 : Nat) (v1 : Int32) (v2 : Int64) (v4 : Int32) : Ctr l yX11_keep cX11_keep 8 (some .int) rm11_keep eI [aR 29 v0, aI v1, aL v2, aI v4] (f11_keep N v0 v1 v2 v4) := ctr_of (lv := [(0, aR 29 v0), (1, aI v1), (2, aL v2), (4, aI v4)]) (by decide +kernel) (fun _ => rfl) (fun _ => (Nat.le_of_ble_eq_true rfl)) (fun _ h => lvl_als h rfl) (fun _ σ _ => j11_keep N v0 v1 v2 v4 σ)
abbrev rm11_kind : Room := { frames := 2, cells := 0, slots := 0, locals := 46 }
set_option maxRecDepth 20000 in
set_option maxHeartbeats 4000000 in
theorem j11_kind {Γ : jX} {tg : Int32 × rS} (v0 : Nat) (v1 : Int32) (σ : rS) : J Γ rm11_kind eI cX11_kind RX11 2 (some .int) tg 0 0 0 [(0, aR 29 v0), (1, aI v1)] [] σ (f11_kind v0 v1 σ) := by
  unfold f11_kind
  refine j_aload_n (pc := 0) 0 dX11_kind_0 rfl rfl ?_
  refine j_iload_n (pc := 1) 1 dX11_kind_1 rfl rfl ?_
  refine j_callVZ (pc := 2) (As := [aI v1]) (st := []) (fun l => c11_isRow l v0 v1) cs_RX11_154 rfl rfl rfl rfl (Nat.le_of_ble_eq_true rfl) ⟨(Nat.le_of_ble_eq_true rfl), (Nat.le_of_ble_eq_true rfl)⟩ ⟨(Nat.le_of_ble_eq_true rfl), (Nat.le_of_ble_eq_true rfl)⟩ dX11_kind_2 (fun r1 σ2 => ?_)
  refine j_ifeqB (pc := 5) (tgt := 17) dX11_kind_5 rfl (fun _ => ?_) (fun _ => ?_)
  · refine j_bipush (pc := 17) (v := (-101)) (by decide) dX11_kind_17 ?_
    exact j_ireturn (pc := 19) rfl (Nat.le_of_ble_eq_true rfl) (Nat.le_of_ble_eq_true rfl) dX11_kind_19
  · refine j_aload_n (pc := 8) 0 dX11_kind_8 rfl rfl ?_
    refine j_getF (pc := 9) fd_29_4 tw_4_70 dX11_kind_9 ?_
    refine j_iload_n (pc := 12) 1 dX11_kind_12 rfl rfl ?_
    refine j_iald (pc := 13) rfl rfl rfl dX11_kind_13 (fun j3 => ?_)
    refine j_goto (pc := 14) (tgt := 19) dX11_kind_14 rfl ?_
    exact j_ireturn (pc := 19) rfl (Nat.le_of_ble_eq_true rfl) (Nat.le_of_ble_eq_true rfl) dX11_kind_19
theorem c11_kind (l : Launch) (v0 : Nat) (v1 : Int32) : Ctr l yX11_kind cX11_kind 2 (some .int) rm11_kind eI [aR 29 v0, aI v1] (f11_kind v0 v1) := ctr_of (lv := [(0, aR 29 v0), (1, aI v1)]) (by decide +kernel) (fun _ => rfl) (fun _ => (Nat.le_of_ble_eq_true rfl)) (fun _ h => lvl_als h rfl) (fun _ σ _ => j11_kind v0 v1 σ)
abbrev rm11_length : Room := { frames := 2, cells := 0, slots := 0, locals := 46 }
set_option maxRecDepth 20000 in
set_option maxHeartbeats 4000000 in
theorem j11_length {Γ : jX} {tg : Int32 × rS} (v0 : Nat) (v1 : Int32) (σ : rS) : J Γ rm11_length eI cX11_length RX11 2 (some .int) tg 0 0 0 [(0, aR 29 v0), (1, aI v1)] [] σ (f11_length v0 v1 σ) := by
  unfold f11_length
  refine j_aload_n (pc := 0) 0 dX11_length_0 rfl rfl ?_
  refine j_iload_n (pc := 1) 1 dX11_length_1 rfl rfl ?_
  refine j_callVZ (pc := 2) (As := [aI v1]) (st := []) (fun l => c11_isRow l v0 v1) cs_RX11_154 rfl rfl rfl rfl (Nat.le_of_ble_eq_true rfl) ⟨(Nat.le_of_ble_eq_true rfl), (Nat.le_of_ble_eq_true rfl)⟩ ⟨(Nat.le_of_ble_eq_true rfl), (Nat.le_of_ble_eq_true rfl)⟩ dX11_length_2 (fun r1 σ2 => ?_)
  refine j_ifneB (pc := 5) (tgt := 11) dX11_length_5 rfl (fun _ => ?_) (fun _ => ?_)
  · refine j_aload_n (pc := 11) 0 dX11_length_11 rfl rfl ?_
    refine j_getF (pc := 12) fd_29_6 tw_4_72 dX11_length_12 ?_
    refine j_iload_n (pc := 15) 1 dX11_length_15 rfl rfl ?_
    refine j_zald (pc := 16) rfl rfl rfl dX11_length_16 (fun j3 => ?_)
    refine j_ifeq (pc := 17) (tgt := 28) dX11_length_17 rfl (fun _ => ?_) (fun _ => ?_)
    · refine j_aload_n (pc := 28) 0 dX11_length_28 rfl rfl ?_
      refine j_getF (pc := 29) fd_29_5 tw_4_71 dX11_length_29 ?_
      refine j_iload_n (pc := 32) 1 dX11_length_32 rfl rfl ?_
      refine j_iald (pc := 33) rfl rfl rfl dX11_length_33 (fun j4 => ?_)
      exact j_ireturn (pc := 34) rfl (Nat.le_of_ble_eq_true rfl) (Nat.le_of_ble_eq_true rfl) dX11_length_34
    · refine j_aload_n (pc := 20) 0 dX11_length_20 rfl rfl ?_
      refine j_iconst (pc := 21) (v := 1) (by decide) dX11_length_21 ?_
      refine j_callVI (pc := 22) (As := [aI 1]) (st := []) (fun l => c11_meets l v0 1) cs_RX11_146 rfl rfl rfl rfl (Nat.le_of_ble_eq_true rfl) ⟨(Nat.le_of_ble_eq_true rfl), (Nat.le_of_ble_eq_true rfl)⟩ ⟨(Nat.le_of_ble_eq_true rfl), (Nat.le_of_ble_eq_true rfl)⟩ dX11_length_22 (fun r5 σ6 => ?_)
      refine j_goto (pc := 25) (tgt := 34) dX11_length_25 rfl ?_
      exact j_ireturn (pc := 34) rfl (Nat.le_of_ble_eq_true rfl) (Nat.le_of_ble_eq_true rfl) dX11_length_34
  · refine j_bipush (pc := 8) (v := (-101)) (by decide) dX11_length_8 ?_
    exact j_ireturn (pc := 10) rfl (Nat.le_of_ble_eq_true rfl) (Nat.le_of_ble_eq_true rfl) dX11_length_10
theorem c11_length (l : Launch) (v0 : Nat) (v1 : Int32) : Ctr l yX11_length cX11_length 2 (some .int) rm11_length eI [aR 29 v0, aI v1] (f11_length v0 v1) := ctr_of (lv := [(0, aR 29 v0), (1, aI v1)]) (by decide +kernel) (fun _ => rfl) (fun _ => (Nat.le_of_ble_eq_true rfl)) (fun _ h => lvl_als h rfl) (fun _ σ _ => j11_length v0 v1 σ)
abbrev rm11_list : Room := { frames := 2, cells := 0, slots := 0, locals := 46 }
set_option maxRecDepth 20000 in
set_option maxHeartbeats 4000000 in
theorem j11_list {Γ : jX} {tg : Int32 × rS} (v0 : Nat) (v1 : Int32) (v2 : Int32) (σ : rS) : J Γ rm11_list eI cX11_list RX11 3 (some .int) tg 0 0 0 [(0, aR 29 v0), (1, aI v1), (2, aI v2)] [] σ (f11_list v0 v1 v2 σ) := by
  unfold f11_list
  refine j_aload_n (pc := 0) 0 dX11_list_0 rfl rfl ?_
  refine j_iload_n (pc := 1) 1 dX11_list_1 rfl rfl ?_
  refine j_callVZ (pc := 2) (As := [aI v1]) (st := []) (fun l => c11_isHouse l v0 v1) cs_RX11_287 rfl rfl rfl rfl (Nat.le_of_ble_eq_true rfl) ⟨(Nat.le_of_ble_eq_true rfl), (Nat.le_of_ble_eq_true rfl)⟩ ⟨(Nat.le_of_ble_eq_true rfl), (Nat.le_of_ble_eq_true rfl)⟩ dX11_list_2 (fun r1 σ2 => ?_)
  refine j_ifneB (pc := 5) (tgt := 11) dX11_list_5 rfl (fun _ => ?_) (fun _ => ?_)
  · refine j_iload_n (pc := 11) 2 dX11_list_11 rfl rfl ?_
    refine j_i2l (pc := 12) dX11_list_12 ?_
    refine j_lconst (pc := 13) (v := 0) (by decide) dX11_list_13 ?_
    refine j_aload_n (pc := 14) 0 dX11_list_14 rfl rfl ?_
    refine j_getF (pc := 15) fd_29_27 tw_4_93 dX11_list_15 ?_
    refine j_iload_n (pc := 18) 1 dX11_list_18 rfl rfl ?_
    refine j_iald (pc := 19) rfl rfl rfl dX11_list_19 (fun j3 => ?_)
    refine j_iconst (pc := 20) (v := 1) (by decide) dX11_list_20 ?_
    refine j_isub (pc := 21) dX11_list_21 ?_
    refine j_i2l (pc := 22) dX11_list_22 ?_
    refine j_callSZ (pc := 23) (As := [aL (Int32.toInt64 v2), aL 0, aL (Int32.toInt64 ((gI σ2 57 v0 j3) - 1))]) (st := []) (fun l => c11_in l (Int32.toInt64 v2) 0 (Int32.toInt64 ((gI σ2 57 v0 j3) - 1))) cs_RX11_140 rfl rfl (Nat.le_of_ble_eq_true rfl) ⟨(Nat.le_of_ble_eq_true rfl), (Nat.le_of_ble_eq_true rfl)⟩ ⟨(Nat.le_of_ble_eq_true rfl), (Nat.le_of_ble_eq_true rfl)⟩ dX11_list_23 (fun r4 σ5 => ?_)
    refine j_ifneB (pc := 26) (tgt := 35) dX11_list_26 rfl (fun _ => ?_) (fun _ => ?_)
    · refine j_aload_n (pc := 35) 0 dX11_list_35 rfl rfl ?_
      refine j_aload_n (pc := 36) 0 dX11_list_36 rfl rfl ?_
      refine j_getF (pc := 37) fd_29_28 tw_4_94 dX11_list_37 ?_
      refine j_bipush (pc := 40) (v := 12) (by decide) dX11_list_40 ?_
      refine j_iload_n (pc := 42) 1 dX11_list_42 rfl rfl ?_
      refine j_imul (pc := 43) dX11_list_43 ?_
      refine j_iload_n (pc := 44) 2 dX11_list_44 rfl rfl ?_
      refine j_iadd (pc := 45) dX11_list_45 ?_
      refine j_lald (pc := 46) rfl rfl rfl dX11_list_46 (fun j6 => ?_)
      refine j_putL (pc := 47) fd_29_2 tw_4_68 dX11_list_47 ?_
      refine j_lets (fun σ7 => ?_)
      refine j_aload_n (pc := 50) 0 dX11_list_50 rfl rfl ?_
      refine j_getF (pc := 51) fd_29_27 tw_4_93 dX11_list_51 ?_
      refine j_iload_n (pc := 54) 1 dX11_list_54 rfl rfl ?_
      refine j_iald (pc := 55) rfl rfl rfl dX11_list_55 (fun j8 => ?_)
      exact j_ireturn (pc := 56) rfl (Nat.le_of_ble_eq_true rfl) (Nat.le_of_ble_eq_true rfl) dX11_list_56
    · refine j_aload_n (pc := 29) 0 dX11_list_29 rfl rfl ?_
      refine j_iconst (pc := 30) (v := 2) (by decide) dX11_list_30 ?_
      refine j_callVI (pc := 31) (As := [aI 2]) (st := []) (fun l => c11_meets l v0 2) cs_RX11_146 rfl rfl rfl rfl (Nat.le_of_ble_eq_true rfl) ⟨(Nat.le_of_ble_eq_true rfl), (Nat.le_of_ble_eq_true rfl)⟩ ⟨(Nat.le_of_ble_eq_true rfl), (Nat.le_of_ble_eq_true rfl)⟩ dX11_list_31 (fun r9 σ10 => ?_)
      exact j_ireturn (pc := 34) rfl (Nat.le_of_ble_eq_true rfl) (Nat.le_of_ble_eq_true rfl) dX11_list_34
  · refine j_bipush (pc := 8) (v := (-101)) (by decide) dX11_list_8 ?_
    exact j_ireturn (pc := 10) rfl (Nat.le_of_ble_eq_true rfl) (Nat.le_of_ble_eq_true rfl) dX11_list_10
theorem c11_list (l : Launch) (v0 : Nat) (v1 : Int32) (v2 : Int32) : Ctr l yX11_list cX11_list 3 (some .int) rm11_list eI [aR 29 v0, aI v1, aI v2] (f11_list v0 v1 v2) := ctr_of (lv := [(0, aR 29 v0), (1, aI v1), (2, aI v2)]) (by decide +kernel) (fun _ => rfl) (fun _ => (Nat.le_of_ble_eq_true rfl)) (fun _ h => lvl_als h rfl) (fun _ σ _ => j11_list v0 v1 v2 σ)
abbrev rm11_lose : Room := { frames := 2, cells := 0, slots := 0, locals := 46 }
set_option maxRecDepth 20000 in
set_option maxHeartbeats 4000000 in
theorem j11_lose {Γ : jX} {tg : Int32 × rS} (v0 : Nat) (v1 : Int32) (σ : rS) : J Γ rm11_lose eI cX11_lose RX11 2 (some .int) tg 0 0 0 [(0, aR 29 v0), (1, aI v1)] [] σ (f11_lose v0 v1 σ) := by
  unfold f11_lose
  refine j_aload_n (pc := 0) 0 dX11_lose_0 rfl rfl ?_
  refine j_iload_n (pc := 1) 1 dX11_lose_1 rfl rfl ?_
  refine j_callVZ (pc := 2) (As := [aI v1]) (st := []) (fun l => c11_isRow l v0 v1) cs_RX11_154 rfl rfl rfl rfl (Nat.le_of_ble_eq_true rfl) ⟨(Nat.le_of_ble_eq_true rfl), (Nat.le_of_ble_eq_true rfl)⟩ ⟨(Nat.le_of_ble_eq_true rfl), (Nat.le_of_ble_eq_true rfl)⟩ dX11_lose_2 (fun r1 σ2 => ?_)
  refine j_ifneB (pc := 5) (tgt := 11) dX11_lose_5 rfl (fun _ => ?_) (fun _ => ?_)
  · refine j_aload_n (pc := 11) 0 dX11_lose_11 rfl rfl ?_
    refine j_getF (pc := 12) fd_29_6 tw_4_72 dX11_lose_12 ?_
    refine j_iload_n (pc := 15) 1 dX11_lose_15 rfl rfl ?_
    refine j_zald (pc := 16) rfl rfl rfl dX11_lose_16 (fun j3 => ?_)
    refine j_ifeq (pc := 17) (tgt := 26) dX11_lose_17 rfl (fun _ => ?_) (fun _ => ?_)
    · refine j_aload_n (pc := 26) 0 dX11_lose_26 rfl rfl ?_
      refine j_getF (pc := 27) fd_29_6 tw_4_72 dX11_lose_27 ?_
      refine j_iload_n (pc := 30) 1 dX11_lose_30 rfl rfl ?_
      refine j_iconst (pc := 31) (v := 1) (by decide) dX11_lose_31 ?_
      refine j_zast (pc := 32) rfl rfl rfl dX11_lose_32 (fun j4 => ?_)
      refine j_lets (fun σ5 => ?_)
      refine j_aload_n (pc := 33) 0 dX11_lose_33 rfl rfl ?_
      refine j_getF (pc := 34) fd_29_5 tw_4_71 dX11_lose_34 ?_
      refine j_iload_n (pc := 37) 1 dX11_lose_37 rfl rfl ?_
      refine j_iald (pc := 38) rfl rfl rfl dX11_lose_38 (fun j6 => ?_)
      exact j_ireturn (pc := 39) rfl (Nat.le_of_ble_eq_true rfl) (Nat.le_of_ble_eq_true rfl) dX11_lose_39
    · refine j_aload_n (pc := 20) 0 dX11_lose_20 rfl rfl ?_
      refine j_iconst (pc := 21) (v := 1) (by decide) dX11_lose_21 ?_
      refine j_callVI (pc := 22) (As := [aI 1]) (st := []) (fun l => c11_meets l v0 1) cs_RX11_146 rfl rfl rfl rfl (Nat.le_of_ble_eq_true rfl) ⟨(Nat.le_of_ble_eq_true rfl), (Nat.le_of_ble_eq_true rfl)⟩ ⟨(Nat.le_of_ble_eq_true rfl), (Nat.le_of_ble_eq_true rfl)⟩ dX11_lose_22 (fun r7 σ8 => ?_)
      exact j_ireturn (pc := 25) rfl (Nat.le_of_ble_eq_true rfl) (Nat.le_of_ble_eq_true rfl) dX11_lose_25
  · refine j_bipush (pc := 8) (v := (-101)) (by decide) dX11_lose_8 ?_
    exact j_ireturn (pc := 10) rfl (Nat.le_of_ble_eq_true rfl) (Nat.le_of_ble_eq_true rfl) dX11_lose_10
theorem c11_lose (l : Launch) (v0 : Nat) (v1 : Int32) : Ctr l yX11_lose cX11_lose 2 (some .int) rm11_lose eI [aR 29 v0, aI v1] (f11_lose v0 v1) := ctr_of (lv := [(0, aR 29 v0), (1, aI v1)]) (by decide +kernel) (fun _ => rfl) (fun _ => (Nat.le_of_ble_eq_true rfl)) (fun _ h => lvl_als h rfl) (fun _ σ _ => j11_lose v0 v1 σ)
abbrev rm11_rank : Room := { frames := 0, cells := 0, slots := 0, locals := 0 }
set_option maxRecDepth 20000 in
set_option maxHeartbeats 4000000 in
theorem j11_rank {Γ : jX} {tg : Int64 × rS} (v0 : Int32) (v1 : Int64) (σ : rS) : J Γ rm11_rank eL cX11_rank RX11 3 (some .long) tg 0 0 0 [(0, aI v0), (1, aL v1)] [] σ (f11_rank v0 v1 σ) := by
  unfold f11_rank
  refine j_iload_n (pc := 0) 0 dX11_rank_0 rfl rfl ?_
  refine j_bipush (pc := 1) (v := 6) (by decide) dX11_rank_1 ?_
  refine j_icmplt (pc := 3) (tgt := 12) dX11_rank_3 rfl (fun _ => ?_) (fun _ => ?_)
  · refine j_lload_n (pc := 12) 1 dX11_rank_12 rfl rfl ?_
    refine j_goto (pc := 13) (tgt := 43) dX11_rank_13 rfl ?_
    exact j_lreturn (pc := 43) rfl (Nat.le_of_ble_eq_true rfl) (Nat.le_of_ble_eq_true rfl) dX11_rank_43
  · refine j_lload_n (pc := 6) 1 dX11_rank_6 rfl rfl ?_
    refine j_lconst (pc := 7) (v := 0) (by decide) dX11_rank_7 ?_
    refine j_lcmplt (pc := 8) (tgt := 16) dX11_rank_8 dX11_rank_9 rfl (fun _ => ?_) (fun _ => ?_)
    · refine j_iload_n (pc := 16) 0 dX11_rank_16 rfl rfl ?_
      refine j_bipush (pc := 17) (v := 6) (by decide) dX11_rank_17 ?_
      refine j_icmpne (pc := 19) (tgt := 34) dX11_rank_19 rfl (fun _ => ?_) (fun _ => ?_)
      · refine j_ldc2 (pc := 34) tw_5_79 dX11_rank_34 ?_
        refine j_lload_n (pc := 37) 1 dX11_rank_37 rfl rfl ?_
        refine j_ldc2 (pc := 38) tw_4_227 dX11_rank_38 ?_
        refine j_land (pc := 41) dX11_rank_41 ?_
        refine j_lsub (pc := 42) dX11_rank_42 ?_
        exact j_lreturn (pc := 43) rfl (Nat.le_of_ble_eq_true rfl) (Nat.le_of_ble_eq_true rfl) dX11_rank_43
      · refine j_ldc2 (pc := 22) tw_5_79 dX11_rank_22 ?_
        refine j_lload_n (pc := 25) 1 dX11_rank_25 rfl rfl ?_
        refine j_ldc2 (pc := 26) tw_4_225 dX11_rank_26 ?_
        refine j_land (pc := 29) dX11_rank_29 ?_
        refine j_lsub (pc := 30) dX11_rank_30 ?_
        refine j_goto (pc := 31) (tgt := 43) dX11_rank_31 rfl ?_
        exact j_lreturn (pc := 43) rfl (Nat.le_of_ble_eq_true rfl) (Nat.le_of_ble_eq_true rfl) dX11_rank_43
    · refine j_lload_n (pc := 12) 1 dX11_rank_12 rfl rfl ?_
      refine j_goto (pc := 13) (tgt := 43) dX11_rank_13 rfl ?_
      exact j_lreturn (pc := 43) rfl (Nat.le_of_ble_eq_true rfl) (Nat.le_of_ble_eq_true rfl) dX11_rank_43
theorem c11_rank (l : Launch) (v0 : Int32) (v1 : Int64) : Ctr l yX11_rank cX11_rank 3 (some .long) rm11_rank eL [aI v0, aL v1] (f11_rank v0 v1) := ctr_of (lv := [(0, aI v0), (1, aL v1)]) (by decide +kernel) (fun _ => rfl) (fun _ => (Nat.le_of_ble_eq_true rfl)) (fun _ h => lvl_als h rfl) (fun _ σ _ => j11_rank v0 v1 σ)
theorem cs_RX11_209 : CaS RX11 209 yX11_rank cX11_rank 3 (some .long) 2 := ⟨tw_5_76, tw_5_77, tw_1_5, tw_5_78, by decide +kernel, by decide +kernel, by decide +kernel⟩
abbrev rm11_most : Room := { frames := 2, cells := 0, slots := 0, locals := 46 }
set_option maxRecDepth 20000 in
set_option maxHeartbeats 4000000 in
theorem jb11_most_166 {Γ : jX} {tg : Int32 × rS} (N : Nat) (K57 : Nat → Int32 → Int32 → Int32 → Int32 → Int32 → Int32 → rS → Option (Int32 × rS)) (hK57 : ∀ (v0 : Nat) (v1 : Int32) (v2 : Int32) (v3 : Int32) (v4 : Int32) (v5 : Int32) (v6 : Int32) (σ : rS), J Γ rm11_most eI cX11_most RX11 9 (some .int) tg 0 0 57 [(0, aR 29 v0), (1, aI v1), (2, aI v2), (3, aI v3), (4, aI v4), (5, aI v5), (6, aI v6)] [] σ (K57 v0 v1 v2 v3 v4 v5 v6 σ)) (v0 : Nat) (v1 : Int32) (v2 : Int32) (v3 : Int32) (v4 : Int32) (v5 : Int32) (v6 : Int32) (σ : rS) : J Γ rm11_most eI cX11_most RX11 9 (some .int) tg 0 0 166 [(0, aR 29 v0), (1, aI v1), (2, aI v2), (3, aI v3), (4, aI v4), (5, aI v5), (6, aI v6)] [] σ (B11_most_166 N K57 v0 v1 v2 v3 v4 v5 v6 σ) := by
  unfold B11_most_166
  refine j_iinc (pc := 166) (w := 1) (lv' := [(6, aI (v6 + 1)), (0, aR 29 v0), (1, aI v1), (2, aI v2), (3, aI v3), (4, aI v4), (5, aI v5)]) 6 dX11_most_166 rfl (by decide) (Nat.le_of_ble_eq_true rfl) rfl ?_
  refine j_goto (pc := 169) (tgt := 57) dX11_most_169 rfl ?_
  refine j_sub [1, 2, 3, 4, 5, 6, 0] (lv' := [(0, aR 29 v0), (1, aI v1), (2, aI v2), (3, aI v3), (4, aI v4), (5, aI v5), (6, aI (v6 + 1))]) rfl ?_
  exact hK57 v0 v1 v2 v3 v4 v5 (v6 + 1) σ
set_option maxRecDepth 20000 in
set_option maxHeartbeats 4000000 in
theorem jb11_most_162 {Γ : jX} {tg : Int32 × rS} (N : Nat) (K57 : Nat → Int32 → Int32 → Int32 → Int32 → Int32 → Int32 → rS → Option (Int32 × rS)) (hK57 : ∀ (v0 : Nat) (v1 : Int32) (v2 : Int32) (v3 : Int32) (v4 : Int32) (v5 : Int32) (v6 : Int32) (σ : rS), J Γ rm11_most eI cX11_most RX11 9 (some .int) tg 0 0 57 [(0, aR 29 v0), (1, aI v1), (2, aI v2), (3, aI v3), (4, aI v4), (5, aI v5), (6, aI v6)] [] σ (K57 v0 v1 v2 v3 v4 v5 v6 σ)) (v0 : Nat) (v1 : Int32) (v2 : Int32) (v3 : Int32) (v4 : Int32) (v6 : Int32) (σ : rS) : J Γ rm11_most eI cX11_most RX11 9 (some .int) tg 0 0 162 [(0, aR 29 v0), (1, aI v1), (2, aI v2), (3, aI v3), (4, aI v4), (6, aI v6)] [] σ (B11_most_162 N K57 v0 v1 v2 v3 v4 v6 σ) := by
  unfold B11_most_162
  refine j_iload (pc := 162) 5 dX11_most_162 rfl ?_
  refine j_istore (pc := 164) (lv' := [(5, aI v6), (0, aR 29 v0), (1, aI v1), (2, aI v2), (3, aI v3), (4, aI v4), (6, aI v6)]) dX11_most_164 (Nat.le_of_ble_eq_true rfl) rfl ?_
  refine j_sub [1, 2, 3, 4, 5, 0, 6] (lv' := [(0, aR 29 v0), (1, aI v1), (2, aI v2), (3, aI v3), (4, aI v4), (5, aI v6), (6, aI v6)]) rfl ?_
  exact jb11_most_166 N K57 hK57 v0 v1 v2 v3 v4 v6 v6 σ
set_option maxRecDepth 20000 in
set_option maxHeartbeats 4000000 in
theorem jb11_most_57 {Γ : jX} {tg : Int32 × rS} (N : Nat) (K57 : Nat → Int32 → Int32 → Int32 → Int32 → Int32 → Int32 → rS → Option (Int32 × rS)) (hK57 : ∀ (v0 : Nat) (v1 : Int32) (v2 : Int32) (v3 : Int32) (v4 : Int32) (v5 : Int32) (v6 : Int32) (σ : rS), J Γ rm11_most eI cX11_most RX11 9 (some .int) tg 0 0 57 [(0, aR 29 v0), (1, aI v1), (2, aI v2), (3, aI v3), (4, aI v4), (5, aI v5), (6, aI v6)] [] σ (K57 v0 v1 v2 v3 v4 v5 v6 σ)) (v0 : Nat) (v1 : Int32) (v2 : Int32) (v3 : Int32) (v4 : Int32) (v5 : Int32) (v6 : Int32) (σ : rS) : J Γ rm11_most eI cX11_most RX11 9 (some .int) tg 0 0 57 [(0, aR 29 v0), (1, aI v1), (2, aI v2), (3, aI v3), (4, aI v4), (5, aI v5), (6, aI v6)] [] σ (B11_most_57 N K57 v0 v1 v2 v3 v4 v5 v6 σ) := by
  unfold B11_most_57
  refine j_iload (pc := 57) 6 dX11_most_57 rfl ?_
  refine j_aload_n (pc := 59) 0 dX11_most_59 rfl rfl ?_
  refine j_getF (pc := 60) fd_29_5 tw_4_71 dX11_most_60 ?_
  refine j_iload_n (pc := 63) 1 dX11_most_63 rfl rfl ?_
  refine j_iald (pc := 64) rfl rfl rfl dX11_most_64 (fun j1 => ?_)
  refine j_icmpge (pc := 65) (tgt := 172) dX11_most_65 rfl (fun _ => ?_) (fun _ => ?_)
  · refine j_iload_n (pc := 172) 2 dX11_most_172 rfl rfl ?_
    refine j_iconst (pc := 173) (v := 2) (by decide) dX11_most_173 ?_
    refine j_icmpne (pc := 174) (tgt := 186) dX11_most_174 rfl (fun _ => ?_) (fun _ => ?_)
    · refine j_iload (pc := 186) 5 dX11_most_186 rfl ?_
      refine j_iconst (pc := 188) (v := (-1)) (by decide) dX11_most_188 ?_
      refine j_icmpne (pc := 189) (tgt := 198) dX11_most_189 rfl (fun _ => ?_) (fun _ => ?_)
      · refine j_aload_n (pc := 198) 0 dX11_most_198 rfl rfl ?_
        refine j_aload_n (pc := 199) 0 dX11_most_199 rfl rfl ?_
        refine j_getF (pc := 200) fd_29_7 tw_4_73 dX11_most_200 ?_
        refine j_bipush (pc := 203) (v := 24) (by decide) dX11_most_203 ?_
        refine j_iload_n (pc := 205) 1 dX11_most_205 rfl rfl ?_
        refine j_imul (pc := 206) dX11_most_206 ?_
        refine j_iload (pc := 207) 5 dX11_most_207 rfl ?_
        refine j_iadd (pc := 209) dX11_most_209 ?_
        refine j_lald (pc := 210) rfl rfl rfl dX11_most_210 (fun j2 => ?_)
        refine j_putL (pc := 211) fd_29_2 tw_4_68 dX11_most_211 ?_
        refine j_lets (fun σ3 => ?_)
        refine j_iconst (pc := 214) (v := 0) (by decide) dX11_most_214 ?_
        exact j_ireturn (pc := 215) rfl (Nat.le_of_ble_eq_true rfl) (Nat.le_of_ble_eq_true rfl) dX11_most_215
      · refine j_aload_n (pc := 192) 0 dX11_most_192 rfl rfl ?_
        refine j_iconst (pc := 193) (v := 5) (by decide) dX11_most_193 ?_
        refine j_callVI (pc := 194) (As := [aI 5]) (st := []) (fun l => c11_meets l v0 5) cs_RX11_146 rfl rfl rfl rfl (Nat.le_of_ble_eq_true rfl) ⟨(Nat.le_of_ble_eq_true rfl), (Nat.le_of_ble_eq_true rfl)⟩ ⟨(Nat.le_of_ble_eq_true rfl), (Nat.le_of_ble_eq_true rfl)⟩ dX11_most_194 (fun r4 σ5 => ?_)
        exact j_ireturn (pc := 197) rfl (Nat.le_of_ble_eq_true rfl) (Nat.le_of_ble_eq_true rfl) dX11_most_197
    · refine j_aload_n (pc := 177) 0 dX11_most_177 rfl rfl ?_
      refine j_iload (pc := 178) 4 dX11_most_178 rfl ?_
      refine j_i2l (pc := 180) dX11_most_180 ?_
      refine j_putL (pc := 181) fd_29_2 tw_4_68 dX11_most_181 ?_
      refine j_lets (fun σ6 => ?_)
      refine j_iconst (pc := 184) (v := 0) (by decide) dX11_most_184 ?_
      exact j_ireturn (pc := 185) rfl (Nat.le_of_ble_eq_true rfl) (Nat.le_of_ble_eq_true rfl) dX11_most_185
  · refine j_aload_n (pc := 68) 0 dX11_most_68 rfl rfl ?_
    refine j_getF (pc := 69) fd_29_7 tw_4_73 dX11_most_69 ?_
    refine j_bipush (pc := 72) (v := 24) (by decide) dX11_most_72 ?_
    refine j_iload_n (pc := 74) 1 dX11_most_74 rfl rfl ?_
    refine j_imul (pc := 75) dX11_most_75 ?_
    refine j_iload (pc := 76) 6 dX11_most_76 rfl ?_
    refine j_iadd (pc := 78) dX11_most_78 ?_
    refine j_lald (pc := 79) rfl rfl rfl dX11_most_79 (fun j7 => ?_)
    refine j_letl (fun x8 => ?_)
    refine j_lstore (pc := 80) (lv' := [(7, aL x8), (0, aR 29 v0), (1, aI v1), (2, aI v2), (3, aI v3), (4, aI v4), (5, aI v5), (6, aI v6)]) dX11_most_80 (Nat.le_of_ble_eq_true rfl) rfl ?_
    refine j_iload_n (pc := 82) 4 dX11_most_82 rfl rfl ?_
    refine j_lload (pc := 83) 0 dX11_most_83 rfl ?_
    refine j_callSZ (pc := 85) (As := [aI v3, aL x8]) (st := []) (fun l => c11_isGap l v3 x8) cs_RX11_99 rfl rfl (Nat.le_of_ble_eq_true rfl) ⟨(Nat.le_of_ble_eq_true rfl), (Nat.le_of_ble_eq_true rfl)⟩ ⟨(Nat.le_of_ble_eq_true rfl), (Nat.le_of_ble_eq_true rfl)⟩ dX11_most_85 (fun r9 σ10 => ?_)
    refine j_ifeqB (pc := 88) (tgt := 97) dX11_most_88 rfl (fun _ => ?_) (fun _ => ?_)
    · refine j_iload (pc := 97) 6 dX11_most_97 rfl ?_
      refine j_iconst (pc := 99) (v := (-1)) (by decide) dX11_most_99 ?_
      refine j_icmpeq (pc := 100) (tgt := 162) dX11_most_100 rfl (fun _ => ?_) (fun _ => ?_)
      · refine j_sub [1, 2, 3, 4, 5, 7] (lv' := [(0, aR 29 v0), (1, aI v1), (2, aI v2), (3, aI v3), (4, aI v4), (6, aI v6)]) rfl ?_
        exact jb11_most_162 N K57 hK57 v0 v1 v2 v3 v4 v6 σ10
      · refine j_iload_n (pc := 103) 3 dX11_most_103 rfl rfl ?_
        refine j_ifne (pc := 104) (tgt := 136) dX11_most_104 rfl (fun _ => ?_) (fun _ => ?_)
        · refine j_iload_n (pc := 136) 4 dX11_most_136 rfl rfl ?_
          refine j_lload (pc := 137) 0 dX11_most_137 rfl ?_
          refine j_callSL (pc := 139) (As := [aI v3, aL x8]) (st := []) (fun l => c11_rank l v3 x8) cs_RX11_209 rfl rfl (Nat.le_of_ble_eq_true rfl) ⟨(Nat.le_of_ble_eq_true rfl), (Nat.le_of_ble_eq_true rfl)⟩ ⟨(Nat.le_of_ble_eq_true rfl), (Nat.le_of_ble_eq_true rfl)⟩ dX11_most_139 (fun r11 σ12 => ?_)
          refine j_iload_n (pc := 142) 4 dX11_most_142 rfl rfl ?_
          refine j_aload_n (pc := 143) 1 dX11_most_143 rfl rfl ?_
          refine j_getF (pc := 144) fd_29_7 tw_4_73 dX11_most_144 ?_
          refine j_bipush (pc := 147) (v := 24) (by decide) dX11_most_147 ?_
          refine j_iload_n (pc := 149) 2 dX11_most_149 rfl rfl ?_
          refine j_imul (pc := 150) dX11_most_150 ?_
          refine j_iload (pc := 151) 6 dX11_most_151 rfl ?_
          refine j_iadd (pc := 153) dX11_most_153 ?_
          refine j_lald (pc := 154) rfl rfl rfl dX11_most_154 (fun j13 => ?_)
          refine j_callSL (pc := 155) (As := [aI v3, aL (gL σ12 37 v0 j13)]) (st := [aL r11]) (fun l => c11_rank l v3 (gL σ12 37 v0 j13)) cs_RX11_209 rfl rfl (Nat.le_of_ble_eq_true rfl) ⟨(Nat.le_of_ble_eq_true rfl), (Nat.le_of_ble_eq_true rfl)⟩ ⟨(Nat.le_of_ble_eq_true rfl), (Nat.le_of_ble_eq_true rfl)⟩ dX11_most_155 (fun r14 σ15 => ?_)
          refine j_lcmpge (pc := 158) (tgt := 166) dX11_most_158 dX11_most_159 rfl (fun _ => ?_) (fun _ => ?_)
          · refine j_sub [1, 2, 3, 4, 5, 6, 7] (lv' := [(0, aR 29 v0), (1, aI v1), (2, aI v2), (3, aI v3), (4, aI v4), (5, aI v5), (6, aI v6)]) rfl ?_
            exact jb11_most_166 N K57 hK57 v0 v1 v2 v3 v4 v5 v6 σ15
          · refine j_sub [1, 2, 3, 4, 5, 7] (lv' := [(0, aR 29 v0), (1, aI v1), (2, aI v2), (3, aI v3), (4, aI v4), (6, aI v6)]) rfl ?_
            exact jb11_most_162 N K57 hK57 v0 v1 v2 v3 v4 v6 σ15
        · refine j_iload_n (pc := 107) 4 dX11_most_107 rfl rfl ?_
          refine j_lload (pc := 108) 0 dX11_most_108 rfl ?_
          refine j_callSL (pc := 110) (As := [aI v3, aL x8]) (st := []) (fun l => c11_rank l v3 x8) cs_RX11_209 rfl rfl (Nat.le_of_ble_eq_true rfl) ⟨(Nat.le_of_ble_eq_true rfl), (Nat.le_of_ble_eq_true rfl)⟩ ⟨(Nat.le_of_ble_eq_true rfl), (Nat.le_of_ble_eq_true rfl)⟩ dX11_most_110 (fun r16 σ17 => ?_)
          refine j_iload_n (pc := 113) 4 dX11_most_113 rfl rfl ?_
          refine j_aload_n (pc := 114) 1 dX11_most_114 rfl rfl ?_
          refine j_getF (pc := 115) fd_29_7 tw_4_73 dX11_most_115 ?_
          refine j_bipush (pc := 118) (v := 24) (by decide) dX11_most_118 ?_
          refine j_iload_n (pc := 120) 2 dX11_most_120 rfl rfl ?_
          refine j_imul (pc := 121) dX11_most_121 ?_
          refine j_iload (pc := 122) 6 dX11_most_122 rfl ?_
          refine j_iadd (pc := 124) dX11_most_124 ?_
          refine j_lald (pc := 125) rfl rfl rfl dX11_most_125 (fun j18 => ?_)
          refine j_callSL (pc := 126) (As := [aI v3, aL (gL σ17 37 v0 j18)]) (st := [aL r16]) (fun l => c11_rank l v3 (gL σ17 37 v0 j18)) cs_RX11_209 rfl rfl (Nat.le_of_ble_eq_true rfl) ⟨(Nat.le_of_ble_eq_true rfl), (Nat.le_of_ble_eq_true rfl)⟩ ⟨(Nat.le_of_ble_eq_true rfl), (Nat.le_of_ble_eq_true rfl)⟩ dX11_most_126 (fun r19 σ20 => ?_)
          refine j_lcmple (pc := 129) (tgt := 166) dX11_most_129 dX11_most_130 rfl (fun _ => ?_) (fun _ => ?_)
          · refine j_sub [1, 2, 3, 4, 5, 6, 7] (lv' := [(0, aR 29 v0), (1, aI v1), (2, aI v2), (3, aI v3), (4, aI v4), (5, aI v5), (6, aI v6)]) rfl ?_
            exact jb11_most_166 N K57 hK57 v0 v1 v2 v3 v4 v5 v6 σ20
          · refine j_goto (pc := 133) (tgt := 162) dX11_most_133 rfl ?_
            refine j_sub [1, 2, 3, 4, 5, 7] (lv' := [(0, aR 29 v0), (1, aI v1), (2, aI v2), (3, aI v3), (4, aI v4), (6, aI v6)]) rfl ?_
            exact jb11_most_162 N K57 hK57 v0 v1 v2 v3 v4 v6 σ20
    · refine j_iinc (pc := 91) (w := 1) (lv' := [(4, aI (v4 + 1)), (7, aL x8), (0, aR 29 v0), (1, aI v1), (2, aI v2), (3, aI v3), (5, aI v5), (6, aI v6)]) 5 dX11_most_91 rfl (by decide) (Nat.le_of_ble_eq_true rfl) rfl ?_
      refine j_goto (pc := 94) (tgt := 166) dX11_most_94 rfl ?_
      refine j_sub [2, 3, 4, 5, 0, 6, 7] (lv' := [(0, aR 29 v0), (1, aI v1), (2, aI v2), (3, aI v3), (4, aI (v4 + 1)), (5, aI v5), (6, aI v6)]) rfl ?_
      exact jb11_most_166 N K57 hK57 v0 v1 v2 v3 (v4 + 1) v5 v6 σ10
theorem jl11_most_57 {Γ : jX} {tg : Int32 × rS} (N : Nat) : ∀ (n : Nat) (v0 : Nat) (v1 : Int32) (v2 : Int32) (v3 : Int32) (v4 : Int32) (v5 : Int32) (v6 : Int32) (σ : rS), J Γ rm11_most eI cX11_most RX11 9 (some .int) tg 0 0 57 [(0, aR 29 v0), (1, aI v1), (2, aI v2), (3, aI v3), (4, aI v4), (5, aI v5), (6, aI v6)] [] σ (L11_most_57 N n v0 v1 v2 v3 v4 v5 v6 σ) := by
  intro n
  induction n with
  | zero => intro v0 v1 v2 v3 v4 v5 v6 σ; exact j_none
  | succ n ih => intro v0 v1 v2 v3 v4 v5 v6 σ; exact jb11_most_57 N (L11_most_57 N n) ih v0 v1 v2 v3 v4 v5 v6 σ
set_option maxRecDepth 20000 in
set_option maxHeartbeats 4000000 in
theorem j11_most {Γ : jX} {tg : Int32 × rS} (N : Nat) (v0 : Nat) (v1 : Int32) (v2 : Int32) (σ : rS) : J Γ rm11_most eI cX11_most RX11 9 (some .int) tg 0 0 0 [(0, aR 29 v0), (1, aI v1), (2, aI v2)] [] σ (f11_most N v0 v1 v2 σ) := by
  unfold f11_most
  refine j_aload_n (pc := 0) 0 dX11_most_0 rfl rfl ?_
  refine j_iload_n (pc := 1) 1 dX11_most_1 rfl rfl ?_
  refine j_callVZ (pc := 2) (As := [aI v1]) (st := []) (fun l => c11_isRow l v0 v1) cs_RX11_154 rfl rfl rfl rfl (Nat.le_of_ble_eq_true rfl) ⟨(Nat.le_of_ble_eq_true rfl), (Nat.le_of_ble_eq_true rfl)⟩ ⟨(Nat.le_of_ble_eq_true rfl), (Nat.le_of_ble_eq_true rfl)⟩ dX11_most_2 (fun r1 σ2 => ?_)
  refine j_ifneB (pc := 5) (tgt := 11) dX11_most_5 rfl (fun _ => ?_) (fun _ => ?_)
  · refine j_iload_n (pc := 11) 2 dX11_most_11 rfl rfl ?_
    refine j_i2l (pc := 12) dX11_most_12 ?_
    refine j_lconst (pc := 13) (v := 0) (by decide) dX11_most_13 ?_
    refine j_ldc2 (pc := 14) tw_5_75 dX11_most_14 ?_
    refine j_callSZ (pc := 17) (As := [aL (Int32.toInt64 v2), aL 0, aL 2]) (st := []) (fun l => c11_in l (Int32.toInt64 v2) 0 2) cs_RX11_140 rfl rfl (Nat.le_of_ble_eq_true rfl) ⟨(Nat.le_of_ble_eq_true rfl), (Nat.le_of_ble_eq_true rfl)⟩ ⟨(Nat.le_of_ble_eq_true rfl), (Nat.le_of_ble_eq_true rfl)⟩ dX11_most_17 (fun r3 σ4 => ?_)
    refine j_ifneB (pc := 20) (tgt := 26) dX11_most_20 rfl (fun _ => ?_) (fun _ => ?_)
    · refine j_aload_n (pc := 26) 0 dX11_most_26 rfl rfl ?_
      refine j_getF (pc := 27) fd_29_6 tw_4_72 dX11_most_27 ?_
      refine j_iload_n (pc := 30) 1 dX11_most_30 rfl rfl ?_
      refine j_zald (pc := 31) rfl rfl rfl dX11_most_31 (fun j5 => ?_)
      refine j_ifeq (pc := 32) (tgt := 41) dX11_most_32 rfl (fun _ => ?_) (fun _ => ?_)
      · refine j_aload_n (pc := 41) 0 dX11_most_41 rfl rfl ?_
        refine j_getF (pc := 42) fd_29_4 tw_4_70 dX11_most_42 ?_
        refine j_iload_n (pc := 45) 1 dX11_most_45 rfl rfl ?_
        refine j_iald (pc := 46) rfl rfl rfl dX11_most_46 (fun j6 => ?_)
        refine j_leti (fun x7 => ?_)
        refine j_istore_n (pc := 47) (lv' := [(3, aI x7), (0, aR 29 v0), (1, aI v1), (2, aI v2)]) dX11_most_47 rfl (Nat.le_of_ble_eq_true rfl) rfl ?_
        refine j_iconst (pc := 48) (v := 0) (by decide) dX11_most_48 ?_
        refine j_istore (pc := 49) (lv' := [(4, aI 0), (3, aI x7), (0, aR 29 v0), (1, aI v1), (2, aI v2)]) dX11_most_49 (Nat.le_of_ble_eq_true rfl) rfl ?_
        refine j_iconst (pc := 51) (v := (-1)) (by decide) dX11_most_51 ?_
        refine j_istore (pc := 52) (lv' := [(5, aI (-1)), (4, aI 0), (3, aI x7), (0, aR 29 v0), (1, aI v1), (2, aI v2)]) dX11_most_52 (Nat.le_of_ble_eq_true rfl) rfl ?_
        refine j_iconst (pc := 54) (v := 0) (by decide) dX11_most_54 ?_
        refine j_istore (pc := 55) (lv' := [(6, aI 0), (5, aI (-1)), (4, aI 0), (3, aI x7), (0, aR 29 v0), (1, aI v1), (2, aI v2)]) dX11_most_55 (Nat.le_of_ble_eq_true rfl) rfl ?_
        refine j_sub [4, 5, 6, 3, 2, 1, 0] (lv' := [(0, aR 29 v0), (1, aI v1), (2, aI v2), (3, aI x7), (4, aI 0), (5, aI (-1)), (6, aI 0)]) rfl ?_
        exact jl11_most_57 N  N v0 v1 v2 x7 0 (-1) 0 σ4
      · refine j_aload_n (pc := 35) 0 dX11_most_35 rfl rfl ?_
        refine j_iconst (pc := 36) (v := 1) (by decide) dX11_most_36 ?_
        refine j_callVI (pc := 37) (As := [aI 1]) (st := []) (fun l => c11_meets l v0 1) cs_RX11_146 rfl rfl rfl rfl (Nat.le_of_ble_eq_true rfl) ⟨(Nat.le_of_ble_eq_true rfl), (Nat.le_of_ble_eq_true rfl)⟩ ⟨(Nat.le_of_ble_eq_true rfl), (Nat.le_of_ble_eq_true rfl)⟩ dX11_most_37 (fun r8 σ9 => ?_)
        exact j_ireturn (pc := 40) rfl (Nat.le_of_ble_eq_true rfl) (Nat.le_of_ble_eq_true rfl) dX11_most_40
    · refine j_bipush (pc := 23) (v := (-102)) (by decide) dX11_most_23 ?_
      exact j_ireturn (pc := 25) rfl (Nat.le_of_ble_eq_true rfl) (Nat.le_of_ble_eq_true rfl) dX11_most_25
  · refine j_bipush (pc := 8) (v := (-101)) (by decide) dX11_most_8 ?_
    exact j_ireturn (pc := 10) rfl (Nat.le_of_ble_eq_true rfl) (Nat.le_of_ble_eq_true rfl) dX11_most_10
theorem c11_most (l : Launch) (N : Nat) (v0 : Nat) (v1 : Int32) (v2 : Int32) : Ctr l yX11_most cX11_most 9 (some .int) rm11_most eI [aR 29 v0, aI v1, aI v2] (f11_most N v0 v1 v2) := ctr_of (lv := [(0, aR 29 v0), (1, aI v1), (2, aI v2)]) (by decide +kernel) (fun _ => rfl) (fun _ => (Nat.le_of_ble_eq_true rfl)) (fun _ h => lvl_als h rfl) (fun _ σ _ => j11_most N v0 v1 v2 σ)
abbrev rm11_newRow : Room := { frames := 0, cells := 0, slots := 0, locals := 0 }
set_option maxRecDepth 20000 in
set_option maxHeartbeats 4000000 in
theorem jb11_newRow_32 {Γ : jX} {tg : Int32 × rS} (N : Nat) (K32 : Nat → Int32 → rS → Option (Int32 × rS)) (hK32 : ∀ (v0 : Nat) (v3 : Int32) (σ : rS), J Γ rm11_newRow eI cX11_newRow RX11 4 (some .int) tg 0 0 32 [(0, aR 29 v0), (3, aI v3)] [] σ (K32 v0 v3 σ)) (v0 : Nat) (v3 : Int32) (σ : rS) : J Γ rm11_newRow eI cX11_newRow RX11 4 (some .int) tg 0 0 32 [(0, aR 29 v0), (3, aI v3)] [] σ (B11_newRow_32 N K32 v0 v3 σ) := by
  unfold B11_newRow_32
  refine j_iload_n (pc := 32) 1 dX11_newRow_32 rfl rfl ?_
  refine j_bipush (pc := 33) (v := 24) (by decide) dX11_newRow_33 ?_
  refine j_icmpge (pc := 35) (tgt := 59) dX11_newRow_35 rfl (fun _ => ?_) (fun _ => ?_)
  · refine j_aload_n (pc := 59) 0 dX11_newRow_59 rfl rfl ?_
    refine j_dup (pc := 60) dX11_newRow_60 rfl ?_
    refine j_getI (pc := 61) fd_29_3 tw_4_69 dX11_newRow_61 ?_
    refine j_iconst (pc := 64) (v := 1) (by decide) dX11_newRow_64 ?_
    refine j_iadd (pc := 65) dX11_newRow_65 ?_
    refine j_putI (pc := 66) fd_29_3 rfl rfl tw_4_69 dX11_newRow_66 ?_
    refine j_lets (fun σ1 => ?_)
    refine j_aload_n (pc := 69) 0 dX11_newRow_69 rfl rfl ?_
    refine j_getI (pc := 70) fd_29_3 tw_4_69 dX11_newRow_70 ?_
    refine j_iconst (pc := 73) (v := 1) (by decide) dX11_newRow_73 ?_
    refine j_isub (pc := 74) dX11_newRow_74 ?_
    exact j_ireturn (pc := 75) rfl (Nat.le_of_ble_eq_true rfl) (Nat.le_of_ble_eq_true rfl) dX11_newRow_75
  · refine j_aload_n (pc := 38) 0 dX11_newRow_38 rfl rfl ?_
    refine j_getF (pc := 39) fd_29_7 tw_4_73 dX11_newRow_39 ?_
    refine j_bipush (pc := 42) (v := 24) (by decide) dX11_newRow_42 ?_
    refine j_aload_n (pc := 44) 0 dX11_newRow_44 rfl rfl ?_
    refine j_getI (pc := 45) fd_29_3 tw_4_69 dX11_newRow_45 ?_
    refine j_imul (pc := 48) dX11_newRow_48 ?_
    refine j_iload_n (pc := 49) 1 dX11_newRow_49 rfl rfl ?_
    refine j_iadd (pc := 50) dX11_newRow_50 ?_
    refine j_lconst (pc := 51) (v := 0) (by decide) dX11_newRow_51 ?_
    refine j_last (pc := 52) rfl rfl rfl dX11_newRow_52 (fun j2 => ?_)
    refine j_lets (fun σ3 => ?_)
    refine j_iinc (pc := 53) (w := 1) (lv' := [(3, aI (v3 + 1)), (0, aR 29 v0)]) 1 dX11_newRow_53 rfl (by decide) (Nat.le_of_ble_eq_true rfl) rfl ?_
    refine j_goto (pc := 56) (tgt := 32) dX11_newRow_56 rfl ?_
    refine j_sub [1, 0] (lv' := [(0, aR 29 v0), (3, aI (v3 + 1))]) rfl ?_
    exact hK32 v0 (v3 + 1) σ3
theorem jl11_newRow_32 {Γ : jX} {tg : Int32 × rS} (N : Nat) : ∀ (n : Nat) (v0 : Nat) (v3 : Int32) (σ : rS), J Γ rm11_newRow eI cX11_newRow RX11 4 (some .int) tg 0 0 32 [(0, aR 29 v0), (3, aI v3)] [] σ (L11_newRow_32 N n v0 v3 σ) := by
  intro n
  induction n with
  | zero => intro v0 v3 σ; exact j_none
  | succ n ih => intro v0 v3 σ; exact jb11_newRow_32 N (L11_newRow_32 N n) ih v0 v3 σ
set_option maxRecDepth 20000 in
set_option maxHeartbeats 4000000 in
theorem j11_newRow {Γ : jX} {tg : Int32 × rS} (N : Nat) (v0 : Nat) (v1 : Int32) (v2 : Int32) (σ : rS) : J Γ rm11_newRow eI cX11_newRow RX11 4 (some .int) tg 0 0 0 [(0, aR 29 v0), (1, aI v1), (2, aI v2)] [] σ (f11_newRow N v0 v1 v2 σ) := by
  unfold f11_newRow
  refine j_aload_n (pc := 0) 0 dX11_newRow_0 rfl rfl ?_
  refine j_getF (pc := 1) fd_29_4 tw_4_70 dX11_newRow_1 ?_
  refine j_aload_n (pc := 4) 0 dX11_newRow_4 rfl rfl ?_
  refine j_getI (pc := 5) fd_29_3 tw_4_69 dX11_newRow_5 ?_
  refine j_iload_n (pc := 8) 1 dX11_newRow_8 rfl rfl ?_
  refine j_iast (pc := 9) rfl rfl rfl dX11_newRow_9 (fun j1 => ?_)
  refine j_lets (fun σ2 => ?_)
  refine j_aload_n (pc := 10) 0 dX11_newRow_10 rfl rfl ?_
  refine j_getF (pc := 11) fd_29_5 tw_4_71 dX11_newRow_11 ?_
  refine j_aload_n (pc := 14) 0 dX11_newRow_14 rfl rfl ?_
  refine j_getI (pc := 15) fd_29_3 tw_4_69 dX11_newRow_15 ?_
  refine j_iload_n (pc := 18) 2 dX11_newRow_18 rfl rfl ?_
  refine j_iast (pc := 19) rfl rfl rfl dX11_newRow_19 (fun j3 => ?_)
  refine j_lets (fun σ4 => ?_)
  refine j_aload_n (pc := 20) 0 dX11_newRow_20 rfl rfl ?_
  refine j_getF (pc := 21) fd_29_6 tw_4_72 dX11_newRow_21 ?_
  refine j_aload_n (pc := 24) 0 dX11_newRow_24 rfl rfl ?_
  refine j_getI (pc := 25) fd_29_3 tw_4_69 dX11_newRow_25 ?_
  refine j_iconst (pc := 28) (v := 0) (by decide) dX11_newRow_28 ?_
  refine j_zast (pc := 29) rfl rfl rfl dX11_newRow_29 (fun j5 => ?_)
  refine j_lets (fun σ6 => ?_)
  refine j_iconst (pc := 30) (v := 0) (by decide) dX11_newRow_30 ?_
  refine j_istore_n (pc := 31) (lv' := [(3, aI 0), (0, aR 29 v0), (1, aI v1), (2, aI v2)]) dX11_newRow_31 rfl (Nat.le_of_ble_eq_true rfl) rfl ?_
  refine j_sub [0, 1] (lv' := [(3, aI 0), (0, aR 29 v0)]) rfl ?_
  refine j_sub [1, 0] (lv' := [(0, aR 29 v0), (3, aI 0)]) rfl ?_
  exact jl11_newRow_32 N  N v0 0 σ6
theorem c11_newRow (l : Launch) (N : Nat) (v0 : Nat) (v1 : Int32) (v2 : Int32) : Ctr l yX11_newRow cX11_newRow 4 (some .int) rm11_newRow eI [aR 29 v0, aI v1, aI v2] (f11_newRow N v0 v1 v2) := ctr_of (lv := [(0, aR 29 v0), (1, aI v1), (2, aI v2)]) (by decide +kernel) (fun _ => rfl) (fun _ => (Nat.le_of_ble_eq_true rfl)) (fun _ h => lvl_als h rfl) (fun _ σ _ => j11_newRow N v0 v1 v2 σ)
theorem cs_RX11_127 : CaS RX11 127 yX11_cut cX11_cut 3 (some .long) 2 := ⟨tw_4_219, tw_4_220, tw_1_5, tw_4_221, by decide +kernel, by decide +kernel, by decide +kernel⟩
theorem cs_RX11_277 : CaV RX11 RX11 277 yX11_decode cX11_decode 8 (some .boolean) 3 := ⟨tw_5_176, tw_5_178, tw_p36, tw_1_5, tw_5_179, rfl, by decide +kernel, by decide +kernel, by decide +kernel⟩
abbrev rm11_piece : Room := { frames := 2, cells := 0, slots := 0, locals := 52 }
set_option maxRecDepth 20000 in
set_option maxHeartbeats 4000000 in
theorem jb11_piece_368 {Γ : jX} {tg : Int32 × rS} (N : Nat) (v9 : Bool) (σ : rS) : J Γ rm11_piece eI cX11_piece RX11 11 (some .int) tg 0 0 368 [(9, aI (bi v9))] [] σ (B11_piece_368 N v9 σ) := by
  unfold B11_piece_368
  refine j_iload (pc := 368) 0 dX11_piece_368 rfl ?_
  refine j_ifeqB (pc := 370) (tgt := 377) dX11_piece_370 rfl (fun _ => ?_) (fun _ => ?_)
  · refine j_bipush (pc := 377) (v := 8) (by decide) dX11_piece_377 ?_
    exact j_ireturn (pc := 379) rfl (Nat.le_of_ble_eq_true rfl) (Nat.le_of_ble_eq_true rfl) dX11_piece_379
  · refine j_iconst (pc := 373) (v := 0) (by decide) dX11_piece_373 ?_
    refine j_goto (pc := 374) (tgt := 379) dX11_piece_374 rfl ?_
    exact j_ireturn (pc := 379) rfl (Nat.le_of_ble_eq_true rfl) (Nat.le_of_ble_eq_true rfl) dX11_piece_379
set_option maxRecDepth 20000 in
set_option maxHeartbeats 4000000 in
theorem jb11_piece_360 {Γ : jX} {tg : Int32 × rS} (N : Nat) (K321 : Nat → Int32 → Int32 → Bool → Int32 → rS → Option (Int32 × rS)) (hK321 : ∀ (v0 : Nat) (v4 : Int32) (v5 : Int32) (v9 : Bool) (v10 : Int32) (σ : rS), J Γ rm11_piece eI cX11_piece RX11 11 (some .int) tg 0 0 321 [(0, aR 29 v0), (4, aI v4), (5, aI v5), (9, aI (bi v9)), (10, aI v10)] [] σ (K321 v0 v4 v5 v9 v10 σ)) (v0 : Nat) (v4 : Int32) (v5 : Int32) (v10 : Int32) (s0 : Bool) (σ : rS) : J Γ rm11_piece eI cX11_piece RX11 11 (some .int) tg 0 0 360 [(0, aR 29 v0), (4, aI v4), (5, aI v5), (10, aI v10)] [aI (bi s0)] σ (B11_piece_360 N K321 v0 v4 v5 v10 s0 σ) := by
  unfold B11_piece_360
  refine j_istore (pc := 360) (lv' := [(9, aI (bi s0)), (0, aR 29 v0), (4, aI v4), (5, aI v5), (10, aI v10)]) dX11_piece_360 (Nat.le_of_ble_eq_true rfl) rfl ?_
  refine j_iinc (pc := 362) (w := 1) (lv' := [(10, aI (v10 + 1)), (9, aI (bi s0)), (0, aR 29 v0), (4, aI v4), (5, aI v5)]) 4 dX11_piece_362 rfl (by decide) (Nat.le_of_ble_eq_true rfl) rfl ?_
  refine j_goto (pc := 365) (tgt := 321) dX11_piece_365 rfl ?_
  refine j_sub [2, 3, 4, 1, 0] (lv' := [(0, aR 29 v0), (4, aI v4), (5, aI v5), (9, aI (bi s0)), (10, aI (v10 + 1))]) rfl ?_
  exact hK321 v0 v4 v5 s0 (v10 + 1) σ
set_option maxRecDepth 20000 in
set_option maxHeartbeats 4000000 in
theorem jb11_piece_321 {Γ : jX} {tg : Int32 × rS} (N : Nat) (K321 : Nat → Int32 → Int32 → Bool → Int32 → rS → Option (Int32 × rS)) (hK321 : ∀ (v0 : Nat) (v4 : Int32) (v5 : Int32) (v9 : Bool) (v10 : Int32) (σ : rS), J Γ rm11_piece eI cX11_piece RX11 11 (some .int) tg 0 0 321 [(0, aR 29 v0), (4, aI v4), (5, aI v5), (9, aI (bi v9)), (10, aI v10)] [] σ (K321 v0 v4 v5 v9 v10 σ)) (v0 : Nat) (v4 : Int32) (v5 : Int32) (v9 : Bool) (v10 : Int32) (σ : rS) : J Γ rm11_piece eI cX11_piece RX11 11 (some .int) tg 0 0 321 [(0, aR 29 v0), (4, aI v4), (5, aI v5), (9, aI (bi v9)), (10, aI v10)] [] σ (B11_piece_321 N K321 v0 v4 v5 v9 v10 σ) := by
  unfold B11_piece_321
  refine j_iload (pc := 321) 4 dX11_piece_321 rfl ?_
  refine j_iload (pc := 323) 2 dX11_piece_323 rfl ?_
  refine j_icmpge (pc := 325) (tgt := 368) dX11_piece_325 rfl (fun _ => ?_) (fun _ => ?_)
  · refine j_sub [3] (lv' := [(9, aI (bi v9))]) rfl ?_
    exact jb11_piece_368 N  v9 σ
  · refine j_iload (pc := 328) 3 dX11_piece_328 rfl ?_
    refine j_ifeqB (pc := 330) (tgt := 368) dX11_piece_330 rfl (fun _ => ?_) (fun _ => ?_)
    · refine j_sub [3] (lv' := [(9, aI (bi v9))]) rfl ?_
      exact jb11_piece_368 N  v9 σ
    · refine j_aload_n (pc := 333) 0 dX11_piece_333 rfl rfl ?_
      refine j_getF (pc := 334) fd_29_11 tw_4_77 dX11_piece_334 ?_
      refine j_iload (pc := 337) 4 dX11_piece_337 rfl ?_
      refine j_iald (pc := 339) rfl rfl rfl dX11_piece_339 (fun j1 => ?_)
      refine j_aload_n (pc := 340) 0 dX11_piece_340 rfl rfl ?_
      refine j_getF (pc := 341) fd_29_14 tw_4_80 dX11_piece_341 ?_
      refine j_iload (pc := 344) 1 dX11_piece_344 rfl ?_
      refine j_iconst (pc := 346) (v := 5) (by decide) dX11_piece_346 ?_
      refine j_iadd (pc := 347) dX11_piece_347 ?_
      refine j_iload (pc := 348) 4 dX11_piece_348 rfl ?_
      refine j_iadd (pc := 350) dX11_piece_350 ?_
      refine j_iald (pc := 351) rfl rfl rfl dX11_piece_351 (fun j2 => ?_)
      refine j_icmpne (pc := 352) (tgt := 359) dX11_piece_352 rfl (fun _ => ?_) (fun _ => ?_)
      · refine j_iconst (pc := 359) (v := 0) (by decide) dX11_piece_359 ?_
        refine j_sub [0, 1, 2, 4] (lv' := [(0, aR 29 v0), (4, aI v4), (5, aI v5), (10, aI v10)]) rfl ?_
        exact jb11_piece_360 N K321 hK321 v0 v4 v5 v10 false σ
      · refine j_iconst (pc := 355) (v := 1) (by decide) dX11_piece_355 ?_
        refine j_goto (pc := 356) (tgt := 360) dX11_piece_356 rfl ?_
        refine j_sub [0, 1, 2, 4] (lv' := [(0, aR 29 v0), (4, aI v4), (5, aI v5), (10, aI v10)]) rfl ?_
        exact jb11_piece_360 N K321 hK321 v0 v4 v5 v10 true σ
theorem jl11_piece_321 {Γ : jX} {tg : Int32 × rS} (N : Nat) : ∀ (n : Nat) (v0 : Nat) (v4 : Int32) (v5 : Int32) (v9 : Bool) (v10 : Int32) (σ : rS), J Γ rm11_piece eI cX11_piece RX11 11 (some .int) tg 0 0 321 [(0, aR 29 v0), (4, aI v4), (5, aI v5), (9, aI (bi v9)), (10, aI v10)] [] σ (L11_piece_321 N n v0 v4 v5 v9 v10 σ) := by
  intro n
  induction n with
  | zero => intro v0 v4 v5 v9 v10 σ; exact j_none
  | succ n ih => intro v0 v4 v5 v9 v10 σ; exact jb11_piece_321 N (L11_piece_321 N n) ih v0 v4 v5 v9 v10 σ
set_option maxRecDepth 20000 in
set_option maxHeartbeats 4000000 in
theorem jb11_piece_316 {Γ : jX} {tg : Int32 × rS} (N : Nat) (v0 : Nat) (v4 : Int32) (v5 : Int32) (s0 : Bool) (σ : rS) : J Γ rm11_piece eI cX11_piece RX11 11 (some .int) tg 0 0 316 [(0, aR 29 v0), (4, aI v4), (5, aI v5)] [aI (bi s0)] σ (B11_piece_316 N v0 v4 v5 s0 σ) := by
  unfold B11_piece_316
  refine j_istore (pc := 316) (lv' := [(9, aI (bi s0)), (0, aR 29 v0), (4, aI v4), (5, aI v5)]) dX11_piece_316 (Nat.le_of_ble_eq_true rfl) rfl ?_
  refine j_iconst (pc := 318) (v := 0) (by decide) dX11_piece_318 ?_
  refine j_istore (pc := 319) (lv' := [(10, aI 0), (9, aI (bi s0)), (0, aR 29 v0), (4, aI v4), (5, aI v5)]) dX11_piece_319 (Nat.le_of_ble_eq_true rfl) rfl ?_
  refine j_sub [2, 3, 4, 1, 0] (lv' := [(0, aR 29 v0), (4, aI v4), (5, aI v5), (9, aI (bi s0)), (10, aI 0)]) rfl ?_
  exact jl11_piece_321 N  N v0 v4 v5 s0 0 σ
set_option maxRecDepth 20000 in
set_option maxHeartbeats 4000000 in
theorem jb11_piece_315 {Γ : jX} {tg : Int32 × rS} (N : Nat) (v0 : Nat) (v4 : Int32) (v5 : Int32) (σ : rS) : J Γ rm11_piece eI cX11_piece RX11 11 (some .int) tg 0 0 315 [(0, aR 29 v0), (4, aI v4), (5, aI v5)] [] σ (B11_piece_315 N v0 v4 v5 σ) := by
  unfold B11_piece_315
  refine j_iconst (pc := 315) (v := 0) (by decide) dX11_piece_315 ?_
  exact jb11_piece_316 N  v0 v4 v5 false σ
set_option maxRecDepth 20000 in
set_option maxHeartbeats 4000000 in
theorem jb11_piece_283 {Γ : jX} {tg : Int32 × rS} (N : Nat) (K243 : Nat → Int32 → Int32 → Int32 → Int32 → Int32 → Bool → Int32 → rS → Option (Int32 × rS)) (hK243 : ∀ (v0 : Nat) (v4 : Int32) (v5 : Int32) (v6 : Int32) (v7 : Int32) (v8 : Int32) (v9 : Bool) (v10 : Int32) (σ : rS), J Γ rm11_piece eI cX11_piece RX11 11 (some .int) tg 0 0 243 [(0, aR 29 v0), (4, aI v4), (5, aI v5), (6, aI v6), (7, aI v7), (8, aI v8), (9, aI (bi v9)), (10, aI v10)] [] σ (K243 v0 v4 v5 v6 v7 v8 v9 v10 σ)) (v0 : Nat) (v4 : Int32) (v5 : Int32) (v6 : Int32) (v7 : Int32) (v8 : Int32) (v10 : Int32) (s0 : Bool) (σ : rS) : J Γ rm11_piece eI cX11_piece RX11 11 (some .int) tg 0 0 283 [(0, aR 29 v0), (4, aI v4), (5, aI v5), (6, aI v6), (7, aI v7), (8, aI v8), (10, aI v10)] [aI (bi s0)] σ (B11_piece_283 N K243 v0 v4 v5 v6 v7 v8 v10 s0 σ) := by
  unfold B11_piece_283
  refine j_istore (pc := 283) (lv' := [(9, aI (bi s0)), (0, aR 29 v0), (4, aI v4), (5, aI v5), (6, aI v6), (7, aI v7), (8, aI v8), (10, aI v10)]) dX11_piece_283 (Nat.le_of_ble_eq_true rfl) rfl ?_
  refine j_iinc (pc := 285) (w := 1) (lv' := [(10, aI (v10 + 1)), (9, aI (bi s0)), (0, aR 29 v0), (4, aI v4), (5, aI v5), (6, aI v6), (7, aI v7), (8, aI v8)]) 7 dX11_piece_285 rfl (by decide) (Nat.le_of_ble_eq_true rfl) rfl ?_
  refine j_goto (pc := 288) (tgt := 243) dX11_piece_288 rfl ?_
  refine j_sub [2, 3, 4, 5, 6, 7, 1, 0] (lv' := [(0, aR 29 v0), (4, aI v4), (5, aI v5), (6, aI v6), (7, aI v7), (8, aI v8), (9, aI (bi s0)), (10, aI (v10 + 1))]) rfl ?_
  exact hK243 v0 v4 v5 v6 v7 v8 s0 (v10 + 1) σ
set_option maxRecDepth 20000 in
set_option maxHeartbeats 4000000 in
theorem jb11_piece_282 {Γ : jX} {tg : Int32 × rS} (N : Nat) (K243 : Nat → Int32 → Int32 → Int32 → Int32 → Int32 → Bool → Int32 → rS → Option (Int32 × rS)) (hK243 : ∀ (v0 : Nat) (v4 : Int32) (v5 : Int32) (v6 : Int32) (v7 : Int32) (v8 : Int32) (v9 : Bool) (v10 : Int32) (σ : rS), J Γ rm11_piece eI cX11_piece RX11 11 (some .int) tg 0 0 243 [(0, aR 29 v0), (4, aI v4), (5, aI v5), (6, aI v6), (7, aI v7), (8, aI v8), (9, aI (bi v9)), (10, aI v10)] [] σ (K243 v0 v4 v5 v6 v7 v8 v9 v10 σ)) (v0 : Nat) (v4 : Int32) (v5 : Int32) (v6 : Int32) (v7 : Int32) (v8 : Int32) (v10 : Int32) (σ : rS) : J Γ rm11_piece eI cX11_piece RX11 11 (some .int) tg 0 0 282 [(0, aR 29 v0), (4, aI v4), (5, aI v5), (6, aI v6), (7, aI v7), (8, aI v8), (10, aI v10)] [] σ (B11_piece_282 N K243 v0 v4 v5 v6 v7 v8 v10 σ) := by
  unfold B11_piece_282
  refine j_iconst (pc := 282) (v := 0) (by decide) dX11_piece_282 ?_
  exact jb11_piece_283 N K243 hK243 v0 v4 v5 v6 v7 v8 v10 false σ
set_option maxRecDepth 20000 in
set_option maxHeartbeats 4000000 in
theorem jb11_piece_243 {Γ : jX} {tg : Int32 × rS} (N : Nat) (K243 : Nat → Int32 → Int32 → Int32 → Int32 → Int32 → Bool → Int32 → rS → Option (Int32 × rS)) (hK243 : ∀ (v0 : Nat) (v4 : Int32) (v5 : Int32) (v6 : Int32) (v7 : Int32) (v8 : Int32) (v9 : Bool) (v10 : Int32) (σ : rS), J Γ rm11_piece eI cX11_piece RX11 11 (some .int) tg 0 0 243 [(0, aR 29 v0), (4, aI v4), (5, aI v5), (6, aI v6), (7, aI v7), (8, aI v8), (9, aI (bi v9)), (10, aI v10)] [] σ (K243 v0 v4 v5 v6 v7 v8 v9 v10 σ)) (v0 : Nat) (v4 : Int32) (v5 : Int32) (v6 : Int32) (v7 : Int32) (v8 : Int32) (v9 : Bool) (v10 : Int32) (σ : rS) : J Γ rm11_piece eI cX11_piece RX11 11 (some .int) tg 0 0 243 [(0, aR 29 v0), (4, aI v4), (5, aI v5), (6, aI v6), (7, aI v7), (8, aI v8), (9, aI (bi v9)), (10, aI v10)] [] σ (B11_piece_243 N K243 v0 v4 v5 v6 v7 v8 v9 v10 σ) := by
  unfold B11_piece_243
  refine j_iload (pc := 243) 7 dX11_piece_243 rfl ?_
  refine j_iload (pc := 245) 5 dX11_piece_245 rfl ?_
  refine j_icmpge (pc := 247) (tgt := 291) dX11_piece_247 rfl (fun _ => ?_) (fun _ => ?_)
  · refine j_aload_n (pc := 291) 0 dX11_piece_291 rfl rfl ?_
    refine j_iload (pc := 292) 3 dX11_piece_292 rfl ?_
    refine j_callVV (pc := 294) (As := [aI v6]) (st := []) (fun l => c11_code l N v0 v6) cs_RX11_235 rfl rfl rfl rfl (Nat.le_of_ble_eq_true rfl) ⟨(Nat.le_of_ble_eq_true rfl), (Nat.le_of_ble_eq_true rfl)⟩ ⟨(Nat.le_of_ble_eq_true rfl), (Nat.le_of_ble_eq_true rfl)⟩ dX11_piece_294 (fun r1 σ2 => ?_)
    refine j_iload (pc := 297) 6 dX11_piece_297 rfl ?_
    refine j_ifeqB (pc := 299) (tgt := 315) dX11_piece_299 rfl (fun _ => ?_) (fun _ => ?_)
    · refine j_sub [0, 1, 2] (lv' := [(0, aR 29 v0), (4, aI v4), (5, aI v5)]) rfl ?_
      exact jb11_piece_315 N  v0 v4 v5 σ2
    · refine j_aload_n (pc := 302) 0 dX11_piece_302 rfl rfl ?_
      refine j_getI (pc := 303) fd_29_12 tw_4_78 dX11_piece_303 ?_
      refine j_iload (pc := 306) 2 dX11_piece_306 rfl ?_
      refine j_icmpne (pc := 308) (tgt := 315) dX11_piece_308 rfl (fun _ => ?_) (fun _ => ?_)
      · refine j_sub [0, 1, 2] (lv' := [(0, aR 29 v0), (4, aI v4), (5, aI v5)]) rfl ?_
        exact jb11_piece_315 N  v0 v4 v5 σ2
      · refine j_iconst (pc := 311) (v := 1) (by decide) dX11_piece_311 ?_
        refine j_goto (pc := 312) (tgt := 316) dX11_piece_312 rfl ?_
        refine j_sub [0, 1, 2] (lv' := [(0, aR 29 v0), (4, aI v4), (5, aI v5)]) rfl ?_
        exact jb11_piece_316 N  v0 v4 v5 true σ2
  · refine j_iload (pc := 250) 6 dX11_piece_250 rfl ?_
    refine j_ifeqB (pc := 252) (tgt := 282) dX11_piece_252 rfl (fun _ => ?_) (fun _ => ?_)
    · refine j_sub [0, 1, 2, 3, 4, 5, 7] (lv' := [(0, aR 29 v0), (4, aI v4), (5, aI v5), (6, aI v6), (7, aI v7), (8, aI v8), (10, aI v10)]) rfl ?_
      exact jb11_piece_282 N K243 hK243 v0 v4 v5 v6 v7 v8 v10 σ
    · refine j_iload (pc := 255) 4 dX11_piece_255 rfl ?_
      refine j_aload_n (pc := 257) 0 dX11_piece_257 rfl rfl ?_
      refine j_getF (pc := 258) fd_29_9 tw_4_75 dX11_piece_258 ?_
      refine j_iload (pc := 261) 7 dX11_piece_261 rfl ?_
      refine j_lald (pc := 263) rfl rfl rfl dX11_piece_263 (fun j3 => ?_)
      refine j_callSL (pc := 264) (As := [aI v7, aL (gL σ 39 v0 j3)]) (st := []) (fun l => c11_cut l v7 (gL σ 39 v0 j3)) cs_RX11_127 rfl rfl (Nat.le_of_ble_eq_true rfl) ⟨(Nat.le_of_ble_eq_true rfl), (Nat.le_of_ble_eq_true rfl)⟩ ⟨(Nat.le_of_ble_eq_true rfl), (Nat.le_of_ble_eq_true rfl)⟩ dX11_piece_264 (fun r4 σ5 => ?_)
      refine j_aload_n (pc := 267) 0 dX11_piece_267 rfl rfl ?_
      refine j_getF (pc := 268) fd_29_9 tw_4_75 dX11_piece_268 ?_
      refine j_iload (pc := 271) 7 dX11_piece_271 rfl ?_
      refine j_lald (pc := 273) rfl rfl rfl dX11_piece_273 (fun j6 => ?_)
      refine j_lcmpne (pc := 274) (tgt := 282) dX11_piece_274 dX11_piece_275 rfl (fun _ => ?_) (fun _ => ?_)
      · refine j_sub [0, 1, 2, 3, 4, 5, 7] (lv' := [(0, aR 29 v0), (4, aI v4), (5, aI v5), (6, aI v6), (7, aI v7), (8, aI v8), (10, aI v10)]) rfl ?_
        exact jb11_piece_282 N K243 hK243 v0 v4 v5 v6 v7 v8 v10 σ5
      · refine j_iconst (pc := 278) (v := 1) (by decide) dX11_piece_278 ?_
        refine j_goto (pc := 279) (tgt := 283) dX11_piece_279 rfl ?_
        refine j_sub [0, 1, 2, 3, 4, 5, 7] (lv' := [(0, aR 29 v0), (4, aI v4), (5, aI v5), (6, aI v6), (7, aI v7), (8, aI v8), (10, aI v10)]) rfl ?_
        exact jb11_piece_283 N K243 hK243 v0 v4 v5 v6 v7 v8 v10 true σ5
theorem jl11_piece_243 {Γ : jX} {tg : Int32 × rS} (N : Nat) : ∀ (n : Nat) (v0 : Nat) (v4 : Int32) (v5 : Int32) (v6 : Int32) (v7 : Int32) (v8 : Int32) (v9 : Bool) (v10 : Int32) (σ : rS), J Γ rm11_piece eI cX11_piece RX11 11 (some .int) tg 0 0 243 [(0, aR 29 v0), (4, aI v4), (5, aI v5), (6, aI v6), (7, aI v7), (8, aI v8), (9, aI (bi v9)), (10, aI v10)] [] σ (L11_piece_243 N n v0 v4 v5 v6 v7 v8 v9 v10 σ) := by
  intro n
  induction n with
  | zero => intro v0 v4 v5 v6 v7 v8 v9 v10 σ; exact j_none
  | succ n ih => intro v0 v4 v5 v6 v7 v8 v9 v10 σ; exact jb11_piece_243 N (L11_piece_243 N n) ih v0 v4 v5 v6 v7 v8 v9 v10 σ
set_option maxRecDepth 20000 in
set_option maxHeartbeats 4000000 in
theorem j11_piece {Γ : jX} {tg : Int32 × rS} (N : Nat) (v0 : Nat) (v1 : Int32) (v2 : Int32) (σ : rS) : J Γ rm11_piece eI cX11_piece RX11 11 (some .int) tg 0 0 0 [(0, aR 29 v0), (1, aI v1), (2, aI v2)] [] σ (f11_piece N v0 v1 v2 σ) := by
  unfold f11_piece
  refine j_aload_n (pc := 0) 0 dX11_piece_0 rfl rfl ?_
  refine j_getF (pc := 1) fd_29_15 tw_4_81 dX11_piece_1 ?_
  refine j_iload_n (pc := 4) 1 dX11_piece_4 rfl rfl ?_
  refine j_iald (pc := 5) rfl rfl rfl dX11_piece_5 (fun j1 => ?_)
  refine j_iload_n (pc := 6) 2 dX11_piece_6 rfl rfl ?_
  refine j_isub (pc := 7) dX11_piece_7 ?_
  refine j_leti (fun x2 => ?_)
  refine j_istore_n (pc := 8) (lv' := [(3, aI x2), (0, aR 29 v0), (1, aI v1), (2, aI v2)]) dX11_piece_8 rfl (Nat.le_of_ble_eq_true rfl) rfl ?_
  refine j_sipush (pc := 9) (v := 400) (by decide) dX11_piece_9 ?_
  refine j_iload_n (pc := 12) 2 dX11_piece_12 rfl rfl ?_
  refine j_imul (pc := 13) dX11_piece_13 ?_
  refine j_iload_n (pc := 14) 3 dX11_piece_14 rfl rfl ?_
  refine j_iadd (pc := 15) dX11_piece_15 ?_
  refine j_leti (fun x3 => ?_)
  refine j_istore (pc := 16) (lv' := [(4, aI x3), (3, aI x2), (0, aR 29 v0), (1, aI v1), (2, aI v2)]) dX11_piece_16 (Nat.le_of_ble_eq_true rfl) rfl ?_
  refine j_iload_n (pc := 18) 1 dX11_piece_18 rfl rfl ?_
  refine j_ifne (pc := 19) (tgt := 25) dX11_piece_19 rfl (fun _ => ?_) (fun _ => ?_)
  · refine j_iload_n (pc := 25) 1 dX11_piece_25 rfl rfl ?_
    refine j_bipush (pc := 26) (v := 7) (by decide) dX11_piece_26 ?_
    refine j_icmplt (pc := 28) (tgt := 61) dX11_piece_28 rfl (fun _ => ?_) (fun _ => ?_)
    · refine j_bipush (pc := 61) (v := 7) (by decide) dX11_piece_61 ?_
      exact j_ireturn (pc := 63) rfl (Nat.le_of_ble_eq_true rfl) (Nat.le_of_ble_eq_true rfl) dX11_piece_63
    · refine j_bipush (pc := 31) (v := 7) (by decide) dX11_piece_31 ?_
      refine j_aload_n (pc := 33) 2 dX11_piece_33 rfl rfl ?_
      refine j_getF (pc := 34) fd_29_14 tw_4_80 dX11_piece_34 ?_
      refine j_iload (pc := 37) 0 dX11_piece_37 rfl ?_
      refine j_iconst (pc := 39) (v := 3) (by decide) dX11_piece_39 ?_
      refine j_iadd (pc := 40) dX11_piece_40 ?_
      refine j_iald (pc := 41) rfl rfl rfl dX11_piece_41 (fun j4 => ?_)
      refine j_iadd (pc := 42) dX11_piece_42 ?_
      refine j_sipush (pc := 43) (v := 256) (by decide) dX11_piece_43 ?_
      refine j_aload_n (pc := 46) 2 dX11_piece_46 rfl rfl ?_
      refine j_getF (pc := 47) fd_29_14 tw_4_80 dX11_piece_47 ?_
      refine j_iload (pc := 50) 0 dX11_piece_50 rfl ?_
      refine j_iconst (pc := 52) (v := 4) (by decide) dX11_piece_52 ?_
      refine j_iadd (pc := 53) dX11_piece_53 ?_
      refine j_iald (pc := 54) rfl rfl rfl dX11_piece_54 (fun j5 => ?_)
      refine j_imul (pc := 55) dX11_piece_55 ?_
      refine j_iadd (pc := 56) dX11_piece_56 ?_
      refine j_iload_n (pc := 57) 1 dX11_piece_57 rfl rfl ?_
      refine j_icmple (pc := 58) (tgt := 64) dX11_piece_58 rfl (fun _ => ?_) (fun _ => ?_)
      · refine j_aload_n (pc := 64) 2 dX11_piece_64 rfl rfl ?_
        refine j_getF (pc := 65) fd_29_14 tw_4_80 dX11_piece_65 ?_
        refine j_iload (pc := 68) 0 dX11_piece_68 rfl ?_
        refine j_iconst (pc := 70) (v := 3) (by decide) dX11_piece_70 ?_
        refine j_iadd (pc := 71) dX11_piece_71 ?_
        refine j_iald (pc := 72) rfl rfl rfl dX11_piece_72 (fun j6 => ?_)
        refine j_sipush (pc := 73) (v := 256) (by decide) dX11_piece_73 ?_
        refine j_aload_n (pc := 76) 2 dX11_piece_76 rfl rfl ?_
        refine j_getF (pc := 77) fd_29_14 tw_4_80 dX11_piece_77 ?_
        refine j_iload (pc := 80) 0 dX11_piece_80 rfl ?_
        refine j_iconst (pc := 82) (v := 4) (by decide) dX11_piece_82 ?_
        refine j_iadd (pc := 83) dX11_piece_83 ?_
        refine j_iald (pc := 84) rfl rfl rfl dX11_piece_84 (fun j7 => ?_)
        refine j_imul (pc := 85) dX11_piece_85 ?_
        refine j_iadd (pc := 86) dX11_piece_86 ?_
        refine j_leti (fun x8 => ?_)
        refine j_istore (pc := 87) (lv' := [(5, aI x8), (4, aI x3), (3, aI x2), (0, aR 29 v0), (1, aI v1), (2, aI v2)]) dX11_piece_87 (Nat.le_of_ble_eq_true rfl) rfl ?_
        refine j_sub [0, 1, 3, 4, 5] (lv' := [(5, aI x8), (4, aI x3), (0, aR 29 v0), (1, aI v1), (2, aI v2)]) rfl ?_
        refine j_aload_n (pc := 89) 2 dX11_piece_89 rfl rfl ?_
        refine j_getF (pc := 90) fd_29_14 tw_4_80 dX11_piece_90 ?_
        refine j_iload (pc := 93) 1 dX11_piece_93 rfl ?_
        refine j_iald (pc := 95) rfl rfl rfl dX11_piece_95 (fun j9 => ?_)
        refine j_sipush (pc := 96) (v := 160) (by decide) dX11_piece_96 ?_
        refine j_isub (pc := 99) dX11_piece_99 ?_
        refine j_leti (fun x10 => ?_)
        refine j_istore (pc := 100) (lv' := [(6, aI x10), (5, aI x8), (4, aI x3), (0, aR 29 v0), (1, aI v1), (2, aI v2)]) dX11_piece_100 (Nat.le_of_ble_eq_true rfl) rfl ?_
        refine j_aload_n (pc := 102) 3 dX11_piece_102 rfl rfl ?_
        refine j_getF (pc := 103) fd_29_14 tw_4_80 dX11_piece_103 ?_
        refine j_iload (pc := 106) 2 dX11_piece_106 rfl ?_
        refine j_iconst (pc := 108) (v := 1) (by decide) dX11_piece_108 ?_
        refine j_iadd (pc := 109) dX11_piece_109 ?_
        refine j_iald (pc := 110) rfl rfl rfl dX11_piece_110 (fun j11 => ?_)
        refine j_leti (fun x12 => ?_)
        refine j_istore (pc := 111) (lv' := [(7, aI x12), (6, aI x10), (5, aI x8), (4, aI x3), (0, aR 29 v0), (1, aI v1), (2, aI v2)]) dX11_piece_111 (Nat.le_of_ble_eq_true rfl) rfl ?_
        refine j_aload_n (pc := 113) 4 dX11_piece_113 rfl rfl ?_
        refine j_getF (pc := 114) fd_29_14 tw_4_80 dX11_piece_114 ?_
        refine j_iload (pc := 117) 3 dX11_piece_117 rfl ?_
        refine j_iconst (pc := 119) (v := 2) (by decide) dX11_piece_119 ?_
        refine j_iadd (pc := 120) dX11_piece_120 ?_
        refine j_iald (pc := 121) rfl rfl rfl dX11_piece_121 (fun j13 => ?_)
        refine j_leti (fun x14 => ?_)
        refine j_istore (pc := 122) (lv' := [(8, aI x14), (7, aI x12), (6, aI x10), (5, aI x8), (4, aI x3), (0, aR 29 v0), (1, aI v1), (2, aI v2)]) dX11_piece_122 (Nat.le_of_ble_eq_true rfl) rfl ?_
        refine j_iload (pc := 124) 2 dX11_piece_124 rfl ?_
        refine j_i2l (pc := 126) dX11_piece_126 ?_
        refine j_lconst (pc := 127) (v := 0) (by decide) dX11_piece_127 ?_
        refine j_ldc2 (pc := 128) tw_5_100 dX11_piece_128 ?_
        refine j_callSZ (pc := 131) (As := [aL (Int32.toInt64 x10), aL 0, aL 4]) (st := []) (fun l => c11_in l (Int32.toInt64 x10) 0 4) cs_RX11_140 rfl rfl (Nat.le_of_ble_eq_true rfl) ⟨(Nat.le_of_ble_eq_true rfl), (Nat.le_of_ble_eq_true rfl)⟩ ⟨(Nat.le_of_ble_eq_true rfl), (Nat.le_of_ble_eq_true rfl)⟩ dX11_piece_131 (fun r15 σ16 => ?_)
        refine j_ifeqB (pc := 134) (tgt := 151) dX11_piece_134 rfl (fun _ => ?_) (fun _ => ?_)
        · refine j_bipush (pc := 151) (v := 8) (by decide) dX11_piece_151 ?_
          exact j_ireturn (pc := 153) rfl (Nat.le_of_ble_eq_true rfl) (Nat.le_of_ble_eq_true rfl) dX11_piece_153
        · refine j_iload (pc := 137) 1 dX11_piece_137 rfl ?_
          refine j_bipush (pc := 139) (v := 7) (by decide) dX11_piece_139 ?_
          refine j_icmpgt (pc := 141) (tgt := 151) dX11_piece_141 rfl (fun _ => ?_) (fun _ => ?_)
          · refine j_bipush (pc := 151) (v := 8) (by decide) dX11_piece_151 ?_
            exact j_ireturn (pc := 153) rfl (Nat.le_of_ble_eq_true rfl) (Nat.le_of_ble_eq_true rfl) dX11_piece_153
          · refine j_iload (pc := 144) 0 dX11_piece_144 rfl ?_
            refine j_bipush (pc := 146) (v := 24) (by decide) dX11_piece_146 ?_
            refine j_icmple (pc := 148) (tgt := 154) dX11_piece_148 rfl (fun _ => ?_) (fun _ => ?_)
            · refine j_aload_n (pc := 154) 5 dX11_piece_154 rfl rfl ?_
              refine j_iload_n (pc := 155) 7 dX11_piece_155 rfl rfl ?_
              refine j_iconst (pc := 156) (v := 5) (by decide) dX11_piece_156 ?_
              refine j_iadd (pc := 157) dX11_piece_157 ?_
              refine j_putI (pc := 158) fd_29_18 rfl rfl tw_4_84 dX11_piece_158 ?_
              refine j_lets (fun σ17 => ?_)
              refine j_aload_n (pc := 161) 5 dX11_piece_161 rfl rfl ?_
              refine j_aload_n (pc := 162) 5 dX11_piece_162 rfl rfl ?_
              refine j_getI (pc := 163) fd_29_18 tw_4_84 dX11_piece_163 ?_
              refine j_iload (pc := 166) 3 dX11_piece_166 rfl ?_
              refine j_iadd (pc := 168) dX11_piece_168 ?_
              refine j_putI (pc := 169) fd_29_19 rfl rfl tw_4_85 dX11_piece_169 ?_
              refine j_lets (fun σ18 => ?_)
              refine j_aload_n (pc := 172) 5 dX11_piece_172 rfl rfl ?_
              refine j_iload_n (pc := 173) 6 dX11_piece_173 rfl rfl ?_
              refine j_iload_n (pc := 174) 7 dX11_piece_174 rfl rfl ?_
              refine j_aload_n (pc := 175) 5 dX11_piece_175 rfl rfl ?_
              refine j_getI (pc := 176) fd_29_19 tw_4_85 dX11_piece_176 ?_
              refine j_callVI (pc := 179) (As := [aI v1, aI v2, aI (gI σ18 29 v0 19)]) (st := []) (fun l => c11_sumOf l N v0 v1 v2 (gI σ18 29 v0 19)) cs_RX11_259 rfl rfl rfl rfl (Nat.le_of_ble_eq_true rfl) ⟨(Nat.le_of_ble_eq_true rfl), (Nat.le_of_ble_eq_true rfl)⟩ ⟨(Nat.le_of_ble_eq_true rfl), (Nat.le_of_ble_eq_true rfl)⟩ dX11_piece_179 (fun r19 σ20 => ?_)
              refine j_aload_n (pc := 182) 5 dX11_piece_182 rfl rfl ?_
              refine j_getF (pc := 183) fd_29_14 tw_4_80 dX11_piece_183 ?_
              refine j_sipush (pc := 186) (v := 400) (by decide) dX11_piece_186 ?_
              refine j_iload_n (pc := 189) 6 dX11_piece_189 rfl rfl ?_
              refine j_imul (pc := 190) dX11_piece_190 ?_
              refine j_aload_n (pc := 191) 5 dX11_piece_191 rfl rfl ?_
              refine j_getI (pc := 192) fd_29_19 tw_4_85 dX11_piece_192 ?_
              refine j_iadd (pc := 195) dX11_piece_195 ?_
              refine j_iald (pc := 196) rfl rfl rfl dX11_piece_196 (fun j21 => ?_)
              refine j_sipush (pc := 197) (v := 256) (by decide) dX11_piece_197 ?_
              refine j_aload_n (pc := 200) 5 dX11_piece_200 rfl rfl ?_
              refine j_getF (pc := 201) fd_29_14 tw_4_80 dX11_piece_201 ?_
              refine j_sipush (pc := 204) (v := 400) (by decide) dX11_piece_204 ?_
              refine j_iload_n (pc := 207) 6 dX11_piece_207 rfl rfl ?_
              refine j_imul (pc := 208) dX11_piece_208 ?_
              refine j_aload_n (pc := 209) 5 dX11_piece_209 rfl rfl ?_
              refine j_getI (pc := 210) fd_29_19 tw_4_85 dX11_piece_210 ?_
              refine j_iadd (pc := 213) dX11_piece_213 ?_
              refine j_iconst (pc := 214) (v := 1) (by decide) dX11_piece_214 ?_
              refine j_iadd (pc := 215) dX11_piece_215 ?_
              refine j_iald (pc := 216) rfl rfl rfl dX11_piece_216 (fun j22 => ?_)
              refine j_imul (pc := 217) dX11_piece_217 ?_
              refine j_iadd (pc := 218) dX11_piece_218 ?_
              refine j_icmpne (pc := 219) (tgt := 234) dX11_piece_219 rfl (fun _ => ?_) (fun _ => ?_)
              · refine j_bipush (pc := 234) (v := 8) (by decide) dX11_piece_234 ?_
                exact j_ireturn (pc := 236) rfl (Nat.le_of_ble_eq_true rfl) (Nat.le_of_ble_eq_true rfl) dX11_piece_236
              · refine j_aload_n (pc := 222) 5 dX11_piece_222 rfl rfl ?_
                refine j_iload_n (pc := 223) 6 dX11_piece_223 rfl rfl ?_
                refine j_iload (pc := 224) 2 dX11_piece_224 rfl ?_
                refine j_iload (pc := 226) 0 dX11_piece_226 rfl ?_
                refine j_callVZ (pc := 228) (As := [aI v1, aI x10, aI x14]) (st := []) (fun l => c11_decode l N v0 v1 x10 x14) cs_RX11_277 rfl rfl rfl rfl (Nat.le_of_ble_eq_true rfl) ⟨(Nat.le_of_ble_eq_true rfl), (Nat.le_of_ble_eq_true rfl)⟩ ⟨(Nat.le_of_ble_eq_true rfl), (Nat.le_of_ble_eq_true rfl)⟩ dX11_piece_228 (fun r23 σ24 => ?_)
                refine j_ifneB (pc := 231) (tgt := 237) dX11_piece_231 rfl (fun _ => ?_) (fun _ => ?_)
                · refine j_iconst (pc := 237) (v := 1) (by decide) dX11_piece_237 ?_
                  refine j_istore (pc := 238) (lv' := [(9, aI 1), (8, aI x14), (7, aI x12), (6, aI x10), (5, aI x8), (4, aI x3), (0, aR 29 v0), (1, aI v1), (2, aI v2)]) dX11_piece_238 (Nat.le_of_ble_eq_true rfl) rfl ?_
                  refine j_sub [0, 1, 2, 3, 4, 5, 6] (lv' := [(9, aI 1), (8, aI x14), (7, aI x12), (6, aI x10), (5, aI x8), (4, aI x3), (0, aR 29 v0)]) rfl ?_
                  refine j_iconst (pc := 240) (v := 0) (by decide) dX11_piece_240 ?_
                  refine j_istore (pc := 241) (lv' := [(10, aI 0), (9, aI 1), (8, aI x14), (7, aI x12), (6, aI x10), (5, aI x8), (4, aI x3), (0, aR 29 v0)]) dX11_piece_241 (Nat.le_of_ble_eq_true rfl) rfl ?_
                  refine j_sub [7, 6, 5, 4, 3, 2, 1, 0] (lv' := [(0, aR 29 v0), (4, aI x3), (5, aI x8), (6, aI x10), (7, aI x12), (8, aI x14), (9, aI 1), (10, aI 0)]) rfl ?_
                  exact jl11_piece_243 N  N v0 x3 x8 x10 x12 x14 true 0 σ24
                · refine j_bipush (pc := 234) (v := 8) (by decide) dX11_piece_234 ?_
                  exact j_ireturn (pc := 236) rfl (Nat.le_of_ble_eq_true rfl) (Nat.le_of_ble_eq_true rfl) dX11_piece_236
            · refine j_bipush (pc := 151) (v := 8) (by decide) dX11_piece_151 ?_
              exact j_ireturn (pc := 153) rfl (Nat.le_of_ble_eq_true rfl) (Nat.le_of_ble_eq_true rfl) dX11_piece_153
      · refine j_bipush (pc := 61) (v := 7) (by decide) dX11_piece_61 ?_
        exact j_ireturn (pc := 63) rfl (Nat.le_of_ble_eq_true rfl) (Nat.le_of_ble_eq_true rfl) dX11_piece_63
  · refine j_bipush (pc := 22) (v := 6) (by decide) dX11_piece_22 ?_
    exact j_ireturn (pc := 24) rfl (Nat.le_of_ble_eq_true rfl) (Nat.le_of_ble_eq_true rfl) dX11_piece_24
theorem c11_piece (l : Launch) (N : Nat) (v0 : Nat) (v1 : Int32) (v2 : Int32) : Ctr l yX11_piece cX11_piece 11 (some .int) rm11_piece eI [aR 29 v0, aI v1, aI v2] (f11_piece N v0 v1 v2) := ctr_of (lv := [(0, aR 29 v0), (1, aI v1), (2, aI v2)]) (by decide +kernel) (fun _ => rfl) (fun _ => (Nat.le_of_ble_eq_true rfl)) (fun _ h => lvl_als h rfl) (fun _ σ _ => j11_piece N v0 v1 v2 σ)
