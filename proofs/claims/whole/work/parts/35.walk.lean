abbrev rm11_at : Room := { frames := 2, cells := 0, slots := 0, locals := 46 }
set_option maxRecDepth 20000 in
set_option maxHeartbeats 4000000 in
theorem j11_at {Γ : jX} {tg : Int32 × rS} (v0 : Nat) (v1 : Int32) (v2 : Int32) (σ : rS) : J Γ rm11_at eI cX11_at RX11 3 (some .int) tg 0 0 0 [(0, aR 29 v0), (1, aI v1), (2, aI v2)] [] σ (f11_at v0 v1 v2 σ) := by
  unfold f11_at
  refine j_aload_n (pc := 0) 0 dX11_at_0 rfl rfl ?_
  refine j_iload_n (pc := 1) 1 dX11_at_1 rfl rfl ?_
  refine j_callVZ (pc := 2) (As := [aI v1]) (st := []) (fun l => c11_isStream l v0 v1) cs_RX11_247 rfl rfl rfl rfl (Nat.le_of_ble_eq_true rfl) ⟨(Nat.le_of_ble_eq_true rfl), (Nat.le_of_ble_eq_true rfl)⟩ ⟨(Nat.le_of_ble_eq_true rfl), (Nat.le_of_ble_eq_true rfl)⟩ dX11_at_2 (fun r1 σ2 => ?_)
  refine j_ifneB (pc := 5) (tgt := 11) dX11_at_5 rfl (fun _ => ?_) (fun _ => ?_)
  · refine j_iload_n (pc := 11) 2 dX11_at_11 rfl rfl ?_
    refine j_i2l (pc := 12) dX11_at_12 ?_
    refine j_lconst (pc := 13) (v := 0) (by decide) dX11_at_13 ?_
    refine j_aload_n (pc := 14) 0 dX11_at_14 rfl rfl ?_
    refine j_getF (pc := 15) fd_29_15 tw_4_78 dX11_at_15 ?_
    refine j_iload_n (pc := 18) 1 dX11_at_18 rfl rfl ?_
    refine j_iald (pc := 19) rfl rfl rfl dX11_at_19 (fun j3 => ?_)
    refine j_iconst (pc := 20) (v := 1) (by decide) dX11_at_20 ?_
    refine j_isub (pc := 21) dX11_at_21 ?_
    refine j_i2l (pc := 22) dX11_at_22 ?_
    refine j_callSZ (pc := 23) (As := [aL (Int32.toInt64 v2), aL 0, aL (Int32.toInt64 ((gI σ2 45 v0 j3) - 1))]) (st := []) (fun l => c11_in l (Int32.toInt64 v2) 0 (Int32.toInt64 ((gI σ2 45 v0 j3) - 1))) cs_RX11_140 rfl rfl (Nat.le_of_ble_eq_true rfl) ⟨(Nat.le_of_ble_eq_true rfl), (Nat.le_of_ble_eq_true rfl)⟩ ⟨(Nat.le_of_ble_eq_true rfl), (Nat.le_of_ble_eq_true rfl)⟩ dX11_at_23 (fun r4 σ5 => ?_)
    refine j_ifeqB (pc := 26) (tgt := 44) dX11_at_26 rfl (fun _ => ?_) (fun _ => ?_)
    · refine j_aload_n (pc := 44) 0 dX11_at_44 rfl rfl ?_
      refine j_iconst (pc := 45) (v := 2) (by decide) dX11_at_45 ?_
      refine j_callVI (pc := 46) (As := [aI 2]) (st := []) (fun l => c11_meets l v0 2) cs_RX11_146 rfl rfl rfl rfl (Nat.le_of_ble_eq_true rfl) ⟨(Nat.le_of_ble_eq_true rfl), (Nat.le_of_ble_eq_true rfl)⟩ ⟨(Nat.le_of_ble_eq_true rfl), (Nat.le_of_ble_eq_true rfl)⟩ dX11_at_46 (fun r6 σ7 => ?_)
      exact j_ireturn (pc := 49) rfl (Nat.le_of_ble_eq_true rfl) (Nat.le_of_ble_eq_true rfl) dX11_at_49
    · refine j_aload_n (pc := 29) 0 dX11_at_29 rfl rfl ?_
      refine j_getF (pc := 30) fd_29_14 tw_4_77 dX11_at_30 ?_
      refine j_sipush (pc := 33) (v := 400) (by decide) dX11_at_33 ?_
      refine j_iload_n (pc := 36) 1 dX11_at_36 rfl rfl ?_
      refine j_imul (pc := 37) dX11_at_37 ?_
      refine j_iload_n (pc := 38) 2 dX11_at_38 rfl rfl ?_
      refine j_iadd (pc := 39) dX11_at_39 ?_
      refine j_iald (pc := 40) rfl rfl rfl dX11_at_40 (fun j8 => ?_)
      refine j_goto (pc := 41) (tgt := 49) dX11_at_41 rfl ?_
      exact j_ireturn (pc := 49) rfl (Nat.le_of_ble_eq_true rfl) (Nat.le_of_ble_eq_true rfl) dX11_at_49
  · refine j_bipush (pc := 8) (v := (-101)) (by decide) dX11_at_8 ?_
    exact j_ireturn (pc := 10) rfl (Nat.le_of_ble_eq_true rfl) (Nat.le_of_ble_eq_true rfl) dX11_at_10
theorem c11_at (l : Launch) (v0 : Nat) (v1 : Int32) (v2 : Int32) : Ctr l yX11_at cX11_at 3 (some .int) rm11_at eI [aR 29 v0, aI v1, aI v2] (f11_at v0 v1 v2) := ctr_of (lv := [(0, aR 29 v0), (1, aI v1), (2, aI v2)]) (by decide +kernel) (fun _ => rfl) (fun _ => (Nat.le_of_ble_eq_true rfl)) (fun _ h => lvl_als h rfl) (fun _ σ _ => j11_at v0 v1 v2 σ)
abbrev rm11_differences : Room := { frames := 0, cells := 0, slots := 0, locals := 0 }
set_option maxRecDepth 20000 in
set_option maxHeartbeats 4000000 in
theorem jb11_differences_7 {Γ : jX} {tg : Unit × rS} (N : Nat) (K7 : Nat → Int32 → rS → Option (Unit × rS)) (hK7 : ∀ (v0 : Nat) (v1 : Int32) (σ : rS), J Γ rm11_differences eV cX11_differences RX11 2 none tg 0 0 7 [(0, aR 29 v0), (1, aI v1)] [] σ (K7 v0 v1 σ)) (v0 : Nat) (v1 : Int32) (σ : rS) : J Γ rm11_differences eV cX11_differences RX11 2 none tg 0 0 7 [(0, aR 29 v0), (1, aI v1)] [] σ (B11_differences_7 N K7 v0 v1 σ) := by
  unfold B11_differences_7
  refine j_iload_n (pc := 7) 1 dX11_differences_7 rfl rfl ?_
  refine j_ifle (pc := 8) (tgt := 34) dX11_differences_8 rfl (fun _ => ?_) (fun _ => ?_)
  · exact j_return (pc := 34) rfl (Nat.le_of_ble_eq_true rfl) (Nat.le_of_ble_eq_true rfl) dX11_differences_34
  · refine j_aload_n (pc := 11) 0 dX11_differences_11 rfl rfl ?_
    refine j_getF (pc := 12) fd_29_9 tw_4_72 dX11_differences_12 ?_
    refine j_iload_n (pc := 15) 1 dX11_differences_15 rfl rfl ?_
    refine j_dup2 (pc := 16) dX11_differences_16 rfl rfl ?_
    refine j_lald (pc := 17) rfl rfl rfl dX11_differences_17 (fun j1 => ?_)
    refine j_aload_n (pc := 18) 0 dX11_differences_18 rfl rfl ?_
    refine j_getF (pc := 19) fd_29_9 tw_4_72 dX11_differences_19 ?_
    refine j_iload_n (pc := 22) 1 dX11_differences_22 rfl rfl ?_
    refine j_iconst (pc := 23) (v := 1) (by decide) dX11_differences_23 ?_
    refine j_isub (pc := 24) dX11_differences_24 ?_
    refine j_lald (pc := 25) rfl rfl rfl dX11_differences_25 (fun j2 => ?_)
    refine j_lsub (pc := 26) dX11_differences_26 ?_
    refine j_last (pc := 27) rfl rfl rfl dX11_differences_27 (fun j3 => ?_)
    refine j_lets (fun σ4 => ?_)
    refine j_iinc (pc := 28) (w := (-1)) (lv' := [(1, aI (v1 + (-1))), (0, aR 29 v0)]) 1 dX11_differences_28 rfl (by decide) (Nat.le_of_ble_eq_true rfl) rfl ?_
    refine j_goto (pc := 31) (tgt := 7) dX11_differences_31 rfl ?_
    refine j_sub [1, 0] (lv' := [(0, aR 29 v0), (1, aI (v1 + (-1)))]) rfl ?_
    exact hK7 v0 (v1 + (-1)) σ4
theorem jl11_differences_7 {Γ : jX} {tg : Unit × rS} (N : Nat) : ∀ (n : Nat) (v0 : Nat) (v1 : Int32) (σ : rS), J Γ rm11_differences eV cX11_differences RX11 2 none tg 0 0 7 [(0, aR 29 v0), (1, aI v1)] [] σ (L11_differences_7 N n v0 v1 σ) := by
  intro n
  induction n with
  | zero => intro v0 v1 σ; exact j_none
  | succ n ih => intro v0 v1 σ; exact jb11_differences_7 N (L11_differences_7 N n) ih v0 v1 σ
set_option maxRecDepth 20000 in
set_option maxHeartbeats 4000000 in
theorem j11_differences {Γ : jX} {tg : Unit × rS} (N : Nat) (v0 : Nat) (σ : rS) : J Γ rm11_differences eV cX11_differences RX11 2 none tg 0 0 0 [(0, aR 29 v0)] [] σ (f11_differences N v0 σ) := by
  unfold f11_differences
  refine j_aload_n (pc := 0) 0 dX11_differences_0 rfl rfl ?_
  refine j_getI (pc := 1) fd_29_10 tw_4_73 dX11_differences_1 ?_
  refine j_iconst (pc := 4) (v := 1) (by decide) dX11_differences_4 ?_
  refine j_isub (pc := 5) dX11_differences_5 ?_
  refine j_leti (fun x1 => ?_)
  refine j_istore_n (pc := 6) (lv' := [(1, aI x1), (0, aR 29 v0)]) dX11_differences_6 rfl (Nat.le_of_ble_eq_true rfl) rfl ?_
  refine j_sub [1, 0] (lv' := [(0, aR 29 v0), (1, aI x1)]) rfl ?_
  exact jl11_differences_7 N  N v0 x1 σ
theorem c11_differences (l : Launch) (N : Nat) (v0 : Nat) : Ctr l yX11_differences cX11_differences 2 none rm11_differences eV [aR 29 v0] (f11_differences N v0) := ctr_of (lv := [(0, aR 29 v0)]) (by decide +kernel) (fun _ => rfl) (fun _ => (Nat.le_of_ble_eq_true rfl)) (fun _ h => lvl_als h rfl) (fun _ σ _ => j11_differences N v0 σ)
abbrev rm11_plain : Room := { frames := 0, cells := 0, slots := 0, locals := 0 }
set_option maxRecDepth 20000 in
set_option maxHeartbeats 4000000 in
theorem jb11_plain_9 {Γ : jX} {tg : Unit × rS} (N : Nat) (K9 : Nat → Int64 → rS → Option (Unit × rS)) (hK9 : ∀ (v0 : Nat) (v3 : Int64) (σ : rS), J Γ rm11_plain eV cX11_plain RX11 5 none tg 0 0 9 [(0, aR 29 v0), (3, aL v3)] [] σ (K9 v0 v3 σ)) (v0 : Nat) (v3 : Int64) (σ : rS) : J Γ rm11_plain eV cX11_plain RX11 5 none tg 0 0 9 [(0, aR 29 v0), (3, aL v3)] [] σ (B11_plain_9 N K9 v0 v3 σ) := by
  unfold B11_plain_9
  refine j_lload_n (pc := 9) 1 dX11_plain_9 rfl rfl ?_
  refine j_ldc2 (pc := 10) tw_5_110 dX11_plain_10 ?_
  refine j_land (pc := 13) dX11_plain_13 ?_
  refine j_lconst (pc := 14) (v := 0) (by decide) dX11_plain_14 ?_
  refine j_lcmpeq (pc := 15) (tgt := 56) dX11_plain_15 dX11_plain_16 rfl (fun _ => ?_) (fun _ => ?_)
  · refine j_aload_n (pc := 56) 0 dX11_plain_56 rfl rfl ?_
    refine j_getF (pc := 57) fd_29_11 tw_4_74 dX11_plain_57 ?_
    refine j_aload_n (pc := 60) 0 dX11_plain_60 rfl rfl ?_
    refine j_getI (pc := 61) fd_29_12 tw_4_75 dX11_plain_61 ?_
    refine j_lload_n (pc := 64) 1 dX11_plain_64 rfl rfl ?_
    refine j_l2i (pc := 65) dX11_plain_65 ?_
    refine j_iast (pc := 66) rfl rfl rfl dX11_plain_66 (fun j1 => ?_)
    refine j_lets (fun σ2 => ?_)
    refine j_aload_n (pc := 67) 0 dX11_plain_67 rfl rfl ?_
    refine j_dup (pc := 68) dX11_plain_68 rfl ?_
    refine j_getI (pc := 69) fd_29_12 tw_4_75 dX11_plain_69 ?_
    refine j_iconst (pc := 72) (v := 1) (by decide) dX11_plain_72 ?_
    refine j_iadd (pc := 73) dX11_plain_73 ?_
    refine j_putI (pc := 74) fd_29_12 rfl rfl tw_4_75 dX11_plain_74 ?_
    refine j_lets (fun σ3 => ?_)
    exact j_return (pc := 77) rfl (Nat.le_of_ble_eq_true rfl) (Nat.le_of_ble_eq_true rfl) dX11_plain_77
  · refine j_aload_n (pc := 19) 0 dX11_plain_19 rfl rfl ?_
    refine j_getF (pc := 20) fd_29_11 tw_4_74 dX11_plain_20 ?_
    refine j_aload_n (pc := 23) 0 dX11_plain_23 rfl rfl ?_
    refine j_getI (pc := 24) fd_29_12 tw_4_75 dX11_plain_24 ?_
    refine j_lload_n (pc := 27) 1 dX11_plain_27 rfl rfl ?_
    refine j_ldc2 (pc := 28) tw_5_111 dX11_plain_28 ?_
    refine j_land (pc := 31) dX11_plain_31 ?_
    refine j_l2i (pc := 32) dX11_plain_32 ?_
    refine j_sipush (pc := 33) (v := 128) (by decide) dX11_plain_33 ?_
    refine j_ior (pc := 36) dX11_plain_36 ?_
    refine j_iast (pc := 37) rfl rfl rfl dX11_plain_37 (fun j4 => ?_)
    refine j_lets (fun σ5 => ?_)
    refine j_aload_n (pc := 38) 0 dX11_plain_38 rfl rfl ?_
    refine j_dup (pc := 39) dX11_plain_39 rfl ?_
    refine j_getI (pc := 40) fd_29_12 tw_4_75 dX11_plain_40 ?_
    refine j_iconst (pc := 43) (v := 1) (by decide) dX11_plain_43 ?_
    refine j_iadd (pc := 44) dX11_plain_44 ?_
    refine j_putI (pc := 45) fd_29_12 rfl rfl tw_4_75 dX11_plain_45 ?_
    refine j_lets (fun σ6 => ?_)
    refine j_lload_n (pc := 48) 1 dX11_plain_48 rfl rfl ?_
    refine j_bipush (pc := 49) (v := 7) (by decide) dX11_plain_49 ?_
    refine j_lushr (pc := 51) dX11_plain_51 ?_
    refine j_letl (fun x7 => ?_)
    refine j_lstore_n (pc := 52) (lv' := [(3, aL x7), (0, aR 29 v0)]) dX11_plain_52 rfl (Nat.le_of_ble_eq_true rfl) rfl ?_
    refine j_goto (pc := 53) (tgt := 9) dX11_plain_53 rfl ?_
    refine j_sub [1, 0] (lv' := [(0, aR 29 v0), (3, aL x7)]) rfl ?_
    exact hK9 v0 x7 σ6
theorem jl11_plain_9 {Γ : jX} {tg : Unit × rS} (N : Nat) : ∀ (n : Nat) (v0 : Nat) (v3 : Int64) (σ : rS), J Γ rm11_plain eV cX11_plain RX11 5 none tg 0 0 9 [(0, aR 29 v0), (3, aL v3)] [] σ (L11_plain_9 N n v0 v3 σ) := by
  intro n
  induction n with
  | zero => intro v0 v3 σ; exact j_none
  | succ n ih => intro v0 v3 σ; exact jb11_plain_9 N (L11_plain_9 N n) ih v0 v3 σ
set_option maxRecDepth 20000 in
set_option maxHeartbeats 4000000 in
theorem j11_plain {Γ : jX} {tg : Unit × rS} (N : Nat) (v0 : Nat) (v1 : Int64) (σ : rS) : J Γ rm11_plain eV cX11_plain RX11 5 none tg 0 0 0 [(0, aR 29 v0), (1, aL v1)] [] σ (f11_plain N v0 v1 σ) := by
  unfold f11_plain
  refine j_lload_n (pc := 0) 1 dX11_plain_0 rfl rfl ?_
  refine j_iconst (pc := 1) (v := 1) (by decide) dX11_plain_1 ?_
  refine j_lshl (pc := 2) dX11_plain_2 ?_
  refine j_lload_n (pc := 3) 1 dX11_plain_3 rfl rfl ?_
  refine j_bipush (pc := 4) (v := 63) (by decide) dX11_plain_4 ?_
  refine j_lshr (pc := 6) dX11_plain_6 ?_
  refine j_lxor (pc := 7) dX11_plain_7 ?_
  refine j_letl (fun x1 => ?_)
  refine j_lstore_n (pc := 8) (lv' := [(3, aL x1), (0, aR 29 v0), (1, aL v1)]) dX11_plain_8 rfl (Nat.le_of_ble_eq_true rfl) rfl ?_
  refine j_sub [0, 1] (lv' := [(3, aL x1), (0, aR 29 v0)]) rfl ?_
  refine j_sub [1, 0] (lv' := [(0, aR 29 v0), (3, aL x1)]) rfl ?_
  exact jl11_plain_9 N  N v0 x1 σ
theorem c11_plain (l : Launch) (N : Nat) (v0 : Nat) (v1 : Int64) : Ctr l yX11_plain cX11_plain 5 none rm11_plain eV [aR 29 v0, aL v1] (f11_plain N v0 v1) := ctr_of (lv := [(0, aR 29 v0), (1, aL v1)]) (by decide +kernel) (fun _ => rfl) (fun _ => (Nat.le_of_ble_eq_true rfl)) (fun _ h => lvl_als h rfl) (fun _ σ _ => j11_plain N v0 v1 σ)
abbrev rm11_sums : Room := { frames := 0, cells := 0, slots := 0, locals := 0 }
set_option maxRecDepth 20000 in
set_option maxHeartbeats 4000000 in
theorem jb11_sums_2 {Γ : jX} {tg : Unit × rS} (N : Nat) (K2 : Nat → Int32 → rS → Option (Unit × rS)) (hK2 : ∀ (v0 : Nat) (v1 : Int32) (σ : rS), J Γ rm11_sums eV cX11_sums RX11 2 none tg 0 0 2 [(0, aR 29 v0), (1, aI v1)] [] σ (K2 v0 v1 σ)) (v0 : Nat) (v1 : Int32) (σ : rS) : J Γ rm11_sums eV cX11_sums RX11 2 none tg 0 0 2 [(0, aR 29 v0), (1, aI v1)] [] σ (B11_sums_2 N K2 v0 v1 σ) := by
  unfold B11_sums_2
  refine j_iload_n (pc := 2) 1 dX11_sums_2 rfl rfl ?_
  refine j_aload_n (pc := 3) 0 dX11_sums_3 rfl rfl ?_
  refine j_getI (pc := 4) fd_29_10 tw_4_73 dX11_sums_4 ?_
  refine j_icmpge (pc := 7) (tgt := 33) dX11_sums_7 rfl (fun _ => ?_) (fun _ => ?_)
  · exact j_return (pc := 33) rfl (Nat.le_of_ble_eq_true rfl) (Nat.le_of_ble_eq_true rfl) dX11_sums_33
  · refine j_aload_n (pc := 10) 0 dX11_sums_10 rfl rfl ?_
    refine j_getF (pc := 11) fd_29_9 tw_4_72 dX11_sums_11 ?_
    refine j_iload_n (pc := 14) 1 dX11_sums_14 rfl rfl ?_
    refine j_dup2 (pc := 15) dX11_sums_15 rfl rfl ?_
    refine j_lald (pc := 16) rfl rfl rfl dX11_sums_16 (fun j1 => ?_)
    refine j_aload_n (pc := 17) 0 dX11_sums_17 rfl rfl ?_
    refine j_getF (pc := 18) fd_29_9 tw_4_72 dX11_sums_18 ?_
    refine j_iload_n (pc := 21) 1 dX11_sums_21 rfl rfl ?_
    refine j_iconst (pc := 22) (v := 1) (by decide) dX11_sums_22 ?_
    refine j_isub (pc := 23) dX11_sums_23 ?_
    refine j_lald (pc := 24) rfl rfl rfl dX11_sums_24 (fun j2 => ?_)
    refine j_ladd (pc := 25) dX11_sums_25 ?_
    refine j_last (pc := 26) rfl rfl rfl dX11_sums_26 (fun j3 => ?_)
    refine j_lets (fun σ4 => ?_)
    refine j_iinc (pc := 27) (w := 1) (lv' := [(1, aI (v1 + 1)), (0, aR 29 v0)]) 1 dX11_sums_27 rfl (by decide) (Nat.le_of_ble_eq_true rfl) rfl ?_
    refine j_goto (pc := 30) (tgt := 2) dX11_sums_30 rfl ?_
    refine j_sub [1, 0] (lv' := [(0, aR 29 v0), (1, aI (v1 + 1))]) rfl ?_
    exact hK2 v0 (v1 + 1) σ4
theorem jl11_sums_2 {Γ : jX} {tg : Unit × rS} (N : Nat) : ∀ (n : Nat) (v0 : Nat) (v1 : Int32) (σ : rS), J Γ rm11_sums eV cX11_sums RX11 2 none tg 0 0 2 [(0, aR 29 v0), (1, aI v1)] [] σ (L11_sums_2 N n v0 v1 σ) := by
  intro n
  induction n with
  | zero => intro v0 v1 σ; exact j_none
  | succ n ih => intro v0 v1 σ; exact jb11_sums_2 N (L11_sums_2 N n) ih v0 v1 σ
set_option maxRecDepth 20000 in
set_option maxHeartbeats 4000000 in
theorem j11_sums {Γ : jX} {tg : Unit × rS} (N : Nat) (v0 : Nat) (σ : rS) : J Γ rm11_sums eV cX11_sums RX11 2 none tg 0 0 0 [(0, aR 29 v0)] [] σ (f11_sums N v0 σ) := by
  unfold f11_sums
  refine j_iconst (pc := 0) (v := 1) (by decide) dX11_sums_0 ?_
  refine j_istore_n (pc := 1) (lv' := [(1, aI 1), (0, aR 29 v0)]) dX11_sums_1 rfl (Nat.le_of_ble_eq_true rfl) rfl ?_
  refine j_sub [1, 0] (lv' := [(0, aR 29 v0), (1, aI 1)]) rfl ?_
  exact jl11_sums_2 N  N v0 1 σ
theorem c11_sums (l : Launch) (N : Nat) (v0 : Nat) : Ctr l yX11_sums cX11_sums 2 none rm11_sums eV [aR 29 v0] (f11_sums N v0) := ctr_of (lv := [(0, aR 29 v0)]) (by decide +kernel) (fun _ => rfl) (fun _ => (Nat.le_of_ble_eq_true rfl)) (fun _ h => lvl_als h rfl) (fun _ σ _ => j11_sums N v0 σ)
abbrev rm11_wide : Room := { frames := 0, cells := 0, slots := 0, locals := 0 }
set_option maxRecDepth 20000 in
set_option maxHeartbeats 4000000 in
theorem jb11_wide_86 {Γ : jX} {tg : Unit × rS} (N : Nat) (K76 : Nat → Int32 → Int32 → rS → Option (Unit × rS)) (K86 : Nat → Int32 → Int32 → Int32 → rS → Option (Unit × rS)) (hK76 : ∀ (v0 : Nat) (v1 : Int32) (v2 : Int32) (σ : rS), J Γ rm11_wide eV cX11_wide RX11 4 none tg 0 0 76 [(0, aR 29 v0), (1, aI v1), (2, aI v2)] [] σ (K76 v0 v1 v2 σ)) (hK86 : ∀ (v0 : Nat) (v1 : Int32) (v2 : Int32) (v3 : Int32) (σ : rS), J Γ rm11_wide eV cX11_wide RX11 4 none tg 0 0 86 [(0, aR 29 v0), (1, aI v1), (2, aI v2), (3, aI v3)] [] σ (K86 v0 v1 v2 v3 σ)) (v0 : Nat) (v1 : Int32) (v2 : Int32) (v3 : Int32) (σ : rS) : J Γ rm11_wide eV cX11_wide RX11 4 none tg 0 0 86 [(0, aR 29 v0), (1, aI v1), (2, aI v2), (3, aI v3)] [] σ (B11_wide_86 N K76 K86 v0 v1 v2 v3 σ) := by
  unfold B11_wide_86
  refine j_iload_n (pc := 86) 3 dX11_wide_86 rfl rfl ?_
  refine j_iload_n (pc := 87) 1 dX11_wide_87 rfl rfl ?_
  refine j_icmpge (pc := 88) (tgt := 132) dX11_wide_88 rfl (fun _ => ?_) (fun _ => ?_)
  · refine j_iinc (pc := 132) (w := 1) (lv' := [(2, aI (v2 + 1)), (0, aR 29 v0), (1, aI v1), (3, aI v3)]) 2 dX11_wide_132 rfl (by decide) (Nat.le_of_ble_eq_true rfl) rfl ?_
    refine j_goto (pc := 135) (tgt := 76) dX11_wide_135 rfl ?_
    refine j_sub [1, 2, 0] (lv' := [(0, aR 29 v0), (1, aI v1), (2, aI (v2 + 1))]) rfl ?_
    exact hK76 v0 v1 (v2 + 1) σ
  · refine j_aload_n (pc := 91) 0 dX11_wide_91 rfl rfl ?_
    refine j_getF (pc := 92) fd_29_11 tw_4_74 dX11_wide_92 ?_
    refine j_aload_n (pc := 95) 0 dX11_wide_95 rfl rfl ?_
    refine j_getI (pc := 96) fd_29_12 tw_4_75 dX11_wide_96 ?_
    refine j_aload_n (pc := 99) 0 dX11_wide_99 rfl rfl ?_
    refine j_getF (pc := 100) fd_29_9 tw_4_72 dX11_wide_100 ?_
    refine j_iload_n (pc := 103) 2 dX11_wide_103 rfl rfl ?_
    refine j_lald (pc := 104) rfl rfl rfl dX11_wide_104 (fun j1 => ?_)
    refine j_bipush (pc := 105) (v := 8) (by decide) dX11_wide_105 ?_
    refine j_iload_n (pc := 107) 3 dX11_wide_107 rfl rfl ?_
    refine j_imul (pc := 108) dX11_wide_108 ?_
    refine j_lshr (pc := 109) dX11_wide_109 ?_
    refine j_l2i (pc := 110) dX11_wide_110 ?_
    refine j_sipush (pc := 111) (v := 255) (by decide) dX11_wide_111 ?_
    refine j_iand (pc := 114) dX11_wide_114 ?_
    refine j_iast (pc := 115) rfl rfl rfl dX11_wide_115 (fun j2 => ?_)
    refine j_lets (fun σ3 => ?_)
    refine j_aload_n (pc := 116) 0 dX11_wide_116 rfl rfl ?_
    refine j_dup (pc := 117) dX11_wide_117 rfl ?_
    refine j_getI (pc := 118) fd_29_12 tw_4_75 dX11_wide_118 ?_
    refine j_iconst (pc := 121) (v := 1) (by decide) dX11_wide_121 ?_
    refine j_iadd (pc := 122) dX11_wide_122 ?_
    refine j_putI (pc := 123) fd_29_12 rfl rfl tw_4_75 dX11_wide_123 ?_
    refine j_lets (fun σ4 => ?_)
    refine j_iinc (pc := 126) (w := 1) (lv' := [(3, aI (v3 + 1)), (0, aR 29 v0), (1, aI v1), (2, aI v2)]) 3 dX11_wide_126 rfl (by decide) (Nat.le_of_ble_eq_true rfl) rfl ?_
    refine j_goto (pc := 129) (tgt := 86) dX11_wide_129 rfl ?_
    refine j_sub [1, 2, 3, 0] (lv' := [(0, aR 29 v0), (1, aI v1), (2, aI v2), (3, aI (v3 + 1))]) rfl ?_
    exact hK86 v0 v1 v2 (v3 + 1) σ4
theorem jl11_wide_86 {Γ : jX} {tg : Unit × rS} (N : Nat) (K76 : Nat → Int32 → Int32 → rS → Option (Unit × rS)) (hK76 : ∀ (v0 : Nat) (v1 : Int32) (v2 : Int32) (σ : rS), J Γ rm11_wide eV cX11_wide RX11 4 none tg 0 0 76 [(0, aR 29 v0), (1, aI v1), (2, aI v2)] [] σ (K76 v0 v1 v2 σ)) : ∀ (n : Nat) (v0 : Nat) (v1 : Int32) (v2 : Int32) (v3 : Int32) (σ : rS), J Γ rm11_wide eV cX11_wide RX11 4 none tg 0 0 86 [(0, aR 29 v0), (1, aI v1), (2, aI v2), (3, aI v3)] [] σ (L11_wide_86 N K76 n v0 v1 v2 v3 σ) := by
  intro n
  induction n with
  | zero => intro v0 v1 v2 v3 σ; exact j_none
  | succ n ih => intro v0 v1 v2 v3 σ; exact jb11_wide_86 N K76 (L11_wide_86 N K76 n) hK76 ih v0 v1 v2 v3 σ
set_option maxRecDepth 20000 in
set_option maxHeartbeats 4000000 in
theorem jb11_wide_76 {Γ : jX} {tg : Unit × rS} (N : Nat) (K76 : Nat → Int32 → Int32 → rS → Option (Unit × rS)) (hK76 : ∀ (v0 : Nat) (v1 : Int32) (v2 : Int32) (σ : rS), J Γ rm11_wide eV cX11_wide RX11 4 none tg 0 0 76 [(0, aR 29 v0), (1, aI v1), (2, aI v2)] [] σ (K76 v0 v1 v2 σ)) (v0 : Nat) (v1 : Int32) (v2 : Int32) (σ : rS) : J Γ rm11_wide eV cX11_wide RX11 4 none tg 0 0 76 [(0, aR 29 v0), (1, aI v1), (2, aI v2)] [] σ (B11_wide_76 N K76 v0 v1 v2 σ) := by
  unfold B11_wide_76
  refine j_iload_n (pc := 76) 2 dX11_wide_76 rfl rfl ?_
  refine j_aload_n (pc := 77) 0 dX11_wide_77 rfl rfl ?_
  refine j_getI (pc := 78) fd_29_10 tw_4_73 dX11_wide_78 ?_
  refine j_icmpge (pc := 81) (tgt := 138) dX11_wide_81 rfl (fun _ => ?_) (fun _ => ?_)
  · exact j_return (pc := 138) rfl (Nat.le_of_ble_eq_true rfl) (Nat.le_of_ble_eq_true rfl) dX11_wide_138
  · refine j_iconst (pc := 84) (v := 0) (by decide) dX11_wide_84 ?_
    refine j_istore_n (pc := 85) (lv' := [(3, aI 0), (0, aR 29 v0), (1, aI v1), (2, aI v2)]) dX11_wide_85 rfl (Nat.le_of_ble_eq_true rfl) rfl ?_
    refine j_sub [1, 2, 3, 0] (lv' := [(0, aR 29 v0), (1, aI v1), (2, aI v2), (3, aI 0)]) rfl ?_
    exact jl11_wide_86 N K76 hK76 N v0 v1 v2 0 σ
theorem jl11_wide_76 {Γ : jX} {tg : Unit × rS} (N : Nat) : ∀ (n : Nat) (v0 : Nat) (v1 : Int32) (v2 : Int32) (σ : rS), J Γ rm11_wide eV cX11_wide RX11 4 none tg 0 0 76 [(0, aR 29 v0), (1, aI v1), (2, aI v2)] [] σ (L11_wide_76 N n v0 v1 v2 σ) := by
  intro n
  induction n with
  | zero => intro v0 v1 v2 σ; exact j_none
  | succ n ih => intro v0 v1 v2 σ; exact jb11_wide_76 N (L11_wide_76 N n) ih v0 v1 v2 σ
set_option maxRecDepth 20000 in
set_option maxHeartbeats 4000000 in
theorem jb11_wide_56 {Γ : jX} {tg : Unit × rS} (N : Nat) (K4 : Nat → Int32 → Int32 → rS → Option (Unit × rS)) (hK4 : ∀ (v0 : Nat) (v1 : Int32) (v2 : Int32) (σ : rS), J Γ rm11_wide eV cX11_wide RX11 4 none tg 0 0 4 [(0, aR 29 v0), (1, aI v1), (2, aI v2)] [] σ (K4 v0 v1 v2 σ)) (v0 : Nat) (v1 : Int32) (v2 : Int32) (σ : rS) : J Γ rm11_wide eV cX11_wide RX11 4 none tg 0 0 56 [(0, aR 29 v0), (1, aI v1), (2, aI v2)] [] σ (B11_wide_56 N K4 v0 v1 v2 σ) := by
  unfold B11_wide_56
  refine j_iinc (pc := 56) (w := 1) (lv' := [(2, aI (v2 + 1)), (0, aR 29 v0), (1, aI v1)]) 2 dX11_wide_56 rfl (by decide) (Nat.le_of_ble_eq_true rfl) rfl ?_
  refine j_goto (pc := 59) (tgt := 4) dX11_wide_59 rfl ?_
  refine j_sub [1, 2, 0] (lv' := [(0, aR 29 v0), (1, aI v1), (2, aI (v2 + 1))]) rfl ?_
  exact hK4 v0 v1 (v2 + 1) σ
set_option maxRecDepth 20000 in
set_option maxHeartbeats 4000000 in
theorem jb11_wide_12 {Γ : jX} {tg : Unit × rS} (N : Nat) (K4 : Nat → Int32 → Int32 → rS → Option (Unit × rS)) (K12 : Nat → Int32 → Int32 → rS → Option (Unit × rS)) (hK4 : ∀ (v0 : Nat) (v1 : Int32) (v2 : Int32) (σ : rS), J Γ rm11_wide eV cX11_wide RX11 4 none tg 0 0 4 [(0, aR 29 v0), (1, aI v1), (2, aI v2)] [] σ (K4 v0 v1 v2 σ)) (hK12 : ∀ (v0 : Nat) (v1 : Int32) (v2 : Int32) (σ : rS), J Γ rm11_wide eV cX11_wide RX11 4 none tg 0 0 12 [(0, aR 29 v0), (1, aI v1), (2, aI v2)] [] σ (K12 v0 v1 v2 σ)) (v0 : Nat) (v1 : Int32) (v2 : Int32) (σ : rS) : J Γ rm11_wide eV cX11_wide RX11 4 none tg 0 0 12 [(0, aR 29 v0), (1, aI v1), (2, aI v2)] [] σ (B11_wide_12 N K4 K12 v0 v1 v2 σ) := by
  unfold B11_wide_12
  refine j_iload_n (pc := 12) 1 dX11_wide_12 rfl rfl ?_
  refine j_bipush (pc := 13) (v := 8) (by decide) dX11_wide_13 ?_
  refine j_icmpge (pc := 15) (tgt := 56) dX11_wide_15 rfl (fun _ => ?_) (fun _ => ?_)
  · exact jb11_wide_56 N K4 hK4 v0 v1 v2 σ
  · refine j_aload_n (pc := 18) 0 dX11_wide_18 rfl rfl ?_
    refine j_getF (pc := 19) fd_29_9 tw_4_72 dX11_wide_19 ?_
    refine j_iload_n (pc := 22) 2 dX11_wide_22 rfl rfl ?_
    refine j_lald (pc := 23) rfl rfl rfl dX11_wide_23 (fun j1 => ?_)
    refine j_bipush (pc := 24) (v := 64) (by decide) dX11_wide_24 ?_
    refine j_bipush (pc := 26) (v := 8) (by decide) dX11_wide_26 ?_
    refine j_iload_n (pc := 28) 1 dX11_wide_28 rfl rfl ?_
    refine j_imul (pc := 29) dX11_wide_29 ?_
    refine j_isub (pc := 30) dX11_wide_30 ?_
    refine j_lshl (pc := 31) dX11_wide_31 ?_
    refine j_bipush (pc := 32) (v := 64) (by decide) dX11_wide_32 ?_
    refine j_bipush (pc := 34) (v := 8) (by decide) dX11_wide_34 ?_
    refine j_iload_n (pc := 36) 1 dX11_wide_36 rfl rfl ?_
    refine j_imul (pc := 37) dX11_wide_37 ?_
    refine j_isub (pc := 38) dX11_wide_38 ?_
    refine j_lshr (pc := 39) dX11_wide_39 ?_
    refine j_aload_n (pc := 40) 0 dX11_wide_40 rfl rfl ?_
    refine j_getF (pc := 41) fd_29_9 tw_4_72 dX11_wide_41 ?_
    refine j_iload_n (pc := 44) 2 dX11_wide_44 rfl rfl ?_
    refine j_lald (pc := 45) rfl rfl rfl dX11_wide_45 (fun j2 => ?_)
    refine j_lcmpeq (pc := 46) (tgt := 56) dX11_wide_46 dX11_wide_47 rfl (fun _ => ?_) (fun _ => ?_)
    · exact jb11_wide_56 N K4 hK4 v0 v1 v2 σ
    · refine j_iinc (pc := 50) (w := 1) (lv' := [(1, aI (v1 + 1)), (0, aR 29 v0), (2, aI v2)]) 1 dX11_wide_50 rfl (by decide) (Nat.le_of_ble_eq_true rfl) rfl ?_
      refine j_goto (pc := 53) (tgt := 12) dX11_wide_53 rfl ?_
      refine j_sub [1, 0, 2] (lv' := [(0, aR 29 v0), (1, aI (v1 + 1)), (2, aI v2)]) rfl ?_
      exact hK12 v0 (v1 + 1) v2 σ
theorem jl11_wide_12 {Γ : jX} {tg : Unit × rS} (N : Nat) (K4 : Nat → Int32 → Int32 → rS → Option (Unit × rS)) (hK4 : ∀ (v0 : Nat) (v1 : Int32) (v2 : Int32) (σ : rS), J Γ rm11_wide eV cX11_wide RX11 4 none tg 0 0 4 [(0, aR 29 v0), (1, aI v1), (2, aI v2)] [] σ (K4 v0 v1 v2 σ)) : ∀ (n : Nat) (v0 : Nat) (v1 : Int32) (v2 : Int32) (σ : rS), J Γ rm11_wide eV cX11_wide RX11 4 none tg 0 0 12 [(0, aR 29 v0), (1, aI v1), (2, aI v2)] [] σ (L11_wide_12 N K4 n v0 v1 v2 σ) := by
  intro n
  induction n with
  | zero => intro v0 v1 v2 σ; exact j_none
  | succ n ih => intro v0 v1 v2 σ; exact jb11_wide_12 N K4 (L11_wide_12 N K4 n) hK4 ih v0 v1 v2 σ
set_option maxRecDepth 20000 in
set_option maxHeartbeats 4000000 in
theorem jb11_wide_4 {Γ : jX} {tg : Unit × rS} (N : Nat) (K4 : Nat → Int32 → Int32 → rS → Option (Unit × rS)) (hK4 : ∀ (v0 : Nat) (v1 : Int32) (v2 : Int32) (σ : rS), J Γ rm11_wide eV cX11_wide RX11 4 none tg 0 0 4 [(0, aR 29 v0), (1, aI v1), (2, aI v2)] [] σ (K4 v0 v1 v2 σ)) (v0 : Nat) (v1 : Int32) (v2 : Int32) (σ : rS) : J Γ rm11_wide eV cX11_wide RX11 4 none tg 0 0 4 [(0, aR 29 v0), (1, aI v1), (2, aI v2)] [] σ (B11_wide_4 N K4 v0 v1 v2 σ) := by
  unfold B11_wide_4
  refine j_iload_n (pc := 4) 2 dX11_wide_4 rfl rfl ?_
  refine j_aload_n (pc := 5) 0 dX11_wide_5 rfl rfl ?_
  refine j_getI (pc := 6) fd_29_10 tw_4_73 dX11_wide_6 ?_
  refine j_icmpge (pc := 9) (tgt := 62) dX11_wide_9 rfl (fun _ => ?_) (fun _ => ?_)
  · refine j_aload_n (pc := 62) 0 dX11_wide_62 rfl rfl ?_
    refine j_getF (pc := 63) fd_29_11 tw_4_74 dX11_wide_63 ?_
    refine j_iconst (pc := 66) (v := 0) (by decide) dX11_wide_66 ?_
    refine j_iload_n (pc := 67) 1 dX11_wide_67 rfl rfl ?_
    refine j_iast (pc := 68) rfl rfl rfl dX11_wide_68 (fun j1 => ?_)
    refine j_lets (fun σ2 => ?_)
    refine j_aload_n (pc := 69) 0 dX11_wide_69 rfl rfl ?_
    refine j_iconst (pc := 70) (v := 1) (by decide) dX11_wide_70 ?_
    refine j_putI (pc := 71) fd_29_12 rfl rfl tw_4_75 dX11_wide_71 ?_
    refine j_lets (fun σ3 => ?_)
    refine j_iconst (pc := 74) (v := 0) (by decide) dX11_wide_74 ?_
    refine j_istore_n (pc := 75) (lv' := [(2, aI 0), (0, aR 29 v0), (1, aI v1)]) dX11_wide_75 rfl (Nat.le_of_ble_eq_true rfl) rfl ?_
    refine j_sub [1, 2, 0] (lv' := [(0, aR 29 v0), (1, aI v1), (2, aI 0)]) rfl ?_
    exact jl11_wide_76 N  N v0 v1 0 σ3
  · exact jl11_wide_12 N K4 hK4 N v0 v1 v2 σ
theorem jl11_wide_4 {Γ : jX} {tg : Unit × rS} (N : Nat) : ∀ (n : Nat) (v0 : Nat) (v1 : Int32) (v2 : Int32) (σ : rS), J Γ rm11_wide eV cX11_wide RX11 4 none tg 0 0 4 [(0, aR 29 v0), (1, aI v1), (2, aI v2)] [] σ (L11_wide_4 N n v0 v1 v2 σ) := by
  intro n
  induction n with
  | zero => intro v0 v1 v2 σ; exact j_none
  | succ n ih => intro v0 v1 v2 σ; exact jb11_wide_4 N (L11_wide_4 N n) ih v0 v1 v2 σ
set_option maxRecDepth 20000 in
set_option maxHeartbeats 4000000 in
theorem j11_wide {Γ : jX} {tg : Unit × rS} (N : Nat) (v0 : Nat) (σ : rS) : J Γ rm11_wide eV cX11_wide RX11 4 none tg 0 0 0 [(0, aR 29 v0)] [] σ (f11_wide N v0 σ) := by
  unfold f11_wide
  refine j_iconst (pc := 0) (v := 1) (by decide) dX11_wide_0 ?_
  refine j_istore_n (pc := 1) (lv' := [(1, aI 1), (0, aR 29 v0)]) dX11_wide_1 rfl (Nat.le_of_ble_eq_true rfl) rfl ?_
  refine j_iconst (pc := 2) (v := 0) (by decide) dX11_wide_2 ?_
  refine j_istore_n (pc := 3) (lv' := [(2, aI 0), (1, aI 1), (0, aR 29 v0)]) dX11_wide_3 rfl (Nat.le_of_ble_eq_true rfl) rfl ?_
  refine j_sub [2, 1, 0] (lv' := [(0, aR 29 v0), (1, aI 1), (2, aI 0)]) rfl ?_
  exact jl11_wide_4 N  N v0 1 0 σ
theorem c11_wide (l : Launch) (N : Nat) (v0 : Nat) : Ctr l yX11_wide cX11_wide 4 none rm11_wide eV [aR 29 v0] (f11_wide N v0) := ctr_of (lv := [(0, aR 29 v0)]) (by decide +kernel) (fun _ => rfl) (fun _ => (Nat.le_of_ble_eq_true rfl)) (fun _ h => lvl_als h rfl) (fun _ σ _ => j11_wide N v0 σ)
theorem cs_RX11_229 : CaV RX11 RX11 229 yX11_wide cX11_wide 4 none 0 := ⟨tw_5_116, tw_5_118, tw_p31, tw_1_5, tw_5_119, rfl, by decide +kernel, by decide +kernel, by decide +kernel⟩
theorem cs_RX11_232 : CaV RX11 RX11 232 yX11_sums cX11_sums 2 none 0 := ⟨tw_5_120, tw_5_122, tw_p32, tw_1_5, tw_5_123, rfl, by decide +kernel, by decide +kernel, by decide +kernel⟩
theorem cs_RX11_222 : CaV RX11 RX11 222 yX11_plain cX11_plain 5 none 1 := ⟨tw_5_106, tw_5_108, tw_p29, tw_1_5, tw_5_109, rfl, by decide +kernel, by decide +kernel, by decide +kernel⟩
theorem cs_RX11_226 : CaV RX11 RX11 226 yX11_differences cX11_differences 2 none 0 := ⟨tw_5_112, tw_5_114, tw_p30, tw_1_5, tw_5_115, rfl, by decide +kernel, by decide +kernel, by decide +kernel⟩
abbrev rm11_code : Room := { frames := 1, cells := 0, slots := 0, locals := 24 }
set_option maxRecDepth 20000 in
set_option maxHeartbeats 4000000 in
theorem jb11_code_146 {Γ : jX} {tg : Unit × rS} (N : Nat) (v0 : Nat) (v1 : Int32) (σ : rS) : J Γ rm11_code eV cX11_code RX11 4 none tg 0 0 146 [(0, aR 29 v0), (1, aI v1)] [] σ (B11_code_146 N v0 v1 σ) := by
  unfold B11_code_146
  refine j_iload_n (pc := 146) 1 dX11_code_146 rfl rfl ?_
  refine j_ifle (pc := 147) (tgt := 154) dX11_code_147 rfl (fun _ => ?_) (fun _ => ?_)
  · exact j_return (pc := 154) rfl (Nat.le_of_ble_eq_true rfl) (Nat.le_of_ble_eq_true rfl) dX11_code_154
  · refine j_aload_n (pc := 150) 0 dX11_code_150 rfl rfl ?_
    refine j_callVV (pc := 151) (As := []) (st := []) (fun l => c11_sums l N v0) cs_RX11_232 rfl rfl rfl rfl (Nat.le_of_ble_eq_true rfl) ⟨(Nat.le_of_ble_eq_true rfl), (Nat.le_of_ble_eq_true rfl)⟩ ⟨(Nat.le_of_ble_eq_true rfl), (Nat.le_of_ble_eq_true rfl)⟩ dX11_code_151 (fun r1 σ2 => ?_)
    exact j_return (pc := 154) rfl (Nat.le_of_ble_eq_true rfl) (Nat.le_of_ble_eq_true rfl) dX11_code_154
set_option maxRecDepth 20000 in
set_option maxHeartbeats 4000000 in
theorem jb11_code_137 {Γ : jX} {tg : Unit × rS} (N : Nat) (v0 : Nat) (v1 : Int32) (σ : rS) : J Γ rm11_code eV cX11_code RX11 4 none tg 0 0 137 [(0, aR 29 v0), (1, aI v1)] [] σ (B11_code_137 N v0 v1 σ) := by
  unfold B11_code_137
  refine j_iload_n (pc := 137) 1 dX11_code_137 rfl rfl ?_
  refine j_iconst (pc := 138) (v := 2) (by decide) dX11_code_138 ?_
  refine j_icmpne (pc := 139) (tgt := 146) dX11_code_139 rfl (fun _ => ?_) (fun _ => ?_)
  · exact jb11_code_146 N  v0 v1 σ
  · refine j_aload_n (pc := 142) 0 dX11_code_142 rfl rfl ?_
    refine j_callVV (pc := 143) (As := []) (st := []) (fun l => c11_sums l N v0) cs_RX11_232 rfl rfl rfl rfl (Nat.le_of_ble_eq_true rfl) ⟨(Nat.le_of_ble_eq_true rfl), (Nat.le_of_ble_eq_true rfl)⟩ ⟨(Nat.le_of_ble_eq_true rfl), (Nat.le_of_ble_eq_true rfl)⟩ dX11_code_143 (fun r1 σ2 => ?_)
    exact jb11_code_146 N  v0 v1 σ2
set_option maxRecDepth 20000 in
set_option maxHeartbeats 4000000 in
theorem jb11_code_106 {Γ : jX} {tg : Unit × rS} (N : Nat) (K106 : Nat → Int32 → Int32 → rS → Option (Unit × rS)) (hK106 : ∀ (v0 : Nat) (v1 : Int32) (v2 : Int32) (σ : rS), J Γ rm11_code eV cX11_code RX11 4 none tg 0 0 106 [(0, aR 29 v0), (1, aI v1), (2, aI v2)] [] σ (K106 v0 v1 v2 σ)) (v0 : Nat) (v1 : Int32) (v2 : Int32) (σ : rS) : J Γ rm11_code eV cX11_code RX11 4 none tg 0 0 106 [(0, aR 29 v0), (1, aI v1), (2, aI v2)] [] σ (B11_code_106 N K106 v0 v1 v2 σ) := by
  unfold B11_code_106
  refine j_iload_n (pc := 106) 2 dX11_code_106 rfl rfl ?_
  refine j_aload_n (pc := 107) 0 dX11_code_107 rfl rfl ?_
  refine j_getI (pc := 108) fd_29_10 tw_4_73 dX11_code_108 ?_
  refine j_icmpge (pc := 111) (tgt := 130) dX11_code_111 rfl (fun _ => ?_) (fun _ => ?_)
  · refine j_goto (pc := 130) (tgt := 137) dX11_code_130 rfl ?_
    refine j_sub [0, 1] (lv' := [(0, aR 29 v0), (1, aI v1)]) rfl ?_
    exact jb11_code_137 N  v0 v1 σ
  · refine j_aload_n (pc := 114) 0 dX11_code_114 rfl rfl ?_
    refine j_aload_n (pc := 115) 0 dX11_code_115 rfl rfl ?_
    refine j_getF (pc := 116) fd_29_9 tw_4_72 dX11_code_116 ?_
    refine j_iload_n (pc := 119) 2 dX11_code_119 rfl rfl ?_
    refine j_lald (pc := 120) rfl rfl rfl dX11_code_120 (fun j1 => ?_)
    refine j_callVV (pc := 121) (As := [aL (gL σ 39 v0 j1)]) (st := []) (fun l => c11_plain l N v0 (gL σ 39 v0 j1)) cs_RX11_222 rfl rfl rfl rfl (Nat.le_of_ble_eq_true rfl) ⟨(Nat.le_of_ble_eq_true rfl), (Nat.le_of_ble_eq_true rfl)⟩ ⟨(Nat.le_of_ble_eq_true rfl), (Nat.le_of_ble_eq_true rfl)⟩ dX11_code_121 (fun r2 σ3 => ?_)
    refine j_iinc (pc := 124) (w := 1) (lv' := [(2, aI (v2 + 1)), (0, aR 29 v0), (1, aI v1)]) 2 dX11_code_124 rfl (by decide) (Nat.le_of_ble_eq_true rfl) rfl ?_
    refine j_goto (pc := 127) (tgt := 106) dX11_code_127 rfl ?_
    refine j_sub [1, 2, 0] (lv' := [(0, aR 29 v0), (1, aI v1), (2, aI (v2 + 1))]) rfl ?_
    exact hK106 v0 v1 (v2 + 1) σ3
theorem jl11_code_106 {Γ : jX} {tg : Unit × rS} (N : Nat) : ∀ (n : Nat) (v0 : Nat) (v1 : Int32) (v2 : Int32) (σ : rS), J Γ rm11_code eV cX11_code RX11 4 none tg 0 0 106 [(0, aR 29 v0), (1, aI v1), (2, aI v2)] [] σ (L11_code_106 N n v0 v1 v2 σ) := by
  intro n
  induction n with
  | zero => intro v0 v1 v2 σ; exact j_none
  | succ n ih => intro v0 v1 v2 σ; exact jb11_code_106 N (L11_code_106 N n) ih v0 v1 v2 σ
set_option maxRecDepth 20000 in
set_option maxHeartbeats 4000000 in
theorem jb11_code_99 {Γ : jX} {tg : Unit × rS} (N : Nat) (v0 : Nat) (v1 : Int32) (σ : rS) : J Γ rm11_code eV cX11_code RX11 4 none tg 0 0 99 [(0, aR 29 v0), (1, aI v1)] [] σ (B11_code_99 N v0 v1 σ) := by
  unfold B11_code_99
  refine j_iload_n (pc := 99) 1 dX11_code_99 rfl rfl ?_
  refine j_iconst (pc := 100) (v := 4) (by decide) dX11_code_100 ?_
  refine j_icmpge (pc := 101) (tgt := 133) dX11_code_101 rfl (fun _ => ?_) (fun _ => ?_)
  · refine j_aload_n (pc := 133) 0 dX11_code_133 rfl rfl ?_
    refine j_callVV (pc := 134) (As := []) (st := []) (fun l => c11_wide l N v0) cs_RX11_229 rfl rfl rfl rfl (Nat.le_of_ble_eq_true rfl) ⟨(Nat.le_of_ble_eq_true rfl), (Nat.le_of_ble_eq_true rfl)⟩ ⟨(Nat.le_of_ble_eq_true rfl), (Nat.le_of_ble_eq_true rfl)⟩ dX11_code_134 (fun r1 σ2 => ?_)
    exact jb11_code_137 N  v0 v1 σ2
  · refine j_iconst (pc := 104) (v := 0) (by decide) dX11_code_104 ?_
    refine j_istore_n (pc := 105) (lv' := [(2, aI 0), (0, aR 29 v0), (1, aI v1)]) dX11_code_105 rfl (Nat.le_of_ble_eq_true rfl) rfl ?_
    refine j_sub [1, 2, 0] (lv' := [(0, aR 29 v0), (1, aI v1), (2, aI 0)]) rfl ?_
    exact jl11_code_106 N  N v0 v1 0 σ
set_option maxRecDepth 20000 in
set_option maxHeartbeats 4000000 in
theorem jb11_code_90 {Γ : jX} {tg : Unit × rS} (N : Nat) (v0 : Nat) (v1 : Int32) (σ : rS) : J Γ rm11_code eV cX11_code RX11 4 none tg 0 0 90 [(0, aR 29 v0), (1, aI v1)] [] σ (B11_code_90 N v0 v1 σ) := by
  unfold B11_code_90
  refine j_iload_n (pc := 90) 1 dX11_code_90 rfl rfl ?_
  refine j_iconst (pc := 91) (v := 2) (by decide) dX11_code_91 ?_
  refine j_icmpne (pc := 92) (tgt := 99) dX11_code_92 rfl (fun _ => ?_) (fun _ => ?_)
  · exact jb11_code_99 N  v0 v1 σ
  · refine j_aload_n (pc := 95) 0 dX11_code_95 rfl rfl ?_
    refine j_callVV (pc := 96) (As := []) (st := []) (fun l => c11_differences l N v0) cs_RX11_226 rfl rfl rfl rfl (Nat.le_of_ble_eq_true rfl) ⟨(Nat.le_of_ble_eq_true rfl), (Nat.le_of_ble_eq_true rfl)⟩ ⟨(Nat.le_of_ble_eq_true rfl), (Nat.le_of_ble_eq_true rfl)⟩ dX11_code_96 (fun r1 σ2 => ?_)
    exact jb11_code_99 N  v0 v1 σ2
set_option maxRecDepth 20000 in
set_option maxHeartbeats 4000000 in
theorem jb11_code_56 {Γ : jX} {tg : Unit × rS} (N : Nat) (K12 : Nat → Int32 → rS → Option (Unit × rS)) (hK12 : ∀ (v0 : Nat) (v2 : Int32) (σ : rS), J Γ rm11_code eV cX11_code RX11 4 none tg 0 0 12 [(0, aR 29 v0), (2, aI v2)] [] σ (K12 v0 v2 σ)) (v0 : Nat) (v2 : Int32) (v3 : Int32) (σ : rS) : J Γ rm11_code eV cX11_code RX11 4 none tg 0 0 56 [(0, aR 29 v0), (2, aI v2), (3, aI v3)] [] σ (B11_code_56 N K12 v0 v2 v3 σ) := by
  unfold B11_code_56
  refine j_aload_n (pc := 56) 0 dX11_code_56 rfl rfl ?_
  refine j_aload_n (pc := 57) 0 dX11_code_57 rfl rfl ?_
  refine j_getF (pc := 58) fd_29_9 tw_4_72 dX11_code_58 ?_
  refine j_iload_n (pc := 61) 1 dX11_code_61 rfl rfl ?_
  refine j_lald (pc := 62) rfl rfl rfl dX11_code_62 (fun j1 => ?_)
  refine j_callVV (pc := 63) (As := [aL (gL σ 39 v0 j1)]) (st := []) (fun l => c11_plain l N v0 (gL σ 39 v0 j1)) cs_RX11_222 rfl rfl rfl rfl (Nat.le_of_ble_eq_true rfl) ⟨(Nat.le_of_ble_eq_true rfl), (Nat.le_of_ble_eq_true rfl)⟩ ⟨(Nat.le_of_ble_eq_true rfl), (Nat.le_of_ble_eq_true rfl)⟩ dX11_code_63 (fun r2 σ3 => ?_)
  refine j_aload_n (pc := 66) 0 dX11_code_66 rfl rfl ?_
  refine j_iload_n (pc := 67) 2 dX11_code_67 rfl rfl ?_
  refine j_iconst (pc := 68) (v := 1) (by decide) dX11_code_68 ?_
  refine j_isub (pc := 69) dX11_code_69 ?_
  refine j_i2l (pc := 70) dX11_code_70 ?_
  refine j_callVV (pc := 71) (As := [aL (Int32.toInt64 (v3 - 1))]) (st := []) (fun l => c11_plain l N v0 (Int32.toInt64 (v3 - 1))) cs_RX11_222 rfl rfl rfl rfl (Nat.le_of_ble_eq_true rfl) ⟨(Nat.le_of_ble_eq_true rfl), (Nat.le_of_ble_eq_true rfl)⟩ ⟨(Nat.le_of_ble_eq_true rfl), (Nat.le_of_ble_eq_true rfl)⟩ dX11_code_71 (fun r4 σ5 => ?_)
  refine j_iload_n (pc := 74) 1 dX11_code_74 rfl rfl ?_
  refine j_iload_n (pc := 75) 2 dX11_code_75 rfl rfl ?_
  refine j_iadd (pc := 76) dX11_code_76 ?_
  refine j_leti (fun x6 => ?_)
  refine j_istore_n (pc := 77) (lv' := [(2, aI x6), (0, aR 29 v0), (3, aI v3)]) dX11_code_77 rfl (Nat.le_of_ble_eq_true rfl) rfl ?_
  refine j_sub [0, 1] (lv' := [(2, aI x6), (0, aR 29 v0)]) rfl ?_
  refine j_goto (pc := 78) (tgt := 12) dX11_code_78 rfl ?_
  refine j_sub [1, 0] (lv' := [(0, aR 29 v0), (2, aI x6)]) rfl ?_
  exact hK12 v0 x6 σ5
set_option maxRecDepth 20000 in
set_option maxHeartbeats 4000000 in
theorem jb11_code_22 {Γ : jX} {tg : Unit × rS} (N : Nat) (K12 : Nat → Int32 → rS → Option (Unit × rS)) (K22 : Nat → Int32 → Int32 → rS → Option (Unit × rS)) (hK12 : ∀ (v0 : Nat) (v2 : Int32) (σ : rS), J Γ rm11_code eV cX11_code RX11 4 none tg 0 0 12 [(0, aR 29 v0), (2, aI v2)] [] σ (K12 v0 v2 σ)) (hK22 : ∀ (v0 : Nat) (v2 : Int32) (v3 : Int32) (σ : rS), J Γ rm11_code eV cX11_code RX11 4 none tg 0 0 22 [(0, aR 29 v0), (2, aI v2), (3, aI v3)] [] σ (K22 v0 v2 v3 σ)) (v0 : Nat) (v2 : Int32) (v3 : Int32) (σ : rS) : J Γ rm11_code eV cX11_code RX11 4 none tg 0 0 22 [(0, aR 29 v0), (2, aI v2), (3, aI v3)] [] σ (B11_code_22 N K12 K22 v0 v2 v3 σ) := by
  unfold B11_code_22
  refine j_iload_n (pc := 22) 1 dX11_code_22 rfl rfl ?_
  refine j_iload_n (pc := 23) 2 dX11_code_23 rfl rfl ?_
  refine j_iadd (pc := 24) dX11_code_24 ?_
  refine j_aload_n (pc := 25) 0 dX11_code_25 rfl rfl ?_
  refine j_getI (pc := 26) fd_29_10 tw_4_73 dX11_code_26 ?_
  refine j_icmpge (pc := 29) (tgt := 56) dX11_code_29 rfl (fun _ => ?_) (fun _ => ?_)
  · exact jb11_code_56 N K12 hK12 v0 v2 v3 σ
  · refine j_aload_n (pc := 32) 0 dX11_code_32 rfl rfl ?_
    refine j_getF (pc := 33) fd_29_9 tw_4_72 dX11_code_33 ?_
    refine j_iload_n (pc := 36) 1 dX11_code_36 rfl rfl ?_
    refine j_iload_n (pc := 37) 2 dX11_code_37 rfl rfl ?_
    refine j_iadd (pc := 38) dX11_code_38 ?_
    refine j_lald (pc := 39) rfl rfl rfl dX11_code_39 (fun j1 => ?_)
    refine j_aload_n (pc := 40) 0 dX11_code_40 rfl rfl ?_
    refine j_getF (pc := 41) fd_29_9 tw_4_72 dX11_code_41 ?_
    refine j_iload_n (pc := 44) 1 dX11_code_44 rfl rfl ?_
    refine j_lald (pc := 45) rfl rfl rfl dX11_code_45 (fun j2 => ?_)
    refine j_lcmpne (pc := 46) (tgt := 56) dX11_code_46 dX11_code_47 rfl (fun _ => ?_) (fun _ => ?_)
    · exact jb11_code_56 N K12 hK12 v0 v2 v3 σ
    · refine j_iinc (pc := 50) (w := 1) (lv' := [(3, aI (v3 + 1)), (0, aR 29 v0), (2, aI v2)]) 2 dX11_code_50 rfl (by decide) (Nat.le_of_ble_eq_true rfl) rfl ?_
      refine j_goto (pc := 53) (tgt := 22) dX11_code_53 rfl ?_
      refine j_sub [1, 2, 0] (lv' := [(0, aR 29 v0), (2, aI v2), (3, aI (v3 + 1))]) rfl ?_
      exact hK22 v0 v2 (v3 + 1) σ
theorem jl11_code_22 {Γ : jX} {tg : Unit × rS} (N : Nat) (K12 : Nat → Int32 → rS → Option (Unit × rS)) (hK12 : ∀ (v0 : Nat) (v2 : Int32) (σ : rS), J Γ rm11_code eV cX11_code RX11 4 none tg 0 0 12 [(0, aR 29 v0), (2, aI v2)] [] σ (K12 v0 v2 σ)) : ∀ (n : Nat) (v0 : Nat) (v2 : Int32) (v3 : Int32) (σ : rS), J Γ rm11_code eV cX11_code RX11 4 none tg 0 0 22 [(0, aR 29 v0), (2, aI v2), (3, aI v3)] [] σ (L11_code_22 N K12 n v0 v2 v3 σ) := by
  intro n
  induction n with
  | zero => intro v0 v2 v3 σ; exact j_none
  | succ n ih => intro v0 v2 v3 σ; exact jb11_code_22 N K12 (L11_code_22 N K12 n) hK12 ih v0 v2 v3 σ
set_option maxRecDepth 20000 in
set_option maxHeartbeats 4000000 in
theorem jb11_code_12 {Γ : jX} {tg : Unit × rS} (N : Nat) (K12 : Nat → Int32 → rS → Option (Unit × rS)) (hK12 : ∀ (v0 : Nat) (v2 : Int32) (σ : rS), J Γ rm11_code eV cX11_code RX11 4 none tg 0 0 12 [(0, aR 29 v0), (2, aI v2)] [] σ (K12 v0 v2 σ)) (v0 : Nat) (v2 : Int32) (σ : rS) : J Γ rm11_code eV cX11_code RX11 4 none tg 0 0 12 [(0, aR 29 v0), (2, aI v2)] [] σ (B11_code_12 N K12 v0 v2 σ) := by
  unfold B11_code_12
  refine j_iload_n (pc := 12) 1 dX11_code_12 rfl rfl ?_
  refine j_aload_n (pc := 13) 0 dX11_code_13 rfl rfl ?_
  refine j_getI (pc := 14) fd_29_10 tw_4_73 dX11_code_14 ?_
  refine j_icmpge (pc := 17) (tgt := 81) dX11_code_17 rfl (fun _ => ?_) (fun _ => ?_)
  · exact j_return (pc := 81) rfl (Nat.le_of_ble_eq_true rfl) (Nat.le_of_ble_eq_true rfl) dX11_code_81
  · refine j_iconst (pc := 20) (v := 1) (by decide) dX11_code_20 ?_
    refine j_istore_n (pc := 21) (lv' := [(3, aI 1), (0, aR 29 v0), (2, aI v2)]) dX11_code_21 rfl (Nat.le_of_ble_eq_true rfl) rfl ?_
    refine j_sub [1, 2, 0] (lv' := [(0, aR 29 v0), (2, aI v2), (3, aI 1)]) rfl ?_
    exact jl11_code_22 N K12 hK12 N v0 v2 1 σ
theorem jl11_code_12 {Γ : jX} {tg : Unit × rS} (N : Nat) : ∀ (n : Nat) (v0 : Nat) (v2 : Int32) (σ : rS), J Γ rm11_code eV cX11_code RX11 4 none tg 0 0 12 [(0, aR 29 v0), (2, aI v2)] [] σ (L11_code_12 N n v0 v2 σ) := by
  intro n
  induction n with
  | zero => intro v0 v2 σ; exact j_none
  | succ n ih => intro v0 v2 σ; exact jb11_code_12 N (L11_code_12 N n) ih v0 v2 σ
set_option maxRecDepth 20000 in
set_option maxHeartbeats 4000000 in
theorem j11_code {Γ : jX} {tg : Unit × rS} (N : Nat) (v0 : Nat) (v1 : Int32) (σ : rS) : J Γ rm11_code eV cX11_code RX11 4 none tg 0 0 0 [(0, aR 29 v0), (1, aI v1)] [] σ (f11_code N v0 v1 σ) := by
  unfold f11_code
  refine j_aload_n (pc := 0) 0 dX11_code_0 rfl rfl ?_
  refine j_iconst (pc := 1) (v := 0) (by decide) dX11_code_1 ?_
  refine j_putI (pc := 2) fd_29_12 rfl rfl tw_4_75 dX11_code_2 ?_
  refine j_lets (fun σ1 => ?_)
  refine j_iload_n (pc := 5) 1 dX11_code_5 rfl rfl ?_
  refine j_iconst (pc := 6) (v := 3) (by decide) dX11_code_6 ?_
  refine j_icmpne (pc := 7) (tgt := 82) dX11_code_7 rfl (fun _ => ?_) (fun _ => ?_)
  · refine j_iload_n (pc := 82) 1 dX11_code_82 rfl rfl ?_
    refine j_ifle (pc := 83) (tgt := 90) dX11_code_83 rfl (fun _ => ?_) (fun _ => ?_)
    · exact jb11_code_90 N  v0 v1 σ1
    · refine j_aload_n (pc := 86) 0 dX11_code_86 rfl rfl ?_
      refine j_callVV (pc := 87) (As := []) (st := []) (fun l => c11_differences l N v0) cs_RX11_226 rfl rfl rfl rfl (Nat.le_of_ble_eq_true rfl) ⟨(Nat.le_of_ble_eq_true rfl), (Nat.le_of_ble_eq_true rfl)⟩ ⟨(Nat.le_of_ble_eq_true rfl), (Nat.le_of_ble_eq_true rfl)⟩ dX11_code_87 (fun r2 σ3 => ?_)
      exact jb11_code_90 N  v0 v1 σ3
  · refine j_iconst (pc := 10) (v := 0) (by decide) dX11_code_10 ?_
    refine j_istore_n (pc := 11) (lv' := [(2, aI 0), (0, aR 29 v0), (1, aI v1)]) dX11_code_11 rfl (Nat.le_of_ble_eq_true rfl) rfl ?_
    refine j_sub [0, 1] (lv' := [(2, aI 0), (0, aR 29 v0)]) rfl ?_
    refine j_sub [1, 0] (lv' := [(0, aR 29 v0), (2, aI 0)]) rfl ?_
    exact jl11_code_12 N  N v0 0 σ1
theorem c11_code (l : Launch) (N : Nat) (v0 : Nat) (v1 : Int32) : Ctr l yX11_code cX11_code 4 none rm11_code eV [aR 29 v0, aI v1] (f11_code N v0 v1) := ctr_of (lv := [(0, aR 29 v0), (1, aI v1)]) (by decide +kernel) (fun _ => rfl) (fun _ => (Nat.le_of_ble_eq_true rfl)) (fun _ h => lvl_als h rfl) (fun _ σ _ => j11_code N v0 v1 σ)
theorem cs_RX11_235 : CaV RX11 RX11 235 yX11_code cX11_code 4 none 1 := ⟨tw_5_102, tw_5_104, tw_p28, tw_1_5, tw_5_105, rfl, by decide +kernel, by decide +kernel, by decide +kernel⟩
abbrev rm11_codeRow : Room := { frames := 2, cells := 0, slots := 0, locals := 47 }
set_option maxRecDepth 20000 in
set_option maxHeartbeats 4000000 in
theorem jb11_codeRow_12 {Γ : jX} {tg : Unit × rS} (N : Nat) (K12 : Nat → Int32 → Int32 → Int32 → rS → Option (Unit × rS)) (hK12 : ∀ (v0 : Nat) (v1 : Int32) (v2 : Int32) (v3 : Int32) (σ : rS), J Γ rm11_codeRow eV cX11_codeRow RX11 4 none tg 0 0 12 [(0, aR 29 v0), (1, aI v1), (2, aI v2), (3, aI v3)] [] σ (K12 v0 v1 v2 v3 σ)) (v0 : Nat) (v1 : Int32) (v2 : Int32) (v3 : Int32) (σ : rS) : J Γ rm11_codeRow eV cX11_codeRow RX11 4 none tg 0 0 12 [(0, aR 29 v0), (1, aI v1), (2, aI v2), (3, aI v3)] [] σ (B11_codeRow_12 N K12 v0 v1 v2 v3 σ) := by
  unfold B11_codeRow_12
  refine j_iload_n (pc := 12) 3 dX11_codeRow_12 rfl rfl ?_
  refine j_aload_n (pc := 13) 0 dX11_codeRow_13 rfl rfl ?_
  refine j_getI (pc := 14) fd_29_10 tw_4_73 dX11_codeRow_14 ?_
  refine j_icmpge (pc := 17) (tgt := 43) dX11_codeRow_17 rfl (fun _ => ?_) (fun _ => ?_)
  · refine j_aload_n (pc := 43) 0 dX11_codeRow_43 rfl rfl ?_
    refine j_iload_n (pc := 44) 2 dX11_codeRow_44 rfl rfl ?_
    refine j_callVV (pc := 45) (As := [aI v2]) (st := []) (fun l => c11_code l N v0 v2) cs_RX11_235 rfl rfl rfl rfl (Nat.le_of_ble_eq_true rfl) ⟨(Nat.le_of_ble_eq_true rfl), (Nat.le_of_ble_eq_true rfl)⟩ ⟨(Nat.le_of_ble_eq_true rfl), (Nat.le_of_ble_eq_true rfl)⟩ dX11_codeRow_45 (fun r1 σ2 => ?_)
    exact j_return (pc := 48) rfl (Nat.le_of_ble_eq_true rfl) (Nat.le_of_ble_eq_true rfl) dX11_codeRow_48
  · refine j_aload_n (pc := 20) 0 dX11_codeRow_20 rfl rfl ?_
    refine j_getF (pc := 21) fd_29_9 tw_4_72 dX11_codeRow_21 ?_
    refine j_iload_n (pc := 24) 3 dX11_codeRow_24 rfl rfl ?_
    refine j_aload_n (pc := 25) 0 dX11_codeRow_25 rfl rfl ?_
    refine j_getF (pc := 26) fd_29_7 tw_4_70 dX11_codeRow_26 ?_
    refine j_bipush (pc := 29) (v := 24) (by decide) dX11_codeRow_29 ?_
    refine j_iload_n (pc := 31) 1 dX11_codeRow_31 rfl rfl ?_
    refine j_imul (pc := 32) dX11_codeRow_32 ?_
    refine j_iload_n (pc := 33) 3 dX11_codeRow_33 rfl rfl ?_
    refine j_iadd (pc := 34) dX11_codeRow_34 ?_
    refine j_lald (pc := 35) rfl rfl rfl dX11_codeRow_35 (fun j3 => ?_)
    refine j_last (pc := 36) rfl rfl rfl dX11_codeRow_36 (fun j4 => ?_)
    refine j_lets (fun σ5 => ?_)
    refine j_iinc (pc := 37) (w := 1) (lv' := [(3, aI (v3 + 1)), (0, aR 29 v0), (1, aI v1), (2, aI v2)]) 3 dX11_codeRow_37 rfl (by decide) (Nat.le_of_ble_eq_true rfl) rfl ?_
    refine j_goto (pc := 40) (tgt := 12) dX11_codeRow_40 rfl ?_
    refine j_sub [1, 2, 3, 0] (lv' := [(0, aR 29 v0), (1, aI v1), (2, aI v2), (3, aI (v3 + 1))]) rfl ?_
    exact hK12 v0 v1 v2 (v3 + 1) σ5
theorem jl11_codeRow_12 {Γ : jX} {tg : Unit × rS} (N : Nat) : ∀ (n : Nat) (v0 : Nat) (v1 : Int32) (v2 : Int32) (v3 : Int32) (σ : rS), J Γ rm11_codeRow eV cX11_codeRow RX11 4 none tg 0 0 12 [(0, aR 29 v0), (1, aI v1), (2, aI v2), (3, aI v3)] [] σ (L11_codeRow_12 N n v0 v1 v2 v3 σ) := by
  intro n
  induction n with
  | zero => intro v0 v1 v2 v3 σ; exact j_none
  | succ n ih => intro v0 v1 v2 v3 σ; exact jb11_codeRow_12 N (L11_codeRow_12 N n) ih v0 v1 v2 v3 σ
set_option maxRecDepth 20000 in
set_option maxHeartbeats 4000000 in
theorem j11_codeRow {Γ : jX} {tg : Unit × rS} (N : Nat) (v0 : Nat) (v1 : Int32) (v2 : Int32) (σ : rS) : J Γ rm11_codeRow eV cX11_codeRow RX11 4 none tg 0 0 0 [(0, aR 29 v0), (1, aI v1), (2, aI v2)] [] σ (f11_codeRow N v0 v1 v2 σ) := by
  unfold f11_codeRow
  refine j_aload_n (pc := 0) 0 dX11_codeRow_0 rfl rfl ?_
  refine j_aload_n (pc := 1) 0 dX11_codeRow_1 rfl rfl ?_
  refine j_getF (pc := 2) fd_29_5 tw_4_68 dX11_codeRow_2 ?_
  refine j_iload_n (pc := 5) 1 dX11_codeRow_5 rfl rfl ?_
  refine j_iald (pc := 6) rfl rfl rfl dX11_codeRow_6 (fun j1 => ?_)
  refine j_putI (pc := 7) fd_29_10 rfl rfl tw_4_73 dX11_codeRow_7 ?_
  refine j_lets (fun σ2 => ?_)
  refine j_iconst (pc := 10) (v := 0) (by decide) dX11_codeRow_10 ?_
  refine j_istore_n (pc := 11) (lv' := [(3, aI 0), (0, aR 29 v0), (1, aI v1), (2, aI v2)]) dX11_codeRow_11 rfl (Nat.le_of_ble_eq_true rfl) rfl ?_
  refine j_sub [1, 2, 3, 0] (lv' := [(0, aR 29 v0), (1, aI v1), (2, aI v2), (3, aI 0)]) rfl ?_
  exact jl11_codeRow_12 N  N v0 v1 v2 0 σ2
theorem c11_codeRow (l : Launch) (N : Nat) (v0 : Nat) (v1 : Int32) (v2 : Int32) : Ctr l yX11_codeRow cX11_codeRow 4 none rm11_codeRow eV [aR 29 v0, aI v1, aI v2] (f11_codeRow N v0 v1 v2) := ctr_of (lv := [(0, aR 29 v0), (1, aI v1), (2, aI v2)]) (by decide +kernel) (fun _ => rfl) (fun _ => (Nat.le_of_ble_eq_true rfl)) (fun _ h => lvl_als h rfl) (fun _ σ _ => j11_codeRow N v0 v1 v2 σ)
theorem cs_RX11_252 : CaV RX11 RX11 252 yX11_codeRow cX11_codeRow 4 none 2 := ⟨tw_5_98, tw_5_100, tw_p27, tw_1_5, tw_5_101, rfl, by decide +kernel, by decide +kernel, by decide +kernel⟩
abbrev rm11_best : Room := { frames := 3, cells := 0, slots := 0, locals := 70 }
set_option maxRecDepth 20000 in
set_option maxHeartbeats 4000000 in
theorem jb11_best_64 {Γ : jX} {tg : Int32 × rS} (N : Nat) (K35 : Nat → Int32 → Int32 → Int32 → Int32 → rS → Option (Int32 × rS)) (hK35 : ∀ (v0 : Nat) (v1 : Int32) (v2 : Int32) (v3 : Int32) (v4 : Int32) (σ : rS), J Γ rm11_best eI cX11_best RX11 5 (some .int) tg 0 0 35 [(0, aR 29 v0), (1, aI v1), (2, aI v2), (3, aI v3), (4, aI v4)] [] σ (K35 v0 v1 v2 v3 v4 σ)) (v0 : Nat) (v1 : Int32) (v2 : Int32) (v3 : Int32) (v4 : Int32) (σ : rS) : J Γ rm11_best eI cX11_best RX11 5 (some .int) tg 0 0 64 [(0, aR 29 v0), (1, aI v1), (2, aI v2), (3, aI v3), (4, aI v4)] [] σ (B11_best_64 N K35 v0 v1 v2 v3 v4 σ) := by
  unfold B11_best_64
  refine j_iinc (pc := 64) (w := 1) (lv' := [(4, aI (v4 + 1)), (0, aR 29 v0), (1, aI v1), (2, aI v2), (3, aI v3)]) 4 dX11_best_64 rfl (by decide) (Nat.le_of_ble_eq_true rfl) rfl ?_
  refine j_goto (pc := 67) (tgt := 35) dX11_best_67 rfl ?_
  refine j_sub [1, 2, 3, 4, 0] (lv' := [(0, aR 29 v0), (1, aI v1), (2, aI v2), (3, aI v3), (4, aI (v4 + 1))]) rfl ?_
  exact hK35 v0 v1 v2 v3 (v4 + 1) σ
set_option maxRecDepth 20000 in
set_option maxHeartbeats 4000000 in
theorem jb11_best_35 {Γ : jX} {tg : Int32 × rS} (N : Nat) (K35 : Nat → Int32 → Int32 → Int32 → Int32 → rS → Option (Int32 × rS)) (hK35 : ∀ (v0 : Nat) (v1 : Int32) (v2 : Int32) (v3 : Int32) (v4 : Int32) (σ : rS), J Γ rm11_best eI cX11_best RX11 5 (some .int) tg 0 0 35 [(0, aR 29 v0), (1, aI v1), (2, aI v2), (3, aI v3), (4, aI v4)] [] σ (K35 v0 v1 v2 v3 v4 σ)) (v0 : Nat) (v1 : Int32) (v2 : Int32) (v3 : Int32) (v4 : Int32) (σ : rS) : J Γ rm11_best eI cX11_best RX11 5 (some .int) tg 0 0 35 [(0, aR 29 v0), (1, aI v1), (2, aI v2), (3, aI v3), (4, aI v4)] [] σ (B11_best_35 N K35 v0 v1 v2 v3 v4 σ) := by
  unfold B11_best_35
  refine j_iload (pc := 35) 4 dX11_best_35 rfl ?_
  refine j_iconst (pc := 37) (v := 5) (by decide) dX11_best_37 ?_
  refine j_icmpge (pc := 38) (tgt := 70) dX11_best_38 rfl (fun _ => ?_) (fun _ => ?_)
  · refine j_iload_n (pc := 70) 2 dX11_best_70 rfl rfl ?_
    exact j_ireturn (pc := 71) rfl (Nat.le_of_ble_eq_true rfl) (Nat.le_of_ble_eq_true rfl) dX11_best_71
  · refine j_aload_n (pc := 41) 0 dX11_best_41 rfl rfl ?_
    refine j_iload_n (pc := 42) 1 dX11_best_42 rfl rfl ?_
    refine j_iload (pc := 43) 4 dX11_best_43 rfl ?_
    refine j_callVV (pc := 45) (As := [aI v1, aI v4]) (st := []) (fun l => c11_codeRow l N v0 v1 v4) cs_RX11_252 rfl rfl rfl rfl (Nat.le_of_ble_eq_true rfl) ⟨(Nat.le_of_ble_eq_true rfl), (Nat.le_of_ble_eq_true rfl)⟩ ⟨(Nat.le_of_ble_eq_true rfl), (Nat.le_of_ble_eq_true rfl)⟩ dX11_best_45 (fun r1 σ2 => ?_)
    refine j_aload_n (pc := 48) 0 dX11_best_48 rfl rfl ?_
    refine j_getI (pc := 49) fd_29_12 tw_4_75 dX11_best_49 ?_
    refine j_iload_n (pc := 52) 3 dX11_best_52 rfl rfl ?_
    refine j_icmpge (pc := 53) (tgt := 64) dX11_best_53 rfl (fun _ => ?_) (fun _ => ?_)
    · exact jb11_best_64 N K35 hK35 v0 v1 v2 v3 v4 σ2
    · refine j_aload_n (pc := 56) 0 dX11_best_56 rfl rfl ?_
      refine j_getI (pc := 57) fd_29_12 tw_4_75 dX11_best_57 ?_
      refine j_leti (fun x3 => ?_)
      refine j_istore_n (pc := 60) (lv' := [(3, aI x3), (0, aR 29 v0), (1, aI v1), (2, aI v2), (4, aI v4)]) dX11_best_60 rfl (Nat.le_of_ble_eq_true rfl) rfl ?_
      refine j_sub [0, 1, 2, 4] (lv' := [(3, aI x3), (0, aR 29 v0), (1, aI v1), (4, aI v4)]) rfl ?_
      refine j_iload (pc := 61) 3 dX11_best_61 rfl ?_
      refine j_istore_n (pc := 63) (lv' := [(2, aI v4), (3, aI x3), (0, aR 29 v0), (1, aI v1), (4, aI v4)]) dX11_best_63 rfl (Nat.le_of_ble_eq_true rfl) rfl ?_
      refine j_sub [2, 3, 0, 1, 4] (lv' := [(0, aR 29 v0), (1, aI v1), (2, aI v4), (3, aI x3), (4, aI v4)]) rfl ?_
      exact jb11_best_64 N K35 hK35 v0 v1 v4 x3 v4 σ2
theorem jl11_best_35 {Γ : jX} {tg : Int32 × rS} (N : Nat) : ∀ (n : Nat) (v0 : Nat) (v1 : Int32) (v2 : Int32) (v3 : Int32) (v4 : Int32) (σ : rS), J Γ rm11_best eI cX11_best RX11 5 (some .int) tg 0 0 35 [(0, aR 29 v0), (1, aI v1), (2, aI v2), (3, aI v3), (4, aI v4)] [] σ (L11_best_35 N n v0 v1 v2 v3 v4 σ) := by
  intro n
  induction n with
  | zero => intro v0 v1 v2 v3 v4 σ; exact j_none
  | succ n ih => intro v0 v1 v2 v3 v4 σ; exact jb11_best_35 N (L11_best_35 N n) ih v0 v1 v2 v3 v4 σ
set_option maxRecDepth 20000 in
set_option maxHeartbeats 4000000 in
theorem j11_best {Γ : jX} {tg : Int32 × rS} (N : Nat) (v0 : Nat) (v1 : Int32) (σ : rS) : J Γ rm11_best eI cX11_best RX11 5 (some .int) tg 0 0 0 [(0, aR 29 v0), (1, aI v1)] [] σ (f11_best N v0 v1 σ) := by
  unfold f11_best
  refine j_aload_n (pc := 0) 0 dX11_best_0 rfl rfl ?_
  refine j_iload_n (pc := 1) 1 dX11_best_1 rfl rfl ?_
  refine j_callVZ (pc := 2) (As := [aI v1]) (st := []) (fun l => c11_isRow l v0 v1) cs_RX11_154 rfl rfl rfl rfl (Nat.le_of_ble_eq_true rfl) ⟨(Nat.le_of_ble_eq_true rfl), (Nat.le_of_ble_eq_true rfl)⟩ ⟨(Nat.le_of_ble_eq_true rfl), (Nat.le_of_ble_eq_true rfl)⟩ dX11_best_2 (fun r1 σ2 => ?_)
  refine j_ifneB (pc := 5) (tgt := 11) dX11_best_5 rfl (fun _ => ?_) (fun _ => ?_)
  · refine j_aload_n (pc := 11) 0 dX11_best_11 rfl rfl ?_
    refine j_getF (pc := 12) fd_29_6 tw_4_69 dX11_best_12 ?_
    refine j_iload_n (pc := 15) 1 dX11_best_15 rfl rfl ?_
    refine j_zald (pc := 16) rfl rfl rfl dX11_best_16 (fun j3 => ?_)
    refine j_ifeq (pc := 17) (tgt := 26) dX11_best_17 rfl (fun _ => ?_) (fun _ => ?_)
    · refine j_iconst (pc := 26) (v := 0) (by decide) dX11_best_26 ?_
      refine j_istore_n (pc := 27) (lv' := [(2, aI 0), (0, aR 29 v0), (1, aI v1)]) dX11_best_27 rfl (Nat.le_of_ble_eq_true rfl) rfl ?_
      refine j_sipush (pc := 28) (v := 1000) (by decide) dX11_best_28 ?_
      refine j_istore_n (pc := 31) (lv' := [(3, aI 1000), (2, aI 0), (0, aR 29 v0), (1, aI v1)]) dX11_best_31 rfl (Nat.le_of_ble_eq_true rfl) rfl ?_
      refine j_iconst (pc := 32) (v := 0) (by decide) dX11_best_32 ?_
      refine j_istore (pc := 33) (lv' := [(4, aI 0), (3, aI 1000), (2, aI 0), (0, aR 29 v0), (1, aI v1)]) dX11_best_33 (Nat.le_of_ble_eq_true rfl) rfl ?_
      refine j_sub [3, 4, 2, 1, 0] (lv' := [(0, aR 29 v0), (1, aI v1), (2, aI 0), (3, aI 1000), (4, aI 0)]) rfl ?_
      exact jl11_best_35 N  N v0 v1 0 1000 0 σ2
    · refine j_aload_n (pc := 20) 0 dX11_best_20 rfl rfl ?_
      refine j_iconst (pc := 21) (v := 1) (by decide) dX11_best_21 ?_
      refine j_callVI (pc := 22) (As := [aI 1]) (st := []) (fun l => c11_meets l v0 1) cs_RX11_146 rfl rfl rfl rfl (Nat.le_of_ble_eq_true rfl) ⟨(Nat.le_of_ble_eq_true rfl), (Nat.le_of_ble_eq_true rfl)⟩ ⟨(Nat.le_of_ble_eq_true rfl), (Nat.le_of_ble_eq_true rfl)⟩ dX11_best_22 (fun r4 σ5 => ?_)
      exact j_ireturn (pc := 25) rfl (Nat.le_of_ble_eq_true rfl) (Nat.le_of_ble_eq_true rfl) dX11_best_25
  · refine j_bipush (pc := 8) (v := (-101)) (by decide) dX11_best_8 ?_
    exact j_ireturn (pc := 10) rfl (Nat.le_of_ble_eq_true rfl) (Nat.le_of_ble_eq_true rfl) dX11_best_10
theorem c11_best (l : Launch) (N : Nat) (v0 : Nat) (v1 : Int32) : Ctr l yX11_best cX11_best 5 (some .int) rm11_best eI [aR 29 v0, aI v1] (f11_best N v0 v1) := ctr_of (lv := [(0, aR 29 v0), (1, aI v1)]) (by decide +kernel) (fun _ => rfl) (fun _ => (Nat.le_of_ble_eq_true rfl)) (fun _ h => lvl_als h rfl) (fun _ σ _ => j11_best N v0 v1 σ)
abbrev rm11_bodiesNow : Room := { frames := 0, cells := 0, slots := 0, locals := 0 }
set_option maxRecDepth 20000 in
set_option maxHeartbeats 4000000 in
theorem jb11_bodiesNow_26 {Γ : jX} {tg : Int32 × rS} (N : Nat) (K4 : Nat → Int32 → Int32 → rS → Option (Int32 × rS)) (hK4 : ∀ (v0 : Nat) (v1 : Int32) (v2 : Int32) (σ : rS), J Γ rm11_bodiesNow eI cX11_bodiesNow RX11 3 (some .int) tg 0 0 4 [(0, aR 29 v0), (1, aI v1), (2, aI v2)] [] σ (K4 v0 v1 v2 σ)) (v0 : Nat) (v2 : Int32) (s0 : Int32) (s1 : Bool) (σ : rS) : J Γ rm11_bodiesNow eI cX11_bodiesNow RX11 3 (some .int) tg 0 0 26 [(0, aR 29 v0), (2, aI v2)] [aI (bi s1), aI s0] σ (B11_bodiesNow_26 N K4 v0 v2 s0 s1 σ) := by
  unfold B11_bodiesNow_26
  refine j_iadd (pc := 26) dX11_bodiesNow_26 ?_
  refine j_leti (fun x1 => ?_)
  refine j_istore_n (pc := 27) (lv' := [(1, aI x1), (0, aR 29 v0), (2, aI v2)]) dX11_bodiesNow_27 rfl (Nat.le_of_ble_eq_true rfl) rfl ?_
  refine j_iinc (pc := 28) (w := 1) (lv' := [(2, aI (v2 + 1)), (1, aI x1), (0, aR 29 v0)]) 2 dX11_bodiesNow_28 rfl (by decide) (Nat.le_of_ble_eq_true rfl) rfl ?_
  refine j_goto (pc := 31) (tgt := 4) dX11_bodiesNow_31 rfl ?_
  refine j_sub [2, 1, 0] (lv' := [(0, aR 29 v0), (1, aI x1), (2, aI (v2 + 1))]) rfl ?_
  exact hK4 v0 x1 (v2 + 1) σ
set_option maxRecDepth 20000 in
set_option maxHeartbeats 4000000 in
theorem jb11_bodiesNow_4 {Γ : jX} {tg : Int32 × rS} (N : Nat) (K4 : Nat → Int32 → Int32 → rS → Option (Int32 × rS)) (hK4 : ∀ (v0 : Nat) (v1 : Int32) (v2 : Int32) (σ : rS), J Γ rm11_bodiesNow eI cX11_bodiesNow RX11 3 (some .int) tg 0 0 4 [(0, aR 29 v0), (1, aI v1), (2, aI v2)] [] σ (K4 v0 v1 v2 σ)) (v0 : Nat) (v1 : Int32) (v2 : Int32) (σ : rS) : J Γ rm11_bodiesNow eI cX11_bodiesNow RX11 3 (some .int) tg 0 0 4 [(0, aR 29 v0), (1, aI v1), (2, aI v2)] [] σ (B11_bodiesNow_4 N K4 v0 v1 v2 σ) := by
  unfold B11_bodiesNow_4
  refine j_iload_n (pc := 4) 2 dX11_bodiesNow_4 rfl rfl ?_
  refine j_bipush (pc := 5) (v := 30) (by decide) dX11_bodiesNow_5 ?_
  refine j_icmpge (pc := 7) (tgt := 34) dX11_bodiesNow_7 rfl (fun _ => ?_) (fun _ => ?_)
  · refine j_iload_n (pc := 34) 1 dX11_bodiesNow_34 rfl rfl ?_
    exact j_ireturn (pc := 35) rfl (Nat.le_of_ble_eq_true rfl) (Nat.le_of_ble_eq_true rfl) dX11_bodiesNow_35
  · refine j_iload_n (pc := 10) 1 dX11_bodiesNow_10 rfl rfl ?_
    refine j_aload_n (pc := 11) 0 dX11_bodiesNow_11 rfl rfl ?_
    refine j_getF (pc := 12) fd_29_21 tw_4_84 dX11_bodiesNow_12 ?_
    refine j_iload_n (pc := 15) 2 dX11_bodiesNow_15 rfl rfl ?_
    refine j_iald (pc := 16) rfl rfl rfl dX11_bodiesNow_16 (fun j1 => ?_)
    refine j_iconst (pc := 17) (v := (-1)) (by decide) dX11_bodiesNow_17 ?_
    refine j_icmpeq (pc := 18) (tgt := 25) dX11_bodiesNow_18 rfl (fun _ => ?_) (fun _ => ?_)
    · refine j_iconst (pc := 25) (v := 0) (by decide) dX11_bodiesNow_25 ?_
      refine j_sub [0, 2] (lv' := [(0, aR 29 v0), (2, aI v2)]) rfl ?_
      exact jb11_bodiesNow_26 N K4 hK4 v0 v2 v1 false σ
    · refine j_iconst (pc := 21) (v := 1) (by decide) dX11_bodiesNow_21 ?_
      refine j_goto (pc := 22) (tgt := 26) dX11_bodiesNow_22 rfl ?_
      refine j_sub [0, 2] (lv' := [(0, aR 29 v0), (2, aI v2)]) rfl ?_
      exact jb11_bodiesNow_26 N K4 hK4 v0 v2 v1 true σ
theorem jl11_bodiesNow_4 {Γ : jX} {tg : Int32 × rS} (N : Nat) : ∀ (n : Nat) (v0 : Nat) (v1 : Int32) (v2 : Int32) (σ : rS), J Γ rm11_bodiesNow eI cX11_bodiesNow RX11 3 (some .int) tg 0 0 4 [(0, aR 29 v0), (1, aI v1), (2, aI v2)] [] σ (L11_bodiesNow_4 N n v0 v1 v2 σ) := by
  intro n
  induction n with
  | zero => intro v0 v1 v2 σ; exact j_none
  | succ n ih => intro v0 v1 v2 σ; exact jb11_bodiesNow_4 N (L11_bodiesNow_4 N n) ih v0 v1 v2 σ
set_option maxRecDepth 20000 in
set_option maxHeartbeats 4000000 in
theorem j11_bodiesNow {Γ : jX} {tg : Int32 × rS} (N : Nat) (v0 : Nat) (σ : rS) : J Γ rm11_bodiesNow eI cX11_bodiesNow RX11 3 (some .int) tg 0 0 0 [(0, aR 29 v0)] [] σ (f11_bodiesNow N v0 σ) := by
  unfold f11_bodiesNow
  refine j_iconst (pc := 0) (v := 0) (by decide) dX11_bodiesNow_0 ?_
  refine j_istore_n (pc := 1) (lv' := [(1, aI 0), (0, aR 29 v0)]) dX11_bodiesNow_1 rfl (Nat.le_of_ble_eq_true rfl) rfl ?_
  refine j_iconst (pc := 2) (v := 0) (by decide) dX11_bodiesNow_2 ?_
  refine j_istore_n (pc := 3) (lv' := [(2, aI 0), (1, aI 0), (0, aR 29 v0)]) dX11_bodiesNow_3 rfl (Nat.le_of_ble_eq_true rfl) rfl ?_
  refine j_sub [2, 1, 0] (lv' := [(0, aR 29 v0), (1, aI 0), (2, aI 0)]) rfl ?_
  exact jl11_bodiesNow_4 N  N v0 0 0 σ
theorem c11_bodiesNow (l : Launch) (N : Nat) (v0 : Nat) : Ctr l yX11_bodiesNow cX11_bodiesNow 3 (some .int) rm11_bodiesNow eI [aR 29 v0] (f11_bodiesNow N v0) := ctr_of (lv := [(0, aR 29 v0)]) (by decide +kernel) (fun _ => rfl) (fun _ => (Nat.le_of_ble_eq_true rfl)) (fun _ h => lvl_als h rfl) (fun _ σ _ => j11_bodiesNow N v0 σ)
abbrev rm11_real : Room := { frames := 1, cells := 0, slots := 0, locals := 40 }
set_option maxRecDepth 20000 in
set_option maxHeartbeats 4000000 in
theorem j11_real {Γ : jX} {tg : UInt64 × rS} (v0 : Int32) (v1 : Int64) (σ : rS) : J Γ rm11_real eD cX11_real RX11 3 (some .double) tg 0 0 0 [(0, aI v0), (1, aL v1)] [] σ (f11_real v0 v1 σ) := by
  unfold f11_real
  refine j_iload_n (pc := 0) 0 dX11_real_0 rfl rfl ?_
  refine j_bipush (pc := 1) (v := 6) (by decide) dX11_real_1 ?_
  refine j_icmpne (pc := 3) (tgt := 15) dX11_real_3 rfl (fun _ => ?_) (fun _ => ?_)
  · refine j_lload_n (pc := 15) 1 dX11_real_15 rfl rfl ?_
    refine j_ock (fun hn => ?_)
    refine j_nl2d (pc := 16) tw_5_9 hn (Nat.le_of_ble_eq_true rfl) (Nat.le_of_ble_eq_true rfl) (Nat.le_of_ble_eq_true rfl) dX11_real_16 ?_
    exact j_dreturn (pc := 19) rfl (Nat.le_of_ble_eq_true rfl) (Nat.le_of_ble_eq_true rfl) dX11_real_19
  · refine j_lload_n (pc := 6) 1 dX11_real_6 rfl rfl ?_
    refine j_l2i (pc := 7) dX11_real_7 ?_
    refine j_ock (fun hn => ?_)
    refine j_ni2f (pc := 8) tw_5_6 hn (Nat.le_of_ble_eq_true rfl) (Nat.le_of_ble_eq_true rfl) (Nat.le_of_ble_eq_true rfl) dX11_real_8 ?_
    refine j_ock (fun hn => ?_)
    refine j_f2d (pc := 11) dX11_real_11 (nn64_ok hn) ?_
    refine j_goto (pc := 12) (tgt := 19) dX11_real_12 rfl ?_
    exact j_dreturn (pc := 19) rfl (Nat.le_of_ble_eq_true rfl) (Nat.le_of_ble_eq_true rfl) dX11_real_19
theorem c11_real (l : Launch) (v0 : Int32) (v1 : Int64) : Ctr l yX11_real cX11_real 3 (some .double) rm11_real eD [aI v0, aL v1] (f11_real v0 v1) := ctr_of (lv := [(0, aI v0), (1, aL v1)]) (by decide +kernel) (fun _ => rfl) (fun _ => (Nat.le_of_ble_eq_true rfl)) (fun _ h => lvl_als h rfl) (fun _ σ _ => j11_real v0 v1 σ)
theorem cs_RX11_131 : CaS RX11 131 yX11_real cX11_real 3 (some .double) 2 := ⟨tw_5_3, tw_5_4, tw_1_5, tw_5_5, by decide +kernel, by decide +kernel, by decide +kernel⟩
abbrev rm11_isBelow : Room := { frames := 2, cells := 0, slots := 0, locals := 62 }
set_option maxRecDepth 20000 in
set_option maxHeartbeats 4000000 in
theorem j11_isBelow {Γ : jX} {tg : Bool × rS} (v0 : Int32) (v1 : Int64) (v3 : Int64) (σ : rS) : J Γ rm11_isBelow eZ cX11_isBelow RX11 5 (some .boolean) tg 0 0 0 [(0, aI v0), (1, aL v1), (3, aL v3)] [] σ (f11_isBelow v0 v1 v3 σ) := by
  unfold f11_isBelow
  refine j_iload_n (pc := 0) 0 dX11_isBelow_0 rfl rfl ?_
  refine j_bipush (pc := 1) (v := 6) (by decide) dX11_isBelow_1 ?_
  refine j_icmpge (pc := 3) (tgt := 20) dX11_isBelow_3 rfl (fun _ => ?_) (fun _ => ?_)
  · refine j_iload_n (pc := 20) 0 dX11_isBelow_20 rfl rfl ?_
    refine j_lload_n (pc := 21) 1 dX11_isBelow_21 rfl rfl ?_
    refine j_callSD (pc := 22) (As := [aI v0, aL v1]) (st := []) (fun l => c11_real l v0 v1) cs_RX11_131 rfl rfl (Nat.le_of_ble_eq_true rfl) ⟨(Nat.le_of_ble_eq_true rfl), (Nat.le_of_ble_eq_true rfl)⟩ ⟨(Nat.le_of_ble_eq_true rfl), (Nat.le_of_ble_eq_true rfl)⟩ dX11_isBelow_22 (fun r1 σ2 => ?_)
    refine j_iload_n (pc := 25) 0 dX11_isBelow_25 rfl rfl ?_
    refine j_lload_n (pc := 26) 2 dX11_isBelow_26 rfl rfl ?_
    refine j_callSD (pc := 27) (As := [aI v0, aL v3]) (st := [aD r1]) (fun l => c11_real l v0 v3) cs_RX11_131 rfl rfl (Nat.le_of_ble_eq_true rfl) ⟨(Nat.le_of_ble_eq_true rfl), (Nat.le_of_ble_eq_true rfl)⟩ ⟨(Nat.le_of_ble_eq_true rfl), (Nat.le_of_ble_eq_true rfl)⟩ dX11_isBelow_27 (fun r3 σ4 => ?_)
    refine j_dcmp (pc := 30) dX11_isBelow_30 ?_
    refine j_ifge (pc := 31) (tgt := 38) dX11_isBelow_31 rfl (fun _ => ?_) (fun _ => ?_)
    · refine j_iconst (pc := 38) (v := 0) (by decide) dX11_isBelow_38 ?_
      exact j_zret0 (pc := 39) rfl (Nat.le_of_ble_eq_true rfl) (Nat.le_of_ble_eq_true rfl) dX11_isBelow_39
    · refine j_iconst (pc := 34) (v := 1) (by decide) dX11_isBelow_34 ?_
      refine j_goto (pc := 35) (tgt := 39) dX11_isBelow_35 rfl ?_
      exact j_zret1 (pc := 39) rfl (Nat.le_of_ble_eq_true rfl) (Nat.le_of_ble_eq_true rfl) dX11_isBelow_39
  · refine j_lload_n (pc := 6) 1 dX11_isBelow_6 rfl rfl ?_
    refine j_lload_n (pc := 7) 2 dX11_isBelow_7 rfl rfl ?_
    refine j_lcmpge (pc := 8) (tgt := 16) dX11_isBelow_8 dX11_isBelow_9 rfl (fun _ => ?_) (fun _ => ?_)
    · refine j_iconst (pc := 16) (v := 0) (by decide) dX11_isBelow_16 ?_
      refine j_goto (pc := 17) (tgt := 39) dX11_isBelow_17 rfl ?_
      exact j_zret0 (pc := 39) rfl (Nat.le_of_ble_eq_true rfl) (Nat.le_of_ble_eq_true rfl) dX11_isBelow_39
    · refine j_iconst (pc := 12) (v := 1) (by decide) dX11_isBelow_12 ?_
      refine j_goto (pc := 13) (tgt := 39) dX11_isBelow_13 rfl ?_
      exact j_zret1 (pc := 39) rfl (Nat.le_of_ble_eq_true rfl) (Nat.le_of_ble_eq_true rfl) dX11_isBelow_39
theorem c11_isBelow (l : Launch) (v0 : Int32) (v1 : Int64) (v3 : Int64) : Ctr l yX11_isBelow cX11_isBelow 5 (some .boolean) rm11_isBelow eZ [aI v0, aL v1, aL v3] (f11_isBelow v0 v1 v3) := ctr_of (lv := [(0, aI v0), (1, aL v1), (3, aL v3)]) (by decide +kernel) (fun _ => rfl) (fun _ => (Nat.le_of_ble_eq_true rfl)) (fun _ h => lvl_als h rfl) (fun _ σ _ => j11_isBelow v0 v1 v3 σ)
abbrev rm11_isGap : Room := { frames := 0, cells := 0, slots := 0, locals := 0 }
set_option maxRecDepth 20000 in
set_option maxHeartbeats 4000000 in
theorem j11_isGap {Γ : jX} {tg : Bool × rS} (v0 : Int32) (v1 : Int64) (σ : rS) : J Γ rm11_isGap eZ cX11_isGap RX11 3 (some .boolean) tg 0 0 0 [(0, aI v0), (1, aL v1)] [] σ (f11_isGap v0 v1 σ) := by
  unfold f11_isGap
  refine j_iload_n (pc := 0) 0 dX11_isGap_0 rfl rfl ?_
  refine j_bipush (pc := 1) (v := 6) (by decide) dX11_isGap_1 ?_
  refine j_icmpne (pc := 3) (tgt := 26) dX11_isGap_3 rfl (fun _ => ?_) (fun _ => ?_)
  · refine j_iload_n (pc := 26) 0 dX11_isGap_26 rfl rfl ?_
    refine j_bipush (pc := 27) (v := 7) (by decide) dX11_isGap_27 ?_
    refine j_icmpne (pc := 29) (tgt := 48) dX11_isGap_29 rfl (fun _ => ?_) (fun _ => ?_)
    · refine j_iconst (pc := 48) (v := 0) (by decide) dX11_isGap_48 ?_
      exact j_zret0 (pc := 49) rfl (Nat.le_of_ble_eq_true rfl) (Nat.le_of_ble_eq_true rfl) dX11_isGap_49
    · refine j_lload_n (pc := 32) 1 dX11_isGap_32 rfl rfl ?_
      refine j_ldc2 (pc := 33) tw_4_224 dX11_isGap_33 ?_
      refine j_land (pc := 36) dX11_isGap_36 ?_
      refine j_ldc2 (pc := 37) tw_4_225 dX11_isGap_37 ?_
      refine j_lcmple (pc := 40) (tgt := 48) dX11_isGap_40 dX11_isGap_41 rfl (fun _ => ?_) (fun _ => ?_)
      · refine j_iconst (pc := 48) (v := 0) (by decide) dX11_isGap_48 ?_
        exact j_zret0 (pc := 49) rfl (Nat.le_of_ble_eq_true rfl) (Nat.le_of_ble_eq_true rfl) dX11_isGap_49
      · refine j_iconst (pc := 44) (v := 1) (by decide) dX11_isGap_44 ?_
        refine j_goto (pc := 45) (tgt := 49) dX11_isGap_45 rfl ?_
        exact j_zret1 (pc := 49) rfl (Nat.le_of_ble_eq_true rfl) (Nat.le_of_ble_eq_true rfl) dX11_isGap_49
  · refine j_lload_n (pc := 6) 1 dX11_isGap_6 rfl rfl ?_
    refine j_ldc2 (pc := 7) tw_4_222 dX11_isGap_7 ?_
    refine j_land (pc := 10) dX11_isGap_10 ?_
    refine j_ldc2 (pc := 11) tw_4_223 dX11_isGap_11 ?_
    refine j_lcmple (pc := 14) (tgt := 22) dX11_isGap_14 dX11_isGap_15 rfl (fun _ => ?_) (fun _ => ?_)
    · refine j_iconst (pc := 22) (v := 0) (by decide) dX11_isGap_22 ?_
      refine j_goto (pc := 23) (tgt := 49) dX11_isGap_23 rfl ?_
      exact j_zret0 (pc := 49) rfl (Nat.le_of_ble_eq_true rfl) (Nat.le_of_ble_eq_true rfl) dX11_isGap_49
    · refine j_iconst (pc := 18) (v := 1) (by decide) dX11_isGap_18 ?_
      refine j_goto (pc := 19) (tgt := 49) dX11_isGap_19 rfl ?_
      exact j_zret1 (pc := 49) rfl (Nat.le_of_ble_eq_true rfl) (Nat.le_of_ble_eq_true rfl) dX11_isGap_49
theorem c11_isGap (l : Launch) (v0 : Int32) (v1 : Int64) : Ctr l yX11_isGap cX11_isGap 3 (some .boolean) rm11_isGap eZ [aI v0, aL v1] (f11_isGap v0 v1) := ctr_of (lv := [(0, aI v0), (1, aL v1)]) (by decide +kernel) (fun _ => rfl) (fun _ => (Nat.le_of_ble_eq_true rfl)) (fun _ h => lvl_als h rfl) (fun _ σ _ => j11_isGap v0 v1 σ)
abbrev rm11_isLike : Room := { frames := 2, cells := 0, slots := 0, locals := 62 }
set_option maxRecDepth 20000 in
set_option maxHeartbeats 4000000 in
theorem j11_isLike {Γ : jX} {tg : Bool × rS} (v0 : Int32) (v1 : Int64) (v3 : Int64) (σ : rS) : J Γ rm11_isLike eZ cX11_isLike RX11 5 (some .boolean) tg 0 0 0 [(0, aI v0), (1, aL v1), (3, aL v3)] [] σ (f11_isLike v0 v1 v3 σ) := by
  unfold f11_isLike
  refine j_iload_n (pc := 0) 0 dX11_isLike_0 rfl rfl ?_
  refine j_bipush (pc := 1) (v := 6) (by decide) dX11_isLike_1 ?_
  refine j_icmpge (pc := 3) (tgt := 20) dX11_isLike_3 rfl (fun _ => ?_) (fun _ => ?_)
  · refine j_iload_n (pc := 20) 0 dX11_isLike_20 rfl rfl ?_
    refine j_lload_n (pc := 21) 1 dX11_isLike_21 rfl rfl ?_
    refine j_callSD (pc := 22) (As := [aI v0, aL v1]) (st := []) (fun l => c11_real l v0 v1) cs_RX11_131 rfl rfl (Nat.le_of_ble_eq_true rfl) ⟨(Nat.le_of_ble_eq_true rfl), (Nat.le_of_ble_eq_true rfl)⟩ ⟨(Nat.le_of_ble_eq_true rfl), (Nat.le_of_ble_eq_true rfl)⟩ dX11_isLike_22 (fun r1 σ2 => ?_)
    refine j_iload_n (pc := 25) 0 dX11_isLike_25 rfl rfl ?_
    refine j_lload_n (pc := 26) 2 dX11_isLike_26 rfl rfl ?_
    refine j_callSD (pc := 27) (As := [aI v0, aL v3]) (st := [aD r1]) (fun l => c11_real l v0 v3) cs_RX11_131 rfl rfl (Nat.le_of_ble_eq_true rfl) ⟨(Nat.le_of_ble_eq_true rfl), (Nat.le_of_ble_eq_true rfl)⟩ ⟨(Nat.le_of_ble_eq_true rfl), (Nat.le_of_ble_eq_true rfl)⟩ dX11_isLike_27 (fun r3 σ4 => ?_)
    refine j_dcmp (pc := 30) dX11_isLike_30 ?_
    refine j_ifne (pc := 31) (tgt := 38) dX11_isLike_31 rfl (fun _ => ?_) (fun _ => ?_)
    · refine j_iconst (pc := 38) (v := 0) (by decide) dX11_isLike_38 ?_
      exact j_zret0 (pc := 39) rfl (Nat.le_of_ble_eq_true rfl) (Nat.le_of_ble_eq_true rfl) dX11_isLike_39
    · refine j_iconst (pc := 34) (v := 1) (by decide) dX11_isLike_34 ?_
      refine j_goto (pc := 35) (tgt := 39) dX11_isLike_35 rfl ?_
      exact j_zret1 (pc := 39) rfl (Nat.le_of_ble_eq_true rfl) (Nat.le_of_ble_eq_true rfl) dX11_isLike_39
  · refine j_lload_n (pc := 6) 1 dX11_isLike_6 rfl rfl ?_
    refine j_lload_n (pc := 7) 2 dX11_isLike_7 rfl rfl ?_
    refine j_lcmpne (pc := 8) (tgt := 16) dX11_isLike_8 dX11_isLike_9 rfl (fun _ => ?_) (fun _ => ?_)
    · refine j_iconst (pc := 16) (v := 0) (by decide) dX11_isLike_16 ?_
      refine j_goto (pc := 17) (tgt := 39) dX11_isLike_17 rfl ?_
      exact j_zret0 (pc := 39) rfl (Nat.le_of_ble_eq_true rfl) (Nat.le_of_ble_eq_true rfl) dX11_isLike_39
    · refine j_iconst (pc := 12) (v := 1) (by decide) dX11_isLike_12 ?_
      refine j_goto (pc := 13) (tgt := 39) dX11_isLike_13 rfl ?_
      exact j_zret1 (pc := 39) rfl (Nat.le_of_ble_eq_true rfl) (Nat.le_of_ble_eq_true rfl) dX11_isLike_39
theorem c11_isLike (l : Launch) (v0 : Int32) (v1 : Int64) (v3 : Int64) : Ctr l yX11_isLike cX11_isLike 5 (some .boolean) rm11_isLike eZ [aI v0, aL v1, aL v3] (f11_isLike v0 v1 v3) := ctr_of (lv := [(0, aI v0), (1, aL v1), (3, aL v3)]) (by decide +kernel) (fun _ => rfl) (fun _ => (Nat.le_of_ble_eq_true rfl)) (fun _ h => lvl_als h rfl) (fun _ σ _ => j11_isLike v0 v1 v3 σ)
theorem cs_RX11_158 : CaV RX11 RX11 158 yX11_against cX11_against 3 (some .int) 2 := ⟨tw_4_212, tw_4_214, tw_p24, tw_1_5, tw_4_215, rfl, by decide +kernel, by decide +kernel, by decide +kernel⟩
theorem cs_RX11_99 : CaS RX11 99 yX11_isGap cX11_isGap 3 (some .boolean) 2 := ⟨tw_4_219, tw_4_220, tw_1_5, tw_4_221, by decide +kernel, by decide +kernel, by decide +kernel⟩
theorem cs_RX11_165 : CaS RX11 165 yX11_isLike cX11_isLike 5 (some .boolean) 3 := ⟨tw_5_0, tw_5_1, tw_1_5, tw_5_2, by decide +kernel, by decide +kernel, by decide +kernel⟩
theorem cs_RX11_169 : CaS RX11 169 yX11_isBelow cX11_isBelow 5 (some .boolean) 3 := ⟨tw_5_12, tw_5_13, tw_1_5, tw_5_14, by decide +kernel, by decide +kernel, by decide +kernel⟩
abbrev rm11_compare : Room := { frames := 3, cells := 0, slots := 0, locals := 86 }
set_option maxRecDepth 20000 in
set_option maxHeartbeats 4000000 in
theorem j11_compare {Γ : jX} {tg : Int32 × rS} (v0 : Nat) (v1 : Int32) (v2 : Int32) (v3 : Int32) (σ : rS) : J Γ rm11_compare eI cX11_compare RX11 10 (some .int) tg 0 0 0 [(0, aR 29 v0), (1, aI v1), (2, aI v2), (3, aI v3)] [] σ (f11_compare v0 v1 v2 v3 σ) := by
  unfold f11_compare
  refine j_aload_n (pc := 0) 0 dX11_compare_0 rfl rfl ?_
  refine j_iload_n (pc := 1) 1 dX11_compare_1 rfl rfl ?_
  refine j_iload_n (pc := 2) 2 dX11_compare_2 rfl rfl ?_
  refine j_callVI (pc := 3) (As := [aI v1, aI v2]) (st := []) (fun l => c11_against l v0 v1 v2) cs_RX11_158 rfl rfl rfl rfl (Nat.le_of_ble_eq_true rfl) ⟨(Nat.le_of_ble_eq_true rfl), (Nat.le_of_ble_eq_true rfl)⟩ ⟨(Nat.le_of_ble_eq_true rfl), (Nat.le_of_ble_eq_true rfl)⟩ dX11_compare_3 (fun r1 σ2 => ?_)
  refine j_istore (pc := 6) (lv' := [(4, aI r1), (0, aR 29 v0), (1, aI v1), (2, aI v2), (3, aI v3)]) dX11_compare_6 (Nat.le_of_ble_eq_true rfl) rfl ?_
  refine j_iload (pc := 8) 0 dX11_compare_8 rfl ?_
  refine j_ifeq (pc := 10) (tgt := 16) dX11_compare_10 rfl (fun _ => ?_) (fun _ => ?_)
  · refine j_iload_n (pc := 16) 4 dX11_compare_16 rfl rfl ?_
    refine j_i2l (pc := 17) dX11_compare_17 ?_
    refine j_lconst (pc := 18) (v := 0) (by decide) dX11_compare_18 ?_
    refine j_aload_n (pc := 19) 1 dX11_compare_19 rfl rfl ?_
    refine j_getF (pc := 20) fd_29_5 tw_4_68 dX11_compare_20 ?_
    refine j_iload_n (pc := 23) 2 dX11_compare_23 rfl rfl ?_
    refine j_iald (pc := 24) rfl rfl rfl dX11_compare_24 (fun j3 => ?_)
    refine j_iconst (pc := 25) (v := 1) (by decide) dX11_compare_25 ?_
    refine j_isub (pc := 26) dX11_compare_26 ?_
    refine j_i2l (pc := 27) dX11_compare_27 ?_
    refine j_callSZ (pc := 28) (As := [aL (Int32.toInt64 v3), aL 0, aL (Int32.toInt64 ((gI σ2 35 v0 j3) - 1))]) (st := []) (fun l => c11_in l (Int32.toInt64 v3) 0 (Int32.toInt64 ((gI σ2 35 v0 j3) - 1))) cs_RX11_140 rfl rfl (Nat.le_of_ble_eq_true rfl) ⟨(Nat.le_of_ble_eq_true rfl), (Nat.le_of_ble_eq_true rfl)⟩ ⟨(Nat.le_of_ble_eq_true rfl), (Nat.le_of_ble_eq_true rfl)⟩ dX11_compare_28 (fun r4 σ5 => ?_)
    refine j_ifneB (pc := 31) (tgt := 40) dX11_compare_31 rfl (fun _ => ?_) (fun _ => ?_)
    · refine j_aload_n (pc := 40) 1 dX11_compare_40 rfl rfl ?_
      refine j_getF (pc := 41) fd_29_4 tw_4_67 dX11_compare_41 ?_
      refine j_iload_n (pc := 44) 2 dX11_compare_44 rfl rfl ?_
      refine j_iald (pc := 45) rfl rfl rfl dX11_compare_45 (fun j6 => ?_)
      refine j_leti (fun x7 => ?_)
      refine j_istore (pc := 46) (lv' := [(5, aI x7), (4, aI r1), (0, aR 29 v0), (1, aI v1), (2, aI v2), (3, aI v3)]) dX11_compare_46 (Nat.le_of_ble_eq_true rfl) rfl ?_
      refine j_sub [0, 2, 3, 4, 5] (lv' := [(5, aI x7), (0, aR 29 v0), (1, aI v1), (2, aI v2), (3, aI v3)]) rfl ?_
      refine j_aload_n (pc := 48) 1 dX11_compare_48 rfl rfl ?_
      refine j_getF (pc := 49) fd_29_7 tw_4_70 dX11_compare_49 ?_
      refine j_bipush (pc := 52) (v := 24) (by decide) dX11_compare_52 ?_
      refine j_iload_n (pc := 54) 2 dX11_compare_54 rfl rfl ?_
      refine j_imul (pc := 55) dX11_compare_55 ?_
      refine j_iload_n (pc := 56) 3 dX11_compare_56 rfl rfl ?_
      refine j_iadd (pc := 57) dX11_compare_57 ?_
      refine j_lald (pc := 58) rfl rfl rfl dX11_compare_58 (fun j8 => ?_)
      refine j_letl (fun x9 => ?_)
      refine j_lstore (pc := 59) (lv' := [(6, aL x9), (5, aI x7), (0, aR 29 v0), (1, aI v1), (2, aI v2), (3, aI v3)]) dX11_compare_59 (Nat.le_of_ble_eq_true rfl) rfl ?_
      refine j_sub [0, 1, 2, 3, 5] (lv' := [(6, aL x9), (5, aI x7), (0, aR 29 v0), (1, aI v1), (3, aI v3)]) rfl ?_
      refine j_aload_n (pc := 61) 2 dX11_compare_61 rfl rfl ?_
      refine j_getF (pc := 62) fd_29_7 tw_4_70 dX11_compare_62 ?_
      refine j_bipush (pc := 65) (v := 24) (by decide) dX11_compare_65 ?_
      refine j_iload_n (pc := 67) 3 dX11_compare_67 rfl rfl ?_
      refine j_imul (pc := 68) dX11_compare_68 ?_
      refine j_iload_n (pc := 69) 4 dX11_compare_69 rfl rfl ?_
      refine j_iadd (pc := 70) dX11_compare_70 ?_
      refine j_lald (pc := 71) rfl rfl rfl dX11_compare_71 (fun j10 => ?_)
      refine j_letl (fun x11 => ?_)
      refine j_lstore (pc := 72) (lv' := [(8, aL x11), (6, aL x9), (5, aI x7), (0, aR 29 v0), (1, aI v1), (3, aI v3)]) dX11_compare_72 (Nat.le_of_ble_eq_true rfl) rfl ?_
      refine j_sub [0, 1, 2] (lv' := [(8, aL x11), (6, aL x9), (5, aI x7)]) rfl ?_
      refine j_iload (pc := 74) 2 dX11_compare_74 rfl ?_
      refine j_lload (pc := 76) 1 dX11_compare_76 rfl ?_
      refine j_callSZ (pc := 78) (As := [aI x7, aL x9]) (st := []) (fun l => c11_isGap l x7 x9) cs_RX11_99 rfl rfl (Nat.le_of_ble_eq_true rfl) ⟨(Nat.le_of_ble_eq_true rfl), (Nat.le_of_ble_eq_true rfl)⟩ ⟨(Nat.le_of_ble_eq_true rfl), (Nat.le_of_ble_eq_true rfl)⟩ dX11_compare_78 (fun r12 σ13 => ?_)
      refine j_ifneB (pc := 81) (tgt := 94) dX11_compare_81 rfl (fun _ => ?_) (fun _ => ?_)
      · refine j_bipush (pc := 94) (v := 32) (by decide) dX11_compare_94 ?_
        exact j_ireturn (pc := 96) rfl (Nat.le_of_ble_eq_true rfl) (Nat.le_of_ble_eq_true rfl) dX11_compare_96
      · refine j_iload (pc := 84) 2 dX11_compare_84 rfl ?_
        refine j_lload (pc := 86) 0 dX11_compare_86 rfl ?_
        refine j_callSZ (pc := 88) (As := [aI x7, aL x11]) (st := []) (fun l => c11_isGap l x7 x11) cs_RX11_99 rfl rfl (Nat.le_of_ble_eq_true rfl) ⟨(Nat.le_of_ble_eq_true rfl), (Nat.le_of_ble_eq_true rfl)⟩ ⟨(Nat.le_of_ble_eq_true rfl), (Nat.le_of_ble_eq_true rfl)⟩ dX11_compare_88 (fun r14 σ15 => ?_)
        refine j_ifeqB (pc := 91) (tgt := 97) dX11_compare_91 rfl (fun _ => ?_) (fun _ => ?_)
        · refine j_iload (pc := 97) 2 dX11_compare_97 rfl ?_
          refine j_lload (pc := 99) 1 dX11_compare_99 rfl ?_
          refine j_lload (pc := 101) 0 dX11_compare_101 rfl ?_
          refine j_callSZ (pc := 103) (As := [aI x7, aL x9, aL x11]) (st := []) (fun l => c11_isLike l x7 x9 x11) cs_RX11_165 rfl rfl (Nat.le_of_ble_eq_true rfl) ⟨(Nat.le_of_ble_eq_true rfl), (Nat.le_of_ble_eq_true rfl)⟩ ⟨(Nat.le_of_ble_eq_true rfl), (Nat.le_of_ble_eq_true rfl)⟩ dX11_compare_103 (fun r16 σ17 => ?_)
          refine j_ifeqB (pc := 106) (tgt := 114) dX11_compare_106 rfl (fun _ => ?_) (fun _ => ?_)
          · refine j_iload (pc := 114) 2 dX11_compare_114 rfl ?_
            refine j_lload (pc := 116) 1 dX11_compare_116 rfl ?_
            refine j_lload (pc := 118) 0 dX11_compare_118 rfl ?_
            refine j_callSZ (pc := 120) (As := [aI x7, aL x9, aL x11]) (st := []) (fun l => c11_isBelow l x7 x9 x11) cs_RX11_169 rfl rfl (Nat.le_of_ble_eq_true rfl) ⟨(Nat.le_of_ble_eq_true rfl), (Nat.le_of_ble_eq_true rfl)⟩ ⟨(Nat.le_of_ble_eq_true rfl), (Nat.le_of_ble_eq_true rfl)⟩ dX11_compare_120 (fun r18 σ19 => ?_)
            refine j_ifeqB (pc := 123) (tgt := 131) dX11_compare_123 rfl (fun _ => ?_) (fun _ => ?_)
            · refine j_bipush (pc := 131) (v := 44) (by decide) dX11_compare_131 ?_
              exact j_ireturn (pc := 133) rfl (Nat.le_of_ble_eq_true rfl) (Nat.le_of_ble_eq_true rfl) dX11_compare_133
            · refine j_bipush (pc := 126) (v := 35) (by decide) dX11_compare_126 ?_
              refine j_goto (pc := 128) (tgt := 133) dX11_compare_128 rfl ?_
              exact j_ireturn (pc := 133) rfl (Nat.le_of_ble_eq_true rfl) (Nat.le_of_ble_eq_true rfl) dX11_compare_133
          · refine j_bipush (pc := 109) (v := 26) (by decide) dX11_compare_109 ?_
            refine j_goto (pc := 111) (tgt := 133) dX11_compare_111 rfl ?_
            exact j_ireturn (pc := 133) rfl (Nat.le_of_ble_eq_true rfl) (Nat.le_of_ble_eq_true rfl) dX11_compare_133
        · refine j_bipush (pc := 94) (v := 32) (by decide) dX11_compare_94 ?_
          exact j_ireturn (pc := 96) rfl (Nat.le_of_ble_eq_true rfl) (Nat.le_of_ble_eq_true rfl) dX11_compare_96
    · refine j_aload_n (pc := 34) 1 dX11_compare_34 rfl rfl ?_
      refine j_iconst (pc := 35) (v := 2) (by decide) dX11_compare_35 ?_
      refine j_callVI (pc := 36) (As := [aI 2]) (st := []) (fun l => c11_meets l v0 2) cs_RX11_146 rfl rfl rfl rfl (Nat.le_of_ble_eq_true rfl) ⟨(Nat.le_of_ble_eq_true rfl), (Nat.le_of_ble_eq_true rfl)⟩ ⟨(Nat.le_of_ble_eq_true rfl), (Nat.le_of_ble_eq_true rfl)⟩ dX11_compare_36 (fun r20 σ21 => ?_)
      exact j_ireturn (pc := 39) rfl (Nat.le_of_ble_eq_true rfl) (Nat.le_of_ble_eq_true rfl) dX11_compare_39
  · refine j_iload (pc := 13) 0 dX11_compare_13 rfl ?_
    exact j_ireturn (pc := 15) rfl (Nat.le_of_ble_eq_true rfl) (Nat.le_of_ble_eq_true rfl) dX11_compare_15
theorem c11_compare (l : Launch) (v0 : Nat) (v1 : Int32) (v2 : Int32) (v3 : Int32) : Ctr l yX11_compare cX11_compare 10 (some .int) rm11_compare eI [aR 29 v0, aI v1, aI v2, aI v3] (f11_compare v0 v1 v2 v3) := ctr_of (lv := [(0, aR 29 v0), (1, aI v1), (2, aI v2), (3, aI v3)]) (by decide +kernel) (fun _ => rfl) (fun _ => (Nat.le_of_ble_eq_true rfl)) (fun _ h => lvl_als h rfl) (fun _ σ _ => j11_compare v0 v1 v2 v3 σ)
abbrev rm11_copy : Room := { frames := 2, cells := 0, slots := 0, locals := 46 }
set_option maxRecDepth 20000 in
set_option maxHeartbeats 4000000 in
theorem jb11_copy_159 {Γ : jX} {tg : Int32 × rS} (N : Nat) (K159 : Nat → Int32 → Int32 → Int32 → Int32 → rS → Option (Int32 × rS)) (hK159 : ∀ (v0 : Nat) (v3 : Int32) (v4 : Int32) (v5 : Int32) (v6 : Int32) (σ : rS), J Γ rm11_copy eI cX11_copy RX11 7 (some .int) tg 0 0 159 [(0, aR 29 v0), (3, aI v3), (4, aI v4), (5, aI v5), (6, aI v6)] [] σ (K159 v0 v3 v4 v5 v6 σ)) (v0 : Nat) (v3 : Int32) (v4 : Int32) (v5 : Int32) (v6 : Int32) (σ : rS) : J Γ rm11_copy eI cX11_copy RX11 7 (some .int) tg 0 0 159 [(0, aR 29 v0), (3, aI v3), (4, aI v4), (5, aI v5), (6, aI v6)] [] σ (B11_copy_159 N K159 v0 v3 v4 v5 v6 σ) := by
  unfold B11_copy_159
  refine j_iload (pc := 159) 4 dX11_copy_159 rfl ?_
  refine j_iload (pc := 161) 3 dX11_copy_161 rfl ?_
  refine j_icmpge (pc := 163) (tgt := 194) dX11_copy_163 rfl (fun _ => ?_) (fun _ => ?_)
  · refine j_iconst (pc := 194) (v := 0) (by decide) dX11_copy_194 ?_
    exact j_ireturn (pc := 195) rfl (Nat.le_of_ble_eq_true rfl) (Nat.le_of_ble_eq_true rfl) dX11_copy_195
  · refine j_aload_n (pc := 166) 0 dX11_copy_166 rfl rfl ?_
    refine j_getF (pc := 167) fd_29_7 tw_4_70 dX11_copy_167 ?_
    refine j_bipush (pc := 170) (v := 24) (by decide) dX11_copy_170 ?_
    refine j_iload_n (pc := 172) 1 dX11_copy_172 rfl rfl ?_
    refine j_imul (pc := 173) dX11_copy_173 ?_
    refine j_iload (pc := 174) 2 dX11_copy_174 rfl ?_
    refine j_iadd (pc := 176) dX11_copy_176 ?_
    refine j_iload (pc := 177) 4 dX11_copy_177 rfl ?_
    refine j_iadd (pc := 179) dX11_copy_179 ?_
    refine j_aload_n (pc := 180) 0 dX11_copy_180 rfl rfl ?_
    refine j_getF (pc := 181) fd_29_8 tw_4_71 dX11_copy_181 ?_
    refine j_iload (pc := 184) 4 dX11_copy_184 rfl ?_
    refine j_lald (pc := 186) rfl rfl rfl dX11_copy_186 (fun j1 => ?_)
    refine j_last (pc := 187) rfl rfl rfl dX11_copy_187 (fun j2 => ?_)
    refine j_lets (fun σ3 => ?_)
    refine j_iinc (pc := 188) (w := 1) (lv' := [(6, aI (v6 + 1)), (0, aR 29 v0), (3, aI v3), (4, aI v4), (5, aI v5)]) 4 dX11_copy_188 rfl (by decide) (Nat.le_of_ble_eq_true rfl) rfl ?_
    refine j_goto (pc := 191) (tgt := 159) dX11_copy_191 rfl ?_
    refine j_sub [1, 2, 3, 4, 0] (lv' := [(0, aR 29 v0), (3, aI v3), (4, aI v4), (5, aI v5), (6, aI (v6 + 1))]) rfl ?_
    exact hK159 v0 v3 v4 v5 (v6 + 1) σ3
theorem jl11_copy_159 {Γ : jX} {tg : Int32 × rS} (N : Nat) : ∀ (n : Nat) (v0 : Nat) (v3 : Int32) (v4 : Int32) (v5 : Int32) (v6 : Int32) (σ : rS), J Γ rm11_copy eI cX11_copy RX11 7 (some .int) tg 0 0 159 [(0, aR 29 v0), (3, aI v3), (4, aI v4), (5, aI v5), (6, aI v6)] [] σ (L11_copy_159 N n v0 v3 v4 v5 v6 σ) := by
  intro n
  induction n with
  | zero => intro v0 v3 v4 v5 v6 σ; exact j_none
  | succ n ih => intro v0 v3 v4 v5 v6 σ; exact jb11_copy_159 N (L11_copy_159 N n) ih v0 v3 v4 v5 v6 σ
set_option maxRecDepth 20000 in
set_option maxHeartbeats 4000000 in
theorem jb11_copy_122 {Γ : jX} {tg : Int32 × rS} (N : Nat) (K122 : Nat → Int32 → Int32 → Int32 → Int32 → Int32 → Int32 → rS → Option (Int32 × rS)) (hK122 : ∀ (v0 : Nat) (v1 : Int32) (v2 : Int32) (v3 : Int32) (v4 : Int32) (v5 : Int32) (v6 : Int32) (σ : rS), J Γ rm11_copy eI cX11_copy RX11 7 (some .int) tg 0 0 122 [(0, aR 29 v0), (1, aI v1), (2, aI v2), (3, aI v3), (4, aI v4), (5, aI v5), (6, aI v6)] [] σ (K122 v0 v1 v2 v3 v4 v5 v6 σ)) (v0 : Nat) (v1 : Int32) (v2 : Int32) (v3 : Int32) (v4 : Int32) (v5 : Int32) (v6 : Int32) (σ : rS) : J Γ rm11_copy eI cX11_copy RX11 7 (some .int) tg 0 0 122 [(0, aR 29 v0), (1, aI v1), (2, aI v2), (3, aI v3), (4, aI v4), (5, aI v5), (6, aI v6)] [] σ (B11_copy_122 N K122 v0 v1 v2 v3 v4 v5 v6 σ) := by
  unfold B11_copy_122
  refine j_iload (pc := 122) 6 dX11_copy_122 rfl ?_
  refine j_iload (pc := 124) 5 dX11_copy_124 rfl ?_
  refine j_icmpge (pc := 126) (tgt := 156) dX11_copy_126 rfl (fun _ => ?_) (fun _ => ?_)
  · refine j_iconst (pc := 156) (v := 0) (by decide) dX11_copy_156 ?_
    refine j_istore (pc := 157) (lv' := [(6, aI 0), (0, aR 29 v0), (1, aI v1), (2, aI v2), (3, aI v3), (4, aI v4), (5, aI v5)]) dX11_copy_157 (Nat.le_of_ble_eq_true rfl) rfl ?_
    refine j_sub [0, 1, 4, 5, 6] (lv' := [(6, aI 0), (0, aR 29 v0), (3, aI v3), (4, aI v4), (5, aI v5)]) rfl ?_
    refine j_sub [1, 2, 3, 4, 0] (lv' := [(0, aR 29 v0), (3, aI v3), (4, aI v4), (5, aI v5), (6, aI 0)]) rfl ?_
    exact jl11_copy_159 N  N v0 v3 v4 v5 0 σ
  · refine j_aload_n (pc := 129) 0 dX11_copy_129 rfl rfl ?_
    refine j_getF (pc := 130) fd_29_8 tw_4_71 dX11_copy_130 ?_
    refine j_iload (pc := 133) 6 dX11_copy_133 rfl ?_
    refine j_aload_n (pc := 135) 0 dX11_copy_135 rfl rfl ?_
    refine j_getF (pc := 136) fd_29_7 tw_4_70 dX11_copy_136 ?_
    refine j_bipush (pc := 139) (v := 24) (by decide) dX11_copy_139 ?_
    refine j_iload_n (pc := 141) 1 dX11_copy_141 rfl rfl ?_
    refine j_imul (pc := 142) dX11_copy_142 ?_
    refine j_iload_n (pc := 143) 2 dX11_copy_143 rfl rfl ?_
    refine j_iadd (pc := 144) dX11_copy_144 ?_
    refine j_iload (pc := 145) 6 dX11_copy_145 rfl ?_
    refine j_iadd (pc := 147) dX11_copy_147 ?_
    refine j_lald (pc := 148) rfl rfl rfl dX11_copy_148 (fun j1 => ?_)
    refine j_last (pc := 149) rfl rfl rfl dX11_copy_149 (fun j2 => ?_)
    refine j_lets (fun σ3 => ?_)
    refine j_iinc (pc := 150) (w := 1) (lv' := [(6, aI (v6 + 1)), (0, aR 29 v0), (1, aI v1), (2, aI v2), (3, aI v3), (4, aI v4), (5, aI v5)]) 6 dX11_copy_150 rfl (by decide) (Nat.le_of_ble_eq_true rfl) rfl ?_
    refine j_goto (pc := 153) (tgt := 122) dX11_copy_153 rfl ?_
    refine j_sub [1, 2, 3, 4, 5, 6, 0] (lv' := [(0, aR 29 v0), (1, aI v1), (2, aI v2), (3, aI v3), (4, aI v4), (5, aI v5), (6, aI (v6 + 1))]) rfl ?_
    exact hK122 v0 v1 v2 v3 v4 v5 (v6 + 1) σ3
theorem jl11_copy_122 {Γ : jX} {tg : Int32 × rS} (N : Nat) : ∀ (n : Nat) (v0 : Nat) (v1 : Int32) (v2 : Int32) (v3 : Int32) (v4 : Int32) (v5 : Int32) (v6 : Int32) (σ : rS), J Γ rm11_copy eI cX11_copy RX11 7 (some .int) tg 0 0 122 [(0, aR 29 v0), (1, aI v1), (2, aI v2), (3, aI v3), (4, aI v4), (5, aI v5), (6, aI v6)] [] σ (L11_copy_122 N n v0 v1 v2 v3 v4 v5 v6 σ) := by
  intro n
  induction n with
  | zero => intro v0 v1 v2 v3 v4 v5 v6 σ; exact j_none
  | succ n ih => intro v0 v1 v2 v3 v4 v5 v6 σ; exact jb11_copy_122 N (L11_copy_122 N n) ih v0 v1 v2 v3 v4 v5 v6 σ
set_option maxRecDepth 20000 in
set_option maxHeartbeats 4000000 in
theorem j11_copy {Γ : jX} {tg : Int32 × rS} (N : Nat) (v0 : Nat) (v1 : Int32) (v2 : Int32) (v3 : Int32) (v4 : Int32) (v5 : Int32) (σ : rS) : J Γ rm11_copy eI cX11_copy RX11 7 (some .int) tg 0 0 0 [(0, aR 29 v0), (1, aI v1), (2, aI v2), (3, aI v3), (4, aI v4), (5, aI v5)] [] σ (f11_copy N v0 v1 v2 v3 v4 v5 σ) := by
  unfold f11_copy
  refine j_aload_n (pc := 0) 0 dX11_copy_0 rfl rfl ?_
  refine j_iload_n (pc := 1) 1 dX11_copy_1 rfl rfl ?_
  refine j_callVZ (pc := 2) (As := [aI v1]) (st := []) (fun l => c11_isRow l v0 v1) cs_RX11_154 rfl rfl rfl rfl (Nat.le_of_ble_eq_true rfl) ⟨(Nat.le_of_ble_eq_true rfl), (Nat.le_of_ble_eq_true rfl)⟩ ⟨(Nat.le_of_ble_eq_true rfl), (Nat.le_of_ble_eq_true rfl)⟩ dX11_copy_2 (fun r1 σ2 => ?_)
  refine j_ifeqB (pc := 5) (tgt := 16) dX11_copy_5 rfl (fun _ => ?_) (fun _ => ?_)
  · refine j_bipush (pc := 16) (v := (-101)) (by decide) dX11_copy_16 ?_
    exact j_ireturn (pc := 18) rfl (Nat.le_of_ble_eq_true rfl) (Nat.le_of_ble_eq_true rfl) dX11_copy_18
  · refine j_aload_n (pc := 8) 0 dX11_copy_8 rfl rfl ?_
    refine j_iload_n (pc := 9) 3 dX11_copy_9 rfl rfl ?_
    refine j_callVZ (pc := 10) (As := [aI v3]) (st := []) (fun l => c11_isRow l v0 v3) cs_RX11_154 rfl rfl rfl rfl (Nat.le_of_ble_eq_true rfl) ⟨(Nat.le_of_ble_eq_true rfl), (Nat.le_of_ble_eq_true rfl)⟩ ⟨(Nat.le_of_ble_eq_true rfl), (Nat.le_of_ble_eq_true rfl)⟩ dX11_copy_10 (fun r3 σ4 => ?_)
    refine j_ifneB (pc := 13) (tgt := 19) dX11_copy_13 rfl (fun _ => ?_) (fun _ => ?_)
    · refine j_aload_n (pc := 19) 0 dX11_copy_19 rfl rfl ?_
      refine j_getF (pc := 20) fd_29_4 tw_4_67 dX11_copy_20 ?_
      refine j_iload_n (pc := 23) 1 dX11_copy_23 rfl rfl ?_
      refine j_iald (pc := 24) rfl rfl rfl dX11_copy_24 (fun j5 => ?_)
      refine j_aload_n (pc := 25) 0 dX11_copy_25 rfl rfl ?_
      refine j_getF (pc := 26) fd_29_4 tw_4_67 dX11_copy_26 ?_
      refine j_iload_n (pc := 29) 3 dX11_copy_29 rfl rfl ?_
      refine j_iald (pc := 30) rfl rfl rfl dX11_copy_30 (fun j6 => ?_)
      refine j_icmpeq (pc := 31) (tgt := 40) dX11_copy_31 rfl (fun _ => ?_) (fun _ => ?_)
      · refine j_aload_n (pc := 40) 0 dX11_copy_40 rfl rfl ?_
        refine j_getF (pc := 41) fd_29_6 tw_4_69 dX11_copy_41 ?_
        refine j_iload_n (pc := 44) 1 dX11_copy_44 rfl rfl ?_
        refine j_zald (pc := 45) rfl rfl rfl dX11_copy_45 (fun j7 => ?_)
        refine j_ifne (pc := 46) (tgt := 58) dX11_copy_46 rfl (fun _ => ?_) (fun _ => ?_)
        · refine j_aload_n (pc := 58) 0 dX11_copy_58 rfl rfl ?_
          refine j_iconst (pc := 59) (v := 1) (by decide) dX11_copy_59 ?_
          refine j_callVI (pc := 60) (As := [aI 1]) (st := []) (fun l => c11_meets l v0 1) cs_RX11_146 rfl rfl rfl rfl (Nat.le_of_ble_eq_true rfl) ⟨(Nat.le_of_ble_eq_true rfl), (Nat.le_of_ble_eq_true rfl)⟩ ⟨(Nat.le_of_ble_eq_true rfl), (Nat.le_of_ble_eq_true rfl)⟩ dX11_copy_60 (fun r8 σ9 => ?_)
          exact j_ireturn (pc := 63) rfl (Nat.le_of_ble_eq_true rfl) (Nat.le_of_ble_eq_true rfl) dX11_copy_63
        · refine j_aload_n (pc := 49) 0 dX11_copy_49 rfl rfl ?_
          refine j_getF (pc := 50) fd_29_6 tw_4_69 dX11_copy_50 ?_
          refine j_iload_n (pc := 53) 3 dX11_copy_53 rfl rfl ?_
          refine j_zald (pc := 54) rfl rfl rfl dX11_copy_54 (fun j10 => ?_)
          refine j_ifeq (pc := 55) (tgt := 64) dX11_copy_55 rfl (fun _ => ?_) (fun _ => ?_)
          · refine j_iload_n (pc := 64) 2 dX11_copy_64 rfl rfl ?_
            refine j_iflt (pc := 65) (tgt := 113) dX11_copy_65 rfl (fun _ => ?_) (fun _ => ?_)
            · refine j_aload_n (pc := 113) 0 dX11_copy_113 rfl rfl ?_
              refine j_iconst (pc := 114) (v := 2) (by decide) dX11_copy_114 ?_
              refine j_callVI (pc := 115) (As := [aI 2]) (st := []) (fun l => c11_meets l v0 2) cs_RX11_146 rfl rfl rfl rfl (Nat.le_of_ble_eq_true rfl) ⟨(Nat.le_of_ble_eq_true rfl), (Nat.le_of_ble_eq_true rfl)⟩ ⟨(Nat.le_of_ble_eq_true rfl), (Nat.le_of_ble_eq_true rfl)⟩ dX11_copy_115 (fun r11 σ12 => ?_)
              exact j_ireturn (pc := 118) rfl (Nat.le_of_ble_eq_true rfl) (Nat.le_of_ble_eq_true rfl) dX11_copy_118
            · refine j_iload (pc := 68) 4 dX11_copy_68 rfl ?_
              refine j_iflt (pc := 70) (tgt := 113) dX11_copy_70 rfl (fun _ => ?_) (fun _ => ?_)
              · refine j_aload_n (pc := 113) 0 dX11_copy_113 rfl rfl ?_
                refine j_iconst (pc := 114) (v := 2) (by decide) dX11_copy_114 ?_
                refine j_callVI (pc := 115) (As := [aI 2]) (st := []) (fun l => c11_meets l v0 2) cs_RX11_146 rfl rfl rfl rfl (Nat.le_of_ble_eq_true rfl) ⟨(Nat.le_of_ble_eq_true rfl), (Nat.le_of_ble_eq_true rfl)⟩ ⟨(Nat.le_of_ble_eq_true rfl), (Nat.le_of_ble_eq_true rfl)⟩ dX11_copy_115 (fun r13 σ14 => ?_)
                exact j_ireturn (pc := 118) rfl (Nat.le_of_ble_eq_true rfl) (Nat.le_of_ble_eq_true rfl) dX11_copy_118
              · refine j_iload (pc := 73) 5 dX11_copy_73 rfl ?_
                refine j_iflt (pc := 75) (tgt := 113) dX11_copy_75 rfl (fun _ => ?_) (fun _ => ?_)
                · refine j_aload_n (pc := 113) 0 dX11_copy_113 rfl rfl ?_
                  refine j_iconst (pc := 114) (v := 2) (by decide) dX11_copy_114 ?_
                  refine j_callVI (pc := 115) (As := [aI 2]) (st := []) (fun l => c11_meets l v0 2) cs_RX11_146 rfl rfl rfl rfl (Nat.le_of_ble_eq_true rfl) ⟨(Nat.le_of_ble_eq_true rfl), (Nat.le_of_ble_eq_true rfl)⟩ ⟨(Nat.le_of_ble_eq_true rfl), (Nat.le_of_ble_eq_true rfl)⟩ dX11_copy_115 (fun r15 σ16 => ?_)
                  exact j_ireturn (pc := 118) rfl (Nat.le_of_ble_eq_true rfl) (Nat.le_of_ble_eq_true rfl) dX11_copy_118
                · refine j_iload_n (pc := 78) 2 dX11_copy_78 rfl rfl ?_
                  refine j_i2l (pc := 79) dX11_copy_79 ?_
                  refine j_iload (pc := 80) 5 dX11_copy_80 rfl ?_
                  refine j_i2l (pc := 82) dX11_copy_82 ?_
                  refine j_ladd (pc := 83) dX11_copy_83 ?_
                  refine j_aload_n (pc := 84) 0 dX11_copy_84 rfl rfl ?_
                  refine j_getF (pc := 85) fd_29_5 tw_4_68 dX11_copy_85 ?_
                  refine j_iload_n (pc := 88) 1 dX11_copy_88 rfl rfl ?_
                  refine j_iald (pc := 89) rfl rfl rfl dX11_copy_89 (fun j17 => ?_)
                  refine j_i2l (pc := 90) dX11_copy_90 ?_
                  refine j_lcmpgt (pc := 91) (tgt := 113) dX11_copy_91 dX11_copy_92 rfl (fun _ => ?_) (fun _ => ?_)
                  · refine j_aload_n (pc := 113) 0 dX11_copy_113 rfl rfl ?_
                    refine j_iconst (pc := 114) (v := 2) (by decide) dX11_copy_114 ?_
                    refine j_callVI (pc := 115) (As := [aI 2]) (st := []) (fun l => c11_meets l v0 2) cs_RX11_146 rfl rfl rfl rfl (Nat.le_of_ble_eq_true rfl) ⟨(Nat.le_of_ble_eq_true rfl), (Nat.le_of_ble_eq_true rfl)⟩ ⟨(Nat.le_of_ble_eq_true rfl), (Nat.le_of_ble_eq_true rfl)⟩ dX11_copy_115 (fun r18 σ19 => ?_)
                    exact j_ireturn (pc := 118) rfl (Nat.le_of_ble_eq_true rfl) (Nat.le_of_ble_eq_true rfl) dX11_copy_118
                  · refine j_iload (pc := 95) 4 dX11_copy_95 rfl ?_
                    refine j_i2l (pc := 97) dX11_copy_97 ?_
                    refine j_iload (pc := 98) 5 dX11_copy_98 rfl ?_
                    refine j_i2l (pc := 100) dX11_copy_100 ?_
                    refine j_ladd (pc := 101) dX11_copy_101 ?_
                    refine j_aload_n (pc := 102) 0 dX11_copy_102 rfl rfl ?_
                    refine j_getF (pc := 103) fd_29_5 tw_4_68 dX11_copy_103 ?_
                    refine j_iload_n (pc := 106) 3 dX11_copy_106 rfl rfl ?_
                    refine j_iald (pc := 107) rfl rfl rfl dX11_copy_107 (fun j20 => ?_)
                    refine j_i2l (pc := 108) dX11_copy_108 ?_
                    refine j_lcmple (pc := 109) (tgt := 119) dX11_copy_109 dX11_copy_110 rfl (fun _ => ?_) (fun _ => ?_)
                    · refine j_iconst (pc := 119) (v := 0) (by decide) dX11_copy_119 ?_
                      refine j_istore (pc := 120) (lv' := [(6, aI 0), (0, aR 29 v0), (1, aI v1), (2, aI v2), (3, aI v3), (4, aI v4), (5, aI v5)]) dX11_copy_120 (Nat.le_of_ble_eq_true rfl) rfl ?_
                      refine j_sub [1, 2, 3, 4, 5, 6, 0] (lv' := [(0, aR 29 v0), (1, aI v1), (2, aI v2), (3, aI v3), (4, aI v4), (5, aI v5), (6, aI 0)]) rfl ?_
                      exact jl11_copy_122 N  N v0 v1 v2 v3 v4 v5 0 σ4
                    · refine j_aload_n (pc := 113) 0 dX11_copy_113 rfl rfl ?_
                      refine j_iconst (pc := 114) (v := 2) (by decide) dX11_copy_114 ?_
                      refine j_callVI (pc := 115) (As := [aI 2]) (st := []) (fun l => c11_meets l v0 2) cs_RX11_146 rfl rfl rfl rfl (Nat.le_of_ble_eq_true rfl) ⟨(Nat.le_of_ble_eq_true rfl), (Nat.le_of_ble_eq_true rfl)⟩ ⟨(Nat.le_of_ble_eq_true rfl), (Nat.le_of_ble_eq_true rfl)⟩ dX11_copy_115 (fun r21 σ22 => ?_)
                      exact j_ireturn (pc := 118) rfl (Nat.le_of_ble_eq_true rfl) (Nat.le_of_ble_eq_true rfl) dX11_copy_118
          · refine j_aload_n (pc := 58) 0 dX11_copy_58 rfl rfl ?_
            refine j_iconst (pc := 59) (v := 1) (by decide) dX11_copy_59 ?_
            refine j_callVI (pc := 60) (As := [aI 1]) (st := []) (fun l => c11_meets l v0 1) cs_RX11_146 rfl rfl rfl rfl (Nat.le_of_ble_eq_true rfl) ⟨(Nat.le_of_ble_eq_true rfl), (Nat.le_of_ble_eq_true rfl)⟩ ⟨(Nat.le_of_ble_eq_true rfl), (Nat.le_of_ble_eq_true rfl)⟩ dX11_copy_60 (fun r23 σ24 => ?_)
            exact j_ireturn (pc := 63) rfl (Nat.le_of_ble_eq_true rfl) (Nat.le_of_ble_eq_true rfl) dX11_copy_63
      · refine j_aload_n (pc := 34) 0 dX11_copy_34 rfl rfl ?_
        refine j_iconst (pc := 35) (v := 3) (by decide) dX11_copy_35 ?_
        refine j_callVI (pc := 36) (As := [aI 3]) (st := []) (fun l => c11_meets l v0 3) cs_RX11_146 rfl rfl rfl rfl (Nat.le_of_ble_eq_true rfl) ⟨(Nat.le_of_ble_eq_true rfl), (Nat.le_of_ble_eq_true rfl)⟩ ⟨(Nat.le_of_ble_eq_true rfl), (Nat.le_of_ble_eq_true rfl)⟩ dX11_copy_36 (fun r25 σ26 => ?_)
        exact j_ireturn (pc := 39) rfl (Nat.le_of_ble_eq_true rfl) (Nat.le_of_ble_eq_true rfl) dX11_copy_39
    · refine j_bipush (pc := 16) (v := (-101)) (by decide) dX11_copy_16 ?_
      exact j_ireturn (pc := 18) rfl (Nat.le_of_ble_eq_true rfl) (Nat.le_of_ble_eq_true rfl) dX11_copy_18
theorem c11_copy (l : Launch) (N : Nat) (v0 : Nat) (v1 : Int32) (v2 : Int32) (v3 : Int32) (v4 : Int32) (v5 : Int32) : Ctr l yX11_copy cX11_copy 7 (some .int) rm11_copy eI [aR 29 v0, aI v1, aI v2, aI v3, aI v4, aI v5] (f11_copy N v0 v1 v2 v3 v4 v5) := ctr_of (lv := [(0, aR 29 v0), (1, aI v1), (2, aI v2), (3, aI v3), (4, aI v4), (5, aI v5)]) (by decide +kernel) (fun _ => rfl) (fun _ => (Nat.le_of_ble_eq_true rfl)) (fun _ h => lvl_als h rfl) (fun _ σ _ => j11_copy N v0 v1 v2 v3 v4 v5 σ)
abbrev rm11_cost : Room := { frames := 3, cells := 0, slots := 0, locals := 70 }
set_option maxRecDepth 20000 in
set_option maxHeartbeats 4000000 in
theorem j11_cost {Γ : jX} {tg : Int32 × rS} (N : Nat) (v0 : Nat) (v1 : Int32) (v2 : Int32) (σ : rS) : J Γ rm11_cost eI cX11_cost RX11 3 (some .int) tg 0 0 0 [(0, aR 29 v0), (1, aI v1), (2, aI v2)] [] σ (f11_cost N v0 v1 v2 σ) := by
  unfold f11_cost
  refine j_aload_n (pc := 0) 0 dX11_cost_0 rfl rfl ?_
  refine j_iload_n (pc := 1) 1 dX11_cost_1 rfl rfl ?_
  refine j_callVZ (pc := 2) (As := [aI v1]) (st := []) (fun l => c11_isRow l v0 v1) cs_RX11_154 rfl rfl rfl rfl (Nat.le_of_ble_eq_true rfl) ⟨(Nat.le_of_ble_eq_true rfl), (Nat.le_of_ble_eq_true rfl)⟩ ⟨(Nat.le_of_ble_eq_true rfl), (Nat.le_of_ble_eq_true rfl)⟩ dX11_cost_2 (fun r1 σ2 => ?_)
  refine j_ifneB (pc := 5) (tgt := 11) dX11_cost_5 rfl (fun _ => ?_) (fun _ => ?_)
  · refine j_iload_n (pc := 11) 2 dX11_cost_11 rfl rfl ?_
    refine j_i2l (pc := 12) dX11_cost_12 ?_
    refine j_lconst (pc := 13) (v := 0) (by decide) dX11_cost_13 ?_
    refine j_ldc2 (pc := 14) tw_5_97 dX11_cost_14 ?_
    refine j_callSZ (pc := 17) (As := [aL (Int32.toInt64 v2), aL 0, aL 4]) (st := []) (fun l => c11_in l (Int32.toInt64 v2) 0 4) cs_RX11_140 rfl rfl (Nat.le_of_ble_eq_true rfl) ⟨(Nat.le_of_ble_eq_true rfl), (Nat.le_of_ble_eq_true rfl)⟩ ⟨(Nat.le_of_ble_eq_true rfl), (Nat.le_of_ble_eq_true rfl)⟩ dX11_cost_17 (fun r3 σ4 => ?_)
    refine j_ifneB (pc := 20) (tgt := 26) dX11_cost_20 rfl (fun _ => ?_) (fun _ => ?_)
    · refine j_aload_n (pc := 26) 0 dX11_cost_26 rfl rfl ?_
      refine j_getF (pc := 27) fd_29_6 tw_4_69 dX11_cost_27 ?_
      refine j_iload_n (pc := 30) 1 dX11_cost_30 rfl rfl ?_
      refine j_zald (pc := 31) rfl rfl rfl dX11_cost_31 (fun j5 => ?_)
      refine j_ifeq (pc := 32) (tgt := 41) dX11_cost_32 rfl (fun _ => ?_) (fun _ => ?_)
      · refine j_aload_n (pc := 41) 0 dX11_cost_41 rfl rfl ?_
        refine j_iload_n (pc := 42) 1 dX11_cost_42 rfl rfl ?_
        refine j_iload_n (pc := 43) 2 dX11_cost_43 rfl rfl ?_
        refine j_callVV (pc := 44) (As := [aI v1, aI v2]) (st := []) (fun l => c11_codeRow l N v0 v1 v2) cs_RX11_252 rfl rfl rfl rfl (Nat.le_of_ble_eq_true rfl) ⟨(Nat.le_of_ble_eq_true rfl), (Nat.le_of_ble_eq_true rfl)⟩ ⟨(Nat.le_of_ble_eq_true rfl), (Nat.le_of_ble_eq_true rfl)⟩ dX11_cost_44 (fun r6 σ7 => ?_)
        refine j_aload_n (pc := 47) 0 dX11_cost_47 rfl rfl ?_
        refine j_getI (pc := 48) fd_29_12 tw_4_75 dX11_cost_48 ?_
        exact j_ireturn (pc := 51) rfl (Nat.le_of_ble_eq_true rfl) (Nat.le_of_ble_eq_true rfl) dX11_cost_51
      · refine j_aload_n (pc := 35) 0 dX11_cost_35 rfl rfl ?_
        refine j_iconst (pc := 36) (v := 1) (by decide) dX11_cost_36 ?_
        refine j_callVI (pc := 37) (As := [aI 1]) (st := []) (fun l => c11_meets l v0 1) cs_RX11_146 rfl rfl rfl rfl (Nat.le_of_ble_eq_true rfl) ⟨(Nat.le_of_ble_eq_true rfl), (Nat.le_of_ble_eq_true rfl)⟩ ⟨(Nat.le_of_ble_eq_true rfl), (Nat.le_of_ble_eq_true rfl)⟩ dX11_cost_37 (fun r8 σ9 => ?_)
        exact j_ireturn (pc := 40) rfl (Nat.le_of_ble_eq_true rfl) (Nat.le_of_ble_eq_true rfl) dX11_cost_40
    · refine j_bipush (pc := 23) (v := (-102)) (by decide) dX11_cost_23 ?_
      exact j_ireturn (pc := 25) rfl (Nat.le_of_ble_eq_true rfl) (Nat.le_of_ble_eq_true rfl) dX11_cost_25
  · refine j_bipush (pc := 8) (v := (-101)) (by decide) dX11_cost_8 ?_
    exact j_ireturn (pc := 10) rfl (Nat.le_of_ble_eq_true rfl) (Nat.le_of_ble_eq_true rfl) dX11_cost_10
theorem c11_cost (l : Launch) (N : Nat) (v0 : Nat) (v1 : Int32) (v2 : Int32) : Ctr l yX11_cost cX11_cost 3 (some .int) rm11_cost eI [aR 29 v0, aI v1, aI v2] (f11_cost N v0 v1 v2) := ctr_of (lv := [(0, aR 29 v0), (1, aI v1), (2, aI v2)]) (by decide +kernel) (fun _ => rfl) (fun _ => (Nat.le_of_ble_eq_true rfl)) (fun _ h => lvl_als h rfl) (fun _ σ _ => j11_cost N v0 v1 v2 σ)
theorem cs_RX11_322 : CaV RX11 RX11 322 yX11_bodiesNow cX11_bodiesNow 3 (some .int) 0 := ⟨tw_6_31, tw_6_33, tw_p46, tw_1_5, tw_6_34, rfl, by decide +kernel, by decide +kernel, by decide +kernel⟩
abbrev rm11_count : Room := { frames := 1, cells := 0, slots := 0, locals := 22 }
set_option maxRecDepth 20000 in
set_option maxHeartbeats 4000000 in
theorem j11_count {Γ : jX} {tg : Int32 × rS} (N : Nat) (v0 : Nat) (v1 : Int32) (σ : rS) : J Γ rm11_count eI cX11_count RX11 2 (some .int) tg 0 0 0 [(0, aR 29 v0), (1, aI v1)] [] σ (f11_count N v0 v1 σ) := by
  unfold f11_count
  refine j_iload_n (pc := 0) 1 dX11_count_0 rfl rfl ?_
  refine j_ifne (pc := 1) (tgt := 11) dX11_count_1 rfl (fun _ => ?_) (fun _ => ?_)
  · refine j_iload_n (pc := 11) 1 dX11_count_11 rfl rfl ?_
    refine j_iconst (pc := 12) (v := 1) (by decide) dX11_count_12 ?_
    refine j_icmpne (pc := 13) (tgt := 23) dX11_count_13 rfl (fun _ => ?_) (fun _ => ?_)
    · refine j_iload_n (pc := 23) 1 dX11_count_23 rfl rfl ?_
      refine j_iconst (pc := 24) (v := 2) (by decide) dX11_count_24 ?_
      refine j_icmpne (pc := 25) (tgt := 35) dX11_count_25 rfl (fun _ => ?_) (fun _ => ?_)
      · refine j_iload_n (pc := 35) 1 dX11_count_35 rfl rfl ?_
        refine j_iconst (pc := 36) (v := 3) (by decide) dX11_count_36 ?_
        refine j_icmpne (pc := 37) (tgt := 47) dX11_count_37 rfl (fun _ => ?_) (fun _ => ?_)
        · refine j_iload_n (pc := 47) 1 dX11_count_47 rfl rfl ?_
          refine j_iconst (pc := 48) (v := 4) (by decide) dX11_count_48 ?_
          refine j_icmpne (pc := 49) (tgt := 59) dX11_count_49 rfl (fun _ => ?_) (fun _ => ?_)
          · refine j_iload_n (pc := 59) 1 dX11_count_59 rfl rfl ?_
            refine j_iconst (pc := 60) (v := 5) (by decide) dX11_count_60 ?_
            refine j_icmpne (pc := 61) (tgt := 71) dX11_count_61 rfl (fun _ => ?_) (fun _ => ?_)
            · refine j_bipush (pc := 71) (v := (-102)) (by decide) dX11_count_71 ?_
              exact j_ireturn (pc := 73) rfl (Nat.le_of_ble_eq_true rfl) (Nat.le_of_ble_eq_true rfl) dX11_count_73
            · refine j_aload_n (pc := 64) 0 dX11_count_64 rfl rfl ?_
              refine j_getI (pc := 65) fd_29_30 tw_4_93 dX11_count_65 ?_
              refine j_goto (pc := 68) (tgt := 73) dX11_count_68 rfl ?_
              exact j_ireturn (pc := 73) rfl (Nat.le_of_ble_eq_true rfl) (Nat.le_of_ble_eq_true rfl) dX11_count_73
          · refine j_aload_n (pc := 52) 0 dX11_count_52 rfl rfl ?_
            refine j_getI (pc := 53) fd_29_26 tw_4_89 dX11_count_53 ?_
            refine j_goto (pc := 56) (tgt := 73) dX11_count_56 rfl ?_
            exact j_ireturn (pc := 73) rfl (Nat.le_of_ble_eq_true rfl) (Nat.le_of_ble_eq_true rfl) dX11_count_73
        · refine j_aload_n (pc := 40) 0 dX11_count_40 rfl rfl ?_
          refine j_getI (pc := 41) fd_29_25 tw_4_88 dX11_count_41 ?_
          refine j_goto (pc := 44) (tgt := 73) dX11_count_44 rfl ?_
          exact j_ireturn (pc := 73) rfl (Nat.le_of_ble_eq_true rfl) (Nat.le_of_ble_eq_true rfl) dX11_count_73
      · refine j_aload_n (pc := 28) 0 dX11_count_28 rfl rfl ?_
        refine j_callVI (pc := 29) (As := []) (st := []) (fun l => c11_bodiesNow l N v0) cs_RX11_322 rfl rfl rfl rfl (Nat.le_of_ble_eq_true rfl) ⟨(Nat.le_of_ble_eq_true rfl), (Nat.le_of_ble_eq_true rfl)⟩ ⟨(Nat.le_of_ble_eq_true rfl), (Nat.le_of_ble_eq_true rfl)⟩ dX11_count_29 (fun r1 σ2 => ?_)
        refine j_goto (pc := 32) (tgt := 73) dX11_count_32 rfl ?_
        exact j_ireturn (pc := 73) rfl (Nat.le_of_ble_eq_true rfl) (Nat.le_of_ble_eq_true rfl) dX11_count_73
    · refine j_aload_n (pc := 16) 0 dX11_count_16 rfl rfl ?_
      refine j_getI (pc := 17) fd_29_13 tw_4_76 dX11_count_17 ?_
      refine j_goto (pc := 20) (tgt := 73) dX11_count_20 rfl ?_
      exact j_ireturn (pc := 73) rfl (Nat.le_of_ble_eq_true rfl) (Nat.le_of_ble_eq_true rfl) dX11_count_73
  · refine j_aload_n (pc := 4) 0 dX11_count_4 rfl rfl ?_
    refine j_getI (pc := 5) fd_29_3 tw_4_66 dX11_count_5 ?_
    refine j_goto (pc := 8) (tgt := 73) dX11_count_8 rfl ?_
    exact j_ireturn (pc := 73) rfl (Nat.le_of_ble_eq_true rfl) (Nat.le_of_ble_eq_true rfl) dX11_count_73
theorem c11_count (l : Launch) (N : Nat) (v0 : Nat) (v1 : Int32) : Ctr l yX11_count cX11_count 2 (some .int) rm11_count eI [aR 29 v0, aI v1] (f11_count N v0 v1) := ctr_of (lv := [(0, aR 29 v0), (1, aI v1)]) (by decide +kernel) (fun _ => rfl) (fun _ => (Nat.le_of_ble_eq_true rfl)) (fun _ h => lvl_als h rfl) (fun _ σ _ => j11_count N v0 v1 σ)
abbrev rm11_cut : Room := { frames := 1, cells := 0, slots := 0, locals := 22 }
set_option maxRecDepth 20000 in
set_option maxHeartbeats 4000000 in
theorem j11_cut {Γ : jX} {tg : Int64 × rS} (v0 : Int32) (v1 : Int64) (σ : rS) : J Γ rm11_cut eL cX11_cut RX11 3 (some .long) tg 0 0 0 [(0, aI v0), (1, aL v1)] [] σ (f11_cut v0 v1 σ) := by
  unfold f11_cut
  refine j_iload_n (pc := 0) 0 dX11_cut_0 rfl rfl ?_
  refine j_case 0 (fun h0 => ?_) (fun h0 => ?_)
  · refine j_tableIn (pc := 1) (off := 47) (tgt := 48) dX11_cut_1 (by rw [h0]; decide) (by rw [h0]; decide) (by rw [h0]; rfl) rfl ?_
    refine j_lload_n (pc := 48) 1 dX11_cut_48 rfl rfl ?_
    refine j_lconst (pc := 49) (v := 1) (by decide) dX11_cut_49 ?_
    refine j_land (pc := 50) dX11_cut_50 ?_
    exact j_lreturn (pc := 51) rfl (Nat.le_of_ble_eq_true rfl) (Nat.le_of_ble_eq_true rfl) dX11_cut_51
  · refine j_case 1 (fun h1 => ?_) (fun h1 => ?_)
    · refine j_tableIn (pc := 1) (off := 51) (tgt := 52) dX11_cut_1 (by rw [h1]; decide) (by rw [h1]; decide) (by rw [h1]; rfl) rfl ?_
      refine j_lload_n (pc := 52) 1 dX11_cut_52 rfl rfl ?_
      refine j_l2i (pc := 53) dX11_cut_53 ?_
      refine j_i2b (pc := 54) dX11_cut_54 ?_
      refine j_i2l (pc := 55) dX11_cut_55 ?_
      exact j_lreturn (pc := 56) rfl (Nat.le_of_ble_eq_true rfl) (Nat.le_of_ble_eq_true rfl) dX11_cut_56
    · refine j_case 2 (fun h2 => ?_) (fun h2 => ?_)
      · refine j_tableIn (pc := 1) (off := 56) (tgt := 57) dX11_cut_1 (by rw [h2]; decide) (by rw [h2]; decide) (by rw [h2]; rfl) rfl ?_
        refine j_lload_n (pc := 57) 1 dX11_cut_57 rfl rfl ?_
        refine j_l2i (pc := 58) dX11_cut_58 ?_
        refine j_i2c (pc := 59) dX11_cut_59 ?_
        refine j_i2l (pc := 60) dX11_cut_60 ?_
        exact j_lreturn (pc := 61) rfl (Nat.le_of_ble_eq_true rfl) (Nat.le_of_ble_eq_true rfl) dX11_cut_61
      · refine j_case 3 (fun h3 => ?_) (fun h3 => ?_)
        · refine j_tableIn (pc := 1) (off := 61) (tgt := 62) dX11_cut_1 (by rw [h3]; decide) (by rw [h3]; decide) (by rw [h3]; rfl) rfl ?_
          refine j_lload_n (pc := 62) 1 dX11_cut_62 rfl rfl ?_
          refine j_l2i (pc := 63) dX11_cut_63 ?_
          refine j_i2s (pc := 64) dX11_cut_64 ?_
          refine j_i2l (pc := 65) dX11_cut_65 ?_
          exact j_lreturn (pc := 66) rfl (Nat.le_of_ble_eq_true rfl) (Nat.le_of_ble_eq_true rfl) dX11_cut_66
        · refine j_case 4 (fun h4 => ?_) (fun h4 => ?_)
          · refine j_tableIn (pc := 1) (off := 66) (tgt := 67) dX11_cut_1 (by rw [h4]; decide) (by rw [h4]; decide) (by rw [h4]; rfl) rfl ?_
            refine j_lload_n (pc := 67) 1 dX11_cut_67 rfl rfl ?_
            refine j_l2i (pc := 68) dX11_cut_68 ?_
            refine j_i2l (pc := 69) dX11_cut_69 ?_
            exact j_lreturn (pc := 70) rfl (Nat.le_of_ble_eq_true rfl) (Nat.le_of_ble_eq_true rfl) dX11_cut_70
          · refine j_case 5 (fun h5 => ?_) (fun h5 => ?_)
            · refine j_tableIn (pc := 1) (off := 104) (tgt := 105) dX11_cut_1 (by rw [h5]; decide) (by rw [h5]; decide) (by rw [h5]; rfl) rfl ?_
              refine j_lload_n (pc := 105) 1 dX11_cut_105 rfl rfl ?_
              exact j_lreturn (pc := 106) rfl (Nat.le_of_ble_eq_true rfl) (Nat.le_of_ble_eq_true rfl) dX11_cut_106
            · refine j_case 6 (fun h6 => ?_) (fun h6 => ?_)
              · refine j_tableIn (pc := 1) (off := 70) (tgt := 71) dX11_cut_1 (by rw [h6]; decide) (by rw [h6]; decide) (by rw [h6]; rfl) rfl ?_
                refine j_iload_n (pc := 71) 0 dX11_cut_71 rfl rfl ?_
                refine j_lload_n (pc := 72) 1 dX11_cut_72 rfl rfl ?_
                refine j_callSZ (pc := 73) (As := [aI v0, aL v1]) (st := []) (fun l => c11_isGap l v0 v1) cs_RX11_99 rfl rfl (Nat.le_of_ble_eq_true rfl) ⟨(Nat.le_of_ble_eq_true rfl), (Nat.le_of_ble_eq_true rfl)⟩ ⟨(Nat.le_of_ble_eq_true rfl), (Nat.le_of_ble_eq_true rfl)⟩ dX11_cut_73 (fun r1 σ2 => ?_)
                refine j_ifeqB (pc := 76) (tgt := 85) dX11_cut_76 rfl (fun _ => ?_) (fun _ => ?_)
                · refine j_lload_n (pc := 85) 1 dX11_cut_85 rfl rfl ?_
                  refine j_l2i (pc := 86) dX11_cut_86 ?_
                  refine j_i2l (pc := 87) dX11_cut_87 ?_
                  exact j_lreturn (pc := 88) rfl (Nat.le_of_ble_eq_true rfl) (Nat.le_of_ble_eq_true rfl) dX11_cut_88
                · refine j_ldc2 (pc := 79) tw_4_226 dX11_cut_79 ?_
                  refine j_goto (pc := 82) (tgt := 88) dX11_cut_82 rfl ?_
                  exact j_lreturn (pc := 88) rfl (Nat.le_of_ble_eq_true rfl) (Nat.le_of_ble_eq_true rfl) dX11_cut_88
              · refine j_case 7 (fun h7 => ?_) (fun h7 => ?_)
                · refine j_tableIn (pc := 1) (off := 88) (tgt := 89) dX11_cut_1 (by rw [h7]; decide) (by rw [h7]; decide) (by rw [h7]; rfl) rfl ?_
                  refine j_iload_n (pc := 89) 0 dX11_cut_89 rfl rfl ?_
                  refine j_lload_n (pc := 90) 1 dX11_cut_90 rfl rfl ?_
                  refine j_callSZ (pc := 91) (As := [aI v0, aL v1]) (st := []) (fun l => c11_isGap l v0 v1) cs_RX11_99 rfl rfl (Nat.le_of_ble_eq_true rfl) ⟨(Nat.le_of_ble_eq_true rfl), (Nat.le_of_ble_eq_true rfl)⟩ ⟨(Nat.le_of_ble_eq_true rfl), (Nat.le_of_ble_eq_true rfl)⟩ dX11_cut_91 (fun r3 σ4 => ?_)
                  refine j_ifeqB (pc := 94) (tgt := 103) dX11_cut_94 rfl (fun _ => ?_) (fun _ => ?_)
                  · refine j_lload_n (pc := 103) 1 dX11_cut_103 rfl rfl ?_
                    exact j_lreturn (pc := 104) rfl (Nat.le_of_ble_eq_true rfl) (Nat.le_of_ble_eq_true rfl) dX11_cut_104
                  · refine j_ldc2 (pc := 97) tw_4_227 dX11_cut_97 ?_
                    refine j_goto (pc := 100) (tgt := 104) dX11_cut_100 rfl ?_
                    exact j_lreturn (pc := 104) rfl (Nat.le_of_ble_eq_true rfl) (Nat.le_of_ble_eq_true rfl) dX11_cut_104
                · have g0 := lv_neT h0 (show ((0 : Int32)).toInt = 0 by decide)
                  have g1 := lv_neT h1 (show ((1 : Int32)).toInt = 1 by decide)
                  have g2 := lv_neT h2 (show ((2 : Int32)).toInt = 2 by decide)
                  have g3 := lv_neT h3 (show ((3 : Int32)).toInt = 3 by decide)
                  have g4 := lv_neT h4 (show ((4 : Int32)).toInt = 4 by decide)
                  have g5 := lv_neT h5 (show ((5 : Int32)).toInt = 5 by decide)
                  have g6 := lv_neT h6 (show ((6 : Int32)).toInt = 6 by decide)
                  have g7 := lv_neT h7 (show ((7 : Int32)).toInt = 7 by decide)
                  refine j_tableOut (pc := 1) (tgt := 105) dX11_cut_1 (by omega) rfl ?_
                  refine j_lload_n (pc := 105) 1 dX11_cut_105 rfl rfl ?_
                  exact j_lreturn (pc := 106) rfl (Nat.le_of_ble_eq_true rfl) (Nat.le_of_ble_eq_true rfl) dX11_cut_106
theorem c11_cut (l : Launch) (v0 : Int32) (v1 : Int64) : Ctr l yX11_cut cX11_cut 3 (some .long) rm11_cut eL [aI v0, aL v1] (f11_cut v0 v1) := ctr_of (lv := [(0, aI v0), (1, aL v1)]) (by decide +kernel) (fun _ => rfl) (fun _ => (Nat.le_of_ble_eq_true rfl)) (fun _ h => lvl_als h rfl) (fun _ σ _ => j11_cut v0 v1 σ)
abbrev rm11_takes : Room := { frames := 0, cells := 0, slots := 0, locals := 0 }
set_option maxRecDepth 20000 in
set_option maxHeartbeats 4000000 in
theorem jb11_takes_5 {Γ : jX} {tg : Bool × rS} (N : Nat) (K5 : Nat → Int32 → Int64 → Int32 → rS → Option (Bool × rS)) (hK5 : ∀ (v0 : Nat) (v1 : Int32) (v2 : Int64) (v4 : Int32) (σ : rS), J Γ rm11_takes eZ cX11_takes RX11 6 (some .boolean) tg 0 0 5 [(0, aR 29 v0), (1, aI v1), (2, aL v2), (4, aI v4)] [] σ (K5 v0 v1 v2 v4 σ)) (v0 : Nat) (v1 : Int32) (v2 : Int64) (v4 : Int32) (σ : rS) : J Γ rm11_takes eZ cX11_takes RX11 6 (some .boolean) tg 0 0 5 [(0, aR 29 v0), (1, aI v1), (2, aL v2), (4, aI v4)] [] σ (B11_takes_5 N K5 v0 v1 v2 v4 σ) := by
  unfold B11_takes_5
  refine j_iload (pc := 5) 3 dX11_takes_5 rfl ?_
  refine j_bipush (pc := 7) (v := 10) (by decide) dX11_takes_7 ?_
  refine j_icmpge (pc := 9) (tgt := 93) dX11_takes_9 rfl (fun _ => ?_) (fun _ => ?_)
  · refine j_iconst (pc := 93) (v := 0) (by decide) dX11_takes_93 ?_
    exact j_zret0 (pc := 94) rfl (Nat.le_of_ble_eq_true rfl) (Nat.le_of_ble_eq_true rfl) dX11_takes_94
  · refine j_aload_n (pc := 12) 0 dX11_takes_12 rfl rfl ?_
    refine j_getI (pc := 13) fd_29_18 tw_4_81 dX11_takes_13 ?_
    refine j_aload_n (pc := 16) 0 dX11_takes_16 rfl rfl ?_
    refine j_getI (pc := 17) fd_29_19 tw_4_82 dX11_takes_17 ?_
    refine j_icmpge (pc := 20) (tgt := 93) dX11_takes_20 rfl (fun _ => ?_) (fun _ => ?_)
    · refine j_iconst (pc := 93) (v := 0) (by decide) dX11_takes_93 ?_
      exact j_zret0 (pc := 94) rfl (Nat.le_of_ble_eq_true rfl) (Nat.le_of_ble_eq_true rfl) dX11_takes_94
    · refine j_aload_n (pc := 23) 0 dX11_takes_23 rfl rfl ?_
      refine j_getF (pc := 24) fd_29_14 tw_4_77 dX11_takes_24 ?_
      refine j_sipush (pc := 27) (v := 400) (by decide) dX11_takes_27 ?_
      refine j_iload_n (pc := 30) 1 dX11_takes_30 rfl rfl ?_
      refine j_imul (pc := 31) dX11_takes_31 ?_
      refine j_aload_n (pc := 32) 0 dX11_takes_32 rfl rfl ?_
      refine j_getI (pc := 33) fd_29_18 tw_4_81 dX11_takes_33 ?_
      refine j_iadd (pc := 36) dX11_takes_36 ?_
      refine j_iald (pc := 37) rfl rfl rfl dX11_takes_37 (fun j1 => ?_)
      refine j_leti (fun x2 => ?_)
      refine j_istore (pc := 38) (lv' := [(5, aI x2), (0, aR 29 v0), (1, aI v1), (2, aL v2), (4, aI v4)]) dX11_takes_38 (Nat.le_of_ble_eq_true rfl) rfl ?_
      refine j_aload_n (pc := 40) 1 dX11_takes_40 rfl rfl ?_
      refine j_dup (pc := 41) dX11_takes_41 rfl ?_
      refine j_getI (pc := 42) fd_29_18 tw_4_81 dX11_takes_42 ?_
      refine j_iconst (pc := 45) (v := 1) (by decide) dX11_takes_45 ?_
      refine j_iadd (pc := 46) dX11_takes_46 ?_
      refine j_putI (pc := 47) fd_29_18 rfl rfl tw_4_81 dX11_takes_47 ?_
      refine j_lets (fun σ3 => ?_)
      refine j_lload_n (pc := 50) 3 dX11_takes_50 rfl rfl ?_
      refine j_iload (pc := 51) 0 dX11_takes_51 rfl ?_
      refine j_bipush (pc := 53) (v := 127) (by decide) dX11_takes_53 ?_
      refine j_iand (pc := 55) dX11_takes_55 ?_
      refine j_i2l (pc := 56) dX11_takes_56 ?_
      refine j_bipush (pc := 57) (v := 7) (by decide) dX11_takes_57 ?_
      refine j_iload (pc := 59) 4 dX11_takes_59 rfl ?_
      refine j_imul (pc := 61) dX11_takes_61 ?_
      refine j_lshl (pc := 62) dX11_takes_62 ?_
      refine j_lor (pc := 63) dX11_takes_63 ?_
      refine j_letl (fun x4 => ?_)
      refine j_lstore_n (pc := 64) (lv' := [(2, aL x4), (5, aI x2), (0, aR 29 v0), (1, aI v1), (4, aI v4)]) dX11_takes_64 rfl (Nat.le_of_ble_eq_true rfl) rfl ?_
      refine j_iload (pc := 65) 1 dX11_takes_65 rfl ?_
      refine j_sipush (pc := 67) (v := 128) (by decide) dX11_takes_67 ?_
      refine j_icmpge (pc := 70) (tgt := 87) dX11_takes_70 rfl (fun _ => ?_) (fun _ => ?_)
      · refine j_iinc (pc := 87) (w := 1) (lv' := [(4, aI (v4 + 1)), (2, aL x4), (5, aI x2), (0, aR 29 v0), (1, aI v1)]) 4 dX11_takes_87 rfl (by decide) (Nat.le_of_ble_eq_true rfl) rfl ?_
        refine j_goto (pc := 90) (tgt := 5) dX11_takes_90 rfl ?_
        refine j_sub [3, 4, 1, 0] (lv' := [(0, aR 29 v0), (1, aI v1), (2, aL x4), (4, aI (v4 + 1))]) rfl ?_
        exact hK5 v0 v1 x4 (v4 + 1) σ3
      · refine j_aload_n (pc := 73) 2 dX11_takes_73 rfl rfl ?_
        refine j_lload_n (pc := 74) 0 dX11_takes_74 rfl rfl ?_
        refine j_iconst (pc := 75) (v := 1) (by decide) dX11_takes_75 ?_
        refine j_lushr (pc := 76) dX11_takes_76 ?_
        refine j_lload_n (pc := 77) 0 dX11_takes_77 rfl rfl ?_
        refine j_lconst (pc := 78) (v := 1) (by decide) dX11_takes_78 ?_
        refine j_land (pc := 79) dX11_takes_79 ?_
        refine j_lneg (pc := 80) dX11_takes_80 ?_
        refine j_lxor (pc := 81) dX11_takes_81 ?_
        refine j_putL (pc := 82) fd_29_20 tw_4_83 dX11_takes_82 ?_
        refine j_lets (fun σ5 => ?_)
        refine j_iconst (pc := 85) (v := 1) (by decide) dX11_takes_85 ?_
        exact j_zret1 (pc := 86) rfl (Nat.le_of_ble_eq_true rfl) (Nat.le_of_ble_eq_true rfl) dX11_takes_86
theorem jl11_takes_5 {Γ : jX} {tg : Bool × rS} (N : Nat) : ∀ (n : Nat) (v0 : Nat) (v1 : Int32) (v2 : Int64) (v4 : Int32) (σ : rS), J Γ rm11_takes eZ cX11_takes RX11 6 (some .boolean) tg 0 0 5 [(0, aR 29 v0), (1, aI v1), (2, aL v2), (4, aI v4)] [] σ (L11_takes_5 N n v0 v1 v2 v4 σ) := by
  intro n
  induction n with
  | zero => intro v0 v1 v2 v4 σ; exact j_none
  | succ n ih => intro v0 v1 v2 v4 σ; exact jb11_takes_5 N (L11_takes_5 N n) ih v0 v1 v2 v4 σ
set_option maxRecDepth 20000 in
set_option maxHeartbeats 4000000 in
theorem j11_takes {Γ : jX} {tg : Bool × rS} (N : Nat) (v0 : Nat) (v1 : Int32) (σ : rS) : J Γ rm11_takes eZ cX11_takes RX11 6 (some .boolean) tg 0 0 0 [(0, aR 29 v0), (1, aI v1)] [] σ (f11_takes N v0 v1 σ) := by
  unfold f11_takes
  refine j_lconst (pc := 0) (v := 0) (by decide) dX11_takes_0 ?_
  refine j_lstore_n (pc := 1) (lv' := [(2, aL 0), (0, aR 29 v0), (1, aI v1)]) dX11_takes_1 rfl (Nat.le_of_ble_eq_true rfl) rfl ?_
  refine j_iconst (pc := 2) (v := 0) (by decide) dX11_takes_2 ?_
  refine j_istore (pc := 3) (lv' := [(4, aI 0), (2, aL 0), (0, aR 29 v0), (1, aI v1)]) dX11_takes_3 (Nat.le_of_ble_eq_true rfl) rfl ?_
  refine j_sub [2, 3, 1, 0] (lv' := [(0, aR 29 v0), (1, aI v1), (2, aL 0), (4, aI 0)]) rfl ?_
  exact jl11_takes_5 N  N v0 v1 0 0 σ
theorem c11_takes (l : Launch) (N : Nat) (v0 : Nat) (v1 : Int32) : Ctr l yX11_takes cX11_takes 6 (some .boolean) rm11_takes eZ [aR 29 v0, aI v1] (f11_takes N v0 v1) := ctr_of (lv := [(0, aR 29 v0), (1, aI v1)]) (by decide +kernel) (fun _ => rfl) (fun _ => (Nat.le_of_ble_eq_true rfl)) (fun _ h => lvl_als h rfl) (fun _ σ _ => j11_takes N v0 v1 σ)
theorem cs_RX11_274 : CaV RX11 RX11 274 yX11_takes cX11_takes 6 (some .boolean) 1 := ⟨tw_5_178, tw_5_180, tw_p37, tw_1_5, tw_5_181, rfl, by decide +kernel, by decide +kernel, by decide +kernel⟩
abbrev rm11_decode : Room := { frames := 1, cells := 0, slots := 0, locals := 25 }
set_option maxRecDepth 20000 in
set_option maxHeartbeats 4000000 in
theorem jb11_decode_311 {Γ : jX} {tg : Bool × rS} (N : Nat) (v0 : Nat) (v2 : Int32) (σ : rS) : J Γ rm11_decode eZ cX11_decode RX11 8 (some .boolean) tg 0 0 311 [(0, aR 29 v0), (2, aI v2)] [] σ (B11_decode_311 N v0 v2 σ) := by
  unfold B11_decode_311
  refine j_iload_n (pc := 311) 1 dX11_decode_311 rfl rfl ?_
  refine j_ifle (pc := 312) (tgt := 324) dX11_decode_312 rfl (fun _ => ?_) (fun _ => ?_)
  · refine j_iconst (pc := 324) (v := 1) (by decide) dX11_decode_324 ?_
    exact j_zret1 (pc := 325) rfl (Nat.le_of_ble_eq_true rfl) (Nat.le_of_ble_eq_true rfl) dX11_decode_325
  · refine j_iload_n (pc := 315) 1 dX11_decode_315 rfl rfl ?_
    refine j_iconst (pc := 316) (v := 3) (by decide) dX11_decode_316 ?_
    refine j_icmpeq (pc := 317) (tgt := 324) dX11_decode_317 rfl (fun _ => ?_) (fun _ => ?_)
    · refine j_iconst (pc := 324) (v := 1) (by decide) dX11_decode_324 ?_
      exact j_zret1 (pc := 325) rfl (Nat.le_of_ble_eq_true rfl) (Nat.le_of_ble_eq_true rfl) dX11_decode_325
    · refine j_aload_n (pc := 320) 0 dX11_decode_320 rfl rfl ?_
      refine j_callVV (pc := 321) (As := []) (st := []) (fun l => c11_sums l N v0) cs_RX11_232 rfl rfl rfl rfl (Nat.le_of_ble_eq_true rfl) ⟨(Nat.le_of_ble_eq_true rfl), (Nat.le_of_ble_eq_true rfl)⟩ ⟨(Nat.le_of_ble_eq_true rfl), (Nat.le_of_ble_eq_true rfl)⟩ dX11_decode_321 (fun r1 σ2 => ?_)
      refine j_iconst (pc := 324) (v := 1) (by decide) dX11_decode_324 ?_
      exact j_zret1 (pc := 325) rfl (Nat.le_of_ble_eq_true rfl) (Nat.le_of_ble_eq_true rfl) dX11_decode_325
set_option maxRecDepth 20000 in
set_option maxHeartbeats 4000000 in
theorem jb11_decode_265 {Γ : jX} {tg : Bool × rS} (N : Nat) (K191 : Nat → Int32 → Int32 → Int32 → rS → Option (Bool × rS)) (K265 : Nat → Int32 → Int32 → Int32 → Int64 → Int32 → Int32 → rS → Option (Bool × rS)) (hK191 : ∀ (v0 : Nat) (v1 : Int32) (v2 : Int32) (v3 : Int32) (σ : rS), J Γ rm11_decode eZ cX11_decode RX11 8 (some .boolean) tg 0 0 191 [(0, aR 29 v0), (1, aI v1), (2, aI v2), (3, aI v3)] [] σ (K191 v0 v1 v2 v3 σ)) (hK265 : ∀ (v0 : Nat) (v1 : Int32) (v2 : Int32) (v3 : Int32) (v4 : Int64) (v6 : Int32) (v7 : Int32) (σ : rS), J Γ rm11_decode eZ cX11_decode RX11 8 (some .boolean) tg 0 0 265 [(0, aR 29 v0), (1, aI v1), (2, aI v2), (3, aI v3), (4, aL v4), (6, aI v6), (7, aI v7)] [] σ (K265 v0 v1 v2 v3 v4 v6 v7 σ)) (v0 : Nat) (v1 : Int32) (v2 : Int32) (v3 : Int32) (v4 : Int64) (v6 : Int32) (v7 : Int32) (σ : rS) : J Γ rm11_decode eZ cX11_decode RX11 8 (some .boolean) tg 0 0 265 [(0, aR 29 v0), (1, aI v1), (2, aI v2), (3, aI v3), (4, aL v4), (6, aI v6), (7, aI v7)] [] σ (B11_decode_265 N K191 K265 v0 v1 v2 v3 v4 v6 v7 σ) := by
  unfold B11_decode_265
  refine j_iload (pc := 265) 6 dX11_decode_265 rfl ?_
  refine j_iload (pc := 267) 5 dX11_decode_267 rfl ?_
  refine j_icmpge (pc := 269) (tgt := 299) dX11_decode_269 rfl (fun _ => ?_) (fun _ => ?_)
  · refine j_goto (pc := 299) (tgt := 191) dX11_decode_299 rfl ?_
    refine j_sub [0, 1, 2, 3] (lv' := [(0, aR 29 v0), (1, aI v1), (2, aI v2), (3, aI v3)]) rfl ?_
    exact hK191 v0 v1 v2 v3 σ
  · refine j_aload_n (pc := 272) 0 dX11_decode_272 rfl rfl ?_
    refine j_getF (pc := 273) fd_29_9 tw_4_72 dX11_decode_273 ?_
    refine j_aload_n (pc := 276) 0 dX11_decode_276 rfl rfl ?_
    refine j_getI (pc := 277) fd_29_10 tw_4_73 dX11_decode_277 ?_
    refine j_lload (pc := 280) 4 dX11_decode_280 rfl ?_
    refine j_last (pc := 282) rfl rfl rfl dX11_decode_282 (fun j1 => ?_)
    refine j_lets (fun σ2 => ?_)
    refine j_aload_n (pc := 283) 0 dX11_decode_283 rfl rfl ?_
    refine j_dup (pc := 284) dX11_decode_284 rfl ?_
    refine j_getI (pc := 285) fd_29_10 tw_4_73 dX11_decode_285 ?_
    refine j_iconst (pc := 288) (v := 1) (by decide) dX11_decode_288 ?_
    refine j_iadd (pc := 289) dX11_decode_289 ?_
    refine j_putI (pc := 290) fd_29_10 rfl rfl tw_4_73 dX11_decode_290 ?_
    refine j_lets (fun σ3 => ?_)
    refine j_iinc (pc := 293) (w := 1) (lv' := [(7, aI (v7 + 1)), (0, aR 29 v0), (1, aI v1), (2, aI v2), (3, aI v3), (4, aL v4), (6, aI v6)]) 6 dX11_decode_293 rfl (by decide) (Nat.le_of_ble_eq_true rfl) rfl ?_
    refine j_goto (pc := 296) (tgt := 265) dX11_decode_296 rfl ?_
    refine j_sub [1, 2, 3, 4, 5, 6, 0] (lv' := [(0, aR 29 v0), (1, aI v1), (2, aI v2), (3, aI v3), (4, aL v4), (6, aI v6), (7, aI (v7 + 1))]) rfl ?_
    exact hK265 v0 v1 v2 v3 v4 v6 (v7 + 1) σ3
theorem jl11_decode_265 {Γ : jX} {tg : Bool × rS} (N : Nat) (K191 : Nat → Int32 → Int32 → Int32 → rS → Option (Bool × rS)) (hK191 : ∀ (v0 : Nat) (v1 : Int32) (v2 : Int32) (v3 : Int32) (σ : rS), J Γ rm11_decode eZ cX11_decode RX11 8 (some .boolean) tg 0 0 191 [(0, aR 29 v0), (1, aI v1), (2, aI v2), (3, aI v3)] [] σ (K191 v0 v1 v2 v3 σ)) : ∀ (n : Nat) (v0 : Nat) (v1 : Int32) (v2 : Int32) (v3 : Int32) (v4 : Int64) (v6 : Int32) (v7 : Int32) (σ : rS), J Γ rm11_decode eZ cX11_decode RX11 8 (some .boolean) tg 0 0 265 [(0, aR 29 v0), (1, aI v1), (2, aI v2), (3, aI v3), (4, aL v4), (6, aI v6), (7, aI v7)] [] σ (L11_decode_265 N K191 n v0 v1 v2 v3 v4 v6 v7 σ) := by
  intro n
  induction n with
  | zero => intro v0 v1 v2 v3 v4 v6 v7 σ; exact j_none
  | succ n ih => intro v0 v1 v2 v3 v4 v6 v7 σ; exact jb11_decode_265 N K191 (L11_decode_265 N K191 n) hK191 ih v0 v1 v2 v3 v4 v6 v7 σ
set_option maxRecDepth 20000 in
set_option maxHeartbeats 4000000 in
theorem jb11_decode_262 {Γ : jX} {tg : Bool × rS} (N : Nat) (K191 : Nat → Int32 → Int32 → Int32 → rS → Option (Bool × rS)) (hK191 : ∀ (v0 : Nat) (v1 : Int32) (v2 : Int32) (v3 : Int32) (σ : rS), J Γ rm11_decode eZ cX11_decode RX11 8 (some .boolean) tg 0 0 191 [(0, aR 29 v0), (1, aI v1), (2, aI v2), (3, aI v3)] [] σ (K191 v0 v1 v2 v3 σ)) (v0 : Nat) (v1 : Int32) (v2 : Int32) (v3 : Int32) (v4 : Int64) (v6 : Int32) (σ : rS) : J Γ rm11_decode eZ cX11_decode RX11 8 (some .boolean) tg 0 0 262 [(0, aR 29 v0), (1, aI v1), (2, aI v2), (3, aI v3), (4, aL v4), (6, aI v6)] [] σ (B11_decode_262 N K191 v0 v1 v2 v3 v4 v6 σ) := by
  unfold B11_decode_262
  refine j_iconst (pc := 262) (v := 0) (by decide) dX11_decode_262 ?_
  refine j_istore (pc := 263) (lv' := [(7, aI 0), (0, aR 29 v0), (1, aI v1), (2, aI v2), (3, aI v3), (4, aL v4), (6, aI v6)]) dX11_decode_263 (Nat.le_of_ble_eq_true rfl) rfl ?_
  refine j_sub [1, 2, 3, 4, 5, 6, 0] (lv' := [(0, aR 29 v0), (1, aI v1), (2, aI v2), (3, aI v3), (4, aL v4), (6, aI v6), (7, aI 0)]) rfl ?_
  exact jl11_decode_265 N K191 hK191 N v0 v1 v2 v3 v4 v6 0 σ
set_option maxRecDepth 20000 in
set_option maxHeartbeats 4000000 in
theorem jb11_decode_191 {Γ : jX} {tg : Bool × rS} (N : Nat) (K191 : Nat → Int32 → Int32 → Int32 → rS → Option (Bool × rS)) (hK191 : ∀ (v0 : Nat) (v1 : Int32) (v2 : Int32) (v3 : Int32) (σ : rS), J Γ rm11_decode eZ cX11_decode RX11 8 (some .boolean) tg 0 0 191 [(0, aR 29 v0), (1, aI v1), (2, aI v2), (3, aI v3)] [] σ (K191 v0 v1 v2 v3 σ)) (v0 : Nat) (v1 : Int32) (v2 : Int32) (v3 : Int32) (σ : rS) : J Γ rm11_decode eZ cX11_decode RX11 8 (some .boolean) tg 0 0 191 [(0, aR 29 v0), (1, aI v1), (2, aI v2), (3, aI v3)] [] σ (B11_decode_191 N K191 v0 v1 v2 v3 σ) := by
  unfold B11_decode_191
  refine j_aload_n (pc := 191) 0 dX11_decode_191 rfl rfl ?_
  refine j_getI (pc := 192) fd_29_10 tw_4_73 dX11_decode_192 ?_
  refine j_iload_n (pc := 195) 3 dX11_decode_195 rfl rfl ?_
  refine j_icmpge (pc := 196) (tgt := 302) dX11_decode_196 rfl (fun _ => ?_) (fun _ => ?_)
  · refine j_iload_n (pc := 302) 2 dX11_decode_302 rfl rfl ?_
    refine j_iconst (pc := 303) (v := 2) (by decide) dX11_decode_303 ?_
    refine j_icmpne (pc := 304) (tgt := 311) dX11_decode_304 rfl (fun _ => ?_) (fun _ => ?_)
    · refine j_sub [0, 2] (lv' := [(0, aR 29 v0), (2, aI v2)]) rfl ?_
      exact jb11_decode_311 N  v0 v2 σ
    · refine j_aload_n (pc := 307) 0 dX11_decode_307 rfl rfl ?_
      refine j_callVV (pc := 308) (As := []) (st := []) (fun l => c11_sums l N v0) cs_RX11_232 rfl rfl rfl rfl (Nat.le_of_ble_eq_true rfl) ⟨(Nat.le_of_ble_eq_true rfl), (Nat.le_of_ble_eq_true rfl)⟩ ⟨(Nat.le_of_ble_eq_true rfl), (Nat.le_of_ble_eq_true rfl)⟩ dX11_decode_308 (fun r1 σ2 => ?_)
      refine j_sub [0, 2] (lv' := [(0, aR 29 v0), (2, aI v2)]) rfl ?_
      exact jb11_decode_311 N  v0 v2 σ2
  · refine j_aload_n (pc := 199) 0 dX11_decode_199 rfl rfl ?_
    refine j_iload_n (pc := 200) 1 dX11_decode_200 rfl rfl ?_
    refine j_callVZ (pc := 201) (As := [aI v1]) (st := []) (fun l => c11_takes l N v0 v1) cs_RX11_274 rfl rfl rfl rfl (Nat.le_of_ble_eq_true rfl) ⟨(Nat.le_of_ble_eq_true rfl), (Nat.le_of_ble_eq_true rfl)⟩ ⟨(Nat.le_of_ble_eq_true rfl), (Nat.le_of_ble_eq_true rfl)⟩ dX11_decode_201 (fun r3 σ4 => ?_)
    refine j_ifneB (pc := 204) (tgt := 209) dX11_decode_204 rfl (fun _ => ?_) (fun _ => ?_)
    · refine j_aload_n (pc := 209) 0 dX11_decode_209 rfl rfl ?_
      refine j_getL (pc := 210) fd_29_20 tw_4_83 dX11_decode_210 ?_
      refine j_letl (fun x5 => ?_)
      refine j_lstore (pc := 213) (lv' := [(4, aL x5), (0, aR 29 v0), (1, aI v1), (2, aI v2), (3, aI v3)]) dX11_decode_213 (Nat.le_of_ble_eq_true rfl) rfl ?_
      refine j_iconst (pc := 215) (v := 1) (by decide) dX11_decode_215 ?_
      refine j_istore (pc := 216) (lv' := [(6, aI 1), (4, aL x5), (0, aR 29 v0), (1, aI v1), (2, aI v2), (3, aI v3)]) dX11_decode_216 (Nat.le_of_ble_eq_true rfl) rfl ?_
      refine j_iload_n (pc := 218) 4 dX11_decode_218 rfl rfl ?_
      refine j_iconst (pc := 219) (v := 3) (by decide) dX11_decode_219 ?_
      refine j_icmpne (pc := 220) (tgt := 262) dX11_decode_220 rfl (fun _ => ?_) (fun _ => ?_)
      · refine j_sub [2, 3, 4, 5, 1, 0] (lv' := [(0, aR 29 v0), (1, aI v1), (2, aI v2), (3, aI v3), (4, aL x5), (6, aI 1)]) rfl ?_
        exact jb11_decode_262 N K191 hK191 v0 v1 v2 v3 x5 1 σ4
      · refine j_aload_n (pc := 223) 2 dX11_decode_223 rfl rfl ?_
        refine j_iload_n (pc := 224) 3 dX11_decode_224 rfl rfl ?_
        refine j_callVZ (pc := 225) (As := [aI v1]) (st := []) (fun l => c11_takes l N v0 v1) cs_RX11_274 rfl rfl rfl rfl (Nat.le_of_ble_eq_true rfl) ⟨(Nat.le_of_ble_eq_true rfl), (Nat.le_of_ble_eq_true rfl)⟩ ⟨(Nat.le_of_ble_eq_true rfl), (Nat.le_of_ble_eq_true rfl)⟩ dX11_decode_225 (fun r6 σ7 => ?_)
        refine j_ifeqB (pc := 228) (tgt := 251) dX11_decode_228 rfl (fun _ => ?_) (fun _ => ?_)
        · refine j_iconst (pc := 251) (v := 0) (by decide) dX11_decode_251 ?_
          exact j_zret0 (pc := 252) rfl (Nat.le_of_ble_eq_true rfl) (Nat.le_of_ble_eq_true rfl) dX11_decode_252
        · refine j_aload_n (pc := 231) 2 dX11_decode_231 rfl rfl ?_
          refine j_getL (pc := 232) fd_29_20 tw_4_83 dX11_decode_232 ?_
          refine j_lconst (pc := 235) (v := 0) (by decide) dX11_decode_235 ?_
          refine j_iload_n (pc := 236) 5 dX11_decode_236 rfl rfl ?_
          refine j_aload_n (pc := 237) 2 dX11_decode_237 rfl rfl ?_
          refine j_getI (pc := 238) fd_29_10 tw_4_73 dX11_decode_238 ?_
          refine j_isub (pc := 241) dX11_decode_241 ?_
          refine j_iconst (pc := 242) (v := 1) (by decide) dX11_decode_242 ?_
          refine j_isub (pc := 243) dX11_decode_243 ?_
          refine j_i2l (pc := 244) dX11_decode_244 ?_
          refine j_callSZ (pc := 245) (As := [aL (gL σ7 29 v0 20), aL 0, aL (Int32.toInt64 ((v3 - (gI σ7 29 v0 10)) - 1))]) (st := []) (fun l => c11_in l (gL σ7 29 v0 20) 0 (Int32.toInt64 ((v3 - (gI σ7 29 v0 10)) - 1))) cs_RX11_140 rfl rfl (Nat.le_of_ble_eq_true rfl) ⟨(Nat.le_of_ble_eq_true rfl), (Nat.le_of_ble_eq_true rfl)⟩ ⟨(Nat.le_of_ble_eq_true rfl), (Nat.le_of_ble_eq_true rfl)⟩ dX11_decode_245 (fun r8 σ9 => ?_)
          refine j_ifneB (pc := 248) (tgt := 253) dX11_decode_248 rfl (fun _ => ?_) (fun _ => ?_)
          · refine j_aload_n (pc := 253) 2 dX11_decode_253 rfl rfl ?_
            refine j_getL (pc := 254) fd_29_20 tw_4_83 dX11_decode_254 ?_
            refine j_l2i (pc := 257) dX11_decode_257 ?_
            refine j_iconst (pc := 258) (v := 1) (by decide) dX11_decode_258 ?_
            refine j_iadd (pc := 259) dX11_decode_259 ?_
            refine j_leti (fun x10 => ?_)
            refine j_istore (pc := 260) (lv' := [(6, aI x10), (4, aL x5), (0, aR 29 v0), (1, aI v1), (2, aI v2), (3, aI v3)]) dX11_decode_260 (Nat.le_of_ble_eq_true rfl) rfl ?_
            refine j_sub [2, 3, 4, 5, 1, 0] (lv' := [(0, aR 29 v0), (1, aI v1), (2, aI v2), (3, aI v3), (4, aL x5), (6, aI x10)]) rfl ?_
            exact jb11_decode_262 N K191 hK191 v0 v1 v2 v3 x5 x10 σ9
          · refine j_iconst (pc := 251) (v := 0) (by decide) dX11_decode_251 ?_
            exact j_zret0 (pc := 252) rfl (Nat.le_of_ble_eq_true rfl) (Nat.le_of_ble_eq_true rfl) dX11_decode_252
    · refine j_iconst (pc := 207) (v := 0) (by decide) dX11_decode_207 ?_
      exact j_zret0 (pc := 208) rfl (Nat.le_of_ble_eq_true rfl) (Nat.le_of_ble_eq_true rfl) dX11_decode_208
theorem jl11_decode_191 {Γ : jX} {tg : Bool × rS} (N : Nat) : ∀ (n : Nat) (v0 : Nat) (v1 : Int32) (v2 : Int32) (v3 : Int32) (σ : rS), J Γ rm11_decode eZ cX11_decode RX11 8 (some .boolean) tg 0 0 191 [(0, aR 29 v0), (1, aI v1), (2, aI v2), (3, aI v3)] [] σ (L11_decode_191 N n v0 v1 v2 v3 σ) := by
  intro n
  induction n with
  | zero => intro v0 v1 v2 v3 σ; exact j_none
  | succ n ih => intro v0 v1 v2 v3 σ; exact jb11_decode_191 N (L11_decode_191 N n) ih v0 v1 v2 v3 σ
set_option maxRecDepth 20000 in
set_option maxHeartbeats 4000000 in
theorem jb11_decode_99 {Γ : jX} {tg : Bool × rS} (N : Nat) (K85 : Nat → Int32 → Int32 → Int32 → Int32 → rS → Option (Bool × rS)) (K99 : Nat → Int32 → Int32 → Int32 → Int32 → Int64 → Int32 → rS → Option (Bool × rS)) (hK85 : ∀ (v0 : Nat) (v1 : Int32) (v2 : Int32) (v3 : Int32) (v4 : Int32) (σ : rS), J Γ rm11_decode eZ cX11_decode RX11 8 (some .boolean) tg 0 0 85 [(0, aR 29 v0), (1, aI v1), (2, aI v2), (3, aI v3), (4, aI v4)] [] σ (K85 v0 v1 v2 v3 v4 σ)) (hK99 : ∀ (v0 : Nat) (v1 : Int32) (v2 : Int32) (v3 : Int32) (v4 : Int32) (v5 : Int64) (v7 : Int32) (σ : rS), J Γ rm11_decode eZ cX11_decode RX11 8 (some .boolean) tg 0 0 99 [(0, aR 29 v0), (1, aI v1), (2, aI v2), (3, aI v3), (4, aI v4), (5, aL v5), (7, aI v7)] [] σ (K99 v0 v1 v2 v3 v4 v5 v7 σ)) (v0 : Nat) (v1 : Int32) (v2 : Int32) (v3 : Int32) (v4 : Int32) (v5 : Int64) (v7 : Int32) (σ : rS) : J Γ rm11_decode eZ cX11_decode RX11 8 (some .boolean) tg 0 0 99 [(0, aR 29 v0), (1, aI v1), (2, aI v2), (3, aI v3), (4, aI v4), (5, aL v5), (7, aI v7)] [] σ (B11_decode_99 N K85 K99 v0 v1 v2 v3 v4 v5 v7 σ) := by
  unfold B11_decode_99
  refine j_iload (pc := 99) 6 dX11_decode_99 rfl ?_
  refine j_iload (pc := 101) 4 dX11_decode_101 rfl ?_
  refine j_icmpge (pc := 103) (tgt := 149) dX11_decode_103 rfl (fun _ => ?_) (fun _ => ?_)
  · refine j_aload_n (pc := 149) 0 dX11_decode_149 rfl rfl ?_
    refine j_getF (pc := 150) fd_29_9 tw_4_72 dX11_decode_150 ?_
    refine j_aload_n (pc := 153) 0 dX11_decode_153 rfl rfl ?_
    refine j_getI (pc := 154) fd_29_10 tw_4_73 dX11_decode_154 ?_
    refine j_lload (pc := 157) 5 dX11_decode_157 rfl ?_
    refine j_bipush (pc := 159) (v := 64) (by decide) dX11_decode_159 ?_
    refine j_bipush (pc := 161) (v := 8) (by decide) dX11_decode_161 ?_
    refine j_iload (pc := 163) 4 dX11_decode_163 rfl ?_
    refine j_imul (pc := 165) dX11_decode_165 ?_
    refine j_isub (pc := 166) dX11_decode_166 ?_
    refine j_lshl (pc := 167) dX11_decode_167 ?_
    refine j_bipush (pc := 168) (v := 64) (by decide) dX11_decode_168 ?_
    refine j_bipush (pc := 170) (v := 8) (by decide) dX11_decode_170 ?_
    refine j_iload (pc := 172) 4 dX11_decode_172 rfl ?_
    refine j_imul (pc := 174) dX11_decode_174 ?_
    refine j_isub (pc := 175) dX11_decode_175 ?_
    refine j_lshr (pc := 176) dX11_decode_176 ?_
    refine j_last (pc := 177) rfl rfl rfl dX11_decode_177 (fun j1 => ?_)
    refine j_lets (fun σ2 => ?_)
    refine j_aload_n (pc := 178) 0 dX11_decode_178 rfl rfl ?_
    refine j_dup (pc := 179) dX11_decode_179 rfl ?_
    refine j_getI (pc := 180) fd_29_10 tw_4_73 dX11_decode_180 ?_
    refine j_iconst (pc := 183) (v := 1) (by decide) dX11_decode_183 ?_
    refine j_iadd (pc := 184) dX11_decode_184 ?_
    refine j_putI (pc := 185) fd_29_10 rfl rfl tw_4_73 dX11_decode_185 ?_
    refine j_lets (fun σ3 => ?_)
    refine j_goto (pc := 188) (tgt := 85) dX11_decode_188 rfl ?_
    refine j_sub [0, 1, 2, 3, 4] (lv' := [(0, aR 29 v0), (1, aI v1), (2, aI v2), (3, aI v3), (4, aI v4)]) rfl ?_
    exact hK85 v0 v1 v2 v3 v4 σ3
  · refine j_lload (pc := 106) 5 dX11_decode_106 rfl ?_
    refine j_aload_n (pc := 108) 0 dX11_decode_108 rfl rfl ?_
    refine j_getF (pc := 109) fd_29_14 tw_4_77 dX11_decode_109 ?_
    refine j_sipush (pc := 112) (v := 400) (by decide) dX11_decode_112 ?_
    refine j_iload_n (pc := 115) 1 dX11_decode_115 rfl rfl ?_
    refine j_imul (pc := 116) dX11_decode_116 ?_
    refine j_aload_n (pc := 117) 0 dX11_decode_117 rfl rfl ?_
    refine j_getI (pc := 118) fd_29_18 tw_4_81 dX11_decode_118 ?_
    refine j_iadd (pc := 121) dX11_decode_121 ?_
    refine j_iald (pc := 122) rfl rfl rfl dX11_decode_122 (fun j4 => ?_)
    refine j_i2l (pc := 123) dX11_decode_123 ?_
    refine j_bipush (pc := 124) (v := 8) (by decide) dX11_decode_124 ?_
    refine j_iload (pc := 126) 6 dX11_decode_126 rfl ?_
    refine j_imul (pc := 128) dX11_decode_128 ?_
    refine j_lshl (pc := 129) dX11_decode_129 ?_
    refine j_lor (pc := 130) dX11_decode_130 ?_
    refine j_letl (fun x5 => ?_)
    refine j_lstore (pc := 131) (lv' := [(5, aL x5), (0, aR 29 v0), (1, aI v1), (2, aI v2), (3, aI v3), (4, aI v4), (7, aI v7)]) dX11_decode_131 (Nat.le_of_ble_eq_true rfl) rfl ?_
    refine j_aload_n (pc := 133) 1 dX11_decode_133 rfl rfl ?_
    refine j_dup (pc := 134) dX11_decode_134 rfl ?_
    refine j_getI (pc := 135) fd_29_18 tw_4_81 dX11_decode_135 ?_
    refine j_iconst (pc := 138) (v := 1) (by decide) dX11_decode_138 ?_
    refine j_iadd (pc := 139) dX11_decode_139 ?_
    refine j_putI (pc := 140) fd_29_18 rfl rfl tw_4_81 dX11_decode_140 ?_
    refine j_lets (fun σ6 => ?_)
    refine j_iinc (pc := 143) (w := 1) (lv' := [(7, aI (v7 + 1)), (5, aL x5), (0, aR 29 v0), (1, aI v1), (2, aI v2), (3, aI v3), (4, aI v4)]) 6 dX11_decode_143 rfl (by decide) (Nat.le_of_ble_eq_true rfl) rfl ?_
    refine j_goto (pc := 146) (tgt := 99) dX11_decode_146 rfl ?_
    refine j_sub [2, 3, 4, 5, 6, 1, 0] (lv' := [(0, aR 29 v0), (1, aI v1), (2, aI v2), (3, aI v3), (4, aI v4), (5, aL x5), (7, aI (v7 + 1))]) rfl ?_
    exact hK99 v0 v1 v2 v3 v4 x5 (v7 + 1) σ6
theorem jl11_decode_99 {Γ : jX} {tg : Bool × rS} (N : Nat) (K85 : Nat → Int32 → Int32 → Int32 → Int32 → rS → Option (Bool × rS)) (hK85 : ∀ (v0 : Nat) (v1 : Int32) (v2 : Int32) (v3 : Int32) (v4 : Int32) (σ : rS), J Γ rm11_decode eZ cX11_decode RX11 8 (some .boolean) tg 0 0 85 [(0, aR 29 v0), (1, aI v1), (2, aI v2), (3, aI v3), (4, aI v4)] [] σ (K85 v0 v1 v2 v3 v4 σ)) : ∀ (n : Nat) (v0 : Nat) (v1 : Int32) (v2 : Int32) (v3 : Int32) (v4 : Int32) (v5 : Int64) (v7 : Int32) (σ : rS), J Γ rm11_decode eZ cX11_decode RX11 8 (some .boolean) tg 0 0 99 [(0, aR 29 v0), (1, aI v1), (2, aI v2), (3, aI v3), (4, aI v4), (5, aL v5), (7, aI v7)] [] σ (L11_decode_99 N K85 n v0 v1 v2 v3 v4 v5 v7 σ) := by
  intro n
  induction n with
  | zero => intro v0 v1 v2 v3 v4 v5 v7 σ; exact j_none
  | succ n ih => intro v0 v1 v2 v3 v4 v5 v7 σ; exact jb11_decode_99 N K85 (L11_decode_99 N K85 n) hK85 ih v0 v1 v2 v3 v4 v5 v7 σ
set_option maxRecDepth 20000 in
set_option maxHeartbeats 4000000 in
theorem jb11_decode_85 {Γ : jX} {tg : Bool × rS} (N : Nat) (K85 : Nat → Int32 → Int32 → Int32 → Int32 → rS → Option (Bool × rS)) (hK85 : ∀ (v0 : Nat) (v1 : Int32) (v2 : Int32) (v3 : Int32) (v4 : Int32) (σ : rS), J Γ rm11_decode eZ cX11_decode RX11 8 (some .boolean) tg 0 0 85 [(0, aR 29 v0), (1, aI v1), (2, aI v2), (3, aI v3), (4, aI v4)] [] σ (K85 v0 v1 v2 v3 v4 σ)) (v0 : Nat) (v1 : Int32) (v2 : Int32) (v3 : Int32) (v4 : Int32) (σ : rS) : J Γ rm11_decode eZ cX11_decode RX11 8 (some .boolean) tg 0 0 85 [(0, aR 29 v0), (1, aI v1), (2, aI v2), (3, aI v3), (4, aI v4)] [] σ (B11_decode_85 N K85 v0 v1 v2 v3 v4 σ) := by
  unfold B11_decode_85
  refine j_aload_n (pc := 85) 0 dX11_decode_85 rfl rfl ?_
  refine j_getI (pc := 86) fd_29_10 tw_4_73 dX11_decode_86 ?_
  refine j_iload_n (pc := 89) 3 dX11_decode_89 rfl rfl ?_
  refine j_icmpge (pc := 90) (tgt := 191) dX11_decode_90 rfl (fun _ => ?_) (fun _ => ?_)
  · refine j_sub [0, 1, 2, 3] (lv' := [(0, aR 29 v0), (1, aI v1), (2, aI v2), (3, aI v3)]) rfl ?_
    exact jl11_decode_191 N  N v0 v1 v2 v3 σ
  · refine j_lconst (pc := 93) (v := 0) (by decide) dX11_decode_93 ?_
    refine j_lstore (pc := 94) (lv' := [(5, aL 0), (0, aR 29 v0), (1, aI v1), (2, aI v2), (3, aI v3), (4, aI v4)]) dX11_decode_94 (Nat.le_of_ble_eq_true rfl) rfl ?_
    refine j_iconst (pc := 96) (v := 0) (by decide) dX11_decode_96 ?_
    refine j_istore (pc := 97) (lv' := [(7, aI 0), (5, aL 0), (0, aR 29 v0), (1, aI v1), (2, aI v2), (3, aI v3), (4, aI v4)]) dX11_decode_97 (Nat.le_of_ble_eq_true rfl) rfl ?_
    refine j_sub [2, 3, 4, 5, 6, 1, 0] (lv' := [(0, aR 29 v0), (1, aI v1), (2, aI v2), (3, aI v3), (4, aI v4), (5, aL 0), (7, aI 0)]) rfl ?_
    exact jl11_decode_99 N K85 hK85 N v0 v1 v2 v3 v4 0 0 σ
theorem jl11_decode_85 {Γ : jX} {tg : Bool × rS} (N : Nat) : ∀ (n : Nat) (v0 : Nat) (v1 : Int32) (v2 : Int32) (v3 : Int32) (v4 : Int32) (σ : rS), J Γ rm11_decode eZ cX11_decode RX11 8 (some .boolean) tg 0 0 85 [(0, aR 29 v0), (1, aI v1), (2, aI v2), (3, aI v3), (4, aI v4)] [] σ (L11_decode_85 N n v0 v1 v2 v3 v4 σ) := by
  intro n
  induction n with
  | zero => intro v0 v1 v2 v3 v4 σ; exact j_none
  | succ n ih => intro v0 v1 v2 v3 v4 σ; exact jb11_decode_85 N (L11_decode_85 N n) ih v0 v1 v2 v3 v4 σ
set_option maxRecDepth 20000 in
set_option maxHeartbeats 4000000 in
theorem jb11_decode_40 {Γ : jX} {tg : Bool × rS} (N : Nat) (v0 : Nat) (v1 : Int32) (v2 : Int32) (v3 : Int32) (s0 : Int32) (σ : rS) : J Γ rm11_decode eZ cX11_decode RX11 8 (some .boolean) tg 0 0 40 [(0, aR 29 v0), (1, aI v1), (2, aI v2), (3, aI v3)] [aI s0] σ (B11_decode_40 N v0 v1 v2 v3 s0 σ) := by
  unfold B11_decode_40
  refine j_istore (pc := 40) (lv' := [(4, aI s0), (0, aR 29 v0), (1, aI v1), (2, aI v2), (3, aI v3)]) dX11_decode_40 (Nat.le_of_ble_eq_true rfl) rfl ?_
  refine j_iload (pc := 42) 0 dX11_decode_42 rfl ?_
  refine j_i2l (pc := 44) dX11_decode_44 ?_
  refine j_lconst (pc := 45) (v := 1) (by decide) dX11_decode_45 ?_
  refine j_ldc2 (pc := 46) tw_5_177 dX11_decode_46 ?_
  refine j_callSZ (pc := 49) (As := [aL (Int32.toInt64 s0), aL 1, aL 8]) (st := []) (fun l => c11_in l (Int32.toInt64 s0) 1 8) cs_RX11_140 rfl rfl (Nat.le_of_ble_eq_true rfl) ⟨(Nat.le_of_ble_eq_true rfl), (Nat.le_of_ble_eq_true rfl)⟩ ⟨(Nat.le_of_ble_eq_true rfl), (Nat.le_of_ble_eq_true rfl)⟩ dX11_decode_49 (fun r1 σ2 => ?_)
  refine j_ifeqB (pc := 52) (tgt := 73) dX11_decode_52 rfl (fun _ => ?_) (fun _ => ?_)
  · refine j_iconst (pc := 73) (v := 0) (by decide) dX11_decode_73 ?_
    exact j_zret0 (pc := 74) rfl (Nat.le_of_ble_eq_true rfl) (Nat.le_of_ble_eq_true rfl) dX11_decode_74
  · refine j_aload_n (pc := 55) 1 dX11_decode_55 rfl rfl ?_
    refine j_getI (pc := 56) fd_29_19 tw_4_82 dX11_decode_56 ?_
    refine j_aload_n (pc := 59) 1 dX11_decode_59 rfl rfl ?_
    refine j_getI (pc := 60) fd_29_18 tw_4_81 dX11_decode_60 ?_
    refine j_isub (pc := 63) dX11_decode_63 ?_
    refine j_iconst (pc := 64) (v := 1) (by decide) dX11_decode_64 ?_
    refine j_iload_n (pc := 65) 4 dX11_decode_65 rfl rfl ?_
    refine j_iload (pc := 66) 0 dX11_decode_66 rfl ?_
    refine j_imul (pc := 68) dX11_decode_68 ?_
    refine j_iadd (pc := 69) dX11_decode_69 ?_
    refine j_icmpeq (pc := 70) (tgt := 75) dX11_decode_70 rfl (fun _ => ?_) (fun _ => ?_)
    · refine j_aload_n (pc := 75) 1 dX11_decode_75 rfl rfl ?_
      refine j_dup (pc := 76) dX11_decode_76 rfl ?_
      refine j_getI (pc := 77) fd_29_18 tw_4_81 dX11_decode_77 ?_
      refine j_iconst (pc := 80) (v := 1) (by decide) dX11_decode_80 ?_
      refine j_iadd (pc := 81) dX11_decode_81 ?_
      refine j_putI (pc := 82) fd_29_18 rfl rfl tw_4_81 dX11_decode_82 ?_
      refine j_lets (fun σ3 => ?_)
      refine j_sub [1, 2, 3, 4, 0] (lv' := [(0, aR 29 v0), (1, aI v1), (2, aI v2), (3, aI v3), (4, aI s0)]) rfl ?_
      exact jl11_decode_85 N  N v0 v1 v2 v3 s0 σ3
    · refine j_iconst (pc := 73) (v := 0) (by decide) dX11_decode_73 ?_
      exact j_zret0 (pc := 74) rfl (Nat.le_of_ble_eq_true rfl) (Nat.le_of_ble_eq_true rfl) dX11_decode_74
set_option maxRecDepth 20000 in
set_option maxHeartbeats 4000000 in
theorem j11_decode {Γ : jX} {tg : Bool × rS} (N : Nat) (v0 : Nat) (v1 : Int32) (v2 : Int32) (v3 : Int32) (σ : rS) : J Γ rm11_decode eZ cX11_decode RX11 8 (some .boolean) tg 0 0 0 [(0, aR 29 v0), (1, aI v1), (2, aI v2), (3, aI v3)] [] σ (f11_decode N v0 v1 v2 v3 σ) := by
  unfold f11_decode
  refine j_aload_n (pc := 0) 0 dX11_decode_0 rfl rfl ?_
  refine j_iconst (pc := 1) (v := 0) (by decide) dX11_decode_1 ?_
  refine j_putI (pc := 2) fd_29_10 rfl rfl tw_4_73 dX11_decode_2 ?_
  refine j_lets (fun σ1 => ?_)
  refine j_iload_n (pc := 5) 2 dX11_decode_5 rfl rfl ?_
  refine j_iconst (pc := 6) (v := 4) (by decide) dX11_decode_6 ?_
  refine j_icmpne (pc := 7) (tgt := 191) dX11_decode_7 rfl (fun _ => ?_) (fun _ => ?_)
  · exact jl11_decode_191 N  N v0 v1 v2 v3 σ1
  · refine j_aload_n (pc := 10) 0 dX11_decode_10 rfl rfl ?_
    refine j_getI (pc := 11) fd_29_18 tw_4_81 dX11_decode_11 ?_
    refine j_aload_n (pc := 14) 0 dX11_decode_14 rfl rfl ?_
    refine j_getI (pc := 15) fd_29_19 tw_4_82 dX11_decode_15 ?_
    refine j_icmpge (pc := 18) (tgt := 39) dX11_decode_18 rfl (fun _ => ?_) (fun _ => ?_)
    · refine j_iconst (pc := 39) (v := 0) (by decide) dX11_decode_39 ?_
      exact jb11_decode_40 N  v0 v1 v2 v3 0 σ1
    · refine j_aload_n (pc := 21) 0 dX11_decode_21 rfl rfl ?_
      refine j_getF (pc := 22) fd_29_14 tw_4_77 dX11_decode_22 ?_
      refine j_sipush (pc := 25) (v := 400) (by decide) dX11_decode_25 ?_
      refine j_iload_n (pc := 28) 1 dX11_decode_28 rfl rfl ?_
      refine j_imul (pc := 29) dX11_decode_29 ?_
      refine j_aload_n (pc := 30) 0 dX11_decode_30 rfl rfl ?_
      refine j_getI (pc := 31) fd_29_18 tw_4_81 dX11_decode_31 ?_
      refine j_iadd (pc := 34) dX11_decode_34 ?_
      refine j_iald (pc := 35) rfl rfl rfl dX11_decode_35 (fun j2 => ?_)
      refine j_goto (pc := 36) (tgt := 40) dX11_decode_36 rfl ?_
      exact jb11_decode_40 N  v0 v1 v2 v3 (gI σ1 44 v0 j2) σ1
theorem c11_decode (l : Launch) (N : Nat) (v0 : Nat) (v1 : Int32) (v2 : Int32) (v3 : Int32) : Ctr l yX11_decode cX11_decode 8 (some .boolean) rm11_decode eZ [aR 29 v0, aI v1, aI v2, aI v3] (f11_decode N v0 v1 v2 v3) := ctr_of (lv := [(0, aR 29 v0), (1, aI v1), (2, aI v2), (3, aI v3)]) (by decide +kernel) (fun _ => rfl) (fun _ => (Nat.le_of_ble_eq_true rfl)) (fun _ h => lvl_als h rfl) (fun _ σ _ => j11_decode N v0 v1 v2 v3 σ)
