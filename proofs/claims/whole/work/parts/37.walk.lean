abbrev rm11_kind : Room := { frames := 2, cells := 0, slots := 0, locals := 46 }
set_option maxRecDepth 20000 in
set_option maxHeartbeats 4000000 in
theorem j11_kind {Γ : jX} {tg : Int32 × rS} (v0 : Nat) (v1 : Int32) (σ : rS) : J Γ rm11_kind eI cX11_kind RX11 2 (some .int) tg 0 0 0 [(0, aR 29 v0), (1, aI v1)] [] σ (f11_kind v0 v1 σ) := by
  unfold f11_kind
  refine j_aload_n (pc := 0) 0 dX11_kind_0 rfl rfl ?_
  refine j_iload_n (pc := 1) 1 dX11_kind_1 rfl rfl ?_
  refine j_callVZ (pc := 2) (As := [aI v1]) (st := []) (fun l => c11_isRow l v0 v1) cs_RX11_154 rfl rfl rfl rfl (Nat.le_of_ble_eq_true rfl) ⟨(Nat.le_of_ble_eq_true rfl), (Nat.le_of_ble_eq_true rfl)⟩ ⟨(Nat.le_of_ble_eq_true rfl), (Nat.le_of_ble_eq_true rfl)⟩ dX11_kind_2 (fun r1 σ2 => ?_)
  refine j_ifeqB (pc := 5) (tgt := 17) dX11_kind_5 rfl (fun _ => ?_) (fun _ => ?_)
  · refine j_bipush (pc := 17) (v := (-101)) (by decide) dX11_kind_17 ?_
    exact j_ireturn (pc := 19) rfl (Nat.le_of_ble_eq_true rfl) (Nat.le_of_ble_eq_true rfl) dX11_kind_19
  · refine j_aload_n (pc := 8) 0 dX11_kind_8 rfl rfl ?_
    refine j_getF (pc := 9) fd_29_4 tw_4_67 dX11_kind_9 ?_
    refine j_iload_n (pc := 12) 1 dX11_kind_12 rfl rfl ?_
    refine j_iald (pc := 13) rfl rfl rfl dX11_kind_13 (fun j3 => ?_)
    refine j_goto (pc := 14) (tgt := 19) dX11_kind_14 rfl ?_
    exact j_ireturn (pc := 19) rfl (Nat.le_of_ble_eq_true rfl) (Nat.le_of_ble_eq_true rfl) dX11_kind_19
theorem c11_kind (l : Launch) (v0 : Nat) (v1 : Int32) : Ctr l yX11_kind cX11_kind 2 (some .int) rm11_kind eI [aR 29 v0, aI v1] (f11_kind v0 v1) := ctr_of (lv := [(0, aR 29 v0), (1, aI v1)]) (by decide +kernel) (fun _ => rfl) (fun _ => (Nat.le_of_ble_eq_true rfl)) (fun _ h => lvl_als h rfl) (fun _ σ _ => j11_kind v0 v1 σ)
abbrev rm11_length : Room := { frames := 2, cells := 0, slots := 0, locals := 46 }
set_option maxRecDepth 20000 in
set_option maxHeartbeats 4000000 in
theorem j11_length {Γ : jX} {tg : Int32 × rS} (v0 : Nat) (v1 : Int32) (σ : rS) : J Γ rm11_length eI cX11_length RX11 2 (some .int) tg 0 0 0 [(0, aR 29 v0), (1, aI v1)] [] σ (f11_length v0 v1 σ) := by
  unfold f11_length
  refine j_aload_n (pc := 0) 0 dX11_length_0 rfl rfl ?_
  refine j_iload_n (pc := 1) 1 dX11_length_1 rfl rfl ?_
  refine j_callVZ (pc := 2) (As := [aI v1]) (st := []) (fun l => c11_isRow l v0 v1) cs_RX11_154 rfl rfl rfl rfl (Nat.le_of_ble_eq_true rfl) ⟨(Nat.le_of_ble_eq_true rfl), (Nat.le_of_ble_eq_true rfl)⟩ ⟨(Nat.le_of_ble_eq_true rfl), (Nat.le_of_ble_eq_true rfl)⟩ dX11_length_2 (fun r1 σ2 => ?_)
  refine j_ifneB (pc := 5) (tgt := 11) dX11_length_5 rfl (fun _ => ?_) (fun _ => ?_)
  · refine j_aload_n (pc := 11) 0 dX11_length_11 rfl rfl ?_
    refine j_getF (pc := 12) fd_29_6 tw_4_69 dX11_length_12 ?_
    refine j_iload_n (pc := 15) 1 dX11_length_15 rfl rfl ?_
    refine j_zald (pc := 16) rfl rfl rfl dX11_length_16 (fun j3 => ?_)
    refine j_ifeq (pc := 17) (tgt := 28) dX11_length_17 rfl (fun _ => ?_) (fun _ => ?_)
    · refine j_aload_n (pc := 28) 0 dX11_length_28 rfl rfl ?_
      refine j_getF (pc := 29) fd_29_5 tw_4_68 dX11_length_29 ?_
      refine j_iload_n (pc := 32) 1 dX11_length_32 rfl rfl ?_
      refine j_iald (pc := 33) rfl rfl rfl dX11_length_33 (fun j4 => ?_)
      exact j_ireturn (pc := 34) rfl (Nat.le_of_ble_eq_true rfl) (Nat.le_of_ble_eq_true rfl) dX11_length_34
    · refine j_aload_n (pc := 20) 0 dX11_length_20 rfl rfl ?_
      refine j_iconst (pc := 21) (v := 1) (by decide) dX11_length_21 ?_
      refine j_callVI (pc := 22) (As := [aI 1]) (st := []) (fun l => c11_meets l v0 1) cs_RX11_146 rfl rfl rfl rfl (Nat.le_of_ble_eq_true rfl) ⟨(Nat.le_of_ble_eq_true rfl), (Nat.le_of_ble_eq_true rfl)⟩ ⟨(Nat.le_of_ble_eq_true rfl), (Nat.le_of_ble_eq_true rfl)⟩ dX11_length_22 (fun r5 σ6 => ?_)
      refine j_goto (pc := 25) (tgt := 34) dX11_length_25 rfl ?_
      exact j_ireturn (pc := 34) rfl (Nat.le_of_ble_eq_true rfl) (Nat.le_of_ble_eq_true rfl) dX11_length_34
  · refine j_bipush (pc := 8) (v := (-101)) (by decide) dX11_length_8 ?_
    exact j_ireturn (pc := 10) rfl (Nat.le_of_ble_eq_true rfl) (Nat.le_of_ble_eq_true rfl) dX11_length_10
theorem c11_length (l : Launch) (v0 : Nat) (v1 : Int32) : Ctr l yX11_length cX11_length 2 (some .int) rm11_length eI [aR 29 v0, aI v1] (f11_length v0 v1) := ctr_of (lv := [(0, aR 29 v0), (1, aI v1)]) (by decide +kernel) (fun _ => rfl) (fun _ => (Nat.le_of_ble_eq_true rfl)) (fun _ h => lvl_als h rfl) (fun _ σ _ => j11_length v0 v1 σ)
abbrev rm11_list : Room := { frames := 2, cells := 0, slots := 0, locals := 46 }
set_option maxRecDepth 20000 in
set_option maxHeartbeats 4000000 in
theorem j11_list {Γ : jX} {tg : Int32 × rS} (v0 : Nat) (v1 : Int32) (v2 : Int32) (σ : rS) : J Γ rm11_list eI cX11_list RX11 3 (some .int) tg 0 0 0 [(0, aR 29 v0), (1, aI v1), (2, aI v2)] [] σ (f11_list v0 v1 v2 σ) := by
  unfold f11_list
  refine j_aload_n (pc := 0) 0 dX11_list_0 rfl rfl ?_
  refine j_iload_n (pc := 1) 1 dX11_list_1 rfl rfl ?_
  refine j_callVZ (pc := 2) (As := [aI v1]) (st := []) (fun l => c11_isHouse l v0 v1) cs_RX11_287 rfl rfl rfl rfl (Nat.le_of_ble_eq_true rfl) ⟨(Nat.le_of_ble_eq_true rfl), (Nat.le_of_ble_eq_true rfl)⟩ ⟨(Nat.le_of_ble_eq_true rfl), (Nat.le_of_ble_eq_true rfl)⟩ dX11_list_2 (fun r1 σ2 => ?_)
  refine j_ifneB (pc := 5) (tgt := 11) dX11_list_5 rfl (fun _ => ?_) (fun _ => ?_)
  · refine j_iload_n (pc := 11) 2 dX11_list_11 rfl rfl ?_
    refine j_i2l (pc := 12) dX11_list_12 ?_
    refine j_lconst (pc := 13) (v := 0) (by decide) dX11_list_13 ?_
    refine j_aload_n (pc := 14) 0 dX11_list_14 rfl rfl ?_
    refine j_getF (pc := 15) fd_29_27 tw_4_90 dX11_list_15 ?_
    refine j_iload_n (pc := 18) 1 dX11_list_18 rfl rfl ?_
    refine j_iald (pc := 19) rfl rfl rfl dX11_list_19 (fun j3 => ?_)
    refine j_iconst (pc := 20) (v := 1) (by decide) dX11_list_20 ?_
    refine j_isub (pc := 21) dX11_list_21 ?_
    refine j_i2l (pc := 22) dX11_list_22 ?_
    refine j_callSZ (pc := 23) (As := [aL (Int32.toInt64 v2), aL 0, aL (Int32.toInt64 ((gI σ2 57 v0 j3) - 1))]) (st := []) (fun l => c11_in l (Int32.toInt64 v2) 0 (Int32.toInt64 ((gI σ2 57 v0 j3) - 1))) cs_RX11_140 rfl rfl (Nat.le_of_ble_eq_true rfl) ⟨(Nat.le_of_ble_eq_true rfl), (Nat.le_of_ble_eq_true rfl)⟩ ⟨(Nat.le_of_ble_eq_true rfl), (Nat.le_of_ble_eq_true rfl)⟩ dX11_list_23 (fun r4 σ5 => ?_)
    refine j_ifneB (pc := 26) (tgt := 35) dX11_list_26 rfl (fun _ => ?_) (fun _ => ?_)
    · refine j_aload_n (pc := 35) 0 dX11_list_35 rfl rfl ?_
      refine j_aload_n (pc := 36) 0 dX11_list_36 rfl rfl ?_
      refine j_getF (pc := 37) fd_29_28 tw_4_91 dX11_list_37 ?_
      refine j_bipush (pc := 40) (v := 12) (by decide) dX11_list_40 ?_
      refine j_iload_n (pc := 42) 1 dX11_list_42 rfl rfl ?_
      refine j_imul (pc := 43) dX11_list_43 ?_
      refine j_iload_n (pc := 44) 2 dX11_list_44 rfl rfl ?_
      refine j_iadd (pc := 45) dX11_list_45 ?_
      refine j_lald (pc := 46) rfl rfl rfl dX11_list_46 (fun j6 => ?_)
      refine j_putL (pc := 47) fd_29_2 tw_4_65 dX11_list_47 ?_
      refine j_lets (fun σ7 => ?_)
      refine j_aload_n (pc := 50) 0 dX11_list_50 rfl rfl ?_
      refine j_getF (pc := 51) fd_29_27 tw_4_90 dX11_list_51 ?_
      refine j_iload_n (pc := 54) 1 dX11_list_54 rfl rfl ?_
      refine j_iald (pc := 55) rfl rfl rfl dX11_list_55 (fun j8 => ?_)
      exact j_ireturn (pc := 56) rfl (Nat.le_of_ble_eq_true rfl) (Nat.le_of_ble_eq_true rfl) dX11_list_56
    · refine j_aload_n (pc := 29) 0 dX11_list_29 rfl rfl ?_
      refine j_iconst (pc := 30) (v := 2) (by decide) dX11_list_30 ?_
      refine j_callVI (pc := 31) (As := [aI 2]) (st := []) (fun l => c11_meets l v0 2) cs_RX11_146 rfl rfl rfl rfl (Nat.le_of_ble_eq_true rfl) ⟨(Nat.le_of_ble_eq_true rfl), (Nat.le_of_ble_eq_true rfl)⟩ ⟨(Nat.le_of_ble_eq_true rfl), (Nat.le_of_ble_eq_true rfl)⟩ dX11_list_31 (fun r9 σ10 => ?_)
      exact j_ireturn (pc := 34) rfl (Nat.le_of_ble_eq_true rfl) (Nat.le_of_ble_eq_true rfl) dX11_list_34
  · refine j_bipush (pc := 8) (v := (-101)) (by decide) dX11_list_8 ?_
    exact j_ireturn (pc := 10) rfl (Nat.le_of_ble_eq_true rfl) (Nat.le_of_ble_eq_true rfl) dX11_list_10
theorem c11_list (l : Launch) (v0 : Nat) (v1 : Int32) (v2 : Int32) : Ctr l yX11_list cX11_list 3 (some .int) rm11_list eI [aR 29 v0, aI v1, aI v2] (f11_list v0 v1 v2) := ctr_of (lv := [(0, aR 29 v0), (1, aI v1), (2, aI v2)]) (by decide +kernel) (fun _ => rfl) (fun _ => (Nat.le_of_ble_eq_true rfl)) (fun _ h => lvl_als h rfl) (fun _ σ _ => j11_list v0 v1 v2 σ)
abbrev rm11_lose : Room := { frames := 2, cells := 0, slots := 0, locals := 46 }
set_option maxRecDepth 20000 in
set_option maxHeartbeats 4000000 in
theorem j11_lose {Γ : jX} {tg : Int32 × rS} (v0 : Nat) (v1 : Int32) (σ : rS) : J Γ rm11_lose eI cX11_lose RX11 2 (some .int) tg 0 0 0 [(0, aR 29 v0), (1, aI v1)] [] σ (f11_lose v0 v1 σ) := by
  unfold f11_lose
  refine j_aload_n (pc := 0) 0 dX11_lose_0 rfl rfl ?_
  refine j_iload_n (pc := 1) 1 dX11_lose_1 rfl rfl ?_
  refine j_callVZ (pc := 2) (As := [aI v1]) (st := []) (fun l => c11_isRow l v0 v1) cs_RX11_154 rfl rfl rfl rfl (Nat.le_of_ble_eq_true rfl) ⟨(Nat.le_of_ble_eq_true rfl), (Nat.le_of_ble_eq_true rfl)⟩ ⟨(Nat.le_of_ble_eq_true rfl), (Nat.le_of_ble_eq_true rfl)⟩ dX11_lose_2 (fun r1 σ2 => ?_)
  refine j_ifneB (pc := 5) (tgt := 11) dX11_lose_5 rfl (fun _ => ?_) (fun _ => ?_)
  · refine j_aload_n (pc := 11) 0 dX11_lose_11 rfl rfl ?_
    refine j_getF (pc := 12) fd_29_6 tw_4_69 dX11_lose_12 ?_
    refine j_iload_n (pc := 15) 1 dX11_lose_15 rfl rfl ?_
    refine j_zald (pc := 16) rfl rfl rfl dX11_lose_16 (fun j3 => ?_)
    refine j_ifeq (pc := 17) (tgt := 26) dX11_lose_17 rfl (fun _ => ?_) (fun _ => ?_)
    · refine j_aload_n (pc := 26) 0 dX11_lose_26 rfl rfl ?_
      refine j_getF (pc := 27) fd_29_6 tw_4_69 dX11_lose_27 ?_
      refine j_iload_n (pc := 30) 1 dX11_lose_30 rfl rfl ?_
      refine j_iconst (pc := 31) (v := 1) (by decide) dX11_lose_31 ?_
      refine j_zast (pc := 32) rfl rfl rfl dX11_lose_32 (fun j4 => ?_)
      refine j_lets (fun σ5 => ?_)
      refine j_aload_n (pc := 33) 0 dX11_lose_33 rfl rfl ?_
      refine j_getF (pc := 34) fd_29_5 tw_4_68 dX11_lose_34 ?_
      refine j_iload_n (pc := 37) 1 dX11_lose_37 rfl rfl ?_
      refine j_iald (pc := 38) rfl rfl rfl dX11_lose_38 (fun j6 => ?_)
      exact j_ireturn (pc := 39) rfl (Nat.le_of_ble_eq_true rfl) (Nat.le_of_ble_eq_true rfl) dX11_lose_39
    · refine j_aload_n (pc := 20) 0 dX11_lose_20 rfl rfl ?_
      refine j_iconst (pc := 21) (v := 1) (by decide) dX11_lose_21 ?_
      refine j_callVI (pc := 22) (As := [aI 1]) (st := []) (fun l => c11_meets l v0 1) cs_RX11_146 rfl rfl rfl rfl (Nat.le_of_ble_eq_true rfl) ⟨(Nat.le_of_ble_eq_true rfl), (Nat.le_of_ble_eq_true rfl)⟩ ⟨(Nat.le_of_ble_eq_true rfl), (Nat.le_of_ble_eq_true rfl)⟩ dX11_lose_22 (fun r7 σ8 => ?_)
      exact j_ireturn (pc := 25) rfl (Nat.le_of_ble_eq_true rfl) (Nat.le_of_ble_eq_true rfl) dX11_lose_25
  · refine j_bipush (pc := 8) (v := (-101)) (by decide) dX11_lose_8 ?_
    exact j_ireturn (pc := 10) rfl (Nat.le_of_ble_eq_true rfl) (Nat.le_of_ble_eq_true rfl) dX11_lose_10
theorem c11_lose (l : Launch) (v0 : Nat) (v1 : Int32) : Ctr l yX11_lose cX11_lose 2 (some .int) rm11_lose eI [aR 29 v0, aI v1] (f11_lose v0 v1) := ctr_of (lv := [(0, aR 29 v0), (1, aI v1)]) (by decide +kernel) (fun _ => rfl) (fun _ => (Nat.le_of_ble_eq_true rfl)) (fun _ h => lvl_als h rfl) (fun _ σ _ => j11_lose v0 v1 σ)
abbrev rm11_rank : Room := { frames := 0, cells := 0, slots := 0, locals := 0 }
set_option maxRecDepth 20000 in
set_option maxHeartbeats 4000000 in
theorem j11_rank {Γ : jX} {tg : Int64 × rS} (v0 : Int32) (v1 : Int64) (σ : rS) : J Γ rm11_rank eL cX11_rank RX11 3 (some .long) tg 0 0 0 [(0, aI v0), (1, aL v1)] [] σ (f11_rank v0 v1 σ) := by
  unfold f11_rank
  refine j_iload_n (pc := 0) 0 dX11_rank_0 rfl rfl ?_
  refine j_bipush (pc := 1) (v := 6) (by decide) dX11_rank_1 ?_
  refine j_icmplt (pc := 3) (tgt := 12) dX11_rank_3 rfl (fun _ => ?_) (fun _ => ?_)
  · refine j_lload_n (pc := 12) 1 dX11_rank_12 rfl rfl ?_
    refine j_goto (pc := 13) (tgt := 43) dX11_rank_13 rfl ?_
    exact j_lreturn (pc := 43) rfl (Nat.le_of_ble_eq_true rfl) (Nat.le_of_ble_eq_true rfl) dX11_rank_43
  · refine j_lload_n (pc := 6) 1 dX11_rank_6 rfl rfl ?_
    refine j_lconst (pc := 7) (v := 0) (by decide) dX11_rank_7 ?_
    refine j_lcmplt (pc := 8) (tgt := 16) dX11_rank_8 dX11_rank_9 rfl (fun _ => ?_) (fun _ => ?_)
    · refine j_iload_n (pc := 16) 0 dX11_rank_16 rfl rfl ?_
      refine j_bipush (pc := 17) (v := 6) (by decide) dX11_rank_17 ?_
      refine j_icmpne (pc := 19) (tgt := 34) dX11_rank_19 rfl (fun _ => ?_) (fun _ => ?_)
      · refine j_ldc2 (pc := 34) tw_5_76 dX11_rank_34 ?_
        refine j_lload_n (pc := 37) 1 dX11_rank_37 rfl rfl ?_
        refine j_ldc2 (pc := 38) tw_4_224 dX11_rank_38 ?_
        refine j_land (pc := 41) dX11_rank_41 ?_
        refine j_lsub (pc := 42) dX11_rank_42 ?_
        exact j_lreturn (pc := 43) rfl (Nat.le_of_ble_eq_true rfl) (Nat.le_of_ble_eq_true rfl) dX11_rank_43
      · refine j_ldc2 (pc := 22) tw_5_76 dX11_rank_22 ?_
        refine j_lload_n (pc := 25) 1 dX11_rank_25 rfl rfl ?_
        refine j_ldc2 (pc := 26) tw_4_222 dX11_rank_26 ?_
        refine j_land (pc := 29) dX11_rank_29 ?_
        refine j_lsub (pc := 30) dX11_rank_30 ?_
        refine j_goto (pc := 31) (tgt := 43) dX11_rank_31 rfl ?_
        exact j_lreturn (pc := 43) rfl (Nat.le_of_ble_eq_true rfl) (Nat.le_of_ble_eq_true rfl) dX11_rank_43
    · refine j_lload_n (pc := 12) 1 dX11_rank_12 rfl rfl ?_
      refine j_goto (pc := 13) (tgt := 43) dX11_rank_13 rfl ?_
      exact j_lreturn (pc := 43) rfl (Nat.le_of_ble_eq_true rfl) (Nat.le_of_ble_eq_true rfl) dX11_rank_43
theorem c11_rank (l : Launch) (v0 : Int32) (v1 : Int64) : Ctr l yX11_rank cX11_rank 3 (some .long) rm11_rank eL [aI v0, aL v1] (f11_rank v0 v1) := ctr_of (lv := [(0, aI v0), (1, aL v1)]) (by decide +kernel) (fun _ => rfl) (fun _ => (Nat.le_of_ble_eq_true rfl)) (fun _ h => lvl_als h rfl) (fun _ σ _ => j11_rank v0 v1 σ)
theorem cs_RX11_209 : CaS RX11 209 yX11_rank cX11_rank 3 (some .long) 2 := ⟨tw_5_73, tw_5_74, tw_1_5, tw_5_75, by decide +kernel, by decide +kernel, by decide +kernel⟩
abbrev rm11_most : Room := { frames := 2, cells := 0, slots := 0, locals := 46 }
set_option maxRecDepth 20000 in
set_option maxHeartbeats 4000000 in
theorem jb11_most_166 {Γ : jX} {tg : Int32 × rS} (N : Nat) (K57 : Nat → Int32 → Int32 → Int32 → Int32 → Int32 → Int32 → rS → Option (Int32 × rS)) (hK57 : ∀ (v0 : Nat) (v1 : Int32) (v2 : Int32) (v3 : Int32) (v4 : Int32) (v5 : Int32) (v6 : Int32) (σ : rS), J Γ rm11_most eI cX11_most RX11 9 (some .int) tg 0 0 57 [(0, aR 29 v0), (1, aI v1), (2, aI v2), (3, aI v3), (4, aI v4), (5, aI v5), (6, aI v6)] [] σ (K57 v0 v1 v2 v3 v4 v5 v6 σ)) (v0 : Nat) (v1 : Int32) (v2 : Int32) (v3 : Int32) (v4 : Int32) (v5 : Int32) (v6 : Int32) (σ : rS) : J Γ rm11_most eI cX11_most RX11 9 (some .int) tg 0 0 166 [(0, aR 29 v0), (1, aI v1), (2, aI v2), (3, aI v3), (4, aI v4), (5, aI v5), (6, aI v6)] [] σ (B11_most_166 N K57 v0 v1 v2 v3 v4 v5 v6 σ) := by
  unfold B11_most_166
  refine j_iinc (pc := 166) (w := 1) (lv' := [(6, aI (v6 + 1)), (0, aR 29 v0), (1, aI v1), (2, aI v2), (3, aI v3), (4, aI v4), (5, aI v5)]) 6 dX11_most_166 rfl (by decide) (Nat.le_of_ble_eq_true rfl) rfl ?_
  refine j_goto (pc := 169) (tgt := 57) dX11_most_169 rfl ?_
  refine j_sub [1, 2, 3, 4, 5, 6, 0] (lv' := [(0, aR 29 v0), (1, aI v1), (2, aI v2), (3, aI v3), (4, aI v4), (5, aI v5), (6, aI (v6 + 1))]) rfl ?_
  exact hK57 v0 v1 v2 v3 v4 v5 (v6 + 1) σ
set_option maxRecDepth 20000 in
set_option maxHeartbeats 4000000 in
theorem jb11_most_162 {Γ : jX} {tg : Int32 × rS} (N : Nat) (K57 : Nat → Int32 → Int32 → Int32 → Int32 → Int32 → Int32 → rS → Option (Int32 × rS)) (hK57 : ∀ (v0 : Nat) (v1 : Int32) (v2 : Int32) (v3 : Int32) (v4 : Int32) (v5 : Int32) (v6 : Int32) (σ : rS), J Γ rm11_most eI cX11_most RX11 9 (some .int) tg 0 0 57 [(0, aR 29 v0), (1, aI v1), (2, aI v2), (3, aI v3), (4, aI v4), (5, aI v5), (6, aI v6)] [] σ (K57 v0 v1 v2 v3 v4 v5 v6 σ)) (v0 : Nat) (v1 : Int32) (v2 : Int32) (v3 : Int32) (v4 : Int32) (v6 : Int32) (σ : rS) : J Γ rm11_most eI cX11_most RX11 9 (some .int) tg 0 0 162 [(0, aR 29 v0), (1, aI v1), (2, aI v2), (3, aI v3), (4, aI v4), (6, aI v6)] [] σ (B11_most_162 N K57 v0 v1 v2 v3 v4 v6 σ) := by
  unfold B11_most_162
  refine j_iload (pc := 162) 5 dX11_most_162 rfl ?_
  refine j_istore (pc := 164) (lv' := [(5, aI v6), (0, aR 29 v0), (1, aI v1), (2, aI v2), (3, aI v3), (4, aI v4), (6, aI v6)]) dX11_most_164 (Nat.le_of_ble_eq_true rfl) rfl ?_
  refine j_sub [1, 2, 3, 4, 5, 0, 6] (lv' := [(0, aR 29 v0), (1, aI v1), (2, aI v2), (3, aI v3), (4, aI v4), (5, aI v6), (6, aI v6)]) rfl ?_
  exact jb11_most_166 N K57 hK57 v0 v1 v2 v3 v4 v6 v6 σ
set_option maxRecDepth 20000 in
set_option maxHeartbeats 4000000 in
theorem jb11_most_57 {Γ : jX} {tg : Int32 × rS} (N : Nat) (K57 : Nat → Int32 → Int32 → Int32 → Int32 → Int32 → Int32 → rS → Option (Int32 × rS)) (hK57 : ∀ (v0 : Nat) (v1 : Int32) (v2 : Int32) (v3 : Int32) (v4 : Int32) (v5 : Int32) (v6 : Int32) (σ : rS), J Γ rm11_most eI cX11_most RX11 9 (some .int) tg 0 0 57 [(0, aR 29 v0), (1, aI v1), (2, aI v2), (3, aI v3), (4, aI v4), (5, aI v5), (6, aI v6)] [] σ (K57 v0 v1 v2 v3 v4 v5 v6 σ)) (v0 : Nat) (v1 : Int32) (v2 : Int32) (v3 : Int32) (v4 : Int32) (v5 : Int32) (v6 : Int32) (σ : rS) : J Γ rm11_most eI cX11_most RX11 9 (some .int) tg 0 0 57 [(0, aR 29 v0), (1, aI v1), (2, aI v2), (3, aI v3), (4, aI v4), (5, aI v5), (6, aI v6)] [] σ (B11_most_57 N K57 v0 v1 v2 v3 v4 v5 v6 σ) := by
  unfold B11_most_57
  refine j_iload (pc := 57) 6 dX11_most_57 rfl ?_
  refine j_aload_n (pc := 59) 0 dX11_most_59 rfl rfl ?_
  refine j_getF (pc := 60) fd_29_5 tw_4_68 dX11_most_60 ?_
  refine j_iload_n (pc := 63) 1 dX11_most_63 rfl rfl ?_
  refine j_iald (pc := 64) rfl rfl rfl dX11_most_64 (fun j1 => ?_)
  refine j_icmpge (pc := 65) (tgt := 172) dX11_most_65 rfl (fun _ => ?_) (fun _ => ?_)
  · refine j_iload_n (pc := 172) 2 dX11_most_172 rfl rfl ?_
    refine j_iconst (pc := 173) (v := 2) (by decide) dX11_most_173 ?_
    refine j_icmpne (pc := 174) (tgt := 186) dX11_most_174 rfl (fun _ => ?_) (fun _ => ?_)
    · refine j_iload (pc := 186) 5 dX11_most_186 rfl ?_
      refine j_iconst (pc := 188) (v := (-1)) (by decide) dX11_most_188 ?_
      refine j_icmpne (pc := 189) (tgt := 198) dX11_most_189 rfl (fun _ => ?_) (fun _ => ?_)
      · refine j_aload_n (pc := 198) 0 dX11_most_198 rfl rfl ?_
        refine j_aload_n (pc := 199) 0 dX11_most_199 rfl rfl ?_
        refine j_getF (pc := 200) fd_29_7 tw_4_70 dX11_most_200 ?_
        refine j_bipush (pc := 203) (v := 24) (by decide) dX11_most_203 ?_
        refine j_iload_n (pc := 205) 1 dX11_most_205 rfl rfl ?_
        refine j_imul (pc := 206) dX11_most_206 ?_
        refine j_iload (pc := 207) 5 dX11_most_207 rfl ?_
        refine j_iadd (pc := 209) dX11_most_209 ?_
        refine j_lald (pc := 210) rfl rfl rfl dX11_most_210 (fun j2 => ?_)
        refine j_putL (pc := 211) fd_29_2 tw_4_65 dX11_most_211 ?_
        refine j_lets (fun σ3 => ?_)
        refine j_iconst (pc := 214) (v := 0) (by decide) dX11_most_214 ?_
        exact j_ireturn (pc := 215) rfl (Nat.le_of_ble_eq_true rfl) (Nat.le_of_ble_eq_true rfl) dX11_most_215
      · refine j_aload_n (pc := 192) 0 dX11_most_192 rfl rfl ?_
        refine j_iconst (pc := 193) (v := 5) (by decide) dX11_most_193 ?_
        refine j_callVI (pc := 194) (As := [aI 5]) (st := []) (fun l => c11_meets l v0 5) cs_RX11_146 rfl rfl rfl rfl (Nat.le_of_ble_eq_true rfl) ⟨(Nat.le_of_ble_eq_true rfl), (Nat.le_of_ble_eq_true rfl)⟩ ⟨(Nat.le_of_ble_eq_true rfl), (Nat.le_of_ble_eq_true rfl)⟩ dX11_most_194 (fun r4 σ5 => ?_)
        exact j_ireturn (pc := 197) rfl (Nat.le_of_ble_eq_true rfl) (Nat.le_of_ble_eq_true rfl) dX11_most_197
    · refine j_aload_n (pc := 177) 0 dX11_most_177 rfl rfl ?_
      refine j_iload (pc := 178) 4 dX11_most_178 rfl ?_
      refine j_i2l (pc := 180) dX11_most_180 ?_
      refine j_putL (pc := 181) fd_29_2 tw_4_65 dX11_most_181 ?_
      refine j_lets (fun σ6 => ?_)
      refine j_iconst (pc := 184) (v := 0) (by decide) dX11_most_184 ?_
      exact j_ireturn (pc := 185) rfl (Nat.le_of_ble_eq_true rfl) (Nat.le_of_ble_eq_true rfl) dX11_most_185
  · refine j_aload_n (pc := 68) 0 dX11_most_68 rfl rfl ?_
    refine j_getF (pc := 69) fd_29_7 tw_4_70 dX11_most_69 ?_
    refine j_bipush (pc := 72) (v := 24) (by decide) dX11_most_72 ?_
    refine j_iload_n (pc := 74) 1 dX11_most_74 rfl rfl ?_
    refine j_imul (pc := 75) dX11_most_75 ?_
    refine j_iload (pc := 76) 6 dX11_most_76 rfl ?_
    refine j_iadd (pc := 78) dX11_most_78 ?_
    refine j_lald (pc := 79) rfl rfl rfl dX11_most_79 (fun j7 => ?_)
    refine j_letl (fun x8 => ?_)
    refine j_lstore (pc := 80) (lv' := [(7, aL x8), (0, aR 29 v0), (1, aI v1), (2, aI v2), (3, aI v3), (4, aI v4), (5, aI v5), (6, aI v6)]) dX11_most_80 (Nat.le_of_ble_eq_true rfl) rfl ?_
    refine j_iload_n (pc := 82) 4 dX11_most_82 rfl rfl ?_
    refine j_lload (pc := 83) 0 dX11_most_83 rfl ?_
    refine j_callSZ (pc := 85) (As := [aI v3, aL x8]) (st := []) (fun l => c11_isGap l v3 x8) cs_RX11_99 rfl rfl (Nat.le_of_ble_eq_true rfl) ⟨(Nat.le_of_ble_eq_true rfl), (Nat.le_of_ble_eq_true rfl)⟩ ⟨(Nat.le_of_ble_eq_true rfl), (Nat.le_of_ble_eq_true rfl)⟩ dX11_most_85 (fun r9 σ10 => ?_)
    refine j_ifeqB (pc := 88) (tgt := 97) dX11_most_88 rfl (fun _ => ?_) (fun _ => ?_)
    · refine j_iload (pc := 97) 6 dX11_most_97 rfl ?_
      refine j_iconst (pc := 99) (v := (-1)) (by decide) dX11_most_99 ?_
      refine j_icmpeq (pc := 100) (tgt := 162) dX11_most_100 rfl (fun _ => ?_) (fun _ => ?_)
      · refine j_sub [1, 2, 3, 4, 5, 7] (lv' := [(0, aR 29 v0), (1, aI v1), (2, aI v2), (3, aI v3), (4, aI v4), (6, aI v6)]) rfl ?_
        exact jb11_most_162 N K57 hK57 v0 v1 v2 v3 v4 v6 σ10
      · refine j_iload_n (pc := 103) 3 dX11_most_103 rfl rfl ?_
        refine j_ifne (pc := 104) (tgt := 136) dX11_most_104 rfl (fun _ => ?_) (fun _ => ?_)
        · refine j_iload_n (pc := 136) 4 dX11_most_136 rfl rfl ?_
          refine j_lload (pc := 137) 0 dX11_most_137 rfl ?_
          refine j_callSL (pc := 139) (As := [aI v3, aL x8]) (st := []) (fun l => c11_rank l v3 x8) cs_RX11_209 rfl rfl (Nat.le_of_ble_eq_true rfl) ⟨(Nat.le_of_ble_eq_true rfl), (Nat.le_of_ble_eq_true rfl)⟩ ⟨(Nat.le_of_ble_eq_true rfl), (Nat.le_of_ble_eq_true rfl)⟩ dX11_most_139 (fun r11 σ12 => ?_)
          refine j_iload_n (pc := 142) 4 dX11_most_142 rfl rfl ?_
          refine j_aload_n (pc := 143) 1 dX11_most_143 rfl rfl ?_
          refine j_getF (pc := 144) fd_29_7 tw_4_70 dX11_most_144 ?_
          refine j_bipush (pc := 147) (v := 24) (by decide) dX11_most_147 ?_
          refine j_iload_n (pc := 149) 2 dX11_most_149 rfl rfl ?_
          refine j_imul (pc := 150) dX11_most_150 ?_
          refine j_iload (pc := 151) 6 dX11_most_151 rfl ?_
          refine j_iadd (pc := 153) dX11_most_153 ?_
          refine j_lald (pc := 154) rfl rfl rfl dX11_most_154 (fun j13 => ?_)
          refine j_callSL (pc := 155) (As := [aI v3, aL (gL σ12 37 v0 j13)]) (st := [aL r11]) (fun l => c11_rank l v3 (gL σ12 37 v0 j13)) cs_RX11_209 rfl rfl (Nat.le_of_ble_eq_true rfl) ⟨(Nat.le_of_ble_eq_true rfl), (Nat.le_of_ble_eq_true rfl)⟩ ⟨(Nat.le_of_ble_eq_true rfl), (Nat.le_of_ble_eq_true rfl)⟩ dX11_most_155 (fun r14 σ15 => ?_)
          refine j_lcmpge (pc := 158) (tgt := 166) dX11_most_158 dX11_most_159 rfl (fun _ => ?_) (fun _ => ?_)
          · refine j_sub [1, 2, 3, 4, 5, 6, 7] (lv' := [(0, aR 29 v0), (1, aI v1), (2, aI v2), (3, aI v3), (4, aI v4), (5, aI v5), (6, aI v6)]) rfl ?_
            exact jb11_most_166 N K57 hK57 v0 v1 v2 v3 v4 v5 v6 σ15
          · refine j_sub [1, 2, 3, 4, 5, 7] (lv' := [(0, aR 29 v0), (1, aI v1), (2, aI v2), (3, aI v3), (4, aI v4), (6, aI v6)]) rfl ?_
            exact jb11_most_162 N K57 hK57 v0 v1 v2 v3 v4 v6 σ15
        · refine j_iload_n (pc := 107) 4 dX11_most_107 rfl rfl ?_
          refine j_lload (pc := 108) 0 dX11_most_108 rfl ?_
          refine j_callSL (pc := 110) (As := [aI v3, aL x8]) (st := []) (fun l => c11_rank l v3 x8) cs_RX11_209 rfl rfl (Nat.le_of_ble_eq_true rfl) ⟨(Nat.le_of_ble_eq_true rfl), (Nat.le_of_ble_eq_true rfl)⟩ ⟨(Nat.le_of_ble_eq_true rfl), (Nat.le_of_ble_eq_true rfl)⟩ dX11_most_110 (fun r16 σ17 => ?_)
          refine j_iload_n (pc := 113) 4 dX11_most_113 rfl rfl ?_
          refine j_aload_n (pc := 114) 1 dX11_most_114 rfl rfl ?_
          refine j_getF (pc := 115) fd_29_7 tw_4_70 dX11_most_115 ?_
          refine j_bipush (pc := 118) (v := 24) (by decide) dX11_most_118 ?_
          refine j_iload_n (pc := 120) 2 dX11_most_120 rfl rfl ?_
          refine j_imul (pc := 121) dX11_most_121 ?_
          refine j_iload (pc := 122) 6 dX11_most_122 rfl ?_
          refine j_iadd (pc := 124) dX11_most_124 ?_
          refine j_lald (pc := 125) rfl rfl rfl dX11_most_125 (fun j18 => ?_)
          refine j_callSL (pc := 126) (As := [aI v3, aL (gL σ17 37 v0 j18)]) (st := [aL r16]) (fun l => c11_rank l v3 (gL σ17 37 v0 j18)) cs_RX11_209 rfl rfl (Nat.le_of_ble_eq_true rfl) ⟨(Nat.le_of_ble_eq_true rfl), (Nat.le_of_ble_eq_true rfl)⟩ ⟨(Nat.le_of_ble_eq_true rfl), (Nat.le_of_ble_eq_true rfl)⟩ dX11_most_126 (fun r19 σ20 => ?_)
          refine j_lcmple (pc := 129) (tgt := 166) dX11_most_129 dX11_most_130 rfl (fun _ => ?_) (fun _ => ?_)
          · refine j_sub [1, 2, 3, 4, 5, 6, 7] (lv' := [(0, aR 29 v0), (1, aI v1), (2, aI v2), (3, aI v3), (4, aI v4), (5, aI v5), (6, aI v6)]) rfl ?_
            exact jb11_most_166 N K57 hK57 v0 v1 v2 v3 v4 v5 v6 σ20
          · refine j_goto (pc := 133) (tgt := 162) dX11_most_133 rfl ?_
            refine j_sub [1, 2, 3, 4, 5, 7] (lv' := [(0, aR 29 v0), (1, aI v1), (2, aI v2), (3, aI v3), (4, aI v4), (6, aI v6)]) rfl ?_
            exact jb11_most_162 N K57 hK57 v0 v1 v2 v3 v4 v6 σ20
    · refine j_iinc (pc := 91) (w := 1) (lv' := [(4, aI (v4 + 1)), (7, aL x8), (0, aR 29 v0), (1, aI v1), (2, aI v2), (3, aI v3), (5, aI v5), (6, aI v6)]) 5 dX11_most_91 rfl (by decide) (Nat.le_of_ble_eq_true rfl) rfl ?_
      refine j_goto (pc := 94) (tgt := 166) dX11_most_94 rfl ?_
      refine j_sub [2, 3, 4, 5, 0, 6, 7] (lv' := [(0, aR 29 v0), (1, aI v1), (2, aI v2), (3, aI v3), (4, aI (v4 + 1)), (5, aI v5), (6, aI v6)]) rfl ?_
      exact jb11_most_166 N K57 hK57 v0 v1 v2 v3 (v4 + 1) v5 v6 σ10
theorem jl11_most_57 {Γ : jX} {tg : Int32 × rS} (N : Nat) : ∀ (n : Nat) (v0 : Nat) (v1 : Int32) (v2 : Int32) (v3 : Int32) (v4 : Int32) (v5 : Int32) (v6 : Int32) (σ : rS), J Γ rm11_most eI cX11_most RX11 9 (some .int) tg 0 0 57 [(0, aR 29 v0), (1, aI v1), (2, aI v2), (3, aI v3), (4, aI v4), (5, aI v5), (6, aI v6)] [] σ (L11_most_57 N n v0 v1 v2 v3 v4 v5 v6 σ) := by
  intro n
  induction n with
  | zero => intro v0 v1 v2 v3 v4 v5 v6 σ; exact j_none
  | succ n ih => intro v0 v1 v2 v3 v4 v5 v6 σ; exact jb11_most_57 N (L11_most_57 N n) ih v0 v1 v2 v3 v4 v5 v6 σ
set_option maxRecDepth 20000 in
set_option maxHeartbeats 4000000 in
theorem j11_most {Γ : jX} {tg : Int32 × rS} (N : Nat) (v0 : Nat) (v1 : Int32) (v2 : Int32) (σ : rS) : J Γ rm11_most eI cX11_most RX11 9 (some .int) tg 0 0 0 [(0, aR 29 v0), (1, aI v1), (2, aI v2)] [] σ (f11_most N v0 v1 v2 σ) := by
  unfold f11_most
  refine j_aload_n (pc := 0) 0 dX11_most_0 rfl rfl ?_
  refine j_iload_n (pc := 1) 1 dX11_most_1 rfl rfl ?_
  refine j_callVZ (pc := 2) (As := [aI v1]) (st := []) (fun l => c11_isRow l v0 v1) cs_RX11_154 rfl rfl rfl rfl (Nat.le_of_ble_eq_true rfl) ⟨(Nat.le_of_ble_eq_true rfl), (Nat.le_of_ble_eq_true rfl)⟩ ⟨(Nat.le_of_ble_eq_true rfl), (Nat.le_of_ble_eq_true rfl)⟩ dX11_most_2 (fun r1 σ2 => ?_)
  refine j_ifneB (pc := 5) (tgt := 11) dX11_most_5 rfl (fun _ => ?_) (fun _ => ?_)
  · refine j_iload_n (pc := 11) 2 dX11_most_11 rfl rfl ?_
    refine j_i2l (pc := 12) dX11_most_12 ?_
    refine j_lconst (pc := 13) (v := 0) (by decide) dX11_most_13 ?_
    refine j_ldc2 (pc := 14) tw_5_72 dX11_most_14 ?_
    refine j_callSZ (pc := 17) (As := [aL (Int32.toInt64 v2), aL 0, aL 2]) (st := []) (fun l => c11_in l (Int32.toInt64 v2) 0 2) cs_RX11_140 rfl rfl (Nat.le_of_ble_eq_true rfl) ⟨(Nat.le_of_ble_eq_true rfl), (Nat.le_of_ble_eq_true rfl)⟩ ⟨(Nat.le_of_ble_eq_true rfl), (Nat.le_of_ble_eq_true rfl)⟩ dX11_most_17 (fun r3 σ4 => ?_)
    refine j_ifneB (pc := 20) (tgt := 26) dX11_most_20 rfl (fun _ => ?_) (fun _ => ?_)
    · refine j_aload_n (pc := 26) 0 dX11_most_26 rfl rfl ?_
      refine j_getF (pc := 27) fd_29_6 tw_4_69 dX11_most_27 ?_
      refine j_iload_n (pc := 30) 1 dX11_most_30 rfl rfl ?_
      refine j_zald (pc := 31) rfl rfl rfl dX11_most_31 (fun j5 => ?_)
      refine j_ifeq (pc := 32) (tgt := 41) dX11_most_32 rfl (fun _ => ?_) (fun _ => ?_)
      · refine j_aload_n (pc := 41) 0 dX11_most_41 rfl rfl ?_
        refine j_getF (pc := 42) fd_29_4 tw_4_67 dX11_most_42 ?_
        refine j_iload_n (pc := 45) 1 dX11_most_45 rfl rfl ?_
        refine j_iald (pc := 46) rfl rfl rfl dX11_most_46 (fun j6 => ?_)
        refine j_leti (fun x7 => ?_)
        refine j_istore_n (pc := 47) (lv' := [(3, aI x7), (0, aR 29 v0), (1, aI v1), (2, aI v2)]) dX11_most_47 rfl (Nat.le_of_ble_eq_true rfl) rfl ?_
        refine j_iconst (pc := 48) (v := 0) (by decide) dX11_most_48 ?_
        refine j_istore (pc := 49) (lv' := [(4, aI 0), (3, aI x7), (0, aR 29 v0), (1, aI v1), (2, aI v2)]) dX11_most_49 (Nat.le_of_ble_eq_true rfl) rfl ?_
        refine j_iconst (pc := 51) (v := (-1)) (by decide) dX11_most_51 ?_
        refine j_istore (pc := 52) (lv' := [(5, aI (-1)), (4, aI 0), (3, aI x7), (0, aR 29 v0), (1, aI v1), (2, aI v2)]) dX11_most_52 (Nat.le_of_ble_eq_true rfl) rfl ?_
        refine j_iconst (pc := 54) (v := 0) (by decide) dX11_most_54 ?_
        refine j_istore (pc := 55) (lv' := [(6, aI 0), (5, aI (-1)), (4, aI 0), (3, aI x7), (0, aR 29 v0), (1, aI v1), (2, aI v2)]) dX11_most_55 (Nat.le_of_ble_eq_true rfl) rfl ?_
        refine j_sub [4, 5, 6, 3, 2, 1, 0] (lv' := [(0, aR 29 v0), (1, aI v1), (2, aI v2), (3, aI x7), (4, aI 0), (5, aI (-1)), (6, aI 0)]) rfl ?_
        exact jl11_most_57 N  N v0 v1 v2 x7 0 (-1) 0 σ4
      · refine j_aload_n (pc := 35) 0 dX11_most_35 rfl rfl ?_
        refine j_iconst (pc := 36) (v := 1) (by decide) dX11_most_36 ?_
        refine j_callVI (pc := 37) (As := [aI 1]) (st := []) (fun l => c11_meets l v0 1) cs_RX11_146 rfl rfl rfl rfl (Nat.le_of_ble_eq_true rfl) ⟨(Nat.le_of_ble_eq_true rfl), (Nat.le_of_ble_eq_true rfl)⟩ ⟨(Nat.le_of_ble_eq_true rfl), (Nat.le_of_ble_eq_true rfl)⟩ dX11_most_37 (fun r8 σ9 => ?_)
        exact j_ireturn (pc := 40) rfl (Nat.le_of_ble_eq_true rfl) (Nat.le_of_ble_eq_true rfl) dX11_most_40
    · refine j_bipush (pc := 23) (v := (-102)) (by decide) dX11_most_23 ?_
      exact j_ireturn (pc := 25) rfl (Nat.le_of_ble_eq_true rfl) (Nat.le_of_ble_eq_true rfl) dX11_most_25
  · refine j_bipush (pc := 8) (v := (-101)) (by decide) dX11_most_8 ?_
    exact j_ireturn (pc := 10) rfl (Nat.le_of_ble_eq_true rfl) (Nat.le_of_ble_eq_true rfl) dX11_most_10
theorem c11_most (l : Launch) (N : Nat) (v0 : Nat) (v1 : Int32) (v2 : Int32) : Ctr l yX11_most cX11_most 9 (some .int) rm11_most eI [aR 29 v0, aI v1, aI v2] (f11_most N v0 v1 v2) := ctr_of (lv := [(0, aR 29 v0), (1, aI v1), (2, aI v2)]) (by decide +kernel) (fun _ => rfl) (fun _ => (Nat.le_of_ble_eq_true rfl)) (fun _ h => lvl_als h rfl) (fun _ σ _ => j11_most N v0 v1 v2 σ)
abbrev rm11_newRow : Room := { frames := 0, cells := 0, slots := 0, locals := 0 }
set_option maxRecDepth 20000 in
set_option maxHeartbeats 4000000 in
theorem jb11_newRow_32 {Γ : jX} {tg : Int32 × rS} (N : Nat) (K32 : Nat → Int32 → rS → Option (Int32 × rS)) (hK32 : ∀ (v0 : Nat) (v3 : Int32) (σ : rS), J Γ rm11_newRow eI cX11_newRow RX11 4 (some .int) tg 0 0 32 [(0, aR 29 v0), (3, aI v3)] [] σ (K32 v0 v3 σ)) (v0 : Nat) (v3 : Int32) (σ : rS) : J Γ rm11_newRow eI cX11_newRow RX11 4 (some .int) tg 0 0 32 [(0, aR 29 v0), (3, aI v3)] [] σ (B11_newRow_32 N K32 v0 v3 σ) := by
  unfold B11_newRow_32
  refine j_iload_n (pc := 32) 1 dX11_newRow_32 rfl rfl ?_
  refine j_bipush (pc := 33) (v := 24) (by decide) dX11_newRow_33 ?_
  refine j_icmpge (pc := 35) (tgt := 59) dX11_newRow_35 rfl (fun _ => ?_) (fun _ => ?_)
  · refine j_aload_n (pc := 59) 0 dX11_newRow_59 rfl rfl ?_
    refine j_dup (pc := 60) dX11_newRow_60 rfl ?_
    refine j_getI (pc := 61) fd_29_3 tw_4_66 dX11_newRow_61 ?_
    refine j_iconst (pc := 64) (v := 1) (by decide) dX11_newRow_64 ?_
    refine j_iadd (pc := 65) dX11_newRow_65 ?_
    refine j_putI (pc := 66) fd_29_3 rfl rfl tw_4_66 dX11_newRow_66 ?_
    refine j_lets (fun σ1 => ?_)
    refine j_aload_n (pc := 69) 0 dX11_newRow_69 rfl rfl ?_
    refine j_getI (pc := 70) fd_29_3 tw_4_66 dX11_newRow_70 ?_
    refine j_iconst (pc := 73) (v := 1) (by decide) dX11_newRow_73 ?_
    refine j_isub (pc := 74) dX11_newRow_74 ?_
    exact j_ireturn (pc := 75) rfl (Nat.le_of_ble_eq_true rfl) (Nat.le_of_ble_eq_true rfl) dX11_newRow_75
  · refine j_aload_n (pc := 38) 0 dX11_newRow_38 rfl rfl ?_
    refine j_getF (pc := 39) fd_29_7 tw_4_70 dX11_newRow_39 ?_
    refine j_bipush (pc := 42) (v := 24) (by decide) dX11_newRow_42 ?_
    refine j_aload_n (pc := 44) 0 dX11_newRow_44 rfl rfl ?_
    refine j_getI (pc := 45) fd_29_3 tw_4_66 dX11_newRow_45 ?_
    refine j_imul (pc := 48) dX11_newRow_48 ?_
    refine j_iload_n (pc := 49) 1 dX11_newRow_49 rfl rfl ?_
    refine j_iadd (pc := 50) dX11_newRow_50 ?_
    refine j_lconst (pc := 51) (v := 0) (by decide) dX11_newRow_51 ?_
    refine j_last (pc := 52) rfl rfl rfl dX11_newRow_52 (fun j2 => ?_)
    refine j_lets (fun σ3 => ?_)
    refine j_iinc (pc := 53) (w := 1) (lv' := [(3, aI (v3 + 1)), (0, aR 29 v0)]) 1 dX11_newRow_53 rfl (by decide) (Nat.le_of_ble_eq_true rfl) rfl ?_
    refine j_goto (pc := 56) (tgt := 32) dX11_newRow_56 rfl ?_
    refine j_sub [1, 0] (lv' := [(0, aR 29 v0), (3, aI (v3 + 1))]) rfl ?_
    exact hK32 v0 (v3 + 1) σ3
theorem jl11_newRow_32 {Γ : jX} {tg : Int32 × rS} (N : Nat) : ∀ (n : Nat) (v0 : Nat) (v3 : Int32) (σ : rS), J Γ rm11_newRow eI cX11_newRow RX11 4 (some .int) tg 0 0 32 [(0, aR 29 v0), (3, aI v3)] [] σ (L11_newRow_32 N n v0 v3 σ) := by
  intro n
  induction n with
  | zero => intro v0 v3 σ; exact j_none
  | succ n ih => intro v0 v3 σ; exact jb11_newRow_32 N (L11_newRow_32 N n) ih v0 v3 σ
set_option maxRecDepth 20000 in
set_option maxHeartbeats 4000000 in
theorem j11_newRow {Γ : jX} {tg : Int32 × rS} (N : Nat) (v0 : Nat) (v1 : Int32) (v2 : Int32) (σ : rS) : J Γ rm11_newRow eI cX11_newRow RX11 4 (some .int) tg 0 0 0 [(0, aR 29 v0), (1, aI v1), (2, aI v2)] [] σ (f11_newRow N v0 v1 v2 σ) := by
  unfold f11_newRow
  refine j_aload_n (pc := 0) 0 dX11_newRow_0 rfl rfl ?_
  refine j_getF (pc := 1) fd_29_4 tw_4_67 dX11_newRow_1 ?_
  refine j_aload_n (pc := 4) 0 dX11_newRow_4 rfl rfl ?_
  refine j_getI (pc := 5) fd_29_3 tw_4_66 dX11_newRow_5 ?_
  refine j_iload_n (pc := 8) 1 dX11_newRow_8 rfl rfl ?_
  refine j_iast (pc := 9) rfl rfl rfl dX11_newRow_9 (fun j1 => ?_)
  refine j_lets (fun σ2 => ?_)
  refine j_aload_n (pc := 10) 0 dX11_newRow_10 rfl rfl ?_
  refine j_getF (pc := 11) fd_29_5 tw_4_68 dX11_newRow_11 ?_
  refine j_aload_n (pc := 14) 0 dX11_newRow_14 rfl rfl ?_
  refine j_getI (pc := 15) fd_29_3 tw_4_66 dX11_newRow_15 ?_
  refine j_iload_n (pc := 18) 2 dX11_newRow_18 rfl rfl ?_
  refine j_iast (pc := 19) rfl rfl rfl dX11_newRow_19 (fun j3 => ?_)
  refine j_lets (fun σ4 => ?_)
  refine j_aload_n (pc := 20) 0 dX11_newRow_20 rfl rfl ?_
  refine j_getF (pc := 21) fd_29_6 tw_4_69 dX11_newRow_21 ?_
  refine j_aload_n (pc := 24) 0 dX11_newRow_24 rfl rfl ?_
  refine j_getI (pc := 25) fd_29_3 tw_4_66 dX11_newRow_25 ?_
  refine j_iconst (pc := 28) (v := 0) (by decide) dX11_newRow_28 ?_
  refine j_zast (pc := 29) rfl rfl rfl dX11_newRow_29 (fun j5 => ?_)
  refine j_lets (fun σ6 => ?_)
  refine j_iconst (pc := 30) (v := 0) (by decide) dX11_newRow_30 ?_
  refine j_istore_n (pc := 31) (lv' := [(3, aI 0), (0, aR 29 v0), (1, aI v1), (2, aI v2)]) dX11_newRow_31 rfl (Nat.le_of_ble_eq_true rfl) rfl ?_
  refine j_sub [0, 1] (lv' := [(3, aI 0), (0, aR 29 v0)]) rfl ?_
  refine j_sub [1, 0] (lv' := [(0, aR 29 v0), (3, aI 0)]) rfl ?_
  exact jl11_newRow_32 N  N v0 0 σ6
theorem c11_newRow (l : Launch) (N : Nat) (v0 : Nat) (v1 : Int32) (v2 : Int32) : Ctr l yX11_newRow cX11_newRow 4 (some .int) rm11_newRow eI [aR 29 v0, aI v1, aI v2] (f11_newRow N v0 v1 v2) := ctr_of (lv := [(0, aR 29 v0), (1, aI v1), (2, aI v2)]) (by decide +kernel) (fun _ => rfl) (fun _ => (Nat.le_of_ble_eq_true rfl)) (fun _ h => lvl_als h rfl) (fun _ σ _ => j11_newRow N v0 v1 v2 σ)
theorem cs_RX11_127 : CaS RX11 127 yX11_cut cX11_cut 3 (some .long) 2 := ⟨tw_4_216, tw_4_217, tw_1_5, tw_4_218, by decide +kernel, by decide +kernel, by decide +kernel⟩
theorem cs_RX11_277 : CaV RX11 RX11 277 yX11_decode cX11_decode 8 (some .boolean) 3 := ⟨tw_5_173, tw_5_175, tw_p36, tw_1_5, tw_5_176, rfl, by decide +kernel, by decide +kernel, by decide +kernel⟩
abbrev rm11_piece : Room := { frames := 2, cells := 0, slots := 0, locals := 52 }
set_option maxRecDepth 20000 in
set_option maxHeartbeats 4000000 in
theorem jb11_piece_368 {Γ : jX} {tg : Int32 × rS} (N : Nat) (v9 : Bool) (σ : rS) : J Γ rm11_piece eI cX11_piece RX11 11 (some .int) tg 0 0 368 [(9, aI (bi v9))] [] σ (B11_piece_368 N v9 σ) := by
  unfold B11_piece_368
  refine j_iload (pc := 368) 0 dX11_piece_368 rfl ?_
  refine j_ifeqB (pc := 370) (tgt := 377) dX11_piece_370 rfl (fun _ => ?_) (fun _ => ?_)
  · refine j_bipush (pc := 377) (v := 8) (by decide) dX11_piece_377 ?_
    exact j_ireturn (pc := 379) rfl (Nat.le_of_ble_eq_true rfl) (Nat.le_of_ble_eq_true rfl) dX11_piece_379
  · refine j_iconst (pc := 373) (v := 0) (by decide) dX11_piece_373 ?_
    refine j_goto (pc := 374) (tgt := 379) dX11_piece_374 rfl ?_
    exact j_ireturn (pc := 379) rfl (Nat.le_of_ble_eq_true rfl) (Nat.le_of_ble_eq_true rfl) dX11_piece_379
set_option maxRecDepth 20000 in
set_option maxHeartbeats 4000000 in
theorem jb11_piece_360 {Γ : jX} {tg : Int32 × rS} (N : Nat) (K321 : Nat → Int32 → Int32 → Bool → Int32 → rS → Option (Int32 × rS)) (hK321 : ∀ (v0 : Nat) (v4 : Int32) (v5 : Int32) (v9 : Bool) (v10 : Int32) (σ : rS), J Γ rm11_piece eI cX11_piece RX11 11 (some .int) tg 0 0 321 [(0, aR 29 v0), (4, aI v4), (5, aI v5), (9, aI (bi v9)), (10, aI v10)] [] σ (K321 v0 v4 v5 v9 v10 σ)) (v0 : Nat) (v4 : Int32) (v5 : Int32) (v10 : Int32) (s0 : Bool) (σ : rS) : J Γ rm11_piece eI cX11_piece RX11 11 (some .int) tg 0 0 360 [(0, aR 29 v0), (4, aI v4), (5, aI v5), (10, aI v10)] [aI (bi s0)] σ (B11_piece_360 N K321 v0 v4 v5 v10 s0 σ) := by
  unfold B11_piece_360
  refine j_istore (pc := 360) (lv' := [(9, aI (bi s0)), (0, aR 29 v0), (4, aI v4), (5, aI v5), (10, aI v10)]) dX11_piece_360 (Nat.le_of_ble_eq_true rfl) rfl ?_
  refine j_iinc (pc := 362) (w := 1) (lv' := [(10, aI (v10 + 1)), (9, aI (bi s0)), (0, aR 29 v0), (4, aI v4), (5, aI v5)]) 4 dX11_piece_362 rfl (by decide) (Nat.le_of_ble_eq_true rfl) rfl ?_
  refine j_goto (pc := 365) (tgt := 321) dX11_piece_365 rfl ?_
  refine j_sub [2, 3, 4, 1, 0] (lv' := [(0, aR 29 v0), (4, aI v4), (5, aI v5), (9, aI (bi s0)), (10, aI (v10 + 1))]) rfl ?_
  exact hK321 v0 v4 v5 s0 (v10 + 1) σ
set_option maxRecDepth 20000 in
set_option maxHeartbeats 4000000 in
theorem jb11_piece_321 {Γ : jX} {tg : Int32 × rS} (N : Nat) (K321 : Nat → Int32 → Int32 → Bool → Int32 → rS → Option (Int32 × rS)) (hK321 : ∀ (v0 : Nat) (v4 : Int32) (v5 : Int32) (v9 : Bool) (v10 : Int32) (σ : rS), J Γ rm11_piece eI cX11_piece RX11 11 (some .int) tg 0 0 321 [(0, aR 29 v0), (4, aI v4), (5, aI v5), (9, aI (bi v9)), (10, aI v10)] [] σ (K321 v0 v4 v5 v9 v10 σ)) (v0 : Nat) (v4 : Int32) (v5 : Int32) (v9 : Bool) (v10 : Int32) (σ : rS) : J Γ rm11_piece eI cX11_piece RX11 11 (some .int) tg 0 0 321 [(0, aR 29 v0), (4, aI v4), (5, aI v5), (9, aI (bi v9)), (10, aI v10)] [] σ (B11_piece_321 N K321 v0 v4 v5 v9 v10 σ) := by
  unfold B11_piece_321
  refine j_iload (pc := 321) 4 dX11_piece_321 rfl ?_
  refine j_iload (pc := 323) 2 dX11_piece_323 rfl ?_
  refine j_icmpge (pc := 325) (tgt := 368) dX11_piece_325 rfl (fun _ => ?_) (fun _ => ?_)
  · refine j_sub [3] (lv' := [(9, aI (bi v9))]) rfl ?_
    exact jb11_piece_368 N  v9 σ
  · refine j_iload (pc := 328) 3 dX11_piece_328 rfl ?_
    refine j_ifeqB (pc := 330) (tgt := 368) dX11_piece_330 rfl (fun _ => ?_) (fun _ => ?_)
    · refine j_sub [3] (lv' := [(9, aI (bi v9))]) rfl ?_
      exact jb11_piece_368 N  v9 σ
    · refine j_aload_n (pc := 333) 0 dX11_piece_333 rfl rfl ?_
      refine j_getF (pc := 334) fd_29_11 tw_4_74 dX11_piece_334 ?_
      refine j_iload (pc := 337) 4 dX11_piece_337 rfl ?_
      refine j_iald (pc := 339) rfl rfl rfl dX11_piece_339 (fun j1 => ?_)
      refine j_aload_n (pc := 340) 0 dX11_piece_340 rfl rfl ?_
      refine j_getF (pc := 341) fd_29_14 tw_4_77 dX11_piece_341 ?_
      refine j_iload (pc := 344) 1 dX11_piece_344 rfl ?_
      refine j_iconst (pc := 346) (v := 5) (by decide) dX11_piece_346 ?_
      refine j_iadd (pc := 347) dX11_piece_347 ?_
      refine j_iload (pc := 348) 4 dX11_piece_348 rfl ?_
      refine j_iadd (pc := 350) dX11_piece_350 ?_
      refine j_iald (pc := 351) rfl rfl rfl dX11_piece_351 (fun j2 => ?_)
      refine j_icmpne (pc := 352) (tgt := 359) dX11_piece_352 rfl (fun _ => ?_) (fun _ => ?_)
      · refine j_iconst (pc := 359) (v := 0) (by decide) dX11_piece_359 ?_
        refine j_sub [0, 1, 2, 4] (lv' := [(0, aR 29 v0), (4, aI v4), (5, aI v5), (10, aI v10)]) rfl ?_
        exact jb11_piece_360 N K321 hK321 v0 v4 v5 v10 false σ
      · refine j_iconst (pc := 355) (v := 1) (by decide) dX11_piece_355 ?_
        refine j_goto (pc := 356) (tgt := 360) dX11_piece_356 rfl ?_
        refine j_sub [0, 1, 2, 4] (lv' := [(0, aR 29 v0), (4, aI v4), (5, aI v5), (10, aI v10)]) rfl ?_
        exact jb11_piece_360 N K321 hK321 v0 v4 v5 v10 true σ
theorem jl11_piece_321 {Γ : jX} {tg : Int32 × rS} (N : Nat) : ∀ (n : Nat) (v0 : Nat) (v4 : Int32) (v5 : Int32) (v9 : Bool) (v10 : Int32) (σ : rS), J Γ rm11_piece eI cX11_piece RX11 11 (some .int) tg 0 0 321 [(0, aR 29 v0), (4, aI v4), (5, aI v5), (9, aI (bi v9)), (10, aI v10)] [] σ (L11_piece_321 N n v0 v4 v5 v9 v10 σ) := by
  intro n
  induction n with
  | zero => intro v0 v4 v5 v9 v10 σ; exact j_none
  | succ n ih => intro v0 v4 v5 v9 v10 σ; exact jb11_piece_321 N (L11_piece_321 N n) ih v0 v4 v5 v9 v10 σ
set_option maxRecDepth 20000 in
set_option maxHeartbeats 4000000 in
theorem jb11_piece_316 {Γ : jX} {tg : Int32 × rS} (N : Nat) (v0 : Nat) (v4 : Int32) (v5 : Int32) (s0 : Bool) (σ : rS) : J Γ rm11_piece eI cX11_piece RX11 11 (some .int) tg 0 0 316 [(0, aR 29 v0), (4, aI v4), (5, aI v5)] [aI (bi s0)] σ (B11_piece_316 N v0 v4 v5 s0 σ) := by
  unfold B11_piece_316
  refine j_istore (pc := 316) (lv' := [(9, aI (bi s0)), (0, aR 29 v0), (4, aI v4), (5, aI v5)]) dX11_piece_316 (Nat.le_of_ble_eq_true rfl) rfl ?_
  refine j_iconst (pc := 318) (v := 0) (by decide) dX11_piece_318 ?_
  refine j_istore (pc := 319) (lv' := [(10, aI 0), (9, aI (bi s0)), (0, aR 29 v0), (4, aI v4), (5, aI v5)]) dX11_piece_319 (Nat.le_of_ble_eq_true rfl) rfl ?_
  refine j_sub [2, 3, 4, 1, 0] (lv' := [(0, aR 29 v0), (4, aI v4), (5, aI v5), (9, aI (bi s0)), (10, aI 0)]) rfl ?_
  exact jl11_piece_321 N  N v0 v4 v5 s0 0 σ
set_option maxRecDepth 20000 in
set_option maxHeartbeats 4000000 in
theorem jb11_piece_315 {Γ : jX} {tg : Int32 × rS} (N : Nat) (v0 : Nat) (v4 : Int32) (v5 : Int32) (σ : rS) : J Γ rm11_piece eI cX11_piece RX11 11 (some .int) tg 0 0 315 [(0, aR 29 v0), (4, aI v4), (5, aI v5)] [] σ (B11_piece_315 N v0 v4 v5 σ) := by
  unfold B11_piece_315
  refine j_iconst (pc := 315) (v := 0) (by decide) dX11_piece_315 ?_
  exact jb11_piece_316 N  v0 v4 v5 false σ
set_option maxRecDepth 20000 in
set_option maxHeartbeats 4000000 in
theorem jb11_piece_283 {Γ : jX} {tg : Int32 × rS} (N : Nat) (K243 : Nat → Int32 → Int32 → Int32 → Int32 → Int32 → Bool → Int32 → rS → Option (Int32 × rS)) (hK243 : ∀ (v0 : Nat) (v4 : Int32) (v5 : Int32) (v6 : Int32) (v7 : Int32) (v8 : Int32) (v9 : Bool) (v10 : Int32) (σ : rS), J Γ rm11_piece eI cX11_piece RX11 11 (some .int) tg 0 0 243 [(0, aR 29 v0), (4, aI v4), (5, aI v5), (6, aI v6), (7, aI v7), (8, aI v8), (9, aI (bi v9)), (10, aI v10)] [] σ (K243 v0 v4 v5 v6 v7 v8 v9 v10 σ)) (v0 : Nat) (v4 : Int32) (v5 : Int32) (v6 : Int32) (v7 : Int32) (v8 : Int32) (v10 : Int32) (s0 : Bool) (σ : rS) : J Γ rm11_piece eI cX11_piece RX11 11 (some .int) tg 0 0 283 [(0, aR 29 v0), (4, aI v4), (5, aI v5), (6, aI v6), (7, aI v7), (8, aI v8), (10, aI v10)] [aI (bi s0)] σ (B11_piece_283 N K243 v0 v4 v5 v6 v7 v8 v10 s0 σ) := by
  unfold B11_piece_283
  refine j_istore (pc := 283) (lv' := [(9, aI (bi s0)), (0, aR 29 v0), (4, aI v4), (5, aI v5), (6, aI v6), (7, aI v7), (8, aI v8), (10, aI v10)]) dX11_piece_283 (Nat.le_of_ble_eq_true rfl) rfl ?_
  refine j_iinc (pc := 285) (w := 1) (lv' := [(10, aI (v10 + 1)), (9, aI (bi s0)), (0, aR 29 v0), (4, aI v4), (5, aI v5), (6, aI v6), (7, aI v7), (8, aI v8)]) 7 dX11_piece_285 rfl (by decide) (Nat.le_of_ble_eq_true rfl) rfl ?_
  refine j_goto (pc := 288) (tgt := 243) dX11_piece_288 rfl ?_
  refine j_sub [2, 3, 4, 5, 6, 7, 1, 0] (lv' := [(0, aR 29 v0), (4, aI v4), (5, aI v5), (6, aI v6), (7, aI v7), (8, aI v8), (9, aI (bi s0)), (10, aI (v10 + 1))]) rfl ?_
  exact hK243 v0 v4 v5 v6 v7 v8 s0 (v10 + 1) σ
set_option maxRecDepth 20000 in
set_option maxHeartbeats 4000000 in
theorem jb11_piece_282 {Γ : jX} {tg : Int32 × rS} (N : Nat) (K243 : Nat → Int32 → Int32 → Int32 → Int32 → Int32 → Bool → Int32 → rS → Option (Int32 × rS)) (hK243 : ∀ (v0 : Nat) (v4 : Int32) (v5 : Int32) (v6 : Int32) (v7 : Int32) (v8 : Int32) (v9 : Bool) (v10 : Int32) (σ : rS), J Γ rm11_piece eI cX11_piece RX11 11 (some .int) tg 0 0 243 [(0, aR 29 v0), (4, aI v4), (5, aI v5), (6, aI v6), (7, aI v7), (8, aI v8), (9, aI (bi v9)), (10, aI v10)] [] σ (K243 v0 v4 v5 v6 v7 v8 v9 v10 σ)) (v0 : Nat) (v4 : Int32) (v5 : Int32) (v6 : Int32) (v7 : Int32) (v8 : Int32) (v10 : Int32) (σ : rS) : J Γ rm11_piece eI cX11_piece RX11 11 (some .int) tg 0 0 282 [(0, aR 29 v0), (4, aI v4), (5, aI v5), (6, aI v6), (7, aI v7), (8, aI v8), (10, aI v10)] [] σ (B11_piece_282 N K243 v0 v4 v5 v6 v7 v8 v10 σ) := by
  unfold B11_piece_282
  refine j_iconst (pc := 282) (v := 0) (by decide) dX11_piece_282 ?_
  exact jb11_piece_283 N K243 hK243 v0 v4 v5 v6 v7 v8 v10 false σ
set_option maxRecDepth 20000 in
set_option maxHeartbeats 4000000 in
theorem jb11_piece_243 {Γ : jX} {tg : Int32 × rS} (N : Nat) (K243 : Nat → Int32 → Int32 → Int32 → Int32 → Int32 → Bool → Int32 → rS → Option (Int32 × rS)) (hK243 : ∀ (v0 : Nat) (v4 : Int32) (v5 : Int32) (v6 : Int32) (v7 : Int32) (v8 : Int32) (v9 : Bool) (v10 : Int32) (σ : rS), J Γ rm11_piece eI cX11_piece RX11 11 (some .int) tg 0 0 243 [(0, aR 29 v0), (4, aI v4), (5, aI v5), (6, aI v6), (7, aI v7), (8, aI v8), (9, aI (bi v9)), (10, aI v10)] [] σ (K243 v0 v4 v5 v6 v7 v8 v9 v10 σ)) (v0 : Nat) (v4 : Int32) (v5 : Int32) (v6 : Int32) (v7 : Int32) (v8 : Int32) (v9 : Bool) (v10 : Int32) (σ : rS) : J Γ rm11_piece eI cX11_piece RX11 11 (some .int) tg 0 0 243 [(0, aR 29 v0), (4, aI v4), (5, aI v5), (6, aI v6), (7, aI v7), (8, aI v8), (9, aI (bi v9)), (10, aI v10)] [] σ (B11_piece_243 N K243 v0 v4 v5 v6 v7 v8 v9 v10 σ) := by
  unfold B11_piece_243
  refine j_iload (pc := 243) 7 dX11_piece_243 rfl ?_
  refine j_iload (pc := 245) 5 dX11_piece_245 rfl ?_
  refine j_icmpge (pc := 247) (tgt := 291) dX11_piece_247 rfl (fun _ => ?_) (fun _ => ?_)
  · refine j_aload_n (pc := 291) 0 dX11_piece_291 rfl rfl ?_
    refine j_iload (pc := 292) 3 dX11_piece_292 rfl ?_
    refine j_callVV (pc := 294) (As := [aI v6]) (st := []) (fun l => c11_code l N v0 v6) cs_RX11_235 rfl rfl rfl rfl (Nat.le_of_ble_eq_true rfl) ⟨(Nat.le_of_ble_eq_true rfl), (Nat.le_of_ble_eq_true rfl)⟩ ⟨(Nat.le_of_ble_eq_true rfl), (Nat.le_of_ble_eq_true rfl)⟩ dX11_piece_294 (fun r1 σ2 => ?_)
    refine j_iload (pc := 297) 6 dX11_piece_297 rfl ?_
    refine j_ifeqB (pc := 299) (tgt := 315) dX11_piece_299 rfl (fun _ => ?_) (fun _ => ?_)
    · refine j_sub [0, 1, 2] (lv' := [(0, aR 29 v0), (4, aI v4), (5, aI v5)]) rfl ?_
      exact jb11_piece_315 N  v0 v4 v5 σ2
    · refine j_aload_n (pc := 302) 0 dX11_piece_302 rfl rfl ?_
      refine j_getI (pc := 303) fd_29_12 tw_4_75 dX11_piece_303 ?_
      refine j_iload (pc := 306) 2 dX11_piece_306 rfl ?_
      refine j_icmpne (pc := 308) (tgt := 315) dX11_piece_308 rfl (fun _ => ?_) (fun _ => ?_)
      · refine j_sub [0, 1, 2] (lv' := [(0, aR 29 v0), (4, aI v4), (5, aI v5)]) rfl ?_
        exact jb11_piece_315 N  v0 v4 v5 σ2
      · refine j_iconst (pc := 311) (v := 1) (by decide) dX11_piece_311 ?_
        refine j_goto (pc := 312) (tgt := 316) dX11_piece_312 rfl ?_
        refine j_sub [0, 1, 2] (lv' := [(0, aR 29 v0), (4, aI v4), (5, aI v5)]) rfl ?_
        exact jb11_piece_316 N  v0 v4 v5 true σ2
  · refine j_iload (pc := 250) 6 dX11_piece_250 rfl ?_
    refine j_ifeqB (pc := 252) (tgt := 282) dX11_piece_252 rfl (fun _ => ?_) (fun _ => ?_)
    · refine j_sub [0, 1, 2, 3, 4, 5, 7] (lv' := [(0, aR 29 v0), (4, aI v4), (5, aI v5), (6, aI v6), (7, aI v7), (8, aI v8), (10, aI v10)]) rfl ?_
      exact jb11_piece_282 N K243 hK243 v0 v4 v5 v6 v7 v8 v10 σ
    · refine j_iload (pc := 255) 4 dX11_piece_255 rfl ?_
      refine j_aload_n (pc := 257) 0 dX11_piece_257 rfl rfl ?_
      refine j_getF (pc := 258) fd_29_9 tw_4_72 dX11_piece_258 ?_
      refine j_iload (pc := 261) 7 dX11_piece_261 rfl ?_
      refine j_lald (pc := 263) rfl rfl rfl dX11_piece_263 (fun j3 => ?_)
      refine j_callSL (pc := 264) (As := [aI v7, aL (gL σ 39 v0 j3)]) (st := []) (fun l => c11_cut l v7 (gL σ 39 v0 j3)) cs_RX11_127 rfl rfl (Nat.le_of_ble_eq_true rfl) ⟨(Nat.le_of_ble_eq_true rfl), (Nat.le_of_ble_eq_true rfl)⟩ ⟨(Nat.le_of_ble_eq_true rfl), (Nat.le_of_ble_eq_true rfl)⟩ dX11_piece_264 (fun r4 σ5 => ?_)
      refine j_aload_n (pc := 267) 0 dX11_piece_267 rfl rfl ?_
      refine j_getF (pc := 268) fd_29_9 tw_4_72 dX11_piece_268 ?_
      refine j_iload (pc := 271) 7 dX11_piece_271 rfl ?_
      refine j_lald (pc := 273) rfl rfl rfl dX11_piece_273 (fun j6 => ?_)
      refine j_lcmpne (pc := 274) (tgt := 282) dX11_piece_274 dX11_piece_275 rfl (fun _ => ?_) (fun _ => ?_)
      · refine j_sub [0, 1, 2, 3, 4, 5, 7] (lv' := [(0, aR 29 v0), (4, aI v4), (5, aI v5), (6, aI v6), (7, aI v7), (8, aI v8), (10, aI v10)]) rfl ?_
        exact jb11_piece_282 N K243 hK243 v0 v4 v5 v6 v7 v8 v10 σ5
      · refine j_iconst (pc := 278) (v := 1) (by decide) dX11_piece_278 ?_
        refine j_goto (pc := 279) (tgt := 283) dX11_piece_279 rfl ?_
        refine j_sub [0, 1, 2, 3, 4, 5, 7] (lv' := [(0, aR 29 v0), (4, aI v4), (5, aI v5), (6, aI v6), (7, aI v7), (8, aI v8), (10, aI v10)]) rfl ?_
        exact jb11_piece_283 N K243 hK243 v0 v4 v5 v6 v7 v8 v10 true σ5
theorem jl11_piece_243 {Γ : jX} {tg : Int32 × rS} (N : Nat) : ∀ (n : Nat) (v0 : Nat) (v4 : Int32) (v5 : Int32) (v6 : Int32) (v7 : Int32) (v8 : Int32) (v9 : Bool) (v10 : Int32) (σ : rS), J Γ rm11_piece eI cX11_piece RX11 11 (some .int) tg 0 0 243 [(0, aR 29 v0), (4, aI v4), (5, aI v5), (6, aI v6), (7, aI v7), (8, aI v8), (9, aI (bi v9)), (10, aI v10)] [] σ (L11_piece_243 N n v0 v4 v5 v6 v7 v8 v9 v10 σ) := by
  intro n
  induction n with
  | zero => intro v0 v4 v5 v6 v7 v8 v9 v10 σ; exact j_none
  | succ n ih => intro v0 v4 v5 v6 v7 v8 v9 v10 σ; exact jb11_piece_243 N (L11_piece_243 N n) ih v0 v4 v5 v6 v7 v8 v9 v10 σ
set_option maxRecDepth 20000 in
set_option maxHeartbeats 4000000 in
theorem j11_piece {Γ : jX} {tg : Int32 × rS} (N : Nat) (v0 : Nat) (v1 : Int32) (v2 : Int32) (σ : rS) : J Γ rm11_piece eI cX11_piece RX11 11 (some .int) tg 0 0 0 [(0, aR 29 v0), (1, aI v1), (2, aI v2)] [] σ (f11_piece N v0 v1 v2 σ) := by
  unfold f11_piece
  refine j_aload_n (pc := 0) 0 dX11_piece_0 rfl rfl ?_
  refine j_getF (pc := 1) fd_29_15 tw_4_78 dX11_piece_1 ?_
  refine j_iload_n (pc := 4) 1 dX11_piece_4 rfl rfl ?_
  refine j_iald (pc := 5) rfl rfl rfl dX11_piece_5 (fun j1 => ?_)
  refine j_iload_n (pc := 6) 2 dX11_piece_6 rfl rfl ?_
  refine j_isub (pc := 7) dX11_piece_7 ?_
  refine j_leti (fun x2 => ?_)
  refine j_istore_n (pc := 8) (lv' := [(3, aI x2), (0, aR 29 v0), (1, aI v1), (2, aI v2)]) dX11_piece_8 rfl (Nat.le_of_ble_eq_true rfl) rfl ?_
  refine j_sipush (pc := 9) (v := 400) (by decide) dX11_piece_9 ?_
  refine j_iload_n (pc := 12) 2 dX11_piece_12 rfl rfl ?_
  refine j_imul (pc := 13) dX11_piece_13 ?_
  refine j_iload_n (pc := 14) 3 dX11_piece_14 rfl rfl ?_
  refine j_iadd (pc := 15) dX11_piece_15 ?_
  refine j_leti (fun x3 => ?_)
  refine j_istore (pc := 16) (lv' := [(4, aI x3), (3, aI x2), (0, aR 29 v0), (1, aI v1), (2, aI v2)]) dX11_piece_16 (Nat.le_of_ble_eq_true rfl) rfl ?_
  refine j_iload_n (pc := 18) 1 dX11_piece_18 rfl rfl ?_
  refine j_ifne (pc := 19) (tgt := 25) dX11_piece_19 rfl (fun _ => ?_) (fun _ => ?_)
  · refine j_iload_n (pc := 25) 1 dX11_piece_25 rfl rfl ?_
    refine j_bipush (pc := 26) (v := 7) (by decide) dX11_piece_26 ?_
    refine j_icmplt (pc := 28) (tgt := 61) dX11_piece_28 rfl (fun _ => ?_) (fun _ => ?_)
    · refine j_bipush (pc := 61) (v := 7) (by decide) dX11_piece_61 ?_
      exact j_ireturn (pc := 63) rfl (Nat.le_of_ble_eq_true rfl) (Nat.le_of_ble_eq_true rfl) dX11_piece_63
    · refine j_bipush (pc := 31) (v := 7) (by decide) dX11_piece_31 ?_
      refine j_aload_n (pc := 33) 2 dX11_piece_33 rfl rfl ?_
      refine j_getF (pc := 34) fd_29_14 tw_4_77 dX11_piece_34 ?_
      refine j_iload (pc := 37) 0 dX11_piece_37 rfl ?_
      refine j_iconst (pc := 39) (v := 3) (by decide) dX11_piece_39 ?_
      refine j_iadd (pc := 40) dX11_piece_40 ?_
      refine j_iald (pc := 41) rfl rfl rfl dX11_piece_41 (fun j4 => ?_)
      refine j_iadd (pc := 42) dX11_piece_42 ?_
      refine j_sipush (pc := 43) (v := 256) (by decide) dX11_piece_43 ?_
      refine j_aload_n (pc := 46) 2 dX11_piece_46 rfl rfl ?_
      refine j_getF (pc := 47) fd_29_14 tw_4_77 dX11_piece_47 ?_
      refine j_iload (pc := 50) 0 dX11_piece_50 rfl ?_
      refine j_iconst (pc := 52) (v := 4) (by decide) dX11_piece_52 ?_
      refine j_iadd (pc := 53) dX11_piece_53 ?_
      refine j_iald (pc := 54) rfl rfl rfl dX11_piece_54 (fun j5 => ?_)
      refine j_imul (pc := 55) dX11_piece_55 ?_
      refine j_iadd (pc := 56) dX11_piece_56 ?_
      refine j_iload_n (pc := 57) 1 dX11_piece_57 rfl rfl ?_
      refine j_icmple (pc := 58) (tgt := 64) dX11_piece_58 rfl (fun _ => ?_) (fun _ => ?_)
      · refine j_aload_n (pc := 64) 2 dX11_piece_64 rfl rfl ?_
        refine j_getF (pc := 65) fd_29_14 tw_4_77 dX11_piece_65 ?_
        refine j_iload (pc := 68) 0 dX11_piece_68 rfl ?_
        refine j_iconst (pc := 70) (v := 3) (by decide) dX11_piece_70 ?_
        refine j_iadd (pc := 71) dX11_piece_71 ?_
        refine j_iald (pc := 72) rfl rfl rfl dX11_piece_72 (fun j6 => ?_)
        refine j_sipush (pc := 73) (v := 256) (by decide) dX11_piece_73 ?_
        refine j_aload_n (pc := 76) 2 dX11_piece_76 rfl rfl ?_
        refine j_getF (pc := 77) fd_29_14 tw_4_77 dX11_piece_77 ?_
        refine j_iload (pc := 80) 0 dX11_piece_80 rfl ?_
        refine j_iconst (pc := 82) (v := 4) (by decide) dX11_piece_82 ?_
        refine j_iadd (pc := 83) dX11_piece_83 ?_
        refine j_iald (pc := 84) rfl rfl rfl dX11_piece_84 (fun j7 => ?_)
        refine j_imul (pc := 85) dX11_piece_85 ?_
        refine j_iadd (pc := 86) dX11_piece_86 ?_
        refine j_leti (fun x8 => ?_)
        refine j_istore (pc := 87) (lv' := [(5, aI x8), (4, aI x3), (3, aI x2), (0, aR 29 v0), (1, aI v1), (2, aI v2)]) dX11_piece_87 (Nat.le_of_ble_eq_true rfl) rfl ?_
        refine j_sub [0, 1, 3, 4, 5] (lv' := [(5, aI x8), (4, aI x3), (0, aR 29 v0), (1, aI v1), (2, aI v2)]) rfl ?_
        refine j_aload_n (pc := 89) 2 dX11_piece_89 rfl rfl ?_
        refine j_getF (pc := 90) fd_29_14 tw_4_77 dX11_piece_90 ?_
        refine j_iload (pc := 93) 1 dX11_piece_93 rfl ?_
        refine j_iald (pc := 95) rfl rfl rfl dX11_piece_95 (fun j9 => ?_)
        refine j_sipush (pc := 96) (v := 160) (by decide) dX11_piece_96 ?_
        refine j_isub (pc := 99) dX11_piece_99 ?_
        refine j_leti (fun x10 => ?_)
        refine j_istore (pc := 100) (lv' := [(6, aI x10), (5, aI x8), (4, aI x3), (0, aR 29 v0), (1, aI v1), (2, aI v2)]) dX11_piece_100 (Nat.le_of_ble_eq_true rfl) rfl ?_
        refine j_aload_n (pc := 102) 3 dX11_piece_102 rfl rfl ?_
        refine j_getF (pc := 103) fd_29_14 tw_4_77 dX11_piece_103 ?_
        refine j_iload (pc := 106) 2 dX11_piece_106 rfl ?_
        refine j_iconst (pc := 108) (v := 1) (by decide) dX11_piece_108 ?_
        refine j_iadd (pc := 109) dX11_piece_109 ?_
        refine j_iald (pc := 110) rfl rfl rfl dX11_piece_110 (fun j11 => ?_)
        refine j_leti (fun x12 => ?_)
        refine j_istore (pc := 111) (lv' := [(7, aI x12), (6, aI x10), (5, aI x8), (4, aI x3), (0, aR 29 v0), (1, aI v1), (2, aI v2)]) dX11_piece_111 (Nat.le_of_ble_eq_true rfl) rfl ?_
        refine j_aload_n (pc := 113) 4 dX11_piece_113 rfl rfl ?_
        refine j_getF (pc := 114) fd_29_14 tw_4_77 dX11_piece_114 ?_
        refine j_iload (pc := 117) 3 dX11_piece_117 rfl ?_
        refine j_iconst (pc := 119) (v := 2) (by decide) dX11_piece_119 ?_
        refine j_iadd (pc := 120) dX11_piece_120 ?_
        refine j_iald (pc := 121) rfl rfl rfl dX11_piece_121 (fun j13 => ?_)
        refine j_leti (fun x14 => ?_)
        refine j_istore (pc := 122) (lv' := [(8, aI x14), (7, aI x12), (6, aI x10), (5, aI x8), (4, aI x3), (0, aR 29 v0), (1, aI v1), (2, aI v2)]) dX11_piece_122 (Nat.le_of_ble_eq_true rfl) rfl ?_
        refine j_iload (pc := 124) 2 dX11_piece_124 rfl ?_
        refine j_i2l (pc := 126) dX11_piece_126 ?_
        refine j_lconst (pc := 127) (v := 0) (by decide) dX11_piece_127 ?_
        refine j_ldc2 (pc := 128) tw_5_97 dX11_piece_128 ?_
        refine j_callSZ (pc := 131) (As := [aL (Int32.toInt64 x10), aL 0, aL 4]) (st := []) (fun l => c11_in l (Int32.toInt64 x10) 0 4) cs_RX11_140 rfl rfl (Nat.le_of_ble_eq_true rfl) ⟨(Nat.le_of_ble_eq_true rfl), (Nat.le_of_ble_eq_true rfl)⟩ ⟨(Nat.le_of_ble_eq_true rfl), (Nat.le_of_ble_eq_true rfl)⟩ dX11_piece_131 (fun r15 σ16 => ?_)
        refine j_ifeqB (pc := 134) (tgt := 151) dX11_piece_134 rfl (fun _ => ?_) (fun _ => ?_)
        · refine j_bipush (pc := 151) (v := 8) (by decide) dX11_piece_151 ?_
          exact j_ireturn (pc := 153) rfl (Nat.le_of_ble_eq_true rfl) (Nat.le_of_ble_eq_true rfl) dX11_piece_153
        · refine j_iload (pc := 137) 1 dX11_piece_137 rfl ?_
          refine j_bipush (pc := 139) (v := 7) (by decide) dX11_piece_139 ?_
          refine j_icmpgt (pc := 141) (tgt := 151) dX11_piece_141 rfl (fun _ => ?_) (fun _ => ?_)
          · refine j_bipush (pc := 151) (v := 8) (by decide) dX11_piece_151 ?_
            exact j_ireturn (pc := 153) rfl (Nat.le_of_ble_eq_true rfl) (Nat.le_of_ble_eq_true rfl) dX11_piece_153
          · refine j_iload (pc := 144) 0 dX11_piece_144 rfl ?_
            refine j_bipush (pc := 146) (v := 24) (by decide) dX11_piece_146 ?_
            refine j_icmple (pc := 148) (tgt := 154) dX11_piece_148 rfl (fun _ => ?_) (fun _ => ?_)
            · refine j_aload_n (pc := 154) 5 dX11_piece_154 rfl rfl ?_
              refine j_iload_n (pc := 155) 7 dX11_piece_155 rfl rfl ?_
              refine j_iconst (pc := 156) (v := 5) (by decide) dX11_piece_156 ?_
              refine j_iadd (pc := 157) dX11_piece_157 ?_
              refine j_putI (pc := 158) fd_29_18 rfl rfl tw_4_81 dX11_piece_158 ?_
              refine j_lets (fun σ17 => ?_)
              refine j_aload_n (pc := 161) 5 dX11_piece_161 rfl rfl ?_
              refine j_aload_n (pc := 162) 5 dX11_piece_162 rfl rfl ?_
              refine j_getI (pc := 163) fd_29_18 tw_4_81 dX11_piece_163 ?_
              refine j_iload (pc := 166) 3 dX11_piece_166 rfl ?_
              refine j_iadd (pc := 168) dX11_piece_168 ?_
              refine j_putI (pc := 169) fd_29_19 rfl rfl tw_4_82 dX11_piece_169 ?_
              refine j_lets (fun σ18 => ?_)
              refine j_aload_n (pc := 172) 5 dX11_piece_172 rfl rfl ?_
              refine j_iload_n (pc := 173) 6 dX11_piece_173 rfl rfl ?_
              refine j_iload_n (pc := 174) 7 dX11_piece_174 rfl rfl ?_
              refine j_aload_n (pc := 175) 5 dX11_piece_175 rfl rfl ?_
              refine j_getI (pc := 176) fd_29_19 tw_4_82 dX11_piece_176 ?_
              refine j_callVI (pc := 179) (As := [aI v1, aI v2, aI (gI σ18 29 v0 19)]) (st := []) (fun l => c11_sumOf l N v0 v1 v2 (gI σ18 29 v0 19)) cs_RX11_259 rfl rfl rfl rfl (Nat.le_of_ble_eq_true rfl) ⟨(Nat.le_of_ble_eq_true rfl), (Nat.le_of_ble_eq_true rfl)⟩ ⟨(Nat.le_of_ble_eq_true rfl), (Nat.le_of_ble_eq_true rfl)⟩ dX11_piece_179 (fun r19 σ20 => ?_)
              refine j_aload_n (pc := 182) 5 dX11_piece_182 rfl rfl ?_
              refine j_getF (pc := 183) fd_29_14 tw_4_77 dX11_piece_183 ?_
              refine j_sipush (pc := 186) (v := 400) (by decide) dX11_piece_186 ?_
              refine j_iload_n (pc := 189) 6 dX11_piece_189 rfl rfl ?_
              refine j_imul (pc := 190) dX11_piece_190 ?_
              refine j_aload_n (pc := 191) 5 dX11_piece_191 rfl rfl ?_
              refine j_getI (pc := 192) fd_29_19 tw_4_82 dX11_piece_192 ?_
              refine j_iadd (pc := 195) dX11_piece_195 ?_
              refine j_iald (pc := 196) rfl rfl rfl dX11_piece_196 (fun j21 => ?_)
              refine j_sipush (pc := 197) (v := 256) (by decide) dX11_piece_197 ?_
              refine j_aload_n (pc := 200) 5 dX11_piece_200 rfl rfl ?_
              refine j_getF (pc := 201) fd_29_14 tw_4_77 dX11_piece_201 ?_
              refine j_sipush (pc := 204) (v := 400) (by decide) dX11_piece_204 ?_
              refine j_iload_n (pc := 207) 6 dX11_piece_207 rfl rfl ?_
              refine j_imul (pc := 208) dX11_piece_208 ?_
              refine j_aload_n (pc := 209) 5 dX11_piece_209 rfl rfl ?_
              refine j_getI (pc := 210) fd_29_19 tw_4_82 dX11_piece_210 ?_
              refine j_iadd (pc := 213) dX11_piece_213 ?_
              refine j_iconst (pc := 214) (v := 1) (by decide) dX11_piece_214 ?_
              refine j_iadd (pc := 215) dX11_piece_215 ?_
              refine j_iald (pc := 216) rfl rfl rfl dX11_piece_216 (fun j22 => ?_)
              refine j_imul (pc := 217) dX11_piece_217 ?_
              refine j_iadd (pc := 218) dX11_piece_218 ?_
              refine j_icmpne (pc := 219) (tgt := 234) dX11_piece_219 rfl (fun _ => ?_) (fun _ => ?_)
              · refine j_bipush (pc := 234) (v := 8) (by decide) dX11_piece_234 ?_
                exact j_ireturn (pc := 236) rfl (Nat.le_of_ble_eq_true rfl) (Nat.le_of_ble_eq_true rfl) dX11_piece_236
              · refine j_aload_n (pc := 222) 5 dX11_piece_222 rfl rfl ?_
                refine j_iload_n (pc := 223) 6 dX11_piece_223 rfl rfl ?_
                refine j_iload (pc := 224) 2 dX11_piece_224 rfl ?_
                refine j_iload (pc := 226) 0 dX11_piece_226 rfl ?_
                refine j_callVZ (pc := 228) (As := [aI v1, aI x10, aI x14]) (st := []) (fun l => c11_decode l N v0 v1 x10 x14) cs_RX11_277 rfl rfl rfl rfl (Nat.le_of_ble_eq_true rfl) ⟨(Nat.le_of_ble_eq_true rfl), (Nat.le_of_ble_eq_true rfl)⟩ ⟨(Nat.le_of_ble_eq_true rfl), (Nat.le_of_ble_eq_true rfl)⟩ dX11_piece_228 (fun r23 σ24 => ?_)
                refine j_ifneB (pc := 231) (tgt := 237) dX11_piece_231 rfl (fun _ => ?_) (fun _ => ?_)
                · refine j_iconst (pc := 237) (v := 1) (by decide) dX11_piece_237 ?_
                  refine j_istore (pc := 238) (lv' := [(9, aI 1), (8, aI x14), (7, aI x12), (6, aI x10), (5, aI x8), (4, aI x3), (0, aR 29 v0), (1, aI v1), (2, aI v2)]) dX11_piece_238 (Nat.le_of_ble_eq_true rfl) rfl ?_
                  refine j_sub [0, 1, 2, 3, 4, 5, 6] (lv' := [(9, aI 1), (8, aI x14), (7, aI x12), (6, aI x10), (5, aI x8), (4, aI x3), (0, aR 29 v0)]) rfl ?_
                  refine j_iconst (pc := 240) (v := 0) (by decide) dX11_piece_240 ?_
                  refine j_istore (pc := 241) (lv' := [(10, aI 0), (9, aI 1), (8, aI x14), (7, aI x12), (6, aI x10), (5, aI x8), (4, aI x3), (0, aR 29 v0)]) dX11_piece_241 (Nat.le_of_ble_eq_true rfl) rfl ?_
                  refine j_sub [7, 6, 5, 4, 3, 2, 1, 0] (lv' := [(0, aR 29 v0), (4, aI x3), (5, aI x8), (6, aI x10), (7, aI x12), (8, aI x14), (9, aI 1), (10, aI 0)]) rfl ?_
                  exact jl11_piece_243 N  N v0 x3 x8 x10 x12 x14 true 0 σ24
                · refine j_bipush (pc := 234) (v := 8) (by decide) dX11_piece_234 ?_
                  exact j_ireturn (pc := 236) rfl (Nat.le_of_ble_eq_true rfl) (Nat.le_of_ble_eq_true rfl) dX11_piece_236
            · refine j_bipush (pc := 151) (v := 8) (by decide) dX11_piece_151 ?_
              exact j_ireturn (pc := 153) rfl (Nat.le_of_ble_eq_true rfl) (Nat.le_of_ble_eq_true rfl) dX11_piece_153
      · refine j_bipush (pc := 61) (v := 7) (by decide) dX11_piece_61 ?_
        exact j_ireturn (pc := 63) rfl (Nat.le_of_ble_eq_true rfl) (Nat.le_of_ble_eq_true rfl) dX11_piece_63
  · refine j_bipush (pc := 22) (v := 6) (by decide) dX11_piece_22 ?_
    exact j_ireturn (pc := 24) rfl (Nat.le_of_ble_eq_true rfl) (Nat.le_of_ble_eq_true rfl) dX11_piece_24
theorem c11_piece (l : Launch) (N : Nat) (v0 : Nat) (v1 : Int32) (v2 : Int32) : Ctr l yX11_piece cX11_piece 11 (some .int) rm11_piece eI [aR 29 v0, aI v1, aI v2] (f11_piece N v0 v1 v2) := ctr_of (lv := [(0, aR 29 v0), (1, aI v1), (2, aI v2)]) (by decide +kernel) (fun _ => rfl) (fun _ => (Nat.le_of_ble_eq_true rfl)) (fun _ h => lvl_als h rfl) (fun _ σ _ => j11_piece N v0 v1 v2 σ)
theorem cs_RX11_281 : CaV RX11 RX11 281 yX11_piece cX11_piece 11 (some .int) 2 := ⟨tw_5_169, tw_5_171, tw_p35, tw_1_5, tw_5_172, rfl, by decide +kernel, by decide +kernel, by decide +kernel⟩
abbrev rm11_pieces : Room := { frames := 3, cells := 0, slots := 0, locals := 82 }
set_option maxRecDepth 20000 in
set_option maxHeartbeats 4000000 in
theorem jb11_pieces_15 {Γ : jX} {tg : Int32 × rS} (N : Nat) (K15 : Nat → Int32 → Int32 → Int32 → rS → Option (Int32 × rS)) (hK15 : ∀ (v0 : Nat) (v1 : Int32) (v2 : Int32) (v3 : Int32) (σ : rS), J Γ rm11_pieces eI cX11_pieces RX11 4 (some .int) tg 0 0 15 [(0, aR 29 v0), (1, aI v1), (2, aI v2), (3, aI v3)] [] σ (K15 v0 v1 v2 v3 σ)) (v0 : Nat) (v1 : Int32) (v2 : Int32) (v3 : Int32) (σ : rS) : J Γ rm11_pieces eI cX11_pieces RX11 4 (some .int) tg 0 0 15 [(0, aR 29 v0), (1, aI v1), (2, aI v2), (3, aI v3)] [] σ (B11_pieces_15 N K15 v0 v1 v2 v3 σ) := by
  unfold B11_pieces_15
  refine j_aload_n (pc := 15) 0 dX11_pieces_15 rfl rfl ?_
  refine j_iload_n (pc := 16) 1 dX11_pieces_16 rfl rfl ?_
  refine j_iload_n (pc := 17) 2 dX11_pieces_17 rfl rfl ?_
  refine j_callVI (pc := 18) (As := [aI v1, aI v2]) (st := []) (fun l => c11_piece l N v0 v1 v2) cs_RX11_281 rfl rfl rfl rfl (Nat.le_of_ble_eq_true rfl) ⟨(Nat.le_of_ble_eq_true rfl), (Nat.le_of_ble_eq_true rfl)⟩ ⟨(Nat.le_of_ble_eq_true rfl), (Nat.le_of_ble_eq_true rfl)⟩ dX11_pieces_18 (fun r1 σ2 => ?_)
  refine j_ifne (pc := 21) (tgt := 37) dX11_pieces_21 rfl (fun _ => ?_) (fun _ => ?_)
  · refine j_iload_n (pc := 37) 3 dX11_pieces_37 rfl rfl ?_
    exact j_ireturn (pc := 38) rfl (Nat.le_of_ble_eq_true rfl) (Nat.le_of_ble_eq_true rfl) dX11_pieces_38
  · refine j_aload_n (pc := 24) 0 dX11_pieces_24 rfl rfl ?_
    refine j_getI (pc := 25) fd_29_19 tw_4_82 dX11_pieces_25 ?_
    refine j_iconst (pc := 28) (v := 2) (by decide) dX11_pieces_28 ?_
    refine j_iadd (pc := 29) dX11_pieces_29 ?_
    refine j_leti (fun x3 => ?_)
    refine j_istore_n (pc := 30) (lv' := [(2, aI x3), (0, aR 29 v0), (1, aI v1), (3, aI v3)]) dX11_pieces_30 rfl (Nat.le_of_ble_eq_true rfl) rfl ?_
    refine j_iinc (pc := 31) (w := 1) (lv' := [(3, aI (v3 + 1)), (2, aI x3), (0, aR 29 v0), (1, aI v1)]) 3 dX11_pieces_31 rfl (by decide) (Nat.le_of_ble_eq_true rfl) rfl ?_
    refine j_goto (pc := 34) (tgt := 15) dX11_pieces_34 rfl ?_
    refine j_sub [2, 3, 1, 0] (lv' := [(0, aR 29 v0), (1, aI v1), (2, aI x3), (3, aI (v3 + 1))]) rfl ?_
    exact hK15 v0 v1 x3 (v3 + 1) σ2
theorem jl11_pieces_15 {Γ : jX} {tg : Int32 × rS} (N : Nat) : ∀ (n : Nat) (v0 : Nat) (v1 : Int32) (v2 : Int32) (v3 : Int32) (σ : rS), J Γ rm11_pieces eI cX11_pieces RX11 4 (some .int) tg 0 0 15 [(0, aR 29 v0), (1, aI v1), (2, aI v2), (3, aI v3)] [] σ (L11_pieces_15 N n v0 v1 v2 v3 σ) := by
  intro n
  induction n with
  | zero => intro v0 v1 v2 v3 σ; exact j_none
  | succ n ih => intro v0 v1 v2 v3 σ; exact jb11_pieces_15 N (L11_pieces_15 N n) ih v0 v1 v2 v3 σ
set_option maxRecDepth 20000 in
set_option maxHeartbeats 4000000 in
theorem j11_pieces {Γ : jX} {tg : Int32 × rS} (N : Nat) (v0 : Nat) (v1 : Int32) (σ : rS) : J Γ rm11_pieces eI cX11_pieces RX11 4 (some .int) tg 0 0 0 [(0, aR 29 v0), (1, aI v1)] [] σ (f11_pieces N v0 v1 σ) := by
  unfold f11_pieces
  refine j_aload_n (pc := 0) 0 dX11_pieces_0 rfl rfl ?_
  refine j_iload_n (pc := 1) 1 dX11_pieces_1 rfl rfl ?_
  refine j_callVZ (pc := 2) (As := [aI v1]) (st := []) (fun l => c11_isStream l v0 v1) cs_RX11_247 rfl rfl rfl rfl (Nat.le_of_ble_eq_true rfl) ⟨(Nat.le_of_ble_eq_true rfl), (Nat.le_of_ble_eq_true rfl)⟩ ⟨(Nat.le_of_ble_eq_true rfl), (Nat.le_of_ble_eq_true rfl)⟩ dX11_pieces_2 (fun r1 σ2 => ?_)
  refine j_ifneB (pc := 5) (tgt := 11) dX11_pieces_5 rfl (fun _ => ?_) (fun _ => ?_)
  · refine j_iconst (pc := 11) (v := 0) (by decide) dX11_pieces_11 ?_
    refine j_istore_n (pc := 12) (lv' := [(2, aI 0), (0, aR 29 v0), (1, aI v1)]) dX11_pieces_12 rfl (Nat.le_of_ble_eq_true rfl) rfl ?_
    refine j_iconst (pc := 13) (v := 0) (by decide) dX11_pieces_13 ?_
    refine j_istore_n (pc := 14) (lv' := [(3, aI 0), (2, aI 0), (0, aR 29 v0), (1, aI v1)]) dX11_pieces_14 rfl (Nat.le_of_ble_eq_true rfl) rfl ?_
    refine j_sub [2, 3, 1, 0] (lv' := [(0, aR 29 v0), (1, aI v1), (2, aI 0), (3, aI 0)]) rfl ?_
    exact jl11_pieces_15 N  N v0 v1 0 0 σ2
  · refine j_bipush (pc := 8) (v := (-101)) (by decide) dX11_pieces_8 ?_
    exact j_ireturn (pc := 10) rfl (Nat.le_of_ble_eq_true rfl) (Nat.le_of_ble_eq_true rfl) dX11_pieces_10
theorem c11_pieces (l : Launch) (N : Nat) (v0 : Nat) (v1 : Int32) : Ctr l yX11_pieces cX11_pieces 4 (some .int) rm11_pieces eI [aR 29 v0, aI v1] (f11_pieces N v0 v1) := ctr_of (lv := [(0, aR 29 v0), (1, aI v1)]) (by decide +kernel) (fun _ => rfl) (fun _ => (Nat.le_of_ble_eq_true rfl)) (fun _ h => lvl_als h rfl) (fun _ σ _ => j11_pieces N v0 v1 σ)
abbrev rm11_put : Room := { frames := 3, cells := 0, slots := 0, locals := 68 }
set_option maxRecDepth 20000 in
set_option maxHeartbeats 4000000 in
theorem j11_put {Γ : jX} {tg : Int32 × rS} (v0 : Nat) (v1 : Int32) (v2 : Int32) (v3 : Int64) (σ : rS) : J Γ rm11_put eI cX11_put RX11 6 (some .int) tg 0 0 0 [(0, aR 29 v0), (1, aI v1), (2, aI v2), (3, aL v3)] [] σ (f11_put v0 v1 v2 v3 σ) := by
  unfold f11_put
  refine j_aload_n (pc := 0) 0 dX11_put_0 rfl rfl ?_
  refine j_iload_n (pc := 1) 1 dX11_put_1 rfl rfl ?_
  refine j_iload_n (pc := 2) 2 dX11_put_2 rfl rfl ?_
  refine j_callVI (pc := 3) (As := [aI v1, aI v2]) (st := []) (fun l => c11_against l v0 v1 v2) cs_RX11_158 rfl rfl rfl rfl (Nat.le_of_ble_eq_true rfl) ⟨(Nat.le_of_ble_eq_true rfl), (Nat.le_of_ble_eq_true rfl)⟩ ⟨(Nat.le_of_ble_eq_true rfl), (Nat.le_of_ble_eq_true rfl)⟩ dX11_put_3 (fun r1 σ2 => ?_)
  refine j_istore (pc := 6) (lv' := [(5, aI r1), (0, aR 29 v0), (1, aI v1), (2, aI v2), (3, aL v3)]) dX11_put_6 (Nat.le_of_ble_eq_true rfl) rfl ?_
  refine j_iload (pc := 8) 0 dX11_put_8 rfl ?_
  refine j_ifne (pc := 10) (tgt := 34) dX11_put_10 rfl (fun _ => ?_) (fun _ => ?_)
  · refine j_iload (pc := 34) 0 dX11_put_34 rfl ?_
    exact j_ireturn (pc := 36) rfl (Nat.le_of_ble_eq_true rfl) (Nat.le_of_ble_eq_true rfl) dX11_put_36
  · refine j_aload_n (pc := 13) 1 dX11_put_13 rfl rfl ?_
    refine j_getF (pc := 14) fd_29_7 tw_4_70 dX11_put_14 ?_
    refine j_bipush (pc := 17) (v := 24) (by decide) dX11_put_17 ?_
    refine j_iload_n (pc := 19) 2 dX11_put_19 rfl rfl ?_
    refine j_imul (pc := 20) dX11_put_20 ?_
    refine j_iload_n (pc := 21) 3 dX11_put_21 rfl rfl ?_
    refine j_iadd (pc := 22) dX11_put_22 ?_
    refine j_aload_n (pc := 23) 1 dX11_put_23 rfl rfl ?_
    refine j_getF (pc := 24) fd_29_4 tw_4_67 dX11_put_24 ?_
    refine j_iload_n (pc := 27) 2 dX11_put_27 rfl rfl ?_
    refine j_iald (pc := 28) rfl rfl rfl dX11_put_28 (fun j3 => ?_)
    refine j_lload_n (pc := 29) 4 dX11_put_29 rfl rfl ?_
    refine j_callSL (pc := 30) (As := [aI (gI σ2 34 v0 j3), aL v3]) (st := [aI ((24 * v1) + v2), aR 37 v0]) (fun l => c11_cut l (gI σ2 34 v0 j3) v3) cs_RX11_127 rfl rfl (Nat.le_of_ble_eq_true rfl) ⟨(Nat.le_of_ble_eq_true rfl), (Nat.le_of_ble_eq_true rfl)⟩ ⟨(Nat.le_of_ble_eq_true rfl), (Nat.le_of_ble_eq_true rfl)⟩ dX11_put_30 (fun r4 σ5 => ?_)
    refine j_last (pc := 33) rfl rfl rfl dX11_put_33 (fun j6 => ?_)
    refine j_lets (fun σ7 => ?_)
    refine j_iload (pc := 34) 0 dX11_put_34 rfl ?_
    exact j_ireturn (pc := 36) rfl (Nat.le_of_ble_eq_true rfl) (Nat.le_of_ble_eq_true rfl) dX11_put_36
theorem c11_put (l : Launch) (v0 : Nat) (v1 : Int32) (v2 : Int32) (v3 : Int64) : Ctr l yX11_put cX11_put 6 (some .int) rm11_put eI [aR 29 v0, aI v1, aI v2, aL v3] (f11_put v0 v1 v2 v3) := ctr_of (lv := [(0, aR 29 v0), (1, aI v1), (2, aI v2), (3, aL v3)]) (by decide +kernel) (fun _ => rfl) (fun _ => (Nat.le_of_ble_eq_true rfl)) (fun _ h => lvl_als h rfl) (fun _ σ _ => j11_put v0 v1 v2 v3 σ)
theorem cs_RX11_150 : CaV RX11 RX11 150 yX11_newRow cX11_newRow 4 (some .int) 2 := ⟨tw_4_188, tw_4_190, tw_p22, tw_1_5, tw_4_191, rfl, by decide +kernel, by decide +kernel, by decide +kernel⟩
abbrev rm11_read : Room := { frames := 3, cells := 0, slots := 0, locals := 82 }
set_option maxRecDepth 20000 in
set_option maxHeartbeats 4000000 in
theorem jb11_read_76 {Γ : jX} {tg : Int32 × rS} (N : Nat) (K76 : Nat → Int32 → Int32 → Int32 → rS → Option (Int32 × rS)) (hK76 : ∀ (v0 : Nat) (v1 : Int32) (v3 : Int32) (v4 : Int32) (σ : rS), J Γ rm11_read eI cX11_read RX11 5 (some .int) tg 0 0 76 [(0, aR 29 v0), (1, aI v1), (3, aI v3), (4, aI v4)] [] σ (K76 v0 v1 v3 v4 σ)) (v0 : Nat) (v1 : Int32) (v3 : Int32) (v4 : Int32) (σ : rS) : J Γ rm11_read eI cX11_read RX11 5 (some .int) tg 0 0 76 [(0, aR 29 v0), (1, aI v1), (3, aI v3), (4, aI v4)] [] σ (B11_read_76 N K76 v0 v1 v3 v4 σ) := by
  unfold B11_read_76
  refine j_iload (pc := 76) 3 dX11_read_76 rfl ?_
  refine j_aload_n (pc := 78) 0 dX11_read_78 rfl rfl ?_
  refine j_getI (pc := 79) fd_29_10 tw_4_73 dX11_read_79 ?_
  refine j_icmpge (pc := 82) (tgt := 110) dX11_read_82 rfl (fun _ => ?_) (fun _ => ?_)
  · refine j_aload_n (pc := 110) 0 dX11_read_110 rfl rfl ?_
    refine j_getF (pc := 111) fd_29_16 tw_4_79 dX11_read_111 ?_
    refine j_iload_n (pc := 114) 1 dX11_read_114 rfl rfl ?_
    refine j_aload_n (pc := 115) 0 dX11_read_115 rfl rfl ?_
    refine j_getI (pc := 116) fd_29_19 tw_4_82 dX11_read_116 ?_
    refine j_iconst (pc := 119) (v := 2) (by decide) dX11_read_119 ?_
    refine j_iadd (pc := 120) dX11_read_120 ?_
    refine j_iast (pc := 121) rfl rfl rfl dX11_read_121 (fun j1 => ?_)
    refine j_lets (fun σ2 => ?_)
    refine j_iload_n (pc := 122) 2 dX11_read_122 rfl rfl ?_
    exact j_ireturn (pc := 123) rfl (Nat.le_of_ble_eq_true rfl) (Nat.le_of_ble_eq_true rfl) dX11_read_123
  · refine j_aload_n (pc := 85) 0 dX11_read_85 rfl rfl ?_
    refine j_getF (pc := 86) fd_29_7 tw_4_70 dX11_read_86 ?_
    refine j_bipush (pc := 89) (v := 24) (by decide) dX11_read_89 ?_
    refine j_iload_n (pc := 91) 2 dX11_read_91 rfl rfl ?_
    refine j_imul (pc := 92) dX11_read_92 ?_
    refine j_iload (pc := 93) 3 dX11_read_93 rfl ?_
    refine j_iadd (pc := 95) dX11_read_95 ?_
    refine j_aload_n (pc := 96) 0 dX11_read_96 rfl rfl ?_
    refine j_getF (pc := 97) fd_29_9 tw_4_72 dX11_read_97 ?_
    refine j_iload (pc := 100) 3 dX11_read_100 rfl ?_
    refine j_lald (pc := 102) rfl rfl rfl dX11_read_102 (fun j3 => ?_)
    refine j_last (pc := 103) rfl rfl rfl dX11_read_103 (fun j4 => ?_)
    refine j_lets (fun σ5 => ?_)
    refine j_iinc (pc := 104) (w := 1) (lv' := [(4, aI (v4 + 1)), (0, aR 29 v0), (1, aI v1), (3, aI v3)]) 3 dX11_read_104 rfl (by decide) (Nat.le_of_ble_eq_true rfl) rfl ?_
    refine j_goto (pc := 107) (tgt := 76) dX11_read_107 rfl ?_
    refine j_sub [1, 2, 3, 0] (lv' := [(0, aR 29 v0), (1, aI v1), (3, aI v3), (4, aI (v4 + 1))]) rfl ?_
    exact hK76 v0 v1 v3 (v4 + 1) σ5
theorem jl11_read_76 {Γ : jX} {tg : Int32 × rS} (N : Nat) : ∀ (n : Nat) (v0 : Nat) (v1 : Int32) (v3 : Int32) (v4 : Int32) (σ : rS), J Γ rm11_read eI cX11_read RX11 5 (some .int) tg 0 0 76 [(0, aR 29 v0), (1, aI v1), (3, aI v3), (4, aI v4)] [] σ (L11_read_76 N n v0 v1 v3 v4 σ) := by
  intro n
  induction n with
  | zero => intro v0 v1 v3 v4 σ; exact j_none
  | succ n ih => intro v0 v1 v3 v4 σ; exact jb11_read_76 N (L11_read_76 N n) ih v0 v1 v3 v4 σ
set_option maxRecDepth 20000 in
set_option maxHeartbeats 4000000 in
theorem j11_read {Γ : jX} {tg : Int32 × rS} (N : Nat) (v0 : Nat) (v1 : Int32) (σ : rS) : J Γ rm11_read eI cX11_read RX11 5 (some .int) tg 0 0 0 [(0, aR 29 v0), (1, aI v1)] [] σ (f11_read N v0 v1 σ) := by
  unfold f11_read
  refine j_aload_n (pc := 0) 0 dX11_read_0 rfl rfl ?_
  refine j_iload_n (pc := 1) 1 dX11_read_1 rfl rfl ?_
  refine j_callVZ (pc := 2) (As := [aI v1]) (st := []) (fun l => c11_isStream l v0 v1) cs_RX11_247 rfl rfl rfl rfl (Nat.le_of_ble_eq_true rfl) ⟨(Nat.le_of_ble_eq_true rfl), (Nat.le_of_ble_eq_true rfl)⟩ ⟨(Nat.le_of_ble_eq_true rfl), (Nat.le_of_ble_eq_true rfl)⟩ dX11_read_2 (fun r1 σ2 => ?_)
  refine j_ifneB (pc := 5) (tgt := 11) dX11_read_5 rfl (fun _ => ?_) (fun _ => ?_)
  · refine j_aload_n (pc := 11) 0 dX11_read_11 rfl rfl ?_
    refine j_iload_n (pc := 12) 1 dX11_read_12 rfl rfl ?_
    refine j_aload_n (pc := 13) 0 dX11_read_13 rfl rfl ?_
    refine j_getF (pc := 14) fd_29_16 tw_4_79 dX11_read_14 ?_
    refine j_iload_n (pc := 17) 1 dX11_read_17 rfl rfl ?_
    refine j_iald (pc := 18) rfl rfl rfl dX11_read_18 (fun j3 => ?_)
    refine j_callVI (pc := 19) (As := [aI v1, aI (gI σ2 46 v0 j3)]) (st := []) (fun l => c11_piece l N v0 v1 (gI σ2 46 v0 j3)) cs_RX11_281 rfl rfl rfl rfl (Nat.le_of_ble_eq_true rfl) ⟨(Nat.le_of_ble_eq_true rfl), (Nat.le_of_ble_eq_true rfl)⟩ ⟨(Nat.le_of_ble_eq_true rfl), (Nat.le_of_ble_eq_true rfl)⟩ dX11_read_19 (fun r4 σ5 => ?_)
    refine j_istore_n (pc := 22) (lv' := [(2, aI r4), (0, aR 29 v0), (1, aI v1)]) dX11_read_22 rfl (Nat.le_of_ble_eq_true rfl) rfl ?_
    refine j_iload_n (pc := 23) 0 dX11_read_23 rfl rfl ?_
    refine j_ifle (pc := 24) (tgt := 33) dX11_read_24 rfl (fun _ => ?_) (fun _ => ?_)
    · refine j_aload_n (pc := 33) 1 dX11_read_33 rfl rfl ?_
      refine j_getI (pc := 34) fd_29_3 tw_4_66 dX11_read_34 ?_
      refine j_bipush (pc := 37) (v := 60) (by decide) dX11_read_37 ?_
      refine j_icmpne (pc := 39) (tgt := 45) dX11_read_39 rfl (fun _ => ?_) (fun _ => ?_)
      · refine j_aload_n (pc := 45) 1 dX11_read_45 rfl rfl ?_
        refine j_aload_n (pc := 46) 1 dX11_read_46 rfl rfl ?_
        refine j_getF (pc := 47) fd_29_14 tw_4_77 dX11_read_47 ?_
        refine j_sipush (pc := 50) (v := 400) (by decide) dX11_read_50 ?_
        refine j_iload_n (pc := 53) 2 dX11_read_53 rfl rfl ?_
        refine j_imul (pc := 54) dX11_read_54 ?_
        refine j_aload_n (pc := 55) 1 dX11_read_55 rfl rfl ?_
        refine j_getF (pc := 56) fd_29_16 tw_4_79 dX11_read_56 ?_
        refine j_iload_n (pc := 59) 2 dX11_read_59 rfl rfl ?_
        refine j_iald (pc := 60) rfl rfl rfl dX11_read_60 (fun j6 => ?_)
        refine j_iadd (pc := 61) dX11_read_61 ?_
        refine j_iconst (pc := 62) (v := 1) (by decide) dX11_read_62 ?_
        refine j_iadd (pc := 63) dX11_read_63 ?_
        refine j_iald (pc := 64) rfl rfl rfl dX11_read_64 (fun j7 => ?_)
        refine j_aload_n (pc := 65) 1 dX11_read_65 rfl rfl ?_
        refine j_getI (pc := 66) fd_29_10 tw_4_73 dX11_read_66 ?_
        refine j_callVI (pc := 69) (As := [aI (gI σ5 44 v0 j7), aI (gI σ5 29 v0 10)]) (st := []) (fun l => c11_newRow l N v0 (gI σ5 44 v0 j7) (gI σ5 29 v0 10)) cs_RX11_150 rfl rfl rfl rfl (Nat.le_of_ble_eq_true rfl) ⟨(Nat.le_of_ble_eq_true rfl), (Nat.le_of_ble_eq_true rfl)⟩ ⟨(Nat.le_of_ble_eq_true rfl), (Nat.le_of_ble_eq_true rfl)⟩ dX11_read_69 (fun r8 σ9 => ?_)
        refine j_istore_n (pc := 72) (lv' := [(3, aI r8), (2, aI r4), (0, aR 29 v0), (1, aI v1)]) dX11_read_72 rfl (Nat.le_of_ble_eq_true rfl) rfl ?_
        refine j_sub [0, 2, 3] (lv' := [(3, aI r8), (0, aR 29 v0), (1, aI v1)]) rfl ?_
        refine j_iconst (pc := 73) (v := 0) (by decide) dX11_read_73 ?_
        refine j_istore (pc := 74) (lv' := [(4, aI 0), (3, aI r8), (0, aR 29 v0), (1, aI v1)]) dX11_read_74 (Nat.le_of_ble_eq_true rfl) rfl ?_
        refine j_sub [2, 3, 1, 0] (lv' := [(0, aR 29 v0), (1, aI v1), (3, aI r8), (4, aI 0)]) rfl ?_
        exact jl11_read_76 N  N v0 v1 r8 0 σ9
      · refine j_bipush (pc := 42) (v := (-104)) (by decide) dX11_read_42 ?_
        exact j_ireturn (pc := 44) rfl (Nat.le_of_ble_eq_true rfl) (Nat.le_of_ble_eq_true rfl) dX11_read_44
    · refine j_aload_n (pc := 27) 1 dX11_read_27 rfl rfl ?_
      refine j_iload_n (pc := 28) 0 dX11_read_28 rfl rfl ?_
      refine j_callVI (pc := 29) (As := [aI r4]) (st := []) (fun l => c11_meets l v0 r4) cs_RX11_146 rfl rfl rfl rfl (Nat.le_of_ble_eq_true rfl) ⟨(Nat.le_of_ble_eq_true rfl), (Nat.le_of_ble_eq_true rfl)⟩ ⟨(Nat.le_of_ble_eq_true rfl), (Nat.le_of_ble_eq_true rfl)⟩ dX11_read_29 (fun r10 σ11 => ?_)
      exact j_ireturn (pc := 32) rfl (Nat.le_of_ble_eq_true rfl) (Nat.le_of_ble_eq_true rfl) dX11_read_32
  · refine j_bipush (pc := 8) (v := (-101)) (by decide) dX11_read_8 ?_
    exact j_ireturn (pc := 10) rfl (Nat.le_of_ble_eq_true rfl) (Nat.le_of_ble_eq_true rfl) dX11_read_10
theorem c11_read (l : Launch) (N : Nat) (v0 : Nat) (v1 : Int32) : Ctr l yX11_read cX11_read 5 (some .int) rm11_read eI [aR 29 v0, aI v1] (f11_read N v0 v1) := ctr_of (lv := [(0, aR 29 v0), (1, aI v1)]) (by decide +kernel) (fun _ => rfl) (fun _ => (Nat.le_of_ble_eq_true rfl)) (fun _ h => lvl_als h rfl) (fun _ σ _ => j11_read N v0 v1 σ)
theorem cs_RX11_123 : CaS RX11 123 yJxe99ae_doubleToLongBits_ccdee cJxe99ae_doubleToLongBits_ccdee 2 (some .long) 1 := ⟨tw_5_42, tw_5_43, tw_1_12, tw_5_44, by decide +kernel, by decide +kernel, by decide +kernel⟩
theorem cs_RX11_119 : CaS RX11 119 yJxf58ca_floatToIntBits_5c35a cJxf58ca_floatToIntBits_5c35a 1 (some .int) 1 := ⟨tw_5_32, tw_5_33, tw_1_11, tw_5_34, by decide +kernel, by decide +kernel, by decide +kernel⟩
theorem cs_RX11_201 : CaS RX11 201 yX11_kMask cX11_kMask 1 (some .long) 1 := ⟨tw_5_62, tw_5_63, tw_1_5, tw_5_64, by decide +kernel, by decide +kernel, by decide +kernel⟩
theorem cs_RX11_204 : CaS RX11 204 yX11_kEndless cX11_kEndless 1 (some .long) 1 := ⟨tw_5_65, tw_5_66, tw_1_5, tw_5_67, by decide +kernel, by decide +kernel, by decide +kernel⟩
abbrev rm11_rest : Room := { frames := 3, cells := 0, slots := 0, locals := 68 }
set_option maxRecDepth 20000 in
set_option maxHeartbeats 4000000 in
theorem jb11_rest_127 {Γ : jX} {tg : Int32 × rS} (v0 : Nat) (v5 : Int32) (v6 : Int64) (v8 : Int64) (s0 : Bool) (σ : rS) : J Γ rm11_rest eI cX11_rest RX11 11 (some .int) tg 0 0 127 [(0, aR 29 v0), (5, aI v5), (6, aL v6), (8, aL v8)] [aI (bi s0)] σ (B11_rest_127 v0 v5 v6 v8 s0 σ) := by
  unfold B11_rest_127
  refine j_istore (pc := 127) (lv' := [(10, aI (bi s0)), (0, aR 29 v0), (5, aI v5), (6, aL v6), (8, aL v8)]) dX11_rest_127 (Nat.le_of_ble_eq_true rfl) rfl ?_
  refine j_iload (pc := 129) 2 dX11_rest_129 rfl ?_
  refine j_lload (pc := 131) 3 dX11_rest_131 rfl ?_
  refine j_callSZ (pc := 133) (As := [aI v5, aL v6]) (st := []) (fun l => c11_isGap l v5 v6) cs_RX11_99 rfl rfl (Nat.le_of_ble_eq_true rfl) ⟨(Nat.le_of_ble_eq_true rfl), (Nat.le_of_ble_eq_true rfl)⟩ ⟨(Nat.le_of_ble_eq_true rfl), (Nat.le_of_ble_eq_true rfl)⟩ dX11_rest_133 (fun r1 σ2 => ?_)
  refine j_ifneB (pc := 136) (tgt := 166) dX11_rest_136 rfl (fun _ => ?_) (fun _ => ?_)
  · refine j_aload_n (pc := 166) 1 dX11_rest_166 rfl rfl ?_
    refine j_iconst (pc := 167) (v := 5) (by decide) dX11_rest_167 ?_
    refine j_callVI (pc := 168) (As := [aI 5]) (st := []) (fun l => c11_meets l v0 5) cs_RX11_146 rfl rfl rfl rfl (Nat.le_of_ble_eq_true rfl) ⟨(Nat.le_of_ble_eq_true rfl), (Nat.le_of_ble_eq_true rfl)⟩ ⟨(Nat.le_of_ble_eq_true rfl), (Nat.le_of_ble_eq_true rfl)⟩ dX11_rest_168 (fun r3 σ4 => ?_)
    exact j_ireturn (pc := 171) rfl (Nat.le_of_ble_eq_true rfl) (Nat.le_of_ble_eq_true rfl) dX11_rest_171
  · refine j_iload (pc := 139) 2 dX11_rest_139 rfl ?_
    refine j_lload (pc := 141) 4 dX11_rest_141 rfl ?_
    refine j_callSZ (pc := 143) (As := [aI v5, aL v8]) (st := []) (fun l => c11_isGap l v5 v8) cs_RX11_99 rfl rfl (Nat.le_of_ble_eq_true rfl) ⟨(Nat.le_of_ble_eq_true rfl), (Nat.le_of_ble_eq_true rfl)⟩ ⟨(Nat.le_of_ble_eq_true rfl), (Nat.le_of_ble_eq_true rfl)⟩ dX11_rest_143 (fun r5 σ6 => ?_)
    refine j_ifneB (pc := 146) (tgt := 166) dX11_rest_146 rfl (fun _ => ?_) (fun _ => ?_)
    · refine j_aload_n (pc := 166) 1 dX11_rest_166 rfl rfl ?_
      refine j_iconst (pc := 167) (v := 5) (by decide) dX11_rest_167 ?_
      refine j_callVI (pc := 168) (As := [aI 5]) (st := []) (fun l => c11_meets l v0 5) cs_RX11_146 rfl rfl rfl rfl (Nat.le_of_ble_eq_true rfl) ⟨(Nat.le_of_ble_eq_true rfl), (Nat.le_of_ble_eq_true rfl)⟩ ⟨(Nat.le_of_ble_eq_true rfl), (Nat.le_of_ble_eq_true rfl)⟩ dX11_rest_168 (fun r7 σ8 => ?_)
      exact j_ireturn (pc := 171) rfl (Nat.le_of_ble_eq_true rfl) (Nat.le_of_ble_eq_true rfl) dX11_rest_171
    · refine j_iload (pc := 149) 0 dX11_rest_149 rfl ?_
      refine j_ifneB (pc := 151) (tgt := 166) dX11_rest_151 rfl (fun _ => ?_) (fun _ => ?_)
      · refine j_aload_n (pc := 166) 1 dX11_rest_166 rfl rfl ?_
        refine j_iconst (pc := 167) (v := 5) (by decide) dX11_rest_167 ?_
        refine j_callVI (pc := 168) (As := [aI 5]) (st := []) (fun l => c11_meets l v0 5) cs_RX11_146 rfl rfl rfl rfl (Nat.le_of_ble_eq_true rfl) ⟨(Nat.le_of_ble_eq_true rfl), (Nat.le_of_ble_eq_true rfl)⟩ ⟨(Nat.le_of_ble_eq_true rfl), (Nat.le_of_ble_eq_true rfl)⟩ dX11_rest_168 (fun r9 σ10 => ?_)
        exact j_ireturn (pc := 171) rfl (Nat.le_of_ble_eq_true rfl) (Nat.le_of_ble_eq_true rfl) dX11_rest_171
      · refine j_iload (pc := 154) 2 dX11_rest_154 rfl ?_
        refine j_lload (pc := 156) 4 dX11_rest_156 rfl ?_
        refine j_callSD (pc := 158) (As := [aI v5, aL v8]) (st := []) (fun l => c11_real l v5 v8) cs_RX11_131 rfl rfl (Nat.le_of_ble_eq_true rfl) ⟨(Nat.le_of_ble_eq_true rfl), (Nat.le_of_ble_eq_true rfl)⟩ ⟨(Nat.le_of_ble_eq_true rfl), (Nat.le_of_ble_eq_true rfl)⟩ dX11_rest_158 (fun r11 σ12 => ?_)
        refine j_dconst0 (pc := 161) dX11_rest_161 ?_
        refine j_dcmp (pc := 162) dX11_rest_162 ?_
        refine j_ifne (pc := 163) (tgt := 172) dX11_rest_163 rfl (fun _ => ?_) (fun _ => ?_)
        · refine j_iload (pc := 172) 2 dX11_rest_172 rfl ?_
          refine j_bipush (pc := 174) (v := 6) (by decide) dX11_rest_174 ?_
          refine j_icmpne (pc := 176) (tgt := 203) dX11_rest_176 rfl (fun _ => ?_) (fun _ => ?_)
          · refine j_aload_n (pc := 203) 1 dX11_rest_203 rfl rfl ?_
            refine j_lload (pc := 204) 3 dX11_rest_204 rfl ?_
            refine j_ock (fun hn => ?_)
            refine j_nl2d (pc := 206) tw_5_9 hn (Nat.le_of_ble_eq_true rfl) (Nat.le_of_ble_eq_true rfl) (Nat.le_of_ble_eq_true rfl) dX11_rest_206 ?_
            refine j_lload (pc := 209) 4 dX11_rest_209 rfl ?_
            refine j_ock (fun hn => ?_)
            refine j_nl2d (pc := 211) tw_5_9 hn (Nat.le_of_ble_eq_true rfl) (Nat.le_of_ble_eq_true rfl) (Nat.le_of_ble_eq_true rfl) dX11_rest_211 ?_
            refine j_ock (fun hn => ?_)
            refine j_drem (pc := 214) dX11_rest_214 (nn64_ok hn) ?_
            refine j_callSL (pc := 215) (As := [aD (FP.drem (Int64.toUInt64 v6) (Int64.toUInt64 v8))]) (st := [aR 29 v0]) (fun l => cJ_dbits l (FP.drem (Int64.toUInt64 v6) (Int64.toUInt64 v8))) cs_RX11_123 rfl rfl (Nat.le_of_ble_eq_true rfl) ⟨(Nat.le_of_ble_eq_true rfl), (Nat.le_of_ble_eq_true rfl)⟩ ⟨(Nat.le_of_ble_eq_true rfl), (Nat.le_of_ble_eq_true rfl)⟩ dX11_rest_215 (fun r13 σ14 => ?_)
            refine j_putL (pc := 218) fd_29_2 tw_4_65 dX11_rest_218 ?_
            refine j_lets (fun σ15 => ?_)
            refine j_iconst (pc := 221) (v := 0) (by decide) dX11_rest_221 ?_
            exact j_ireturn (pc := 222) rfl (Nat.le_of_ble_eq_true rfl) (Nat.le_of_ble_eq_true rfl) dX11_rest_222
          · refine j_aload_n (pc := 179) 1 dX11_rest_179 rfl rfl ?_
            refine j_lload (pc := 180) 3 dX11_rest_180 rfl ?_
            refine j_l2i (pc := 182) dX11_rest_182 ?_
            refine j_ock (fun hn => ?_)
            refine j_ni2f (pc := 183) tw_5_6 hn (Nat.le_of_ble_eq_true rfl) (Nat.le_of_ble_eq_true rfl) (Nat.le_of_ble_eq_true rfl) dX11_rest_183 ?_
            refine j_lload (pc := 186) 4 dX11_rest_186 rfl ?_
            refine j_l2i (pc := 188) dX11_rest_188 ?_
            refine j_ock (fun hn => ?_)
            refine j_ni2f (pc := 189) tw_5_6 hn (Nat.le_of_ble_eq_true rfl) (Nat.le_of_ble_eq_true rfl) (Nat.le_of_ble_eq_true rfl) dX11_rest_189 ?_
            refine j_ock (fun hn => ?_)
            refine j_frem (pc := 192) dX11_rest_192 (nn32_ok hn) ?_
            refine j_callSI (pc := 193) (As := [aF (FP.frem (Int32.toUInt32 (Int64.toInt32 v6)) (Int32.toUInt32 (Int64.toInt32 v8)))]) (st := [aR 29 v0]) (fun l => cJ_fbits l (FP.frem (Int32.toUInt32 (Int64.toInt32 v6)) (Int32.toUInt32 (Int64.toInt32 v8)))) cs_RX11_119 rfl rfl (Nat.le_of_ble_eq_true rfl) ⟨(Nat.le_of_ble_eq_true rfl), (Nat.le_of_ble_eq_true rfl)⟩ ⟨(Nat.le_of_ble_eq_true rfl), (Nat.le_of_ble_eq_true rfl)⟩ dX11_rest_193 (fun r16 σ17 => ?_)
            refine j_i2l (pc := 196) dX11_rest_196 ?_
            refine j_putL (pc := 197) fd_29_2 tw_4_65 dX11_rest_197 ?_
            refine j_lets (fun σ18 => ?_)
            refine j_goto (pc := 200) (tgt := 221) dX11_rest_200 rfl ?_
            refine j_iconst (pc := 221) (v := 0) (by decide) dX11_rest_221 ?_
            exact j_ireturn (pc := 222) rfl (Nat.le_of_ble_eq_true rfl) (Nat.le_of_ble_eq_true rfl) dX11_rest_222
        · refine j_aload_n (pc := 166) 1 dX11_rest_166 rfl rfl ?_
          refine j_iconst (pc := 167) (v := 5) (by decide) dX11_rest_167 ?_
          refine j_callVI (pc := 168) (As := [aI 5]) (st := []) (fun l => c11_meets l v0 5) cs_RX11_146 rfl rfl rfl rfl (Nat.le_of_ble_eq_true rfl) ⟨(Nat.le_of_ble_eq_true rfl), (Nat.le_of_ble_eq_true rfl)⟩ ⟨(Nat.le_of_ble_eq_true rfl), (Nat.le_of_ble_eq_true rfl)⟩ dX11_rest_168 (fun r19 σ20 => ?_)
          exact j_ireturn (pc := 171) rfl (Nat.le_of_ble_eq_true rfl) (Nat.le_of_ble_eq_true rfl) dX11_rest_171
set_option maxRecDepth 20000 in
set_option maxHeartbeats 4000000 in
theorem j11_rest {Γ : jX} {tg : Int32 × rS} (v0 : Nat) (v1 : Int32) (v2 : Int32) (v3 : Int32) (σ : rS) : J Γ rm11_rest eI cX11_rest RX11 11 (some .int) tg 0 0 0 [(0, aR 29 v0), (1, aI v1), (2, aI v2), (3, aI v3)] [] σ (f11_rest v0 v1 v2 v3 σ) := by
  unfold f11_rest
  refine j_aload_n (pc := 0) 0 dX11_rest_0 rfl rfl ?_
  refine j_iload_n (pc := 1) 1 dX11_rest_1 rfl rfl ?_
  refine j_iload_n (pc := 2) 2 dX11_rest_2 rfl rfl ?_
  refine j_callVI (pc := 3) (As := [aI v1, aI v2]) (st := []) (fun l => c11_against l v0 v1 v2) cs_RX11_158 rfl rfl rfl rfl (Nat.le_of_ble_eq_true rfl) ⟨(Nat.le_of_ble_eq_true rfl), (Nat.le_of_ble_eq_true rfl)⟩ ⟨(Nat.le_of_ble_eq_true rfl), (Nat.le_of_ble_eq_true rfl)⟩ dX11_rest_3 (fun r1 σ2 => ?_)
  refine j_istore (pc := 6) (lv' := [(4, aI r1), (0, aR 29 v0), (1, aI v1), (2, aI v2), (3, aI v3)]) dX11_rest_6 (Nat.le_of_ble_eq_true rfl) rfl ?_
  refine j_iload (pc := 8) 0 dX11_rest_8 rfl ?_
  refine j_ifeq (pc := 10) (tgt := 16) dX11_rest_10 rfl (fun _ => ?_) (fun _ => ?_)
  · refine j_iload_n (pc := 16) 4 dX11_rest_16 rfl rfl ?_
    refine j_i2l (pc := 17) dX11_rest_17 ?_
    refine j_lconst (pc := 18) (v := 0) (by decide) dX11_rest_18 ?_
    refine j_aload_n (pc := 19) 1 dX11_rest_19 rfl rfl ?_
    refine j_getF (pc := 20) fd_29_5 tw_4_68 dX11_rest_20 ?_
    refine j_iload_n (pc := 23) 2 dX11_rest_23 rfl rfl ?_
    refine j_iald (pc := 24) rfl rfl rfl dX11_rest_24 (fun j3 => ?_)
    refine j_iconst (pc := 25) (v := 1) (by decide) dX11_rest_25 ?_
    refine j_isub (pc := 26) dX11_rest_26 ?_
    refine j_i2l (pc := 27) dX11_rest_27 ?_
    refine j_callSZ (pc := 28) (As := [aL (Int32.toInt64 v3), aL 0, aL (Int32.toInt64 ((gI σ2 35 v0 j3) - 1))]) (st := []) (fun l => c11_in l (Int32.toInt64 v3) 0 (Int32.toInt64 ((gI σ2 35 v0 j3) - 1))) cs_RX11_140 rfl rfl (Nat.le_of_ble_eq_true rfl) ⟨(Nat.le_of_ble_eq_true rfl), (Nat.le_of_ble_eq_true rfl)⟩ ⟨(Nat.le_of_ble_eq_true rfl), (Nat.le_of_ble_eq_true rfl)⟩ dX11_rest_28 (fun r4 σ5 => ?_)
    refine j_ifneB (pc := 31) (tgt := 40) dX11_rest_31 rfl (fun _ => ?_) (fun _ => ?_)
    · refine j_aload_n (pc := 40) 1 dX11_rest_40 rfl rfl ?_
      refine j_getF (pc := 41) fd_29_4 tw_4_67 dX11_rest_41 ?_
      refine j_iload_n (pc := 44) 2 dX11_rest_44 rfl rfl ?_
      refine j_iald (pc := 45) rfl rfl rfl dX11_rest_45 (fun j6 => ?_)
      refine j_leti (fun x7 => ?_)
      refine j_istore (pc := 46) (lv' := [(5, aI x7), (4, aI r1), (0, aR 29 v0), (1, aI v1), (2, aI v2), (3, aI v3)]) dX11_rest_46 (Nat.le_of_ble_eq_true rfl) rfl ?_
      refine j_sub [0, 2, 3, 4, 5] (lv' := [(5, aI x7), (0, aR 29 v0), (1, aI v1), (2, aI v2), (3, aI v3)]) rfl ?_
      refine j_aload_n (pc := 48) 1 dX11_rest_48 rfl rfl ?_
      refine j_getF (pc := 49) fd_29_7 tw_4_70 dX11_rest_49 ?_
      refine j_bipush (pc := 52) (v := 24) (by decide) dX11_rest_52 ?_
      refine j_iload_n (pc := 54) 2 dX11_rest_54 rfl rfl ?_
      refine j_imul (pc := 55) dX11_rest_55 ?_
      refine j_iload_n (pc := 56) 3 dX11_rest_56 rfl rfl ?_
      refine j_iadd (pc := 57) dX11_rest_57 ?_
      refine j_lald (pc := 58) rfl rfl rfl dX11_rest_58 (fun j8 => ?_)
      refine j_letl (fun x9 => ?_)
      refine j_lstore (pc := 59) (lv' := [(6, aL x9), (5, aI x7), (0, aR 29 v0), (1, aI v1), (2, aI v2), (3, aI v3)]) dX11_rest_59 (Nat.le_of_ble_eq_true rfl) rfl ?_
      refine j_sub [0, 1, 2, 3, 5] (lv' := [(6, aL x9), (5, aI x7), (0, aR 29 v0), (1, aI v1), (3, aI v3)]) rfl ?_
      refine j_aload_n (pc := 61) 2 dX11_rest_61 rfl rfl ?_
      refine j_getF (pc := 62) fd_29_7 tw_4_70 dX11_rest_62 ?_
      refine j_bipush (pc := 65) (v := 24) (by decide) dX11_rest_65 ?_
      refine j_iload_n (pc := 67) 3 dX11_rest_67 rfl rfl ?_
      refine j_imul (pc := 68) dX11_rest_68 ?_
      refine j_iload_n (pc := 69) 4 dX11_rest_69 rfl rfl ?_
      refine j_iadd (pc := 70) dX11_rest_70 ?_
      refine j_lald (pc := 71) rfl rfl rfl dX11_rest_71 (fun j10 => ?_)
      refine j_letl (fun x11 => ?_)
      refine j_lstore (pc := 72) (lv' := [(8, aL x11), (6, aL x9), (5, aI x7), (0, aR 29 v0), (1, aI v1), (3, aI v3)]) dX11_rest_72 (Nat.le_of_ble_eq_true rfl) rfl ?_
      refine j_sub [0, 1, 2, 3] (lv' := [(8, aL x11), (6, aL x9), (5, aI x7), (0, aR 29 v0)]) rfl ?_
      refine j_iload (pc := 74) 2 dX11_rest_74 rfl ?_
      refine j_bipush (pc := 76) (v := 6) (by decide) dX11_rest_76 ?_
      refine j_icmpge (pc := 78) (tgt := 105) dX11_rest_78 rfl (fun _ => ?_) (fun _ => ?_)
      · refine j_lload (pc := 105) 1 dX11_rest_105 rfl ?_
        refine j_iload (pc := 107) 2 dX11_rest_107 rfl ?_
        refine j_callSL (pc := 109) (As := [aI x7]) (st := [aL x9]) (fun l => c11_kMask l x7) cs_RX11_201 rfl rfl (Nat.le_of_ble_eq_true rfl) ⟨(Nat.le_of_ble_eq_true rfl), (Nat.le_of_ble_eq_true rfl)⟩ ⟨(Nat.le_of_ble_eq_true rfl), (Nat.le_of_ble_eq_true rfl)⟩ dX11_rest_109 (fun r12 σ13 => ?_)
        refine j_land (pc := 112) dX11_rest_112 ?_
        refine j_iload (pc := 113) 2 dX11_rest_113 rfl ?_
        refine j_callSL (pc := 115) (As := [aI x7]) (st := [aL (x9 &&& r12)]) (fun l => c11_kEndless l x7) cs_RX11_204 rfl rfl (Nat.le_of_ble_eq_true rfl) ⟨(Nat.le_of_ble_eq_true rfl), (Nat.le_of_ble_eq_true rfl)⟩ ⟨(Nat.le_of_ble_eq_true rfl), (Nat.le_of_ble_eq_true rfl)⟩ dX11_rest_115 (fun r14 σ15 => ?_)
        refine j_lcmpne (pc := 118) (tgt := 126) dX11_rest_118 dX11_rest_119 rfl (fun _ => ?_) (fun _ => ?_)
        · refine j_iconst (pc := 126) (v := 0) (by decide) dX11_rest_126 ?_
          refine j_sub [3, 2, 1, 0] (lv' := [(0, aR 29 v0), (5, aI x7), (6, aL x9), (8, aL x11)]) rfl ?_
          exact jb11_rest_127   v0 x7 x9 x11 false σ15
        · refine j_iconst (pc := 122) (v := 1) (by decide) dX11_rest_122 ?_
          refine j_goto (pc := 123) (tgt := 127) dX11_rest_123 rfl ?_
          refine j_sub [3, 2, 1, 0] (lv' := [(0, aR 29 v0), (5, aI x7), (6, aL x9), (8, aL x11)]) rfl ?_
          exact jb11_rest_127   v0 x7 x9 x11 true σ15
      · refine j_lload (pc := 81) 0 dX11_rest_81 rfl ?_
        refine j_lconst (pc := 83) (v := 0) (by decide) dX11_rest_83 ?_
        refine j_lcmpne (pc := 84) (tgt := 94) dX11_rest_84 dX11_rest_85 rfl (fun _ => ?_) (fun _ => ?_)
        · refine j_aload_n (pc := 94) 3 dX11_rest_94 rfl rfl ?_
          refine j_lload (pc := 95) 1 dX11_rest_95 rfl ?_
          refine j_lload (pc := 97) 0 dX11_rest_97 rfl ?_
          refine j_ock (fun hn => ?_)
          refine j_lrem (pc := 99) dX11_rest_99 hn ?_
          refine j_putL (pc := 100) fd_29_2 tw_4_65 dX11_rest_100 ?_
          refine j_lets (fun σ16 => ?_)
          refine j_iconst (pc := 103) (v := 0) (by decide) dX11_rest_103 ?_
          exact j_ireturn (pc := 104) rfl (Nat.le_of_ble_eq_true rfl) (Nat.le_of_ble_eq_true rfl) dX11_rest_104
        · refine j_aload_n (pc := 88) 3 dX11_rest_88 rfl rfl ?_
          refine j_iconst (pc := 89) (v := 5) (by decide) dX11_rest_89 ?_
          refine j_callVI (pc := 90) (As := [aI 5]) (st := []) (fun l => c11_meets l v0 5) cs_RX11_146 rfl rfl rfl rfl (Nat.le_of_ble_eq_true rfl) ⟨(Nat.le_of_ble_eq_true rfl), (Nat.le_of_ble_eq_true rfl)⟩ ⟨(Nat.le_of_ble_eq_true rfl), (Nat.le_of_ble_eq_true rfl)⟩ dX11_rest_90 (fun r17 σ18 => ?_)
          exact j_ireturn (pc := 93) rfl (Nat.le_of_ble_eq_true rfl) (Nat.le_of_ble_eq_true rfl) dX11_rest_93
    · refine j_aload_n (pc := 34) 1 dX11_rest_34 rfl rfl ?_
      refine j_iconst (pc := 35) (v := 2) (by decide) dX11_rest_35 ?_
      refine j_callVI (pc := 36) (As := [aI 2]) (st := []) (fun l => c11_meets l v0 2) cs_RX11_146 rfl rfl rfl rfl (Nat.le_of_ble_eq_true rfl) ⟨(Nat.le_of_ble_eq_true rfl), (Nat.le_of_ble_eq_true rfl)⟩ ⟨(Nat.le_of_ble_eq_true rfl), (Nat.le_of_ble_eq_true rfl)⟩ dX11_rest_36 (fun r19 σ20 => ?_)
      exact j_ireturn (pc := 39) rfl (Nat.le_of_ble_eq_true rfl) (Nat.le_of_ble_eq_true rfl) dX11_rest_39
  · refine j_iload (pc := 13) 0 dX11_rest_13 rfl ?_
    exact j_ireturn (pc := 15) rfl (Nat.le_of_ble_eq_true rfl) (Nat.le_of_ble_eq_true rfl) dX11_rest_15
theorem c11_rest (l : Launch) (v0 : Nat) (v1 : Int32) (v2 : Int32) (v3 : Int32) : Ctr l yX11_rest cX11_rest 11 (some .int) rm11_rest eI [aR 29 v0, aI v1, aI v2, aI v3] (f11_rest v0 v1 v2 v3) := ctr_of (lv := [(0, aR 29 v0), (1, aI v1), (2, aI v2), (3, aI v3)]) (by decide +kernel) (fun _ => rfl) (fun _ => (Nat.le_of_ble_eq_true rfl)) (fun _ h => lvl_als h rfl) (fun _ σ _ => j11_rest v0 v1 v2 v3 σ)
abbrev rm11_signOf : Room := { frames := 0, cells := 0, slots := 0, locals := 0 }
set_option maxRecDepth 20000 in
set_option maxHeartbeats 4000000 in
theorem j11_signOf {Γ : jX} {tg : Int64 × rS} (v0 : Int32) (σ : rS) : J Γ rm11_signOf eL cX11_signOf RX11 1 (some .long) tg 0 0 0 [(0, aI v0)] [] σ (f11_signOf v0 σ) := by
  unfold f11_signOf
  refine j_iload_n (pc := 0) 0 dX11_signOf_0 rfl rfl ?_
  refine j_bipush (pc := 1) (v := 6) (by decide) dX11_signOf_1 ?_
  refine j_icmpne (pc := 3) (tgt := 12) dX11_signOf_3 rfl (fun _ => ?_) (fun _ => ?_)
  · refine j_ldc2 (pc := 12) tw_5_27 dX11_signOf_12 ?_
    exact j_lreturn (pc := 15) rfl (Nat.le_of_ble_eq_true rfl) (Nat.le_of_ble_eq_true rfl) dX11_signOf_15
  · refine j_ldc2 (pc := 6) tw_5_26 dX11_signOf_6 ?_
    refine j_goto (pc := 9) (tgt := 15) dX11_signOf_9 rfl ?_
    exact j_lreturn (pc := 15) rfl (Nat.le_of_ble_eq_true rfl) (Nat.le_of_ble_eq_true rfl) dX11_signOf_15
theorem c11_signOf (l : Launch) (v0 : Int32) : Ctr l yX11_signOf cX11_signOf 1 (some .long) rm11_signOf eL [aI v0] (f11_signOf v0) := ctr_of (lv := [(0, aI v0)]) (by decide +kernel) (fun _ => rfl) (fun _ => (Nat.le_of_ble_eq_true rfl)) (fun _ h => lvl_als h rfl) (fun _ σ _ => j11_signOf v0 σ)
abbrev rm11_wordOf : Room := { frames := 2, cells := 0, slots := 0, locals := 61 }
set_option maxRecDepth 20000 in
set_option maxHeartbeats 4000000 in
theorem j11_wordOf {Γ : jX} {tg : Int64 × rS} (v0 : Int32) (v1 : UInt64) (σ : rS) : J Γ rm11_wordOf eL cX11_wordOf RX11 3 (some .long) tg 0 0 0 [(0, aI v0), (1, aD v1)] [] σ (f11_wordOf v0 v1 σ) := by
  unfold f11_wordOf
  refine j_iload_n (pc := 0) 0 dX11_wordOf_0 rfl rfl ?_
  refine j_iload_n (pc := 1) 0 dX11_wordOf_1 rfl rfl ?_
  refine j_bipush (pc := 2) (v := 6) (by decide) dX11_wordOf_2 ?_
  refine j_icmpne (pc := 4) (tgt := 16) dX11_wordOf_4 rfl (fun _ => ?_) (fun _ => ?_)
  · refine j_dload_n (pc := 16) 1 dX11_wordOf_16 rfl rfl ?_
    refine j_callSL (pc := 17) (As := [aD v1]) (st := [aI v0]) (fun l => cJ_dbits l v1) cs_RX11_123 rfl rfl (Nat.le_of_ble_eq_true rfl) ⟨(Nat.le_of_ble_eq_true rfl), (Nat.le_of_ble_eq_true rfl)⟩ ⟨(Nat.le_of_ble_eq_true rfl), (Nat.le_of_ble_eq_true rfl)⟩ dX11_wordOf_17 (fun r1 σ2 => ?_)
    refine j_callSL (pc := 20) (As := [aI v0, aL r1]) (st := []) (fun l => c11_cut l v0 r1) cs_RX11_127 rfl rfl (Nat.le_of_ble_eq_true rfl) ⟨(Nat.le_of_ble_eq_true rfl), (Nat.le_of_ble_eq_true rfl)⟩ ⟨(Nat.le_of_ble_eq_true rfl), (Nat.le_of_ble_eq_true rfl)⟩ dX11_wordOf_20 (fun r3 σ4 => ?_)
    exact j_lreturn (pc := 23) rfl (Nat.le_of_ble_eq_true rfl) (Nat.le_of_ble_eq_true rfl) dX11_wordOf_23
  · refine j_dload_n (pc := 7) 1 dX11_wordOf_7 rfl rfl ?_
    refine j_ock (fun hn => ?_)
    refine j_d2f (pc := 8) dX11_wordOf_8 (nn32_ok hn) ?_
    refine j_callSI (pc := 9) (As := [aF (FP.d2f v1)]) (st := [aI v0]) (fun l => cJ_fbits l (FP.d2f v1)) cs_RX11_119 rfl rfl (Nat.le_of_ble_eq_true rfl) ⟨(Nat.le_of_ble_eq_true rfl), (Nat.le_of_ble_eq_true rfl)⟩ ⟨(Nat.le_of_ble_eq_true rfl), (Nat.le_of_ble_eq_true rfl)⟩ dX11_wordOf_9 (fun r5 σ6 => ?_)
    refine j_i2l (pc := 12) dX11_wordOf_12 ?_
    refine j_goto (pc := 13) (tgt := 20) dX11_wordOf_13 rfl ?_
    refine j_callSL (pc := 20) (As := [aI v0, aL (Int32.toInt64 r5)]) (st := []) (fun l => c11_cut l v0 (Int32.toInt64 r5)) cs_RX11_127 rfl rfl (Nat.le_of_ble_eq_true rfl) ⟨(Nat.le_of_ble_eq_true rfl), (Nat.le_of_ble_eq_true rfl)⟩ ⟨(Nat.le_of_ble_eq_true rfl), (Nat.le_of_ble_eq_true rfl)⟩ dX11_wordOf_20 (fun r7 σ8 => ?_)
    exact j_lreturn (pc := 23) rfl (Nat.le_of_ble_eq_true rfl) (Nat.le_of_ble_eq_true rfl) dX11_wordOf_23
theorem c11_wordOf (l : Launch) (v0 : Int32) (v1 : UInt64) : Ctr l yX11_wordOf cX11_wordOf 3 (some .long) rm11_wordOf eL [aI v0, aD v1] (f11_wordOf v0 v1) := ctr_of (lv := [(0, aI v0), (1, aD v1)]) (by decide +kernel) (fun _ => rfl) (fun _ => (Nat.le_of_ble_eq_true rfl)) (fun _ h => lvl_als h rfl) (fun _ σ _ => j11_wordOf v0 v1 σ)
theorem cs_RX11_186 : CaS RX11 186 yX11_wordOf cX11_wordOf 3 (some .long) 2 := ⟨tw_5_29, tw_5_30, tw_1_5, tw_5_31, by decide +kernel, by decide +kernel, by decide +kernel⟩
theorem cs_RX11_182 : CaS RX11 182 yX11_signOf cX11_signOf 1 (some .long) 1 := ⟨tw_5_23, tw_5_24, tw_1_5, tw_5_25, by decide +kernel, by decide +kernel, by decide +kernel⟩
abbrev rm11_rounded : Room := { frames := 3, cells := 0, slots := 0, locals := 83 }
set_option maxRecDepth 20000 in
set_option maxHeartbeats 4000000 in
theorem jb11_rounded_135 {Γ : jX} {tg : Int64 × rS} (v0 : Int32) (v1 : Int64) (v10 : Int64) (σ : rS) : J Γ rm11_rounded eL cX11_rounded RX11 14 (some .long) tg 0 0 135 [(0, aI v0), (1, aL v1), (10, aL v10)] [] σ (B11_rounded_135 v0 v1 v10 σ) := by
  unfold B11_rounded_135
  refine j_lload (pc := 135) 2 dX11_rounded_135 rfl ?_
  refine j_lconst (pc := 137) (v := 0) (by decide) dX11_rounded_137 ?_
  refine j_lcmpne (pc := 138) (tgt := 157) dX11_rounded_138 dX11_rounded_139 rfl (fun _ => ?_) (fun _ => ?_)
  · refine j_iload_n (pc := 157) 0 dX11_rounded_157 rfl rfl ?_
    refine j_lload (pc := 158) 2 dX11_rounded_158 rfl ?_
    refine j_l2d (pc := 160) dX11_rounded_160 ?_
    refine j_callSL (pc := 161) (As := [aI v0, aD (FP.l2d v10)]) (st := []) (fun l => c11_wordOf l v0 (FP.l2d v10)) cs_RX11_186 rfl rfl (Nat.le_of_ble_eq_true rfl) ⟨(Nat.le_of_ble_eq_true rfl), (Nat.le_of_ble_eq_true rfl)⟩ ⟨(Nat.le_of_ble_eq_true rfl), (Nat.le_of_ble_eq_true rfl)⟩ dX11_rounded_161 (fun r1 σ2 => ?_)
    exact j_lreturn (pc := 164) rfl (Nat.le_of_ble_eq_true rfl) (Nat.le_of_ble_eq_true rfl) dX11_rounded_164
  · refine j_lload_n (pc := 142) 1 dX11_rounded_142 rfl rfl ?_
    refine j_lconst (pc := 143) (v := 0) (by decide) dX11_rounded_143 ?_
    refine j_lcmpge (pc := 144) (tgt := 155) dX11_rounded_144 dX11_rounded_145 rfl (fun _ => ?_) (fun _ => ?_)
    · refine j_lconst (pc := 155) (v := 0) (by decide) dX11_rounded_155 ?_
      exact j_lreturn (pc := 156) rfl (Nat.le_of_ble_eq_true rfl) (Nat.le_of_ble_eq_true rfl) dX11_rounded_156
    · refine j_iload_n (pc := 148) 0 dX11_rounded_148 rfl rfl ?_
      refine j_callSL (pc := 149) (As := [aI v0]) (st := []) (fun l => c11_signOf l v0) cs_RX11_182 rfl rfl (Nat.le_of_ble_eq_true rfl) ⟨(Nat.le_of_ble_eq_true rfl), (Nat.le_of_ble_eq_true rfl)⟩ ⟨(Nat.le_of_ble_eq_true rfl), (Nat.le_of_ble_eq_true rfl)⟩ dX11_rounded_149 (fun r3 σ4 => ?_)
      refine j_goto (pc := 152) (tgt := 156) dX11_rounded_152 rfl ?_
      exact j_lreturn (pc := 156) rfl (Nat.le_of_ble_eq_true rfl) (Nat.le_of_ble_eq_true rfl) dX11_rounded_156
set_option maxRecDepth 20000 in
set_option maxHeartbeats 4000000 in
theorem jb11_rounded_133 {Γ : jX} {tg : Int64 × rS} (v0 : Int32) (v1 : Int64) (s0 : Int64) (σ : rS) : J Γ rm11_rounded eL cX11_rounded RX11 14 (some .long) tg 0 0 133 [(0, aI v0), (1, aL v1)] [aL s0] σ (B11_rounded_133 v0 v1 s0 σ) := by
  unfold B11_rounded_133
  refine j_lstore (pc := 133) (lv' := [(10, aL s0), (0, aI v0), (1, aL v1)]) dX11_rounded_133 (Nat.le_of_ble_eq_true rfl) rfl ?_
  refine j_sub [1, 2, 0] (lv' := [(0, aI v0), (1, aL v1), (10, aL s0)]) rfl ?_
  exact jb11_rounded_135   v0 v1 s0 σ
set_option maxRecDepth 20000 in
set_option maxHeartbeats 4000000 in
theorem jb11_rounded_124 {Γ : jX} {tg : Int64 × rS} (v0 : Int32) (v1 : Int64) (v8 : Int64) (σ : rS) : J Γ rm11_rounded eL cX11_rounded RX11 14 (some .long) tg 0 0 124 [(0, aI v0), (1, aL v1), (8, aL v8)] [] σ (B11_rounded_124 v0 v1 v8 σ) := by
  unfold B11_rounded_124
  refine j_lload (pc := 124) 2 dX11_rounded_124 rfl ?_
  refine j_lconst (pc := 126) (v := 1) (by decide) dX11_rounded_126 ?_
  refine j_ladd (pc := 127) dX11_rounded_127 ?_
  refine j_goto (pc := 128) (tgt := 133) dX11_rounded_128 rfl ?_
  refine j_sub [0, 1] (lv' := [(0, aI v0), (1, aL v1)]) rfl ?_
  exact jb11_rounded_133   v0 v1 (v8 + 1) σ
set_option maxRecDepth 20000 in
set_option maxHeartbeats 4000000 in
theorem jb11_rounded_131 {Γ : jX} {tg : Int64 × rS} (v0 : Int32) (v1 : Int64) (v8 : Int64) (σ : rS) : J Γ rm11_rounded eL cX11_rounded RX11 14 (some .long) tg 0 0 131 [(0, aI v0), (1, aL v1), (8, aL v8)] [] σ (B11_rounded_131 v0 v1 v8 σ) := by
  unfold B11_rounded_131
  refine j_lload (pc := 131) 2 dX11_rounded_131 rfl ?_
  refine j_sub [0, 1] (lv' := [(0, aI v0), (1, aL v1)]) rfl ?_
  exact jb11_rounded_133   v0 v1 v8 σ
set_option maxRecDepth 20000 in
set_option maxHeartbeats 4000000 in
theorem jb11_rounded_79 {Γ : jX} {tg : Int64 × rS} (v0 : Int32) (v1 : Int64) (s0 : Int64) (σ : rS) : J Γ rm11_rounded eL cX11_rounded RX11 14 (some .long) tg 0 0 79 [(0, aI v0), (1, aL v1)] [aL s0] σ (B11_rounded_79 v0 v1 s0 σ) := by
  unfold B11_rounded_79
  refine j_lstore (pc := 79) (lv' := [(10, aL s0), (0, aI v0), (1, aL v1)]) dX11_rounded_79 (Nat.le_of_ble_eq_true rfl) rfl ?_
  refine j_goto (pc := 81) (tgt := 135) dX11_rounded_81 rfl ?_
  refine j_sub [1, 2, 0] (lv' := [(0, aI v0), (1, aL v1), (10, aL s0)]) rfl ?_
  exact jb11_rounded_135   v0 v1 s0 σ
set_option maxRecDepth 20000 in
set_option maxHeartbeats 4000000 in
theorem jb11_rounded_50 {Γ : jX} {tg : Int64 × rS} (v0 : Int32) (v1 : Int64) (v3 : Int32) (v4 : UInt64) (s0 : Int64) (σ : rS) : J Γ rm11_rounded eL cX11_rounded RX11 14 (some .long) tg 0 0 50 [(0, aI v0), (1, aL v1), (3, aI v3), (4, aD v4)] [aL s0] σ (B11_rounded_50 v0 v1 v3 v4 s0 σ) := by
  unfold B11_rounded_50
  refine j_lstore (pc := 50) (lv' := [(8, aL s0), (0, aI v0), (1, aL v1), (3, aI v3), (4, aD v4)]) dX11_rounded_50 (Nat.le_of_ble_eq_true rfl) rfl ?_
  refine j_lload (pc := 52) 0 dX11_rounded_52 rfl ?_
  refine j_lstore (pc := 54) (lv' := [(10, aL s0), (8, aL s0), (0, aI v0), (1, aL v1), (3, aI v3), (4, aD v4)]) dX11_rounded_54 (Nat.le_of_ble_eq_true rfl) rfl ?_
  refine j_iload_n (pc := 56) 4 dX11_rounded_56 rfl rfl ?_
  refine j_iconst (pc := 57) (v := 2) (by decide) dX11_rounded_57 ?_
  refine j_icmpne (pc := 58) (tgt := 84) dX11_rounded_58 rfl (fun _ => ?_) (fun _ => ?_)
  · refine j_iload_n (pc := 84) 4 dX11_rounded_84 rfl rfl ?_
    refine j_iconst (pc := 85) (v := 3) (by decide) dX11_rounded_85 ?_
    refine j_icmpne (pc := 86) (tgt := 135) dX11_rounded_86 rfl (fun _ => ?_) (fun _ => ?_)
    · refine j_sub [2, 3, 0] (lv' := [(0, aI v0), (1, aL v1), (10, aL s0)]) rfl ?_
      exact jb11_rounded_135   v0 v1 s0 σ
    · refine j_dload (pc := 89) 5 dX11_rounded_89 rfl ?_
      refine j_lload (pc := 91) 1 dX11_rounded_91 rfl ?_
      refine j_l2d (pc := 93) dX11_rounded_93 ?_
      refine j_ock (fun hn => ?_)
      refine j_dsub (pc := 94) dX11_rounded_94 (nn64_ok hn) ?_
      refine j_letd (fun x1 => ?_)
      refine j_dstore (pc := 95) (lv' := [(12, aD x1), (10, aL s0), (8, aL s0), (0, aI v0), (1, aL v1), (3, aI v3), (4, aD v4)]) dX11_rounded_95 (Nat.le_of_ble_eq_true rfl) rfl ?_
      refine j_sub [0, 2, 3, 4] (lv' := [(12, aD x1), (8, aL s0), (0, aI v0), (1, aL v1)]) rfl ?_
      refine j_dload (pc := 97) 0 dX11_rounded_97 rfl ?_
      refine j_ldc2d (pc := 99) tw_5_57 dX11_rounded_99 ?_
      refine j_dcmp (pc := 102) dX11_rounded_102 ?_
      refine j_ifgt (pc := 103) (tgt := 124) dX11_rounded_103 rfl (fun _ => ?_) (fun _ => ?_)
      · refine j_sub [2, 3, 1] (lv' := [(0, aI v0), (1, aL v1), (8, aL s0)]) rfl ?_
        exact jb11_rounded_124   v0 v1 s0 σ
      · refine j_dload (pc := 106) 0 dX11_rounded_106 rfl ?_
        refine j_ldc2d (pc := 108) tw_5_57 dX11_rounded_108 ?_
        refine j_dcmp (pc := 111) dX11_rounded_111 ?_
        refine j_ifne (pc := 112) (tgt := 131) dX11_rounded_112 rfl (fun _ => ?_) (fun _ => ?_)
        · refine j_sub [2, 3, 1] (lv' := [(0, aI v0), (1, aL v1), (8, aL s0)]) rfl ?_
          exact jb11_rounded_131   v0 v1 s0 σ
        · refine j_lload (pc := 115) 1 dX11_rounded_115 rfl ?_
          refine j_lconst (pc := 117) (v := 1) (by decide) dX11_rounded_117 ?_
          refine j_land (pc := 118) dX11_rounded_118 ?_
          refine j_lconst (pc := 119) (v := 1) (by decide) dX11_rounded_119 ?_
          refine j_lcmpne (pc := 120) (tgt := 131) dX11_rounded_120 dX11_rounded_121 rfl (fun _ => ?_) (fun _ => ?_)
          · refine j_sub [2, 3, 1] (lv' := [(0, aI v0), (1, aL v1), (8, aL s0)]) rfl ?_
            exact jb11_rounded_131   v0 v1 s0 σ
          · refine j_sub [2, 3, 1] (lv' := [(0, aI v0), (1, aL v1), (8, aL s0)]) rfl ?_
            exact jb11_rounded_124   v0 v1 s0 σ
  · refine j_lload (pc := 61) 1 dX11_rounded_61 rfl ?_
    refine j_l2d (pc := 63) dX11_rounded_63 ?_
    refine j_dload (pc := 64) 5 dX11_rounded_64 rfl ?_
    refine j_dcmp (pc := 66) dX11_rounded_66 ?_
    refine j_ifne (pc := 67) (tgt := 75) dX11_rounded_67 rfl (fun _ => ?_) (fun _ => ?_)
    · refine j_lload (pc := 75) 1 dX11_rounded_75 rfl ?_
      refine j_lconst (pc := 77) (v := 1) (by decide) dX11_rounded_77 ?_
      refine j_ladd (pc := 78) dX11_rounded_78 ?_
      refine j_sub [2, 3] (lv' := [(0, aI v0), (1, aL v1)]) rfl ?_
      exact jb11_rounded_79   v0 v1 (s0 + 1) σ
    · refine j_lload (pc := 70) 1 dX11_rounded_70 rfl ?_
      refine j_goto (pc := 72) (tgt := 79) dX11_rounded_72 rfl ?_
      refine j_sub [2, 3] (lv' := [(0, aI v0), (1, aL v1)]) rfl ?_
      exact jb11_rounded_79   v0 v1 s0 σ
set_option maxRecDepth 20000 in
set_option maxHeartbeats 4000000 in
theorem j11_rounded {Γ : jX} {tg : Int64 × rS} (v0 : Int32) (v1 : Int64) (v3 : Int32) (σ : rS) : J Γ rm11_rounded eL cX11_rounded RX11 14 (some .long) tg 0 0 0 [(0, aI v0), (1, aL v1), (3, aI v3)] [] σ (f11_rounded v0 v1 v3 σ) := by
  unfold f11_rounded
  refine j_iload_n (pc := 0) 0 dX11_rounded_0 rfl rfl ?_
  refine j_lload_n (pc := 1) 1 dX11_rounded_1 rfl rfl ?_
  refine j_callSD (pc := 2) (As := [aI v0, aL v1]) (st := []) (fun l => c11_real l v0 v1) cs_RX11_131 rfl rfl (Nat.le_of_ble_eq_true rfl) ⟨(Nat.le_of_ble_eq_true rfl), (Nat.le_of_ble_eq_true rfl)⟩ ⟨(Nat.le_of_ble_eq_true rfl), (Nat.le_of_ble_eq_true rfl)⟩ dX11_rounded_2 (fun r1 σ2 => ?_)
  refine j_dstore (pc := 5) (lv' := [(4, aD r1), (0, aI v0), (1, aL v1), (3, aI v3)]) dX11_rounded_5 (Nat.le_of_ble_eq_true rfl) rfl ?_
  refine j_dload (pc := 7) 0 dX11_rounded_7 rfl ?_
  refine j_ldc2d (pc := 9) tw_5_55 dX11_rounded_9 ?_
  refine j_dcmp (pc := 12) dX11_rounded_12 ?_
  refine j_ifge (pc := 13) (tgt := 25) dX11_rounded_13 rfl (fun _ => ?_) (fun _ => ?_)
  · refine j_lload_n (pc := 25) 2 dX11_rounded_25 rfl rfl ?_
    exact j_lreturn (pc := 26) rfl (Nat.le_of_ble_eq_true rfl) (Nat.le_of_ble_eq_true rfl) dX11_rounded_26
  · refine j_dload (pc := 16) 0 dX11_rounded_16 rfl ?_
    refine j_ldc2d (pc := 18) tw_5_56 dX11_rounded_18 ?_
    refine j_dcmp (pc := 21) dX11_rounded_21 ?_
    refine j_ifgt (pc := 22) (tgt := 27) dX11_rounded_22 rfl (fun _ => ?_) (fun _ => ?_)
    · refine j_dload (pc := 27) 0 dX11_rounded_27 rfl ?_
      refine j_d2l (pc := 29) dX11_rounded_29 ?_
      refine j_letl (fun x3 => ?_)
      refine j_lstore (pc := 30) (lv' := [(6, aL x3), (4, aD r1), (0, aI v0), (1, aL v1), (3, aI v3)]) dX11_rounded_30 (Nat.le_of_ble_eq_true rfl) rfl ?_
      refine j_lload (pc := 32) 0 dX11_rounded_32 rfl ?_
      refine j_l2d (pc := 34) dX11_rounded_34 ?_
      refine j_dload (pc := 35) 1 dX11_rounded_35 rfl ?_
      refine j_dcmp (pc := 37) dX11_rounded_37 ?_
      refine j_ifle (pc := 38) (tgt := 48) dX11_rounded_38 rfl (fun _ => ?_) (fun _ => ?_)
      · refine j_lload (pc := 48) 0 dX11_rounded_48 rfl ?_
        refine j_sub [2, 3, 4, 1] (lv' := [(0, aI v0), (1, aL v1), (3, aI v3), (4, aD r1)]) rfl ?_
        exact jb11_rounded_50   v0 v1 v3 r1 x3 σ2
      · refine j_lload (pc := 41) 0 dX11_rounded_41 rfl ?_
        refine j_lconst (pc := 43) (v := 1) (by decide) dX11_rounded_43 ?_
        refine j_lsub (pc := 44) dX11_rounded_44 ?_
        refine j_goto (pc := 45) (tgt := 50) dX11_rounded_45 rfl ?_
        refine j_sub [2, 3, 4, 1] (lv' := [(0, aI v0), (1, aL v1), (3, aI v3), (4, aD r1)]) rfl ?_
        exact jb11_rounded_50   v0 v1 v3 r1 (x3 - 1) σ2
    · refine j_lload_n (pc := 25) 2 dX11_rounded_25 rfl rfl ?_
      exact j_lreturn (pc := 26) rfl (Nat.le_of_ble_eq_true rfl) (Nat.le_of_ble_eq_true rfl) dX11_rounded_26
theorem c11_rounded (l : Launch) (v0 : Int32) (v1 : Int64) (v3 : Int32) : Ctr l yX11_rounded cX11_rounded 14 (some .long) rm11_rounded eL [aI v0, aL v1, aI v3] (f11_rounded v0 v1 v3) := ctr_of (lv := [(0, aI v0), (1, aL v1), (3, aI v3)]) (by decide +kernel) (fun _ => rfl) (fun _ => (Nat.le_of_ble_eq_true rfl)) (fun _ h => lvl_als h rfl) (fun _ σ _ => j11_rounded v0 v1 v3 σ)
abbrev rm11_row : Room := { frames := 1, cells := 0, slots := 0, locals := 25 }
set_option maxRecDepth 20000 in
set_option maxHeartbeats 4000000 in
theorem j11_row {Γ : jX} {tg : Int32 × rS} (N : Nat) (v0 : Nat) (v1 : Int32) (v2 : Int32) (σ : rS) : J Γ rm11_row eI cX11_row RX11 3 (some .int) tg 0 0 0 [(0, aR 29 v0), (1, aI v1), (2, aI v2)] [] σ (f11_row N v0 v1 v2 σ) := by
  unfold f11_row
  refine j_iload_n (pc := 0) 1 dX11_row_0 rfl rfl ?_
  refine j_i2l (pc := 1) dX11_row_1 ?_
  refine j_lconst (pc := 2) (v := 0) (by decide) dX11_row_2 ?_
  refine j_ldc2 (pc := 3) tw_4_180 dX11_row_3 ?_
  refine j_callSZ (pc := 6) (As := [aL (Int32.toInt64 v1), aL 0, aL 7]) (st := []) (fun l => c11_in l (Int32.toInt64 v1) 0 7) cs_RX11_140 rfl rfl (Nat.le_of_ble_eq_true rfl) ⟨(Nat.le_of_ble_eq_true rfl), (Nat.le_of_ble_eq_true rfl)⟩ ⟨(Nat.le_of_ble_eq_true rfl), (Nat.le_of_ble_eq_true rfl)⟩ dX11_row_6 (fun r1 σ2 => ?_)
  refine j_ifeqB (pc := 9) (tgt := 18) dX11_row_9 rfl (fun _ => ?_) (fun _ => ?_)
  · refine j_bipush (pc := 18) (v := (-102)) (by decide) dX11_row_18 ?_
    exact j_ireturn (pc := 20) rfl (Nat.le_of_ble_eq_true rfl) (Nat.le_of_ble_eq_true rfl) dX11_row_20
  · refine j_iload_n (pc := 12) 2 dX11_row_12 rfl rfl ?_
    refine j_bipush (pc := 13) (v := 24) (by decide) dX11_row_13 ?_
    refine j_icmple (pc := 15) (tgt := 21) dX11_row_15 rfl (fun _ => ?_) (fun _ => ?_)
    · refine j_aload_n (pc := 21) 0 dX11_row_21 rfl rfl ?_
      refine j_getI (pc := 22) fd_29_3 tw_4_66 dX11_row_22 ?_
      refine j_bipush (pc := 25) (v := 60) (by decide) dX11_row_25 ?_
      refine j_icmpne (pc := 27) (tgt := 33) dX11_row_27 rfl (fun _ => ?_) (fun _ => ?_)
      · refine j_iload_n (pc := 33) 2 dX11_row_33 rfl rfl ?_
        refine j_ifge (pc := 34) (tgt := 45) dX11_row_34 rfl (fun _ => ?_) (fun _ => ?_)
        · refine j_aload_n (pc := 45) 0 dX11_row_45 rfl rfl ?_
          refine j_iload_n (pc := 46) 1 dX11_row_46 rfl rfl ?_
          refine j_iload_n (pc := 47) 2 dX11_row_47 rfl rfl ?_
          refine j_callVI (pc := 48) (As := [aI v1, aI v2]) (st := []) (fun l => c11_newRow l N v0 v1 v2) cs_RX11_150 rfl rfl rfl rfl (Nat.le_of_ble_eq_true rfl) ⟨(Nat.le_of_ble_eq_true rfl), (Nat.le_of_ble_eq_true rfl)⟩ ⟨(Nat.le_of_ble_eq_true rfl), (Nat.le_of_ble_eq_true rfl)⟩ dX11_row_48 (fun r3 σ4 => ?_)
          exact j_ireturn (pc := 51) rfl (Nat.le_of_ble_eq_true rfl) (Nat.le_of_ble_eq_true rfl) dX11_row_51
        · refine j_aload_n (pc := 37) 0 dX11_row_37 rfl rfl ?_
          refine j_iconst (pc := 38) (v := 4) (by decide) dX11_row_38 ?_
          refine j_callVI (pc := 39) (As := [aI 4]) (st := []) (fun l => c11_meets l v0 4) cs_RX11_146 rfl rfl rfl rfl (Nat.le_of_ble_eq_true rfl) ⟨(Nat.le_of_ble_eq_true rfl), (Nat.le_of_ble_eq_true rfl)⟩ ⟨(Nat.le_of_ble_eq_true rfl), (Nat.le_of_ble_eq_true rfl)⟩ dX11_row_39 (fun r5 σ6 => ?_)
          refine j_goto (pc := 42) (tgt := 51) dX11_row_42 rfl ?_
          exact j_ireturn (pc := 51) rfl (Nat.le_of_ble_eq_true rfl) (Nat.le_of_ble_eq_true rfl) dX11_row_51
      · refine j_bipush (pc := 30) (v := (-104)) (by decide) dX11_row_30 ?_
        exact j_ireturn (pc := 32) rfl (Nat.le_of_ble_eq_true rfl) (Nat.le_of_ble_eq_true rfl) dX11_row_32
    · refine j_bipush (pc := 18) (v := (-102)) (by decide) dX11_row_18 ?_
      exact j_ireturn (pc := 20) rfl (Nat.le_of_ble_eq_true rfl) (Nat.le_of_ble_eq_true rfl) dX11_row_20
theorem c11_row (l : Launch) (N : Nat) (v0 : Nat) (v1 : Int32) (v2 : Int32) : Ctr l yX11_row cX11_row 3 (some .int) rm11_row eI [aR 29 v0, aI v1, aI v2] (f11_row N v0 v1 v2) := ctr_of (lv := [(0, aR 29 v0), (1, aI v1), (2, aI v2)]) (by decide +kernel) (fun _ => rfl) (fun _ => (Nat.le_of_ble_eq_true rfl)) (fun _ h => lvl_als h rfl) (fun _ σ _ => j11_row N v0 v1 v2 σ)
abbrev rm11_seek : Room := { frames := 2, cells := 0, slots := 0, locals := 46 }
set_option maxRecDepth 20000 in
set_option maxHeartbeats 4000000 in
theorem j11_seek {Γ : jX} {tg : Int32 × rS} (v0 : Nat) (v1 : Int32) (v2 : Int32) (σ : rS) : J Γ rm11_seek eI cX11_seek RX11 4 (some .int) tg 0 0 0 [(0, aR 29 v0), (1, aI v1), (2, aI v2)] [] σ (f11_seek v0 v1 v2 σ) := by
  unfold f11_seek
  refine j_aload_n (pc := 0) 0 dX11_seek_0 rfl rfl ?_
  refine j_iload_n (pc := 1) 1 dX11_seek_1 rfl rfl ?_
  refine j_callVZ (pc := 2) (As := [aI v1]) (st := []) (fun l => c11_isStream l v0 v1) cs_RX11_247 rfl rfl rfl rfl (Nat.le_of_ble_eq_true rfl) ⟨(Nat.le_of_ble_eq_true rfl), (Nat.le_of_ble_eq_true rfl)⟩ ⟨(Nat.le_of_ble_eq_true rfl), (Nat.le_of_ble_eq_true rfl)⟩ dX11_seek_2 (fun r1 σ2 => ?_)
  refine j_ifneB (pc := 5) (tgt := 11) dX11_seek_5 rfl (fun _ => ?_) (fun _ => ?_)
  · refine j_iload_n (pc := 11) 2 dX11_seek_11 rfl rfl ?_
    refine j_i2l (pc := 12) dX11_seek_12 ?_
    refine j_lconst (pc := 13) (v := 0) (by decide) dX11_seek_13 ?_
    refine j_aload_n (pc := 14) 0 dX11_seek_14 rfl rfl ?_
    refine j_getF (pc := 15) fd_29_15 tw_4_78 dX11_seek_15 ?_
    refine j_iload_n (pc := 18) 1 dX11_seek_18 rfl rfl ?_
    refine j_iald (pc := 19) rfl rfl rfl dX11_seek_19 (fun j3 => ?_)
    refine j_i2l (pc := 20) dX11_seek_20 ?_
    refine j_callSZ (pc := 21) (As := [aL (Int32.toInt64 v2), aL 0, aL (Int32.toInt64 (gI σ2 45 v0 j3))]) (st := []) (fun l => c11_in l (Int32.toInt64 v2) 0 (Int32.toInt64 (gI σ2 45 v0 j3))) cs_RX11_140 rfl rfl (Nat.le_of_ble_eq_true rfl) ⟨(Nat.le_of_ble_eq_true rfl), (Nat.le_of_ble_eq_true rfl)⟩ ⟨(Nat.le_of_ble_eq_true rfl), (Nat.le_of_ble_eq_true rfl)⟩ dX11_seek_21 (fun r4 σ5 => ?_)
    refine j_ifneB (pc := 24) (tgt := 33) dX11_seek_24 rfl (fun _ => ?_) (fun _ => ?_)
    · refine j_aload_n (pc := 33) 0 dX11_seek_33 rfl rfl ?_
      refine j_getF (pc := 34) fd_29_16 tw_4_79 dX11_seek_34 ?_
      refine j_iload_n (pc := 37) 1 dX11_seek_37 rfl rfl ?_
      refine j_iald (pc := 38) rfl rfl rfl dX11_seek_38 (fun j6 => ?_)
      refine j_leti (fun x7 => ?_)
      refine j_istore_n (pc := 39) (lv' := [(3, aI x7), (0, aR 29 v0), (1, aI v1), (2, aI v2)]) dX11_seek_39 rfl (Nat.le_of_ble_eq_true rfl) rfl ?_
      refine j_aload_n (pc := 40) 1 dX11_seek_40 rfl rfl ?_
      refine j_getF (pc := 41) fd_29_16 tw_4_79 dX11_seek_41 ?_
      refine j_iload_n (pc := 44) 2 dX11_seek_44 rfl rfl ?_
      refine j_iload_n (pc := 45) 3 dX11_seek_45 rfl rfl ?_
      refine j_iast (pc := 46) rfl rfl rfl dX11_seek_46 (fun j8 => ?_)
      refine j_lets (fun σ9 => ?_)
      refine j_iload_n (pc := 47) 0 dX11_seek_47 rfl rfl ?_
      exact j_ireturn (pc := 48) rfl (Nat.le_of_ble_eq_true rfl) (Nat.le_of_ble_eq_true rfl) dX11_seek_48
    · refine j_aload_n (pc := 27) 0 dX11_seek_27 rfl rfl ?_
      refine j_iconst (pc := 28) (v := 2) (by decide) dX11_seek_28 ?_
      refine j_callVI (pc := 29) (As := [aI 2]) (st := []) (fun l => c11_meets l v0 2) cs_RX11_146 rfl rfl rfl rfl (Nat.le_of_ble_eq_true rfl) ⟨(Nat.le_of_ble_eq_true rfl), (Nat.le_of_ble_eq_true rfl)⟩ ⟨(Nat.le_of_ble_eq_true rfl), (Nat.le_of_ble_eq_true rfl)⟩ dX11_seek_29 (fun r10 σ11 => ?_)
      exact j_ireturn (pc := 32) rfl (Nat.le_of_ble_eq_true rfl) (Nat.le_of_ble_eq_true rfl) dX11_seek_32
  · refine j_bipush (pc := 8) (v := (-101)) (by decide) dX11_seek_8 ?_
    exact j_ireturn (pc := 10) rfl (Nat.le_of_ble_eq_true rfl) (Nat.le_of_ble_eq_true rfl) dX11_seek_10
theorem c11_seek (l : Launch) (v0 : Nat) (v1 : Int32) (v2 : Int32) : Ctr l yX11_seek cX11_seek 4 (some .int) rm11_seek eI [aR 29 v0, aI v1, aI v2] (f11_seek v0 v1 v2) := ctr_of (lv := [(0, aR 29 v0), (1, aI v1), (2, aI v2)]) (by decide +kernel) (fun _ => rfl) (fun _ => (Nat.le_of_ble_eq_true rfl)) (fun _ h => lvl_als h rfl) (fun _ σ _ => j11_seek v0 v1 v2 σ)
