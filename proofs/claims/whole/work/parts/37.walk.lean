theorem cs_RX11_281 : CaV RX11 RX11 281 yX11_piece cX11_piece 11 (some .int) 2 := ⟨tw_5_172, tw_5_174, tw_p35, tw_1_5, tw_5_175, rfl, by decide +kernel, by decide +kernel, by decide +kernel⟩
abbrev rm11_pieces : Room := { frames := 3, cells := 0, slots := 0, locals := 82 }
set_option maxRecDepth 20000 in
set_option maxHeartbeats 4000000 in
theorem jb11_pieces_15 {Γ : jX} {tg : Int32 × rS} (N : Nat) (K15 : Nat → Int32 → Int32 → Int32 → rS → Option (Int32 × rS)) (hK15 : ∀ (v0 : Nat) (v1 : Int32) (v2 : Int32) (v3 : Int32) (σ : rS), J Γ rm11_pieces eI cX11_pieces RX11 4 (some .int) tg 0 0 15 [(0, aR 29 v0), (1, aI v1), (2, aI v2), (3, aI v3)] [] σ (K15 v0 v1 v2 v3 σ)) (v0 : Nat) (v1 : Int32) (v2 : Int32) (v3 : Int32) (σ : rS) : J Γ rm11_pieces eI cX11_pieces RX11 4 (some .int) tg 0 0 15 [(0, aR 29 v0), (1, aI v1), (2, aI v2), (3, aI v3)] [] σ (B11_pieces_15 N K15 v0 v1 v2 v3 σ) := by
  unfold B11_pieces_15
  refine j_aload_n (pc := 15) 0 dX11_pieces_15 rfl rfl ?_
  refine j_iload_n (pc := 16) 1 dX11_pieces_16 rfl rfl ?_
  refine j_iload_n (pc := 17) 2 dX11_pieces_17 rfl rfl ?_
  refine j_callVI (pc := 18) (As := [aI v1, aI v2]) (st := []) (fun l => c11_piece l N v0 v1 v2) cs_RX11_281 rfl rfl rfl rfl (Nat.le_of_ble_eq_true rfl) ⟨(Nat.le_of_ble_eq_true rfl), (Nat.le_of_ble_eq_true rfl)⟩ ⟨(Nat.le_of_ble_eq_true rfl), (Nat.le_of_ble_eq_true rfl)⟩ dX11_pieces_18 (fun r1 σ2 => ?_)
  refine j_ifne (pc := 21) (tgt := 37) dX11_pieces_21 rfl (fun _ => ?_) (fun _ => ?_)
  · refine j_iload_n (pc := 37) 3 dX11_pieces_37 rfl rfl ?_
    exact j_ireturn (pc := 38) rfl (Nat.le_of_ble_eq_true rfl) (Nat.le_of_ble_eq_true rfl) dX11_pieces_38
  · refine j_aload_n (pc := 24) 0 dX11_pieces_24 rfl rfl ?_
    refine j_getI (pc := 25) fd_29_19 tw_4_85 dX11_pieces_25 ?_
    refine j_iconst (pc := 28) (v := 2) (by decide) dX11_pieces_28 ?_
    refine j_iadd (pc := 29) dX11_pieces_29 ?_
    refine j_leti (fun x3 => ?_)
    refine j_istore_n (pc := 30) (lv' := [(2, aI x3), (0, aR 29 v0), (1, aI v1), (3, aI v3)]) dX11_pieces_30 rfl (Nat.le_of_ble_eq_true rfl) rfl ?_
    refine j_iinc (pc := 31) (w := 1) (lv' := [(3, aI (v3 + 1)), (2, aI x3), (0, aR 29 v0), (1, aI v1)]) 3 dX11_pieces_31 rfl (by decide) (Nat.le_of_ble_eq_true rfl) rfl ?_
    refine j_goto (pc := 34) (tgt := 15) dX11_pieces_34 rfl ?_
    refine j_sub [2, 3, 1, 0] (lv' := [(0, aR 29 v0), (1, aI v1), (2, aI x3), (3, aI (v3 + 1))]) rfl ?_
    exact hK15 v0 v1 x3 (v3 + 1) σ2
theorem jl11_pieces_15 {Γ : jX} {tg : Int32 × rS} (N : Nat) : ∀ (n : Nat) (v0 : Nat) (v1 : Int32) (v2 : Int32) (v3 : Int32) (σ : rS), J Γ rm11_pieces eI cX11_pieces RX11 4 (some .int) tg 0 0 15 [(0, aR 29 v0), (1, aI v1), (2, aI v2), (3, aI v3)] [] σ (L11_pieces_15 N n v0 v1 v2 v3 σ) := by
  intro n
  induction n with
  | zero => intro v0 v1 v2 v3 σ; exact j_none
  | succ n ih => intro v0 v1 v2 v3 σ; exact jb11_pieces_15 N (L11_pieces_15 N n) ih v0 v1 v2 v3 σ
set_option maxRecDepth 20000 in
set_option maxHeartbeats 4000000 in
theorem j11_pieces {Γ : jX} {tg : Int32 × rS} (N : Nat) (v0 : Nat) (v1 : Int32) (σ : rS) : J Γ rm11_pieces eI cX11_pieces RX11 4 (some .int) tg 0 0 0 [(0, aR 29 v0), (1, aI v1)] [] σ (f11_pieces N v0 v1 σ) := by
  unfold f11_pieces
  refine j_aload_n (pc := 0) 0 dX11_pieces_0 rfl rfl ?_
  refine j_iload_n (pc := 1) 1 dX11_pieces_1 rfl rfl ?_
  refine j_callVZ (pc := 2) (As := [aI v1]) (st := []) (fun l => c11_isStream l v0 v1) cs_RX11_247 rfl rfl rfl rfl (Nat.le_of_ble_eq_true rfl) ⟨(Nat.le_of_ble_eq_true rfl), (Nat.le_of_ble_eq_true rfl)⟩ ⟨(Nat.le_of_ble_eq_true rfl), (Nat.le_of_ble_eq_true rfl)⟩ dX11_pieces_2 (fun r1 σ2 => ?_)
  refine j_ifneB (pc := 5) (tgt := 11) dX11_pieces_5 rfl (fun _ => ?_) (fun _ => ?_)
  · refine j_iconst (pc := 11) (v := 0) (by decide) dX11_pieces_11 ?_
    refine j_istore_n (pc := 12) (lv' := [(2, aI 0), (0, aR 29 v0), (1, aI v1)]) dX11_pieces_12 rfl (Nat.le_of_ble_eq_true rfl) rfl ?_
    refine j_iconst (pc := 13) (v := 0) (by decide) dX11_pieces_13 ?_
    refine j_istore_n (pc := 14) (lv' := [(3, aI 0), (2, aI 0), (0, aR 29 v0), (1, aI v1)]) dX11_pieces_14 rfl (Nat.le_of_ble_eq_true rfl) rfl ?_
    refine j_sub [2, 3, 1, 0] (lv' := [(0, aR 29 v0), (1, aI v1), (2, aI 0), (3, aI 0)]) rfl ?_
    exact jl11_pieces_15 N  N v0 v1 0 0 σ2
  · refine j_bipush (pc := 8) (v := (-101)) (by decide) dX11_pieces_8 ?_
    exact j_ireturn (pc := 10) rfl (Nat.le_of_ble_eq_true rfl) (Nat.le_of_ble_eq_true rfl) dX11_pieces_10
theorem c11_pieces (l : Launch) (N : Nat) (v0 : Nat) (v1 : Int32) : Ctr l yX11_pieces cX11_pieces 4 (some .int) rm11_pieces eI [aR 29 v0, aI v1] (f11_pieces N v0 v1) := ctr_of (lv := [(0, aR 29 v0), (1, aI v1)]) (by decide +kernel) (fun _ => rfl) (fun _ => (Nat.le_of_ble_eq_true rfl)) (fun _ h => lvl_als h rfl) (fun _ σ _ => j11_pieces N v0 v1 σ)
abbrev rm11_put : Room := { frames := 3, cells := 0, slots := 0, locals := 68 }
set_option maxRecDepth 20000 in
set_option maxHeartbeats 4000000 in
theorem j11_put {Γ : jX} {tg : Int32 × rS} (v0 : Nat) (v1 : Int32) (v2 : Int32) (v3 : Int64) (σ : rS) : J Γ rm11_put eI cX11_put RX11 6 (some .int) tg 0 0 0 [(0, aR 29 v0), (1, aI v1), (2, aI v2), (3, aL v3)] [] σ (f11_put v0 v1 v2 v3 σ) := by
  unfold f11_put
  refine j_aload_n (pc := 0) 0 dX11_put_0 rfl rfl ?_
  refine j_iload_n (pc := 1) 1 dX11_put_1 rfl rfl ?_
  refine j_iload_n (pc := 2) 2 dX11_put_2 rfl rfl ?_
  refine j_callVI (pc := 3) (As := [aI v1, aI v2]) (st := []) (fun l => c11_against l v0 v1 v2) cs_RX11_158 rfl rfl rfl rfl (Nat.le_of_ble_eq_true rfl) ⟨(Nat.le_of_ble_eq_true rfl), (Nat.le_of_ble_eq_true rfl)⟩ ⟨(Nat.le_of_ble_eq_true rfl), (Nat.le_of_ble_eq_true rfl)⟩ dX11_put_3 (fun r1 σ2 => ?_)
  refine j_istore (pc := 6) (lv' := [(5, aI r1), (0, aR 29 v0), (1, aI v1), (2, aI v2), (3, aL v3)]) dX11_put_6 (Nat.le_of_ble_eq_true rfl) rfl ?_
  refine j_iload (pc := 8) 0 dX11_put_8 rfl ?_
  refine j_ifne (pc := 10) (tgt := 34) dX11_put_10 rfl (fun _ => ?_) (fun _ => ?_)
  · refine j_iload (pc := 34) 0 dX11_put_34 rfl ?_
    exact j_ireturn (pc := 36) rfl (Nat.le_of_ble_eq_true rfl) (Nat.le_of_ble_eq_true rfl) dX11_put_36
  · refine j_aload_n (pc := 13) 1 dX11_put_13 rfl rfl ?_
    refine j_getF (pc := 14) fd_29_7 tw_4_73 dX11_put_14 ?_
    refine j_bipush (pc := 17) (v := 24) (by decide) dX11_put_17 ?_
    refine j_iload_n (pc := 19) 2 dX11_put_19 rfl rfl ?_
    refine j_imul (pc := 20) dX11_put_20 ?_
    refine j_iload_n (pc := 21) 3 dX11_put_21 rfl rfl ?_
    refine j_iadd (pc := 22) dX11_put_22 ?_
    refine j_aload_n (pc := 23) 1 dX11_put_23 rfl rfl ?_
    refine j_getF (pc := 24) fd_29_4 tw_4_70 dX11_put_24 ?_
    refine j_iload_n (pc := 27) 2 dX11_put_27 rfl rfl ?_
    refine j_iald (pc := 28) rfl rfl rfl dX11_put_28 (fun j3 => ?_)
    refine j_lload_n (pc := 29) 4 dX11_put_29 rfl rfl ?_
    refine j_callSL (pc := 30) (As := [aI (gI σ2 34 v0 j3), aL v3]) (st := [aI ((24 * v1) + v2), aR 37 v0]) (fun l => c11_cut l (gI σ2 34 v0 j3) v3) cs_RX11_127 rfl rfl (Nat.le_of_ble_eq_true rfl) ⟨(Nat.le_of_ble_eq_true rfl), (Nat.le_of_ble_eq_true rfl)⟩ ⟨(Nat.le_of_ble_eq_true rfl), (Nat.le_of_ble_eq_true rfl)⟩ dX11_put_30 (fun r4 σ5 => ?_)
    refine j_last (pc := 33) rfl rfl rfl dX11_put_33 (fun j6 => ?_)
    refine j_lets (fun σ7 => ?_)
    refine j_iload (pc := 34) 0 dX11_put_34 rfl ?_
    exact j_ireturn (pc := 36) rfl (Nat.le_of_ble_eq_true rfl) (Nat.le_of_ble_eq_true rfl) dX11_put_36
theorem c11_put (l : Launch) (v0 : Nat) (v1 : Int32) (v2 : Int32) (v3 : Int64) : Ctr l yX11_put cX11_put 6 (some .int) rm11_put eI [aR 29 v0, aI v1, aI v2, aL v3] (f11_put v0 v1 v2 v3) := ctr_of (lv := [(0, aR 29 v0), (1, aI v1), (2, aI v2), (3, aL v3)]) (by decide +kernel) (fun _ => rfl) (fun _ => (Nat.le_of_ble_eq_true rfl)) (fun _ h => lvl_als h rfl) (fun _ σ _ => j11_put v0 v1 v2 v3 σ)
theorem cs_RX11_150 : CaV RX11 RX11 150 yX11_newRow cX11_newRow 4 (some .int) 2 := ⟨tw_4_191, tw_4_193, tw_p22, tw_1_5, tw_4_194, rfl, by decide +kernel, by decide +kernel, by decide +kernel⟩
abbrev rm11_read : Room := { frames := 3, cells := 0, slots := 0, locals := 82 }
set_option maxRecDepth 20000 in
set_option maxHeartbeats 4000000 in
theorem jb11_read_76 {Γ : jX} {tg : Int32 × rS} (N : Nat) (K76 : Nat → Int32 → Int32 → Int32 → rS → Option (Int32 × rS)) (hK76 : ∀ (v0 : Nat) (v1 : Int32) (v3 : Int32) (v4 : Int32) (σ : rS), J Γ rm11_read eI cX11_read RX11 5 (some .int) tg 0 0 76 [(0, aR 29 v0), (1, aI v1), (3, aI v3), (4, aI v4)] [] σ (K76 v0 v1 v3 v4 σ)) (v0 : Nat) (v1 : Int32) (v3 : Int32) (v4 : Int32) (σ : rS) : J Γ rm11_read eI cX11_read RX11 5 (some .int) tg 0 0 76 [(0, aR 29 v0), (1, aI v1), (3, aI v3), (4, aI v4)] [] σ (B11_read_76 N K76 v0 v1 v3 v4 σ) := by
  unfold B11_read_76
  refine j_iload (pc := 76) 3 dX11_read_76 rfl ?_
  refine j_aload_n (pc := 78) 0 dX11_read_78 rfl rfl ?_
  refine j_getI (pc := 79) fd_29_10 tw_4_76 dX11_read_79 ?_
  refine j_icmpge (pc := 82) (tgt := 110) dX11_read_82 rfl (fun _ => ?_) (fun _ => ?_)
  · refine j_aload_n (pc := 110) 0 dX11_read_110 rfl rfl ?_
    refine j_getF (pc := 111) fd_29_16 tw_4_82 dX11_read_111 ?_
    refine j_iload_n (pc := 114) 1 dX11_read_114 rfl rfl ?_
    refine j_aload_n (pc := 115) 0 dX11_read_115 rfl rfl ?_
    refine j_getI (pc := 116) fd_29_19 tw_4_85 dX11_read_116 ?_
    refine j_iconst (pc := 119) (v := 2) (by decide) dX11_read_119 ?_
    refine j_iadd (pc := 120) dX11_read_120 ?_
    refine j_iast (pc := 121) rfl rfl rfl dX11_read_121 (fun j1 => ?_)
    refine j_lets (fun σ2 => ?_)
    refine j_iload_n (pc := 122) 2 dX11_read_122 rfl rfl ?_
    exact j_ireturn (pc := 123) rfl (Nat.le_of_ble_eq_true rfl) (Nat.le_of_ble_eq_true rfl) dX11_read_123
  · refine j_aload_n (pc := 85) 0 dX11_read_85 rfl rfl ?_
    refine j_getF (pc := 86) fd_29_7 tw_4_73 dX11_read_86 ?_
    refine j_bipush (pc := 89) (v := 24) (by decide) dX11_read_89 ?_
    refine j_iload_n (pc := 91) 2 dX11_read_91 rfl rfl ?_
    refine j_imul (pc := 92) dX11_read_92 ?_
    refine j_iload (pc := 93) 3 dX11_read_93 rfl ?_
    refine j_iadd (pc := 95) dX11_read_95 ?_
    refine j_aload_n (pc := 96) 0 dX11_read_96 rfl rfl ?_
    refine j_getF (pc := 97) fd_29_9 tw_4_75 dX11_read_97 ?_
    refine j_iload (pc := 100) 3 dX11_read_100 rfl ?_
    refine j_lald (pc := 102) rfl rfl rfl dX11_read_102 (fun j3 => ?_)
    refine j_last (pc := 103) rfl rfl rfl dX11_read_103 (fun j4 => ?_)
    refine j_lets (fun σ5 => ?_)
    refine j_iinc (pc := 104) (w := 1) (lv' := [(4, aI (v4 + 1)), (0, aR 29 v0), (1, aI v1), (3, aI v3)]) 3 dX11_read_104 rfl (by decide) (Nat.le_of_ble_eq_true rfl) rfl ?_
    refine j_goto (pc := 107) (tgt := 76) dX11_read_107 rfl ?_
    refine j_sub [1, 2, 3, 0] (lv' := [(0, aR 29 v0), (1, aI v1), (3, aI v3), (4, aI (v4 + 1))]) rfl ?_
    exact hK76 v0 v1 v3 (v4 + 1) σ5
theorem jl11_read_76 {Γ : jX} {tg : Int32 × rS} (N : Nat) : ∀ (n : Nat) (v0 : Nat) (v1 : Int32) (v3 : Int32) (v4 : Int32) (σ : rS), J Γ rm11_read eI cX11_read RX11 5 (some .int) tg 0 0 76 [(0, aR 29 v0), (1, aI v1), (3, aI v3), (4, aI v4)] [] σ (L11_read_76 N n v0 v1 v3 v4 σ) := by
  intro n
  induction n with
  | zero => intro v0 v1 v3 v4 σ; exact j_none
  | succ n ih => intro v0 v1 v3 v4 σ; exact jb11_read_76 N (L11_read_76 N n) ih v0 v1 v3 v4 σ
set_option maxRecDepth 20000 in
set_option maxHeartbeats 4000000 in
theorem j11_read {Γ : jX} {tg : Int32 × rS} (N : Nat) (v0 : Nat) (v1 : Int32) (σ : rS) : J Γ rm11_read eI cX11_read RX11 5 (some .int) tg 0 0 0 [(0, aR 29 v0), (1, aI v1)] [] σ (f11_read N v0 v1 σ) := by
  unfold f11_read
  refine j_aload_n (pc := 0) 0 dX11_read_0 rfl rfl ?_
  refine j_iload_n (pc := 1) 1 dX11_read_1 rfl rfl ?_
  refine j_callVZ (pc := 2) (As := [aI v1]) (st := []) (fun l => c11_isStream l v0 v1) cs_RX11_247 rfl rfl rfl rfl (Nat.le_of_ble_eq_true rfl) ⟨(Nat.le_of_ble_eq_true rfl), (Nat.le_of_ble_eq_true rfl)⟩ ⟨(Nat.le_of_ble_eq_true rfl), (Nat.le_of_ble_eq_true rfl)⟩ dX11_read_2 (fun r1 σ2 => ?_)
  refine j_ifneB (pc := 5) (tgt := 11) dX11_read_5 rfl (fun _ => ?_) (fun _ => ?_)
  · refine j_aload_n (pc := 11) 0 dX11_read_11 rfl rfl ?_
    refine j_iload_n (pc := 12) 1 dX11_read_12 rfl rfl ?_
    refine j_aload_n (pc := 13) 0 dX11_read_13 rfl rfl ?_
    refine j_getF (pc := 14) fd_29_16 tw_4_82 dX11_read_14 ?_
    refine j_iload_n (pc := 17) 1 dX11_read_17 rfl rfl ?_
    refine j_iald (pc := 18) rfl rfl rfl dX11_read_18 (fun j3 => ?_)
    refine j_callVI (pc := 19) (As := [aI v1, aI (gI σ2 46 v0 j3)]) (st := []) (fun l => c11_piece l N v0 v1 (gI σ2 46 v0 j3)) cs_RX11_281 rfl rfl rfl rfl (Nat.le_of_ble_eq_true rfl) ⟨(Nat.le_of_ble_eq_true rfl), (Nat.le_of_ble_eq_true rfl)⟩ ⟨(Nat.le_of_ble_eq_true rfl), (Nat.le_of_ble_eq_true rfl)⟩ dX11_read_19 (fun r4 σ5 => ?_)
    refine j_istore_n (pc := 22) (lv' := [(2, aI r4), (0, aR 29 v0), (1, aI v1)]) dX11_read_22 rfl (Nat.le_of_ble_eq_true rfl) rfl ?_
    refine j_iload_n (pc := 23) 0 dX11_read_23 rfl rfl ?_
    refine j_ifle (pc := 24) (tgt := 33) dX11_read_24 rfl (fun _ => ?_) (fun _ => ?_)
    · refine j_aload_n (pc := 33) 1 dX11_read_33 rfl rfl ?_
      refine j_getI (pc := 34) fd_29_3 tw_4_69 dX11_read_34 ?_
      refine j_bipush (pc := 37) (v := 60) (by decide) dX11_read_37 ?_
      refine j_icmpne (pc := 39) (tgt := 45) dX11_read_39 rfl (fun _ => ?_) (fun _ => ?_)
      · refine j_aload_n (pc := 45) 1 dX11_read_45 rfl rfl ?_
        refine j_aload_n (pc := 46) 1 dX11_read_46 rfl rfl ?_
        refine j_getF (pc := 47) fd_29_14 tw_4_80 dX11_read_47 ?_
        refine j_sipush (pc := 50) (v := 400) (by decide) dX11_read_50 ?_
        refine j_iload_n (pc := 53) 2 dX11_read_53 rfl rfl ?_
        refine j_imul (pc := 54) dX11_read_54 ?_
        refine j_aload_n (pc := 55) 1 dX11_read_55 rfl rfl ?_
        refine j_getF (pc := 56) fd_29_16 tw_4_82 dX11_read_56 ?_
        refine j_iload_n (pc := 59) 2 dX11_read_59 rfl rfl ?_
        refine j_iald (pc := 60) rfl rfl rfl dX11_read_60 (fun j6 => ?_)
        refine j_iadd (pc := 61) dX11_read_61 ?_
        refine j_iconst (pc := 62) (v := 1) (by decide) dX11_read_62 ?_
        refine j_iadd (pc := 63) dX11_read_63 ?_
        refine j_iald (pc := 64) rfl rfl rfl dX11_read_64 (fun j7 => ?_)
        refine j_aload_n (pc := 65) 1 dX11_read_65 rfl rfl ?_
        refine j_getI (pc := 66) fd_29_10 tw_4_76 dX11_read_66 ?_
        refine j_callVI (pc := 69) (As := [aI (gI σ5 44 v0 j7), aI (gI σ5 29 v0 10)]) (st := []) (fun l => c11_newRow l N v0 (gI σ5 44 v0 j7) (gI σ5 29 v0 10)) cs_RX11_150 rfl rfl rfl rfl (Nat.le_of_ble_eq_true rfl) ⟨(Nat.le_of_ble_eq_true rfl), (Nat.le_of_ble_eq_true rfl)⟩ ⟨(Nat.le_of_ble_eq_true rfl), (Nat.le_of_ble_eq_true rfl)⟩ dX11_read_69 (fun r8 σ9 => ?_)
        refine j_istore_n (pc := 72) (lv' := [(3, aI r8), (2, aI r4), (0, aR 29 v0), (1, aI v1)]) dX11_read_72 rfl (Nat.le_of_ble_eq_true rfl) rfl ?_
        refine j_sub [0, 2, 3] (lv' := [(3, aI r8), (0, aR 29 v0), (1, aI v1)]) rfl ?_
        refine j_iconst (pc := 73) (v := 0) (by decide) dX11_read_73 ?_
        refine j_istore (pc := 74) (lv' := [(4, aI 0), (3, aI r8), (0, aR 29 v0), (1, aI v1)]) dX11_read_74 (Nat.le_of_ble_eq_true rfl) rfl ?_
        refine j_sub [2, 3, 1, 0] (lv' := [(0, aR 29 v0), (1, aI v1), (3, aI r8), (4, aI 0)]) rfl ?_
        exact jl11_read_76 N  N v0 v1 r8 0 σ9
      · refine j_bipush (pc := 42) (v := (-104)) (by decide) dX11_read_42 ?_
        exact j_ireturn (pc := 44) rfl (Nat.le_of_ble_eq_true rfl) (Nat.le_of_ble_eq_true rfl) dX11_read_44
    · refine j_aload_n (pc := 27) 1 dX11_read_27 rfl rfl ?_
      refine j_iload_n (pc := 28) 0 dX11_read_28 rfl rfl ?_
      refine j_callVI (pc := 29) (As := [aI r4]) (st := []) (fun l => c11_meets l v0 r4) cs_RX11_146 rfl rfl rfl rfl (Nat.le_of_ble_eq_true rfl) ⟨(Nat.le_of_ble_eq_true rfl), (Nat.le_of_ble_eq_true rfl)⟩ ⟨(Nat.le_of_ble_eq_true rfl), (Nat.le_of_ble_eq_true rfl)⟩ dX11_read_29 (fun r10 σ11 => ?_)
      exact j_ireturn (pc := 32) rfl (Nat.le_of_ble_eq_true rfl) (Nat.le_of_ble_eq_true rfl) dX11_read_32
  · refine j_bipush (pc := 8) (v := (-101)) (by decide) dX11_read_8 ?_
    exact j_ireturn (pc := 10) rfl (Nat.le_of_ble_eq_true rfl) (Nat.le_of_ble_eq_true rfl) dX11_read_10
theorem c11_read (l : Launch) (N : Nat) (v0 : Nat) (v1 : Int32) : Ctr l yX11_read cX11_read 5 (some .int) rm11_read eI [aR 29 v0, aI v1] (f11_read N v0 v1) := ctr_of (lv := [(0, aR 29 v0), (1, aI v1)]) (by decide +kernel) (fun _ => rfl) (fun _ => (Nat.le_of_ble_eq_true rfl)) (fun _ h => lvl_als h rfl) (fun _ σ _ => j11_read N v0 v1 σ)
theorem cs_RX11_123 : CaS RX11 123 yJxe99ae_doubleToLongBits_ccdee cJxe99ae_doubleToLongBits_ccdee 2 (some .long) 1 := ⟨tw_5_45, tw_5_46, tw_1_12, tw_5_47, by decide +kernel, by decide +kernel, by decide +kernel⟩
theorem cs_RX11_119 : CaS RX11 119 yJxf58ca_floatToIntBits_5c35a cJxf58ca_floatToIntBits_5c35a 1 (some .int) 1 := ⟨tw_5_35, tw_5_36, tw_1_11, tw_5_37, by decide +kernel, by decide +kernel, by decide +kernel⟩
theorem cs_RX11_201 : CaS RX11 201 yX11_kMask cX11_kMask 1 (some .long) 1 := ⟨tw_5_65, tw_5_66, tw_1_5, tw_5_67, by decide +kernel, by decide +kernel, by decide +kernel⟩
theorem cs_RX11_204 : CaS RX11 204 yX11_kEndless cX11_kEndless 1 (some .long) 1 := ⟨tw_5_68, tw_5_69, tw_1_5, tw_5_70, by decide +kernel, by decide +kernel, by decide +kernel⟩
abbrev rm11_rest : Room := { frames := 3, cells := 0, slots := 0, locals := 68 }
set_option maxRecDepth 20000 in
set_option maxHeartbeats 4000000 in
theorem jb11_rest_127 {Γ : jX} {tg : Int32 × rS} (v0 : Nat) (v5 : Int32) (v6 : Int64) (v8 : Int64) (s0 : Bool) (σ : rS) : J Γ rm11_rest eI cX11_rest RX11 11 (some .int) tg 0 0 127 [(0, aR 29 v0), (5, aI v5), (6, aL v6), (8, aL v8)] [aI (bi s0)] σ (B11_rest_127 v0 v5 v6 v8 s0 σ) := by
  unfold B11_rest_127
  refine j_istore (pc := 127) (lv' := [(10, aI (bi s0)), (0, aR 29 v0), (5, aI v5), (6, aL v6), (8, aL v8)]) dX11_rest_127 (Nat.le_of_ble_eq_true rfl) rfl ?_
  refine j_iload (pc := 129) 2 dX11_rest_129 rfl ?_
  refine j_lload (pc := 131) 3 dX11_rest_131 rfl ?_
  refine j_callSZ (pc := 133) (As := [aI v5, aL v6]) (st := []) (fun l => c11_isGap l v5 v6) cs_RX11_99 rfl rfl (Nat.le_of_ble_eq_true rfl) ⟨(Nat.le_of_ble_eq_true rfl), (Nat.le_of_ble_eq_true rfl)⟩ ⟨(Nat.le_of_ble_eq_true rfl), (Nat.le_of_ble_eq_true rfl)⟩ dX11_rest_133 (fun r1 σ2 => ?_)
  refine j_ifneB (pc := 136) (tgt := 166) dX11_rest_136 rfl (fun _ => ?_) (fun _ => ?_)
  · refine j_aload_n (pc := 166) 1 dX11_rest_166 rfl rfl ?_
    refine j_iconst (pc := 167) (v := 5) (by decide) dX11_rest_167 ?_
    refine j_callVI (pc := 168) (As := [aI 5]) (st := []) (fun l => c11_meets l v0 5) cs_RX11_146 rfl rfl rfl rfl (Nat.le_of_ble_eq_true rfl) ⟨(Nat.le_of_ble_eq_true rfl), (Nat.le_of_ble_eq_true rfl)⟩ ⟨(Nat.le_of_ble_eq_true rfl), (Nat.le_of_ble_eq_true rfl)⟩ dX11_rest_168 (fun r3 σ4 => ?_)
    exact j_ireturn (pc := 171) rfl (Nat.le_of_ble_eq_true rfl) (Nat.le_of_ble_eq_true rfl) dX11_rest_171
  · refine j_iload (pc := 139) 2 dX11_rest_139 rfl ?_
    refine j_lload (pc := 141) 4 dX11_rest_141 rfl ?_
    refine j_callSZ (pc := 143) (As := [aI v5, aL v8]) (st := []) (fun l => c11_isGap l v5 v8) cs_RX11_99 rfl rfl (Nat.le_of_ble_eq_true rfl) ⟨(Nat.le_of_ble_eq_true rfl), (Nat.le_of_ble_eq_true rfl)⟩ ⟨(Nat.le_of_ble_eq_true rfl), (Nat.le_of_ble_eq_true rfl)⟩ dX11_rest_143 (fun r5 σ6 => ?_)
    refine j_ifneB (pc := 146) (tgt := 166) dX11_rest_146 rfl (fun _ => ?_) (fun _ => ?_)
    · refine j_aload_n (pc := 166) 1 dX11_rest_166 rfl rfl ?_
      refine j_iconst (pc := 167) (v := 5) (by decide) dX11_rest_167 ?_
      refine j_callVI (pc := 168) (As := [aI 5]) (st := []) (fun l => c11_meets l v0 5) cs_RX11_146 rfl rfl rfl rfl (Nat.le_of_ble_eq_true rfl) ⟨(Nat.le_of_ble_eq_true rfl), (Nat.le_of_ble_eq_true rfl)⟩ ⟨(Nat.le_of_ble_eq_true rfl), (Nat.le_of_ble_eq_true rfl)⟩ dX11_rest_168 (fun r7 σ8 => ?_)
      exact j_ireturn (pc := 171) rfl (Nat.le_of_ble_eq_true rfl) (Nat.le_of_ble_eq_true rfl) dX11_rest_171
    · refine j_iload (pc := 149) 0 dX11_rest_149 rfl ?_
      refine j_ifneB (pc := 151) (tgt := 166) dX11_rest_151 rfl (fun _ => ?_) (fun _ => ?_)
      · refine j_aload_n (pc := 166) 1 dX11_rest_166 rfl rfl ?_
        refine j_iconst (pc := 167) (v := 5) (by decide) dX11_rest_167 ?_
        refine j_callVI (pc := 168) (As := [aI 5]) (st := []) (fun l => c11_meets l v0 5) cs_RX11_146 rfl rfl rfl rfl (Nat.le_of_ble_eq_true rfl) ⟨(Nat.le_of_ble_eq_true rfl), (Nat.le_of_ble_eq_true rfl)⟩ ⟨(Nat.le_of_ble_eq_true rfl), (Nat.le_of_ble_eq_true rfl)⟩ dX11_rest_168 (fun r9 σ10 => ?_)
        exact j_ireturn (pc := 171) rfl (Nat.le_of_ble_eq_true rfl) (Nat.le_of_ble_eq_true rfl) dX11_rest_171
      · refine j_iload (pc := 154) 2 dX11_rest_154 rfl ?_
        refine j_lload (pc := 156) 4 dX11_rest_156 rfl ?_
        refine j_callSD (pc := 158) (As := [aI v5, aL v8]) (st := []) (fun l => c11_real l v5 v8) cs_RX11_131 rfl rfl (Nat.le_of_ble_eq_true rfl) ⟨(Nat.le_of_ble_eq_true rfl), (Nat.le_of_ble_eq_true rfl)⟩ ⟨(Nat.le_of_ble_eq_true rfl), (Nat.le_of_ble_eq_true rfl)⟩ dX11_rest_158 (fun r11 σ12 => ?_)
        refine j_dconst0 (pc := 161) dX11_rest_161 ?_
        refine j_dcmp (pc := 162) dX11_rest_162 ?_
        refine j_ifne (pc := 163) (tgt := 172) dX11_rest_163 rfl (fun _ => ?_) (fun _ => ?_)
        · refine j_iload (pc := 172) 2 dX11_rest_172 rfl ?_
          refine j_bipush (pc := 174) (v := 6) (by decide) dX11_rest_174 ?_
          refine j_icmpne (pc := 176) (tgt := 203) dX11_rest_176 rfl (fun _ => ?_) (fun _ => ?_)
          · refine j_aload_n (pc := 203) 1 dX11_rest_203 rfl rfl ?_
            refine j_lload (pc := 204) 3 dX11_rest_204 rfl ?_
            refine j_ock (fun hn => ?_)
            refine j_nl2d (pc := 206) tw_5_12 hn (Nat.le_of_ble_eq_true rfl) (Nat.le_of_ble_eq_true rfl) (Nat.le_of_ble_eq_true rfl) dX11_rest_206 ?_
            refine j_lload (pc := 209) 4 dX11_rest_209 rfl ?_
            refine j_ock (fun hn => ?_)
            refine j_nl2d (pc := 211) tw_5_12 hn (Nat.le_of_ble_eq_true rfl) (Nat.le_of_ble_eq_true rfl) (Nat.le_of_ble_eq_true rfl) dX11_rest_211 ?_
            refine j_ock (fun hn => ?_)
            refine j_drem (pc := 214) dX11_rest_214 (nn64_ok hn) ?_
            refine j_callSL (pc := 215) (As := [aD (FP.drem (Int64.toUInt64 v6) (Int64.toUInt64 v8))]) (st := [aR 29 v0]) (fun l => cJ_dbits l (FP.drem (Int64.toUInt64 v6) (Int64.toUInt64 v8))) cs_RX11_123 rfl rfl (Nat.le_of_ble_eq_true rfl) ⟨(Nat.le_of_ble_eq_true rfl), (Nat.le_of_ble_eq_true rfl)⟩ ⟨(Nat.le_of_ble_eq_true rfl), (Nat.le_of_ble_eq_true rfl)⟩ dX11_rest_215 (fun r13 σ14 => ?_)
            refine j_putL (pc := 218) fd_29_2 tw_4_68 dX11_rest_218 ?_
            refine j_lets (fun σ15 => ?_)
            refine j_iconst (pc := 221) (v := 0) (by decide) dX11_rest_221 ?_
            exact j_ireturn (pc := 222) rfl (Nat.le_of_ble_eq_true rfl) (Nat.le_of_ble_eq_true rfl) dX11_rest_222
          · refine j_aload_n (pc := 179) 1 dX11_rest_179 rfl rfl ?_
            refine j_lload (pc := 180) 3 dX11_rest_180 rfl ?_
            refine j_l2i (pc := 182) dX11_rest_182 ?_
            refine j_ock (fun hn => ?_)
            refine j_ni2f (pc := 183) tw_5_9 hn (Nat.le_of_ble_eq_true rfl) (Nat.le_of_ble_eq_true rfl) (Nat.le_of_ble_eq_true rfl) dX11_rest_183 ?_
            refine j_lload (pc := 186) 4 dX11_rest_186 rfl ?_
            refine j_l2i (pc := 188) dX11_rest_188 ?_
            refine j_ock (fun hn => ?_)
            refine j_ni2f (pc := 189) tw_5_9 hn (Nat.le_of_ble_eq_true rfl) (Nat.le_of_ble_eq_true rfl) (Nat.le_of_ble_eq_true rfl) dX11_rest_189 ?_
            refine j_ock (fun hn => ?_)
            refine j_frem (pc := 192) dX11_rest_192 (nn32_ok hn) ?_
            refine j_callSI (pc := 193) (As := [aF (FP.frem (Int32.toUInt32 (Int64.toInt32 v6)) (Int32.toUInt32 (Int64.toInt32 v8)))]) (st := [aR 29 v0]) (fun l => cJ_fbits l (FP.frem (Int32.toUInt32 (Int64.toInt32 v6)) (Int32.toUInt32 (Int64.toInt32 v8)))) cs_RX11_119 rfl rfl (Nat.le_of_ble_eq_true rfl) ⟨(Nat.le_of_ble_eq_true rfl), (Nat.le_of_ble_eq_true rfl)⟩ ⟨(Nat.le_of_ble_eq_true rfl), (Nat.le_of_ble_eq_true rfl)⟩ dX11_rest_193 (fun r16 σ17 => ?_)
            refine j_i2l (pc := 196) dX11_rest_196 ?_
            refine j_putL (pc := 197) fd_29_2 tw_4_68 dX11_rest_197 ?_
            refine j_lets (fun σ18 => ?_)
            refine j_goto (pc := 200) (tgt := 221) dX11_rest_200 rfl ?_
            refine j_iconst (pc := 221) (v := 0) (by decide) dX11_rest_221 ?_
            exact j_ireturn (pc := 222) rfl (Nat.le_of_ble_eq_true rfl) (Nat.le_of_ble_eq_true rfl) dX11_rest_222
        · refine j_aload_n (pc := 166) 1 dX11_rest_166 rfl rfl ?_
          refine j_iconst (pc := 167) (v := 5) (by decide) dX11_rest_167 ?_
          refine j_callVI (pc := 168) (As := [aI 5]) (st := []) (fun l => c11_meets l v0 5) cs_RX11_146 rfl rfl rfl rfl (Nat.le_of_ble_eq_true rfl) ⟨(Nat.le_of_ble_eq_true rfl), (Nat.le_of_ble_eq_true rfl)⟩ ⟨(Nat.le_of_ble_eq_true rfl), (Nat.le_of_ble_eq_true rfl)⟩ dX11_rest_168 (fun r19 σ20 => ?_)
          exact j_ireturn (pc := 171) rfl (Nat.le_of_ble_eq_true rfl) (Nat.le_of_ble_eq_true rfl) dX11_rest_171
set_option maxRecDepth 20000 in
set_option maxHeartbeats 4000000 in
theorem j11_rest {Γ : jX} {tg : Int32 × rS} (v0 : Nat) (v1 : Int32) (v2 : Int32) (v3 : Int32) (σ : rS) : J Γ rm11_rest eI cX11_rest RX11 11 (some .int) tg 0 0 0 [(0, aR 29 v0), (1, aI v1), (2, aI v2), (3, aI v3)] [] σ (f11_rest v0 v1 v2 v3 σ) := by
  unfold f11_rest
  refine j_aload_n (pc := 0) 0 dX11_rest_0 rfl rfl ?_
  refine j_iload_n (pc := 1) 1 dX11_rest_1 rfl rfl ?_
  refine j_iload_n (pc := 2) 2 dX11_rest_2 rfl rfl ?_
  refine j_callVI (pc := 3) (As := [aI v1, aI v2]) (st := []) (fun l => c11_against l v0 v1 v2) cs_RX11_158 rfl rfl rfl rfl (Nat.le_of_ble_eq_true rfl) ⟨(Nat.le_of_ble_eq_true rfl), (Nat.le_of_ble_eq_true rfl)⟩ ⟨(Nat.le_of_ble_eq_true rfl), (Nat.le_of_ble_eq_true rfl)⟩ dX11_rest_3 (fun r1 σ2 => ?_)
  refine j_istore (pc := 6) (lv' := [(4, aI r1), (0, aR 29 v0), (1, aI v1), (2, aI v2), (3, aI v3)]) dX11_rest_6 (Nat.le_of_ble_eq_true rfl) rfl ?_
  refine j_iload (pc := 8) 0 dX11_rest_8 rfl ?_
  refine j_ifeq (pc := 10) (tgt := 16) dX11_rest_10 rfl (fun _ => ?_) (fun _ => ?_)
  · refine j_iload_n (pc := 16) 4 dX11_rest_16 rfl rfl ?_
    refine j_i2l (pc := 17) dX11_rest_17 ?_
    refine j_lconst (pc := 18) (v := 0) (by decide) dX11_rest_18 ?_
    refine j_aload_n (pc := 19) 1 dX11_rest_19 rfl rfl ?_
    refine j_getF (pc := 20) fd_29_5 tw_4_71 dX11_rest_20 ?_
    refine j_iload_n (pc := 23) 2 dX11_rest_23 rfl rfl ?_
    refine j_iald (pc := 24) rfl rfl rfl dX11_rest_24 (fun j3 => ?_)
    refine j_iconst (pc := 25) (v := 1) (by decide) dX11_rest_25 ?_
    refine j_isub (pc := 26) dX11_rest_26 ?_
    refine j_i2l (pc := 27) dX11_rest_27 ?_
    refine j_callSZ (pc := 28) (As := [aL (Int32.toInt64 v3), aL 0, aL (Int32.toInt64 ((gI σ2 35 v0 j3) - 1))]) (st := []) (fun l => c11_in l (Int32.toInt64 v3) 0 (Int32.toInt64 ((gI σ2 35 v0 j3) - 1))) cs_RX11_140 rfl rfl (Nat.le_of_ble_eq_true rfl) ⟨(Nat.le_of_ble_eq_true rfl), (Nat.le_of_ble_eq_true rfl)⟩ ⟨(Nat.le_of_ble_eq_true rfl), (Nat.le_of_ble_eq_true rfl)⟩ dX11_rest_28 (fun r4 σ5 => ?_)
    refine j_ifneB (pc := 31) (tgt := 40) dX11_rest_31 rfl (fun _ => ?_) (fun _ => ?_)
    · refine j_aload_n (pc := 40) 1 dX11_rest_40 rfl rfl ?_
      refine j_getF (pc := 41) fd_29_4 tw_4_70 dX11_rest_41 ?_
      refine j_iload_n (pc := 44) 2 dX11_rest_44 rfl rfl ?_
      refine j_iald (pc := 45) rfl rfl rfl dX11_rest_45 (fun j6 => ?_)
      refine j_leti (fun x7 => ?_)
      refine j_istore (pc := 46) (lv' := [(5, aI x7), (4, aI r1), (0, aR 29 v0), (1, aI v1), (2, aI v2), (3, aI v3)]) dX11_rest_46 (Nat.le_of_ble_eq_true rfl) rfl ?_
      refine j_sub [0, 2, 3, 4, 5] (lv' := [(5, aI x7), (0, aR 29 v0), (1, aI v1), (2, aI v2), (3, aI v3)]) rfl ?_
      refine j_aload_n (pc := 48) 1 dX11_rest_48 rfl rfl ?_
      refine j_getF (pc := 49) fd_29_7 tw_4_73 dX11_rest_49 ?_
      refine j_bipush (pc := 52) (v := 24) (by decide) dX11_rest_52 ?_
      refine j_iload_n (pc := 54) 2 dX11_rest_54 rfl rfl ?_
      refine j_imul (pc := 55) dX11_rest_55 ?_
      refine j_iload_n (pc := 56) 3 dX11_rest_56 rfl rfl ?_
      refine j_iadd (pc := 57) dX11_rest_57 ?_
      refine j_lald (pc := 58) rfl rfl rfl dX11_rest_58 (fun j8 => ?_)
      refine j_letl (fun x9 => ?_)
      refine j_lstore (pc := 59) (lv' := [(6, aL x9), (5, aI x7), (0, aR 29 v0), (1, aI v1), (2, aI v2), (3, aI v3)]) dX11_rest_59 (Nat.le_of_ble_eq_true rfl) rfl ?_
      refine j_sub [0, 1, 2, 3, 5] (lv' := [(6, aL x9), (5, aI x7), (0, aR 29 v0), (1, aI v1), (3, aI v3)]) rfl ?_
      refine j_aload_n (pc := 61) 2 dX11_rest_61 rfl rfl ?_
      refine j_getF (pc := 62) fd_29_7 tw_4_73 dX11_rest_62 ?_
      refine j_bipush (pc := 65) (v := 24) (by decide) dX11_rest_65 ?_
      refine j_iload_n (pc := 67) 3 dX11_rest_67 rfl rfl ?_
      refine j_imul (pc := 68) dX11_rest_68 ?_
      refine j_iload_n (pc := 69) 4 dX11_rest_69 rfl rfl ?_
      refine j_iadd (pc := 70) dX11_rest_70 ?_
      refine j_lald (pc := 71) rfl rfl rfl dX11_rest_71 (fun j10 => ?_)
      refine j_letl (fun x11 => ?_)
      refine j_lstore (pc := 72) (lv' := [(8, aL x11), (6, aL x9), (5, aI x7), (0, aR 29 v0), (1, aI v1), (3, aI v3)]) dX11_rest_72 (Nat.le_of_ble_eq_true rfl) rfl ?_
      refine j_sub [0, 1, 2, 3] (lv' := [(8, aL x11), (6, aL x9), (5, aI x7), (0, aR 29 v0)]) rfl ?_
      refine j_iload (pc := 74) 2 dX11_rest_74 rfl ?_
      refine j_bipush (pc := 76) (v := 6) (by decide) dX11_rest_76 ?_
      refine j_icmpge (pc := 78) (tgt := 105) dX11_rest_78 rfl (fun _ => ?_) (fun _ => ?_)
      · refine j_lload (pc := 105) 1 dX11_rest_105 rfl ?_
        refine j_iload (pc := 107) 2 dX11_rest_107 rfl ?_
        refine j_callSL (pc := 109) (As := [aI x7]) (st := [aL x9]) (fun l => c11_kMask l x7) cs_RX11_201 rfl rfl (Nat.le_of_ble_eq_true rfl) ⟨(Nat.le_of_ble_eq_true rfl), (Nat.le_of_ble_eq_true rfl)⟩ ⟨(Nat.le_of_ble_eq_true rfl), (Nat.le_of_ble_eq_true rfl)⟩ dX11_rest_109 (fun r12 σ13 => ?_)
        refine j_land (pc := 112) dX11_rest_112 ?_
        refine j_iload (pc := 113) 2 dX11_rest_113 rfl ?_
        refine j_callSL (pc := 115) (As := [aI x7]) (st := [aL (x9 &&& r12)]) (fun l => c11_kEndless l x7) cs_RX11_204 rfl rfl (Nat.le_of_ble_eq_true rfl) ⟨(Nat.le_of_ble_eq_true rfl), (Nat.le_of_ble_eq_true rfl)⟩ ⟨(Nat.le_of_ble_eq_true rfl), (Nat.le_of_ble_eq_true rfl)⟩ dX11_rest_115 (fun r14 σ15 => ?_)
        refine j_lcmpne (pc := 118) (tgt := 126) dX11_rest_118 dX11_rest_119 rfl (fun _ => ?_) (fun _ => ?_)
        · refine j_iconst (pc := 126) (v := 0) (by decide) dX11_rest_126 ?_
          refine j_sub [3, 2, 1, 0] (lv' := [(0, aR 29 v0), (5, aI x7), (6, aL x9), (8, aL x11)]) rfl ?_
          exact jb11_rest_127   v0 x7 x9 x11 false σ15
        · refine j_iconst (pc := 122) (v := 1) (by decide) dX11_rest_122 ?_
          refine j_goto (pc := 123) (tgt := 127) dX11_rest_123 rfl ?_
          refine j_sub [3, 2, 1, 0] (lv' := [(0, aR 29 v0), (5, aI x7), (6, aL x9), (8, aL x11)]) rfl ?_
          exact jb11_rest_127   v0 x7 x9 x11 true σ15
      · refine j_lload (pc := 81) 0 dX11_rest_81 rfl ?_
        refine j_lconst (pc := 83) (v := 0) (by decide) dX11_rest_83 ?_
        refine j_lcmpne (pc := 84) (tgt := 94) dX11_rest_84 dX11_rest_85 rfl (fun _ => ?_) (fun _ => ?_)
        · refine j_aload_n (pc := 94) 3 dX11_rest_94 rfl rfl ?_
          refine j_lload (pc := 95) 1 dX11_rest_95 rfl ?_
          refine j_lload (pc := 97) 0 dX11_rest_97 rfl ?_
          refine j_ock (fun hn => ?_)
          refine j_lrem (pc := 99) dX11_rest_99 hn ?_
          refine j_putL (pc := 100) fd_29_2 tw_4_68 dX11_rest_100 ?_
          refine j_lets (fun σ16 => ?_)
          refine j_iconst (pc := 103) (v := 0) (by decide) dX11_rest_103 ?_
          exact j_ireturn (pc := 104) rfl (Nat.le_of_ble_eq_true rfl) (Nat.le_of_ble_eq_true rfl) dX11_rest_104
        · refine j_aload_n (pc := 88) 3 dX11_rest_88 rfl rfl ?_
          refine j_iconst (pc := 89) (v := 5) (by decide) dX11_rest_89 ?_
          refine j_callVI (pc := 90) (As := [aI 5]) (st := []) (fun l => c11_meets l v0 5) cs_RX11_146 rfl rfl rfl rfl (Nat.le_of_ble_eq_true rfl) ⟨(Nat.le_of_ble_eq_true rfl), (Nat.le_of_ble_eq_true rfl)⟩ ⟨(Nat.le_of_ble_eq_true rfl), (Nat.le_of_ble_eq_true rfl)⟩ dX11_rest_90 (fun r17 σ18 => ?_)
          exact j_ireturn (pc := 93) rfl (Nat.le_of_ble_eq_true rfl) (Nat.le_of_ble_eq_true rfl) dX11_rest_93
    · refine j_aload_n (pc := 34) 1 dX11_rest_34 rfl rfl ?_
      refine j_iconst (pc := 35) (v := 2) (by decide) dX11_rest_35 ?_
      refine j_callVI (pc := 36) (As := [aI 2]) (st := []) (fun l => c11_meets l v0 2) cs_RX11_146 rfl rfl rfl rfl (Nat.le_of_ble_eq_true rfl) ⟨(Nat.le_of_ble_eq_true rfl), (Nat.le_of_ble_eq_true rfl)⟩ ⟨(Nat.le_of_ble_eq_true rfl), (Nat.le_of_ble_eq_true rfl)⟩ dX11_rest_36 (fun r19 σ20 => ?_)
      exact j_ireturn (pc := 39) rfl (Nat.le_of_ble_eq_true rfl) (Nat.le_of_ble_eq_true rfl) dX11_rest_39
  · refine j_iload (pc := 13) 0 dX11_rest_13 rfl ?_
    exact j_ireturn (pc := 15) rfl (Nat.le_of_ble_eq_true rfl) (Nat.le_of_ble_eq_true rfl) dX11_rest_15
theorem c11_rest (l : Launch) (v0 : Nat) (v1 : Int32) (v2 : Int32) (v3 : Int32) : Ctr l yX11_rest cX11_rest 11 (some .int) rm11_rest eI [aR 29 v0, aI v1, aI v2, aI v3] (f11_rest v0 v1 v2 v3) := ctr_of (lv := [(0, aR 29 v0), (1, aI v1), (2, aI v2), (3, aI v3)]) (by decide +kernel) (fun _ => rfl) (fun _ => (Nat.le_of_ble_eq_true rfl)) (fun _ h => lvl_als h rfl) (fun _ σ _ => j11_rest v0 v1 v2 v3 σ)
abbrev rm11_signOf : Room := { frames := 0, cells := 0, slots := 0, locals := 0 }
set_option maxRecDepth 20000 in
set_option maxHeartbeats 4000000 in
theorem j11_signOf {Γ : jX} {tg : Int64 × rS} (v0 : Int32) (σ : rS) : J Γ rm11_signOf eL cX11_signOf RX11 1 (some .long) tg 0 0 0 [(0, aI v0)] [] σ (f11_signOf v0 σ) := by
  unfold f11_signOf
  refine j_iload_n (pc := 0) 0 dX11_signOf_0 rfl rfl ?_
  refine j_bipush (pc := 1) (v := 6) (by decide) dX11_signOf_1 ?_
  refine j_icmpne (pc := 3) (tgt := 12) dX11_signOf_3 rfl (fun _ => ?_) (fun _ => ?_)
  · refine j_ldc2 (pc := 12) tw_5_30 dX11_signOf_12 ?_
    exact j_lreturn (pc := 15) rfl (Nat.le_of_ble_eq_true rfl) (Nat.le_of_ble_eq_true rfl) dX11_signOf_15
  · refine j_ldc2 (pc := 6) tw_5_29 dX11_signOf_6 ?_
    refine j_goto (pc := 9) (tgt := 15) dX11_signOf_9 rfl ?_
    exact j_lreturn (pc := 15) rfl (Nat.le_of_ble_eq_true rfl) (Nat.le_of_ble_eq_true rfl) dX11_signOf_15
theorem c11_signOf (l : Launch) (v0 : Int32) : Ctr l yX11_signOf cX11_signOf 1 (some .long) rm11_signOf eL [aI v0] (f11_signOf v0) := ctr_of (lv := [(0, aI v0)]) (by decide +kernel) (fun _ => rfl) (fun _ => (Nat.le_of_ble_eq_true rfl)) (fun _ h => lvl_als h rfl) (fun _ σ _ => j11_signOf v0 σ)
abbrev rm11_wordOf : Room := { frames := 2, cells := 0, slots := 0, locals := 61 }
set_option maxRecDepth 20000 in
set_option maxHeartbeats 4000000 in
theorem j11_wordOf {Γ : jX} {tg : Int64 × rS} (v0 : Int32) (v1 : UInt64) (σ : rS) : J Γ rm11_wordOf eL cX11_wordOf RX11 3 (some .long) tg 0 0 0 [(0, aI v0), (1, aD v1)] [] σ (f11_wordOf v0 v1 σ) := by
  unfold f11_wordOf
  refine j_iload_n (pc := 0) 0 dX11_wordOf_0 rfl rfl ?_
  refine j_iload_n (pc := 1) 0 dX11_wordOf_1 rfl rfl ?_
  refine j_bipush (pc := 2) (v := 6) (by decide) dX11_wordOf_2 ?_
  refine j_icmpne (pc := 4) (tgt := 16) dX11_wordOf_4 rfl (fun _ => ?_) (fun _ => ?_)
  · refine j_dload_n (pc := 16) 1 dX11_wordOf_16 rfl rfl ?_
    refine j_callSL (pc := 17) (As := [aD v1]) (st := [aI v0]) (fun l => cJ_dbits l v1) cs_RX11_123 rfl rfl (Nat.le_of_ble_eq_true rfl) ⟨(Nat.le_of_ble_eq_true rfl), (Nat.le_of_ble_eq_true rfl)⟩ ⟨(Nat.le_of_ble_eq_true rfl), (Nat.le_of_ble_eq_true rfl)⟩ dX11_wordOf_17 (fun r1 σ2 => ?_)
    refine j_callSL (pc := 20) (As := [aI v0, aL r1]) (st := []) (fun l => c11_cut l v0 r1) cs_RX11_127 rfl rfl (Nat.le_of_ble_eq_true rfl) ⟨(Nat.le_of_ble_eq_true rfl), (Nat.le_of_ble_eq_true rfl)⟩ ⟨(Nat.le_of_ble_eq_true rfl), (Nat.le_of_ble_eq_true rfl)⟩ dX11_wordOf_20 (fun r3 σ4 => ?_)
    exact j_lreturn (pc := 23) rfl (Nat.le_of_ble_eq_true rfl) (Nat.le_of_ble_eq_true rfl) dX11_wordOf_23
  · refine j_dload_n (pc := 7) 1 dX11_wordOf_7 rfl rfl ?_
    refine j_ock (fun hn => ?_)
    refine j_d2f (pc := 8) dX11_wordOf_8 (nn32_ok hn) ?_
    refine j_callSI (pc := 9) (As := [aF (FP.d2f v1)]) (st := [aI v0]) (fun l => cJ_fbits l (FP.d2f v1)) cs_RX11_119 rfl rfl (Nat.le_of_ble_eq_true rfl) ⟨(Nat.le_of_ble_eq_true rfl), (Nat.le_of_ble_eq_true rfl)⟩ ⟨(Nat.le_of_ble_eq_true rfl), (Nat.le_of_ble_eq_true rfl)⟩ dX11_wordOf_9 (fun r5 σ6 => ?_)
    refine j_i2l (pc := 12) dX11_wordOf_12 ?_
    refine j_goto (pc := 13) (tgt := 20) dX11_wordOf_13 rfl ?_
    refine j_callSL (pc := 20) (As := [aI v0, aL (Int32.toInt64 r5)]) (st := []) (fun l => c11_cut l v0 (Int32.toInt64 r5)) cs_RX11_127 rfl rfl (Nat.le_of_ble_eq_true rfl) ⟨(Nat.le_of_ble_eq_true rfl), (Nat.le_of_ble_eq_true rfl)⟩ ⟨(Nat.le_of_ble_eq_true rfl), (Nat.le_of_ble_eq_true rfl)⟩ dX11_wordOf_20 (fun r7 σ8 => ?_)
    exact j_lreturn (pc := 23) rfl (Nat.le_of_ble_eq_true rfl) (Nat.le_of_ble_eq_true rfl) dX11_wordOf_23
theorem c11_wordOf (l : Launch) (v0 : Int32) (v1 : UInt64) : Ctr l yX11_wordOf cX11_wordOf 3 (some .long) rm11_wordOf eL [aI v0, aD v1] (f11_wordOf v0 v1) := ctr_of (lv := [(0, aI v0), (1, aD v1)]) (by decide +kernel) (fun _ => rfl) (fun _ => (Nat.le_of_ble_eq_true rfl)) (fun _ h => lvl_als h rfl) (fun _ σ _ => j11_wordOf v0 v1 σ)
theorem cs_RX11_186 : CaS RX11 186 yX11_wordOf cX11_wordOf 3 (some .long) 2 := ⟨tw_5_32, tw_5_33, tw_1_5, tw_5_34, by decide +kernel, by decide +kernel, by decide +kernel⟩
theorem cs_RX11_182 : CaS RX11 182 yX11_signOf cX11_signOf 1 (some .long) 1 := ⟨tw_5_26, tw_5_27, tw_1_5, tw_5_28, by decide +kernel, by decide +kernel, by decide +kernel⟩
abbrev rm11_rounded : Room := { frames := 3, cells := 0, slots := 0, locals := 83 }
set_option maxRecDepth 20000 in
set_option maxHeartbeats 4000000 in
theorem jb11_rounded_135 {Γ : jX} {tg : Int64 × rS} (v0 : Int32) (v1 : Int64) (v10 : Int64) (σ : rS) : J Γ rm11_rounded eL cX11_rounded RX11 14 (some .long) tg 0 0 135 [(0, aI v0), (1, aL v1), (10, aL v10)] [] σ (B11_rounded_135 v0 v1 v10 σ) := by
  unfold B11_rounded_135
  refine j_lload (pc := 135) 2 dX11_rounded_135 rfl ?_
  refine j_lconst (pc := 137) (v := 0) (by decide) dX11_rounded_137 ?_
  refine j_lcmpne (pc := 138) (tgt := 157) dX11_rounded_138 dX11_rounded_139 rfl (fun _ => ?_) (fun _ => ?_)
  · refine j_iload_n (pc := 157) 0 dX11_rounded_157 rfl rfl ?_
    refine j_lload (pc := 158) 2 dX11_rounded_158 rfl ?_
    refine j_l2d (pc := 160) dX11_rounded_160 ?_
    refine j_callSL (pc := 161) (As := [aI v0, aD (FP.l2d v10)]) (st := []) (fun l => c11_wordOf l v0 (FP.l2d v10)) cs_RX11_186 rfl rfl (Nat.le_of_ble_eq_true rfl) ⟨(Nat.le_of_ble_eq_true rfl), (Nat.le_of_ble_eq_true rfl)⟩ ⟨(Nat.le_of_ble_eq_true rfl), (Nat.le_of_ble_eq_true rfl)⟩ dX11_rounded_161 (fun r1 σ2 => ?_)
    exact j_lreturn (pc := 164) rfl (Nat.le_of_ble_eq_true rfl) (Nat.le_of_ble_eq_true rfl) dX11_rounded_164
  · refine j_lload_n (pc := 142) 1 dX11_rounded_142 rfl rfl ?_
    refine j_lconst (pc := 143) (v := 0) (by decide) dX11_rounded_143 ?_
    refine j_lcmpge (pc := 144) (tgt := 155) dX11_rounded_144 dX11_rounded_145 rfl (fun _ => ?_) (fun _ => ?_)
    · refine j_lconst (pc := 155) (v := 0) (by decide) dX11_rounded_155 ?_
      exact j_lreturn (pc := 156) rfl (Nat.le_of_ble_eq_true rfl) (Nat.le_of_ble_eq_true rfl) dX11_rounded_156
    · refine j_iload_n (pc := 148) 0 dX11_rounded_148 rfl rfl ?_
      refine j_callSL (pc := 149) (As := [aI v0]) (st := []) (fun l => c11_signOf l v0) cs_RX11_182 rfl rfl (Nat.le_of_ble_eq_true rfl) ⟨(Nat.le_of_ble_eq_true rfl), (Nat.le_of_ble_eq_true rfl)⟩ ⟨(Nat.le_of_ble_eq_true rfl), (Nat.le_of_ble_eq_true rfl)⟩ dX11_rounded_149 (fun r3 σ4 => ?_)
      refine j_goto (pc := 152) (tgt := 156) dX11_rounded_152 rfl ?_
      exact j_lreturn (pc := 156) rfl (Nat.le_of_ble_eq_true rfl) (Nat.le_of_ble_eq_true rfl) dX11_rounded_156
set_option maxRecDepth 20000 in
set_option maxHeartbeats 4000000 in
theorem jb11_rounded_133 {Γ : jX} {tg : Int64 × rS} (v0 : Int32) (v1 : Int64) (s0 : Int64) (σ : rS) : J Γ rm11_rounded eL cX11_rounded RX11 14 (some .long) tg 0 0 133 [(0, aI v0), (1, aL v1)] [aL s0] σ (B11_rounded_133 v0 v1 s0 σ) := by
  unfold B11_rounded_133
  refine j_lstore (pc := 133) (lv' := [(10, aL s0), (0, aI v0), (1, aL v1)]) dX11_rounded_133 (Nat.le_of_ble_eq_true rfl) rfl ?_
  refine j_sub [1, 2, 0] (lv' := [(0, aI v0), (1, aL v1), (10, aL s0)]) rfl ?_
  exact jb11_rounded_135   v0 v1 s0 σ
set_option maxRecDepth 20000 in
set_option maxHeartbeats 4000000 in
theorem jb11_rounded_124 {Γ : jX} {tg : Int64 × rS} (v0 : Int32) (v1 : Int64) (v8 : Int64) (σ : rS) : J Γ rm11_rounded eL cX11_rounded RX11 14 (some .long) tg 0 0 124 [(0, aI v0), (1, aL v1), (8, aL v8)] [] σ (B11_rounded_124 v0 v1 v8 σ) := by
  unfold B11_rounded_124
  refine j_lload (pc := 124) 2 dX11_rounded_124 rfl ?_
  refine j_lconst (pc := 126) (v := 1) (by decide) dX11_rounded_126 ?_
  refine j_ladd (pc := 127) dX11_rounded_127 ?_
  refine j_goto (pc := 128) (tgt := 133) dX11_rounded_128 rfl ?_
  refine j_sub [0, 1] (lv' := [(0, aI v0), (1, aL v1)]) rfl ?_
  exact jb11_rounded_133   v0 v1 (v8 + 1) σ
set_option maxRecDepth 20000 in
set_option maxHeartbeats 4000000 in
theorem jb11_rounded_131 {Γ : jX} {tg : Int64 × rS} (v0 : Int32) (v1 : Int64) (v8 : Int64) (σ : rS) : J Γ rm11_rounded eL cX11_rounded RX11 14 (some .long) tg 0 0 131 [(0, aI v0), (1, aL v1), (8, aL v8)] [] σ (B11_rounded_131 v0 v1 v8 σ) := by
  unfold B11_rounded_131
  refine j_lload (pc := 131) 2 dX11_rounded_131 rfl ?_
  refine j_sub [0, 1] (lv' := [(0, aI v0), (1, aL v1)]) rfl ?_
  exact jb11_rounded_133   v0 v1 v8 σ
set_option maxRecDepth 20000 in
set_option maxHeartbeats 4000000 in
theorem jb11_rounded_79 {Γ : jX} {tg : Int64 × rS} (v0 : Int32) (v1 : Int64) (s0 : Int64) (σ : rS) : J Γ rm11_rounded eL cX11_rounded RX11 14 (some .long) tg 0 0 79 [(0, aI v0), (1, aL v1)] [aL s0] σ (B11_rounded_79 v0 v1 s0 σ) := by
  unfold B11_rounded_79
  refine j_lstore (pc := 79) (lv' := [(10, aL s0), (0, aI v0), (1, aL v1)]) dX11_rounded_79 (Nat.le_of_ble_eq_true rfl) rfl ?_
  refine j_goto (pc := 81) (tgt := 135) dX11_rounded_81 rfl ?_
  refine j_sub [1, 2, 0] (lv' := [(0, aI v0), (1, aL v1), (10, aL s0)]) rfl ?_
  exact jb11_rounded_135   v0 v1 s0 σ
set_option maxRecDepth 20000 in
set_option maxHeartbeats 4000000 in
theorem jb11_rounded_50 {Γ : jX} {tg : Int64 × rS} (v0 : Int32) (v1 : Int64) (v3 : Int32) (v4 : UInt64) (s0 : Int64) (σ : rS) : J Γ rm11_rounded eL cX11_rounded RX11 14 (some .long) tg 0 0 50 [(0, aI v0), (1, aL v1), (3, aI v3), (4, aD v4)] [aL s0] σ (B11_rounded_50 v0 v1 v3 v4 s0 σ) := by
  unfold B11_rounded_50
  refine j_lstore (pc := 50) (lv' := [(8, aL s0), (0, aI v0), (1, aL v1), (3, aI v3), (4, aD v4)]) dX11_rounded_50 (Nat.le_of_ble_eq_true rfl) rfl ?_
  refine j_lload (pc := 52) 0 dX11_rounded_52 rfl ?_
  refine j_lstore (pc := 54) (lv' := [(10, aL s0), (8, aL s0), (0, aI v0), (1, aL v1), (3, aI v3), (4, aD v4)]) dX11_rounded_54 (Nat.le_of_ble_eq_true rfl) rfl ?_
  refine j_iload_n (pc := 56) 4 dX11_rounded_56 rfl rfl ?_
  refine j_iconst (pc := 57) (v := 2) (by decide) dX11_rounded_57 ?_
  refine j_icmpne (pc := 58) (tgt := 84) dX11_rounded_58 rfl (fun _ => ?_) (fun _ => ?_)
  · refine j_iload_n (pc := 84) 4 dX11_rounded_84 rfl rfl ?_
    refine j_iconst (pc := 85) (v := 3) (by decide) dX11_rounded_85 ?_
    refine j_icmpne (pc := 86) (tgt := 135) dX11_rounded_86 rfl (fun _ => ?_) (fun _ => ?_)
    · refine j_sub [2, 3, 0] (lv' := [(0, aI v0), (1, aL v1), (10, aL s0)]) rfl ?_
      exact jb11_rounded_135   v0 v1 s0 σ
    · refine j_dload (pc := 89) 5 dX11_rounded_89 rfl ?_
      refine j_lload (pc := 91) 1 dX11_rounded_91 rfl ?_
      refine j_l2d (pc := 93) dX11_rounded_93 ?_
      refine j_ock (fun hn => ?_)
      refine j_dsub (pc := 94) dX11_rounded_94 (nn64_ok hn) ?_
      refine j_letd (fun x1 => ?_)
      refine j_dstore (pc := 95) (lv' := [(12, aD x1), (10, aL s0), (8, aL s0), (0, aI v0), (1, aL v1), (3, aI v3), (4, aD v4)]) dX11_rounded_95 (Nat.le_of_ble_eq_true rfl) rfl ?_
      refine j_sub [0, 2, 3, 4] (lv' := [(12, aD x1), (8, aL s0), (0, aI v0), (1, aL v1)]) rfl ?_
      refine j_dload (pc := 97) 0 dX11_rounded_97 rfl ?_
      refine j_ldc2d (pc := 99) tw_5_60 dX11_rounded_99 ?_
      refine j_dcmp (pc := 102) dX11_rounded_102 ?_
      refine j_ifgt (pc := 103) (tgt := 124) dX11_rounded_103 rfl (fun _ => ?_) (fun _ => ?_)
      · refine j_sub [2, 3, 1] (lv' := [(0, aI v0), (1, aL v1), (8, aL s0)]) rfl ?_
        exact jb11_rounded_124   v0 v1 s0 σ
      · refine j_dload (pc := 106) 0 dX11_rounded_106 rfl ?_
        refine j_ldc2d (pc := 108) tw_5_60 dX11_rounded_108 ?_
        refine j_dcmp (pc := 111) dX11_rounded_111 ?_
        refine j_ifne (pc := 112) (tgt := 131) dX11_rounded_112 rfl (fun _ => ?_) (fun _ => ?_)
        · refine j_sub [2, 3, 1] (lv' := [(0, aI v0), (1, aL v1), (8, aL s0)]) rfl ?_
          exact jb11_rounded_131   v0 v1 s0 σ
        · refine j_lload (pc := 115) 1 dX11_rounded_115 rfl ?_
          refine j_lconst (pc := 117) (v := 1) (by decide) dX11_rounded_117 ?_
          refine j_land (pc := 118) dX11_rounded_118 ?_
          refine j_lconst (pc := 119) (v := 1) (by decide) dX11_rounded_119 ?_
          refine j_lcmpne (pc := 120) (tgt := 131) dX11_rounded_120 dX11_rounded_121 rfl (fun _ => ?_) (fun _ => ?_)
          · refine j_sub [2, 3, 1] (lv' := [(0, aI v0), (1, aL v1), (8, aL s0)]) rfl ?_
            exact jb11_rounded_131   v0 v1 s0 σ
          · refine j_sub [2, 3, 1] (lv' := [(0, aI v0), (1, aL v1), (8, aL s0)]) rfl ?_
            exact jb11_rounded_124   v0 v1 s0 σ
  · refine j_lload (pc := 61) 1 dX11_rounded_61 rfl ?_
    refine j_l2d (pc := 63) dX11_rounded_63 ?_
    refine j_dload (pc := 64) 5 dX11_rounded_64 rfl ?_
    refine j_dcmp (pc := 66) dX11_rounded_66 ?_
    refine j_ifne (pc := 67) (tgt := 75) dX11_rounded_67 rfl (fun _ => ?_) (fun _ => ?_)
    · refine j_lload (pc := 75) 1 dX11_rounded_75 rfl ?_
      refine j_lconst (pc := 77) (v := 1) (by decide) dX11_rounded_77 ?_
      refine j_ladd (pc := 78) dX11_rounded_78 ?_
      refine j_sub [2, 3] (lv' := [(0, aI v0), (1, aL v1)]) rfl ?_
      exact jb11_rounded_79   v0 v1 (s0 + 1) σ
    · refine j_lload (pc := 70) 1 dX11_rounded_70 rfl ?_
      refine j_goto (pc := 72) (tgt := 79) dX11_rounded_72 rfl ?_
      refine j_sub [2, 3] (lv' := [(0, aI v0), (1, aL v1)]) rfl ?_
      exact jb11_rounded_79   v0 v1 s0 σ
set_option maxRecDepth 20000 in
set_option maxHeartbeats 4000000 in
theorem j11_rounded {Γ : jX} {tg : Int64 × rS} (v0 : Int32) (v1 : Int64) (v3 : Int32) (σ : rS) : J Γ rm11_rounded eL cX11_rounded RX11 14 (some .long) tg 0 0 0 [(0, aI v0), (1, aL v1), (3, aI v3)] [] σ (f11_rounded v0 v1 v3 σ) := by
  unfold f11_rounded
  refine j_iload_n (pc := 0) 0 dX11_rounded_0 rfl rfl ?_
  refine j_lload_n (pc := 1) 1 dX11_rounded_1 rfl rfl ?_
  refine j_callSD (pc := 2) (As := [aI v0, aL v1]) (st := []) (fun l => c11_real l v0 v1) cs_RX11_131 rfl rfl (Nat.le_of_ble_eq_true rfl) ⟨(Nat.le_of_ble_eq_true rfl), (Nat.le_of_ble_eq_true rfl)⟩ ⟨(Nat.le_of_ble_eq_true rfl), (Nat.le_of_ble_eq_true rfl)⟩ dX11_rounded_2 (fun r1 σ2 => ?_)
  refine j_dstore (pc := 5) (lv' := [(4, aD r1), (0, aI v0), (1, aL v1), (3, aI v3)]) dX11_rounded_5 (Nat.le_of_ble_eq_true rfl) rfl ?_
  refine j_dload (pc := 7) 0 dX11_rounded_7 rfl ?_
  refine j_ldc2d (pc := 9) tw_5_58 dX11_rounded_9 ?_
  refine j_dcmp (pc := 12) dX11_rounded_12 ?_
  refine j_ifge (pc := 13) (tgt := 25) dX11_rounded_13 rfl (fun _ => ?_) (fun _ => ?_)
  · refine j_lload_n (pc := 25) 2 dX11_rounded_25 rfl rfl ?_
    exact j_lreturn (pc := 26) rfl (Nat.le_of_ble_eq_true rfl) (Nat.le_of_ble_eq_true rfl) dX11_rounded_26
  · refine j_dload (pc := 16) 0 dX11_rounded_16 rfl ?_
    refine j_ldc2d (pc := 18) tw_5_59 dX11_rounded_18 ?_
    refine j_dcmp (pc := 21) dX11_rounded_21 ?_
    refine j_ifgt (pc := 22) (tgt := 27) dX11_rounded_22 rfl (fun _ => ?_) (fun _ => ?_)
    · refine j_dload (pc := 27) 0 dX11_rounded_27 rfl ?_
      refine j_d2l (pc := 29) dX11_rounded_29 ?_
      refine j_letl (fun x3 => ?_)
      refine j_lstore (pc := 30) (lv' := [(6, aL x3), (4, aD r1), (0, aI v0), (1, aL v1), (3, aI v3)]) dX11_rounded_30 (Nat.le_of_ble_eq_true rfl) rfl ?_
      refine j_lload (pc := 32) 0 dX11_rounded_32 rfl ?_
      refine j_l2d (pc := 34) dX11_rounded_34 ?_
      refine j_dload (pc := 35) 1 dX11_rounded_35 rfl ?_
      refine j_dcmp (pc := 37) dX11_rounded_37 ?_
      refine j_ifle (pc := 38) (tgt := 48) dX11_rounded_38 rfl (fun _ => ?_) (fun _ => ?_)
      · refine j_lload (pc := 48) 0 dX11_rounded_48 rfl ?_
        refine j_sub [2, 3, 4, 1] (lv' := [(0, aI v0), (1, aL v1), (3, aI v3), (4, aD r1)]) rfl ?_
        exact jb11_rounded_50   v0 v1 v3 r1 x3 σ2
      · refine j_lload (pc := 41) 0 dX11_rounded_41 rfl ?_
        refine j_lconst (pc := 43) (v := 1) (by decide) dX11_rounded_43 ?_
        refine j_lsub (pc := 44) dX11_rounded_44 ?_
        refine j_goto (pc := 45) (tgt := 50) dX11_rounded_45 rfl ?_
        refine j_sub [2, 3, 4, 1] (lv' := [(0, aI v0), (1, aL v1), (3, aI v3), (4, aD r1)]) rfl ?_
        exact jb11_rounded_50   v0 v1 v3 r1 (x3 - 1) σ2
    · refine j_lload_n (pc := 25) 2 dX11_rounded_25 rfl rfl ?_
      exact j_lreturn (pc := 26) rfl (Nat.le_of_ble_eq_true rfl) (Nat.le_of_ble_eq_true rfl) dX11_rounded_26
theorem c11_rounded (l : Launch) (v0 : Int32) (v1 : Int64) (v3 : Int32) : Ctr l yX11_rounded cX11_rounded 14 (some .long) rm11_rounded eL [aI v0, aL v1, aI v3] (f11_rounded v0 v1 v3) := ctr_of (lv := [(0, aI v0), (1, aL v1), (3, aI v3)]) (by decide +kernel) (fun _ => rfl) (fun _ => (Nat.le_of_ble_eq_true rfl)) (fun _ h => lvl_als h rfl) (fun _ σ _ => j11_rounded v0 v1 v3 σ)
abbrev rm11_row : Room := { frames := 1, cells := 0, slots := 0, locals := 25 }
set_option maxRecDepth 20000 in
set_option maxHeartbeats 4000000 in
theorem j11_row {Γ : jX} {tg : Int32 × rS} (N : Nat) (v0 : Nat) (v1 : Int32) (v2 : Int32) (σ : rS) : J Γ rm11_row eI cX11_row RX11 3 (some .int) tg 0 0 0 [(0, aR 29 v0), (1, aI v1), (2, aI v2)] [] σ (f11_row N v0 v1 v2 σ) := by
  unfold f11_row
  refine j_iload_n (pc := 0) 1 dX11_row_0 rfl rfl ?_
  refine j_i2l (pc := 1) dX11_row_1 ?_
  refine j_lconst (pc := 2) (v := 0) (by decide) dX11_row_2 ?_
  refine j_ldc2 (pc := 3) tw_4_183 dX11_row_3 ?_
  refine j_callSZ (pc := 6) (As := [aL (Int32.toInt64 v1), aL 0, aL 7]) (st := []) (fun l => c11_in l (Int32.toInt64 v1) 0 7) cs_RX11_140 rfl rfl (Nat.le_of_ble_eq_true rfl) ⟨(Nat.le_of_ble_eq_true rfl), (Nat.le_of_ble_eq_true rfl)⟩ ⟨(Nat.le_of_ble_eq_true rfl), (Nat.le_of_ble_eq_true rfl)⟩ dX11_row_6 (fun r1 σ2 => ?_)
  refine j_ifeqB (pc := 9) (tgt := 18) dX11_row_9 rfl (fun _ => ?_) (fun _ => ?_)
  · refine j_bipush (pc := 18) (v := (-102)) (by decide) dX11_row_18 ?_
    exact j_ireturn (pc := 20) rfl (Nat.le_of_ble_eq_true rfl) (Nat.le_of_ble_eq_true rfl) dX11_row_20
  · refine j_iload_n (pc := 12) 2 dX11_row_12 rfl rfl ?_
    refine j_bipush (pc := 13) (v := 24) (by decide) dX11_row_13 ?_
    refine j_icmple (pc := 15) (tgt := 21) dX11_row_15 rfl (fun _ => ?_) (fun _ => ?_)
    · refine j_aload_n (pc := 21) 0 dX11_row_21 rfl rfl ?_
      refine j_getI (pc := 22) fd_29_3 tw_4_69 dX11_row_22 ?_
      refine j_bipush (pc := 25) (v := 60) (by decide) dX11_row_25 ?_
      refine j_icmpne (pc := 27) (tgt := 33) dX11_row_27 rfl (fun _ => ?_) (fun _ => ?_)
      · refine j_iload_n (pc := 33) 2 dX11_row_33 rfl rfl ?_
        refine j_ifge (pc := 34) (tgt := 45) dX11_row_34 rfl (fun _ => ?_) (fun _ => ?_)
        · refine j_aload_n (pc := 45) 0 dX11_row_45 rfl rfl ?_
          refine j_iload_n (pc := 46) 1 dX11_row_46 rfl rfl ?_
          refine j_iload_n (pc := 47) 2 dX11_row_47 rfl rfl ?_
          refine j_callVI (pc := 48) (As := [aI v1, aI v2]) (st := []) (fun l => c11_newRow l N v0 v1 v2) cs_RX11_150 rfl rfl rfl rfl (Nat.le_of_ble_eq_true rfl) ⟨(Nat.le_of_ble_eq_true rfl), (Nat.le_of_ble_eq_true rfl)⟩ ⟨(Nat.le_of_ble_eq_true rfl), (Nat.le_of_ble_eq_true rfl)⟩ dX11_row_48 (fun r3 σ4 => ?_)
          exact j_ireturn (pc := 51) rfl (Nat.le_of_ble_eq_true rfl) (Nat.le_of_ble_eq_true rfl) dX11_row_51
        · refine j_aload_n (pc := 37) 0 dX11_row_37 rfl rfl ?_
          refine j_iconst (pc := 38) (v := 4) (by decide) dX11_row_38 ?_
          refine j_callVI (pc := 39) (As := [aI 4]) (st := []) (fun l => c11_meets l v0 4) cs_RX11_146 rfl rfl rfl rfl (Nat.le_of_ble_eq_true rfl) ⟨(Nat.le_of_ble_eq_true rfl), (Nat.le_of_ble_eq_true rfl)⟩ ⟨(Nat.le_of_ble_eq_true rfl), (Nat.le_of_ble_eq_true rfl)⟩ dX11_row_39 (fun r5 σ6 => ?_)
          refine j_goto (pc := 42) (tgt := 51) dX11_row_42 rfl ?_
          exact j_ireturn (pc := 51) rfl (Nat.le_of_ble_eq_true rfl) (Nat.le_of_ble_eq_true rfl) dX11_row_51
      · refine j_bipush (pc := 30) (v := (-104)) (by decide) dX11_row_30 ?_
        exact j_ireturn (pc := 32) rfl (Nat.le_of_ble_eq_true rfl) (Nat.le_of_ble_eq_true rfl) dX11_row_32
    · refine j_bipush (pc := 18) (v := (-102)) (by decide) dX11_row_18 ?_
      exact j_ireturn (pc := 20) rfl (Nat.le_of_ble_eq_true rfl) (Nat.le_of_ble_eq_true rfl) dX11_row_20
theorem c11_row (l : Launch) (N : Nat) (v0 : Nat) (v1 : Int32) (v2 : Int32) : Ctr l yX11_row cX11_row 3 (some .int) rm11_row eI [aR 29 v0, aI v1, aI v2] (f11_row N v0 v1 v2) := ctr_of (lv := [(0, aR 29 v0), (1, aI v1), (2, aI v2)]) (by decide +kernel) (fun _ => rfl) (fun _ => (Nat.le_of_ble_eq_true rfl)) (fun _ h => lvl_als h rfl) (fun _ σ _ => j11_row N v0 v1 v2 σ)
abbrev rm11_seek : Room := { frames := 2, cells := 0, slots := 0, locals := 46 }
set_option maxRecDepth 20000 in
set_option maxHeartbeats 4000000 in
theorem j11_seek {Γ : jX} {tg : Int32 × rS} (v0 : Nat) (v1 : Int32) (v2 : Int32) (σ : rS) : J Γ rm11_seek eI cX11_seek RX11 4 (some .int) tg 0 0 0 [(0, aR 29 v0), (1, aI v1), (2, aI v2)] [] σ (f11_seek v0 v1 v2 σ) := by
  unfold f11_seek
  refine j_aload_n (pc := 0) 0 dX11_seek_0 rfl rfl ?_
  refine j_iload_n (pc := 1) 1 dX11_seek_1 rfl rfl ?_
  refine j_callVZ (pc := 2) (As := [aI v1]) (st := []) (fun l => c11_isStream l v0 v1) cs_RX11_247 rfl rfl rfl rfl (Nat.le_of_ble_eq_true rfl) ⟨(Nat.le_of_ble_eq_true rfl), (Nat.le_of_ble_eq_true rfl)⟩ ⟨(Nat.le_of_ble_eq_true rfl), (Nat.le_of_ble_eq_true rfl)⟩ dX11_seek_2 (fun r1 σ2 => ?_)
  refine j_ifneB (pc := 5) (tgt := 11) dX11_seek_5 rfl (fun _ => ?_) (fun _ => ?_)
  · refine j_iload_n (pc := 11) 2 dX11_seek_11 rfl rfl ?_
    refine j_i2l (pc := 12) dX11_seek_12 ?_
    refine j_lconst (pc := 13) (v := 0) (by decide) dX11_seek_13 ?_
    refine j_aload_n (pc := 14) 0 dX11_seek_14 rfl rfl ?_
    refine j_getF (pc := 15) fd_29_15 tw_4_81 dX11_seek_15 ?_
    refine j_iload_n (pc := 18) 1 dX11_seek_18 rfl rfl ?_
    refine j_iald (pc := 19) rfl rfl rfl dX11_seek_19 (fun j3 => ?_)
    refine j_i2l (pc := 20) dX11_seek_20 ?_
    refine j_callSZ (pc := 21) (As := [aL (Int32.toInt64 v2), aL 0, aL (Int32.toInt64 (gI σ2 45 v0 j3))]) (st := []) (fun l => c11_in l (Int32.toInt64 v2) 0 (Int32.toInt64 (gI σ2 45 v0 j3))) cs_RX11_140 rfl rfl (Nat.le_of_ble_eq_true rfl) ⟨(Nat.le_of_ble_eq_true rfl), (Nat.le_of_ble_eq_true rfl)⟩ ⟨(Nat.le_of_ble_eq_true rfl), (Nat.le_of_ble_eq_true rfl)⟩ dX11_seek_21 (fun r4 σ5 => ?_)
    refine j_ifneB (pc := 24) (tgt := 33) dX11_seek_24 rfl (fun _ => ?_) (fun _ => ?_)
    · refine j_aload_n (pc := 33) 0 dX11_seek_33 rfl rfl ?_
      refine j_getF (pc := 34) fd_29_16 tw_4_82 dX11_seek_34 ?_
      refine j_iload_n (pc := 37) 1 dX11_seek_37 rfl rfl ?_
      refine j_iald (pc := 38) rfl rfl rfl dX11_seek_38 (fun j6 => ?_)
      refine j_leti (fun x7 => ?_)
      refine j_istore_n (pc := 39) (lv' := [(3, aI x7), (0, aR 29 v0), (1, aI v1), (2, aI v2)]) dX11_seek_39 rfl (Nat.le_of_ble_eq_true rfl) rfl ?_
      refine j_aload_n (pc := 40) 1 dX11_seek_40 rfl rfl ?_
      refine j_getF (pc := 41) fd_29_16 tw_4_82 dX11_seek_41 ?_
      refine j_iload_n (pc := 44) 2 dX11_seek_44 rfl rfl ?_
      refine j_iload_n (pc := 45) 3 dX11_seek_45 rfl rfl ?_
      refine j_iast (pc := 46) rfl rfl rfl dX11_seek_46 (fun j8 => ?_)
      refine j_lets (fun σ9 => ?_)
      refine j_iload_n (pc := 47) 0 dX11_seek_47 rfl rfl ?_
      exact j_ireturn (pc := 48) rfl (Nat.le_of_ble_eq_true rfl) (Nat.le_of_ble_eq_true rfl) dX11_seek_48
    · refine j_aload_n (pc := 27) 0 dX11_seek_27 rfl rfl ?_
      refine j_iconst (pc := 28) (v := 2) (by decide) dX11_seek_28 ?_
      refine j_callVI (pc := 29) (As := [aI 2]) (st := []) (fun l => c11_meets l v0 2) cs_RX11_146 rfl rfl rfl rfl (Nat.le_of_ble_eq_true rfl) ⟨(Nat.le_of_ble_eq_true rfl), (Nat.le_of_ble_eq_true rfl)⟩ ⟨(Nat.le_of_ble_eq_true rfl), (Nat.le_of_ble_eq_true rfl)⟩ dX11_seek_29 (fun r10 σ11 => ?_)
      exact j_ireturn (pc := 32) rfl (Nat.le_of_ble_eq_true rfl) (Nat.le_of_ble_eq_true rfl) dX11_seek_32
  · refine j_bipush (pc := 8) (v := (-101)) (by decide) dX11_seek_8 ?_
    exact j_ireturn (pc := 10) rfl (Nat.le_of_ble_eq_true rfl) (Nat.le_of_ble_eq_true rfl) dX11_seek_10
theorem c11_seek (l : Launch) (v0 : Nat) (v1 : Int32) (v2 : Int32) : Ctr l yX11_seek cX11_seek 4 (some .int) rm11_seek eI [aR 29 v0, aI v1, aI v2] (f11_seek v0 v1 v2) := ctr_of (lv := [(0, aR 29 v0), (1, aI v1), (2, aI v2)]) (by decide +kernel) (fun _ => rfl) (fun _ => (Nat.le_of_ble_eq_true rfl)) (fun _ h => lvl_als h rfl) (fun _ σ _ => j11_seek v0 v1 v2 σ)
abbrev rm11_seen : Room := { frames := 0, cells := 0, slots := 0, locals := 0 }
set_option maxRecDepth 20000 in
set_option maxHeartbeats 4000000 in
theorem j11_seen {Γ : jX} {tg : Int64 × rS} (v0 : Nat) (σ : rS) : J Γ rm11_seen eL cX11_seen RX11 1 (some .long) tg 0 0 0 [(0, aR 29 v0)] [] σ (f11_seen v0 σ) := by
  unfold f11_seen
  refine j_aload_n (pc := 0) 0 dX11_seen_0 rfl rfl ?_
  refine j_getL (pc := 1) fd_29_2 tw_4_68 dX11_seen_1 ?_
  exact j_lreturn (pc := 4) rfl (Nat.le_of_ble_eq_true rfl) (Nat.le_of_ble_eq_true rfl) dX11_seen_4
theorem c11_seen (l : Launch) (v0 : Nat) : Ctr l yX11_seen cX11_seen 1 (some .long) rm11_seen eL [aR 29 v0] (f11_seen v0) := ctr_of (lv := [(0, aR 29 v0)]) (by decide +kernel) (fun _ => rfl) (fun _ => (Nat.le_of_ble_eq_true rfl)) (fun _ h => lvl_als h rfl) (fun _ σ _ => j11_seen v0 σ)
theorem cs_RX11_192 : CaS RX11 192 yX11_rounded cX11_rounded 14 (some .long) 3 := ⟨tw_5_55, tw_5_56, tw_1_5, tw_5_57, by decide +kernel, by decide +kernel, by decide +kernel⟩
abbrev rm11_shapedReal : Room := { frames := 4, cells := 0, slots := 0, locals := 116 }
set_option maxRecDepth 20000 in
set_option maxHeartbeats 4000000 in
theorem j11_shapedReal {Γ : jX} {tg : Int64 × rS} (v0 : Int32) (v1 : Int64) (v3 : Int32) (σ : rS) : J Γ rm11_shapedReal eL cX11_shapedReal RX11 4 (some .long) tg 0 0 0 [(0, aI v0), (1, aL v1), (3, aI v3)] [] σ (f11_shapedReal v0 v1 v3 σ) := by
  unfold f11_shapedReal
  refine j_iload_n (pc := 0) 0 dX11_shapedReal_0 rfl rfl ?_
  refine j_lload_n (pc := 1) 1 dX11_shapedReal_1 rfl rfl ?_
  refine j_callSZ (pc := 2) (As := [aI v0, aL v1]) (st := []) (fun l => c11_isGap l v0 v1) cs_RX11_99 rfl rfl (Nat.le_of_ble_eq_true rfl) ⟨(Nat.le_of_ble_eq_true rfl), (Nat.le_of_ble_eq_true rfl)⟩ ⟨(Nat.le_of_ble_eq_true rfl), (Nat.le_of_ble_eq_true rfl)⟩ dX11_shapedReal_2 (fun r1 σ2 => ?_)
  refine j_ifeqB (pc := 5) (tgt := 10) dX11_shapedReal_5 rfl (fun _ => ?_) (fun _ => ?_)
  · refine j_iload_n (pc := 10) 2 dX11_shapedReal_10 rfl rfl ?_
    refine j_ifne (pc := 11) (tgt := 34) dX11_shapedReal_11 rfl (fun _ => ?_) (fun _ => ?_)
    · refine j_iload_n (pc := 34) 2 dX11_shapedReal_34 rfl rfl ?_
      refine j_iconst (pc := 35) (v := 5) (by decide) dX11_shapedReal_35 ?_
      refine j_icmpne (pc := 36) (tgt := 46) dX11_shapedReal_36 rfl (fun _ => ?_) (fun _ => ?_)
      · refine j_iload_n (pc := 46) 2 dX11_shapedReal_46 rfl rfl ?_
        refine j_iconst (pc := 47) (v := 4) (by decide) dX11_shapedReal_47 ?_
        refine j_icmpne (pc := 48) (tgt := 83) dX11_shapedReal_48 rfl (fun _ => ?_) (fun _ => ?_)
        · refine j_iload_n (pc := 83) 0 dX11_shapedReal_83 rfl rfl ?_
          refine j_lload_n (pc := 84) 1 dX11_shapedReal_84 rfl rfl ?_
          refine j_iload_n (pc := 85) 2 dX11_shapedReal_85 rfl rfl ?_
          refine j_callSL (pc := 86) (As := [aI v0, aL v1, aI v3]) (st := []) (fun l => c11_rounded l v0 v1 v3) cs_RX11_192 rfl rfl (Nat.le_of_ble_eq_true rfl) ⟨(Nat.le_of_ble_eq_true rfl), (Nat.le_of_ble_eq_true rfl)⟩ ⟨(Nat.le_of_ble_eq_true rfl), (Nat.le_of_ble_eq_true rfl)⟩ dX11_shapedReal_86 (fun r3 σ4 => ?_)
          exact j_lreturn (pc := 89) rfl (Nat.le_of_ble_eq_true rfl) (Nat.le_of_ble_eq_true rfl) dX11_shapedReal_89
        · refine j_iload_n (pc := 51) 0 dX11_shapedReal_51 rfl rfl ?_
          refine j_lload_n (pc := 52) 1 dX11_shapedReal_52 rfl rfl ?_
          refine j_callSD (pc := 53) (As := [aI v0, aL v1]) (st := []) (fun l => c11_real l v0 v1) cs_RX11_131 rfl rfl (Nat.le_of_ble_eq_true rfl) ⟨(Nat.le_of_ble_eq_true rfl), (Nat.le_of_ble_eq_true rfl)⟩ ⟨(Nat.le_of_ble_eq_true rfl), (Nat.le_of_ble_eq_true rfl)⟩ dX11_shapedReal_53 (fun r5 σ6 => ?_)
          refine j_dconst0 (pc := 56) dX11_shapedReal_56 ?_
          refine j_dcmp (pc := 57) dX11_shapedReal_57 ?_
          refine j_ifne (pc := 58) (tgt := 65) dX11_shapedReal_58 rfl (fun _ => ?_) (fun _ => ?_)
          · refine j_iload_n (pc := 65) 0 dX11_shapedReal_65 rfl rfl ?_
            refine j_lload_n (pc := 66) 1 dX11_shapedReal_66 rfl rfl ?_
            refine j_lconst (pc := 67) (v := 0) (by decide) dX11_shapedReal_67 ?_
            refine j_lcmpge (pc := 68) (tgt := 78) dX11_shapedReal_68 dX11_shapedReal_69 rfl (fun _ => ?_) (fun _ => ?_)
            · refine j_dconst1 (pc := 78) dX11_shapedReal_78 ?_
              refine j_callSL (pc := 79) (As := [aI v0, aD 0x3ff0000000000000]) (st := []) (fun l => c11_wordOf l v0 0x3ff0000000000000) cs_RX11_186 rfl rfl (Nat.le_of_ble_eq_true rfl) ⟨(Nat.le_of_ble_eq_true rfl), (Nat.le_of_ble_eq_true rfl)⟩ ⟨(Nat.le_of_ble_eq_true rfl), (Nat.le_of_ble_eq_true rfl)⟩ dX11_shapedReal_79 (fun r7 σ8 => ?_)
              exact j_lreturn (pc := 82) rfl (Nat.le_of_ble_eq_true rfl) (Nat.le_of_ble_eq_true rfl) dX11_shapedReal_82
            · refine j_ldc2d (pc := 72) tw_5_31 dX11_shapedReal_72 ?_
              refine j_goto (pc := 75) (tgt := 79) dX11_shapedReal_75 rfl ?_
              refine j_callSL (pc := 79) (As := [aI v0, aD 13830554455654793216]) (st := []) (fun l => c11_wordOf l v0 13830554455654793216) cs_RX11_186 rfl rfl (Nat.le_of_ble_eq_true rfl) ⟨(Nat.le_of_ble_eq_true rfl), (Nat.le_of_ble_eq_true rfl)⟩ ⟨(Nat.le_of_ble_eq_true rfl), (Nat.le_of_ble_eq_true rfl)⟩ dX11_shapedReal_79 (fun r9 σ10 => ?_)
              exact j_lreturn (pc := 82) rfl (Nat.le_of_ble_eq_true rfl) (Nat.le_of_ble_eq_true rfl) dX11_shapedReal_82
          · refine j_lload_n (pc := 61) 1 dX11_shapedReal_61 rfl rfl ?_
            refine j_goto (pc := 62) (tgt := 82) dX11_shapedReal_62 rfl ?_
            exact j_lreturn (pc := 82) rfl (Nat.le_of_ble_eq_true rfl) (Nat.le_of_ble_eq_true rfl) dX11_shapedReal_82
      · refine j_lload_n (pc := 39) 1 dX11_shapedReal_39 rfl rfl ?_
        refine j_iload_n (pc := 40) 0 dX11_shapedReal_40 rfl rfl ?_
        refine j_callSL (pc := 41) (As := [aI v0]) (st := [aL v1]) (fun l => c11_signOf l v0) cs_RX11_182 rfl rfl (Nat.le_of_ble_eq_true rfl) ⟨(Nat.le_of_ble_eq_true rfl), (Nat.le_of_ble_eq_true rfl)⟩ ⟨(Nat.le_of_ble_eq_true rfl), (Nat.le_of_ble_eq_true rfl)⟩ dX11_shapedReal_41 (fun r11 σ12 => ?_)
        refine j_lxor (pc := 44) dX11_shapedReal_44 ?_
        exact j_lreturn (pc := 45) rfl (Nat.le_of_ble_eq_true rfl) (Nat.le_of_ble_eq_true rfl) dX11_shapedReal_45
    · refine j_iload_n (pc := 14) 0 dX11_shapedReal_14 rfl rfl ?_
      refine j_bipush (pc := 15) (v := 6) (by decide) dX11_shapedReal_15 ?_
      refine j_icmpne (pc := 17) (tgt := 28) dX11_shapedReal_17 rfl (fun _ => ?_) (fun _ => ?_)
      · refine j_lload_n (pc := 28) 1 dX11_shapedReal_28 rfl rfl ?_
        refine j_ldc2 (pc := 29) tw_4_227 dX11_shapedReal_29 ?_
        refine j_land (pc := 32) dX11_shapedReal_32 ?_
        exact j_lreturn (pc := 33) rfl (Nat.le_of_ble_eq_true rfl) (Nat.le_of_ble_eq_true rfl) dX11_shapedReal_33
      · refine j_lload_n (pc := 20) 1 dX11_shapedReal_20 rfl rfl ?_
        refine j_ldc2 (pc := 21) tw_4_225 dX11_shapedReal_21 ?_
        refine j_land (pc := 24) dX11_shapedReal_24 ?_
        refine j_goto (pc := 25) (tgt := 33) dX11_shapedReal_25 rfl ?_
        exact j_lreturn (pc := 33) rfl (Nat.le_of_ble_eq_true rfl) (Nat.le_of_ble_eq_true rfl) dX11_shapedReal_33
  · refine j_lload_n (pc := 8) 1 dX11_shapedReal_8 rfl rfl ?_
    exact j_lreturn (pc := 9) rfl (Nat.le_of_ble_eq_true rfl) (Nat.le_of_ble_eq_true rfl) dX11_shapedReal_9
theorem c11_shapedReal (l : Launch) (v0 : Int32) (v1 : Int64) (v3 : Int32) : Ctr l yX11_shapedReal cX11_shapedReal 4 (some .long) rm11_shapedReal eL [aI v0, aL v1, aI v3] (f11_shapedReal v0 v1 v3) := ctr_of (lv := [(0, aI v0), (1, aL v1), (3, aI v3)]) (by decide +kernel) (fun _ => rfl) (fun _ => (Nat.le_of_ble_eq_true rfl)) (fun _ h => lvl_als h rfl) (fun _ σ _ => j11_shapedReal v0 v1 v3 σ)
theorem cs_RX11_198 : CaS RX11 198 yX11_shapedReal cX11_shapedReal 4 (some .long) 3 := ⟨tw_5_23, tw_5_24, tw_1_5, tw_5_25, by decide +kernel, by decide +kernel, by decide +kernel⟩
abbrev rm11_shape : Room := { frames := 5, cells := 0, slots := 0, locals := 139 }
set_option maxRecDepth 20000 in
set_option maxHeartbeats 4000000 in
theorem jb11_shape_142 {Γ : jX} {tg : Int32 × rS} (v4 : Int32) (v6 : Int64) (s0 : Nat) (σ : rS) : J Γ rm11_shape eI cX11_shape RX11 8 (some .int) tg 0 0 142 [(4, aI v4), (6, aL v6)] [aR 29 s0] σ (B11_shape_142 v4 v6 s0 σ) := by
  unfold B11_shape_142
  refine j_iload (pc := 142) 0 dX11_shape_142 rfl ?_
  refine j_lload (pc := 144) 1 dX11_shape_144 rfl ?_
  refine j_lneg (pc := 146) dX11_shape_146 ?_
  refine j_callSL (pc := 147) (As := [aI v4, aL (-v6)]) (st := [aR 29 s0]) (fun l => c11_cut l v4 (-v6)) cs_RX11_127 rfl rfl (Nat.le_of_ble_eq_true rfl) ⟨(Nat.le_of_ble_eq_true rfl), (Nat.le_of_ble_eq_true rfl)⟩ ⟨(Nat.le_of_ble_eq_true rfl), (Nat.le_of_ble_eq_true rfl)⟩ dX11_shape_147 (fun r1 σ2 => ?_)
  refine j_goto (pc := 150) (tgt := 155) dX11_shape_150 rfl ?_
  refine j_putL (pc := 155) fd_29_2 tw_4_68 dX11_shape_155 ?_
  refine j_lets (fun σ3 => ?_)
  refine j_iconst (pc := 158) (v := 0) (by decide) dX11_shape_158 ?_
  exact j_ireturn (pc := 159) rfl (Nat.le_of_ble_eq_true rfl) (Nat.le_of_ble_eq_true rfl) dX11_shape_159
set_option maxRecDepth 20000 in
set_option maxHeartbeats 4000000 in
theorem jb11_shape_53 {Γ : jX} {tg : Int32 × rS} (v0 : Nat) (v1 : Int32) (v2 : Int32) (v3 : Int32) (v4 : Int32) (σ : rS) : J Γ rm11_shape eI cX11_shape RX11 8 (some .int) tg 0 0 53 [(0, aR 29 v0), (1, aI v1), (2, aI v2), (3, aI v3), (4, aI v4)] [] σ (B11_shape_53 v0 v1 v2 v3 v4 σ) := by
  unfold B11_shape_53
  refine j_aload_n (pc := 53) 0 dX11_shape_53 rfl rfl ?_
  refine j_iload_n (pc := 54) 1 dX11_shape_54 rfl rfl ?_
  refine j_iload_n (pc := 55) 2 dX11_shape_55 rfl rfl ?_
  refine j_callVI (pc := 56) (As := [aI v1, aI v2]) (st := []) (fun l => c11_against l v0 v1 v2) cs_RX11_158 rfl rfl rfl rfl (Nat.le_of_ble_eq_true rfl) ⟨(Nat.le_of_ble_eq_true rfl), (Nat.le_of_ble_eq_true rfl)⟩ ⟨(Nat.le_of_ble_eq_true rfl), (Nat.le_of_ble_eq_true rfl)⟩ dX11_shape_56 (fun r1 σ2 => ?_)
  refine j_istore (pc := 59) (lv' := [(5, aI r1), (0, aR 29 v0), (1, aI v1), (2, aI v2), (3, aI v3), (4, aI v4)]) dX11_shape_59 (Nat.le_of_ble_eq_true rfl) rfl ?_
  refine j_iload (pc := 61) 0 dX11_shape_61 rfl ?_
  refine j_ifeq (pc := 63) (tgt := 69) dX11_shape_63 rfl (fun _ => ?_) (fun _ => ?_)
  · refine j_aload_n (pc := 69) 1 dX11_shape_69 rfl rfl ?_
    refine j_getF (pc := 70) fd_29_7 tw_4_73 dX11_shape_70 ?_
    refine j_bipush (pc := 73) (v := 24) (by decide) dX11_shape_73 ?_
    refine j_iload_n (pc := 75) 2 dX11_shape_75 rfl rfl ?_
    refine j_imul (pc := 76) dX11_shape_76 ?_
    refine j_iload_n (pc := 77) 3 dX11_shape_77 rfl rfl ?_
    refine j_iadd (pc := 78) dX11_shape_78 ?_
    refine j_lald (pc := 79) rfl rfl rfl dX11_shape_79 (fun j3 => ?_)
    refine j_letl (fun x4 => ?_)
    refine j_lstore (pc := 80) (lv' := [(6, aL x4), (5, aI r1), (0, aR 29 v0), (1, aI v1), (2, aI v2), (3, aI v3), (4, aI v4)]) dX11_shape_80 (Nat.le_of_ble_eq_true rfl) rfl ?_
    refine j_sub [0, 2, 5, 6] (lv' := [(6, aL x4), (0, aR 29 v0), (3, aI v3), (4, aI v4)]) rfl ?_
    refine j_iload (pc := 82) 3 dX11_shape_82 rfl ?_
    refine j_bipush (pc := 84) (v := 6) (by decide) dX11_shape_84 ?_
    refine j_icmplt (pc := 86) (tgt := 104) dX11_shape_86 rfl (fun _ => ?_) (fun _ => ?_)
    · refine j_iload (pc := 104) 3 dX11_shape_104 rfl ?_
      refine j_ifne (pc := 106) (tgt := 129) dX11_shape_106 rfl (fun _ => ?_) (fun _ => ?_)
      · refine j_aload_n (pc := 129) 1 dX11_shape_129 rfl rfl ?_
        refine j_iload_n (pc := 130) 2 dX11_shape_130 rfl rfl ?_
        refine j_iconst (pc := 131) (v := 5) (by decide) dX11_shape_131 ?_
        refine j_icmpeq (pc := 132) (tgt := 142) dX11_shape_132 rfl (fun _ => ?_) (fun _ => ?_)
        · refine j_sub [3, 0] (lv' := [(4, aI v4), (6, aL x4)]) rfl ?_
          exact jb11_shape_142   v4 x4 v0 σ2
        · refine j_lload (pc := 135) 0 dX11_shape_135 rfl ?_
          refine j_lconst (pc := 137) (v := 0) (by decide) dX11_shape_137 ?_
          refine j_lcmpge (pc := 138) (tgt := 153) dX11_shape_138 dX11_shape_139 rfl (fun _ => ?_) (fun _ => ?_)
          · refine j_lload (pc := 153) 0 dX11_shape_153 rfl ?_
            refine j_putL (pc := 155) fd_29_2 tw_4_68 dX11_shape_155 ?_
            refine j_lets (fun σ5 => ?_)
            refine j_iconst (pc := 158) (v := 0) (by decide) dX11_shape_158 ?_
            exact j_ireturn (pc := 159) rfl (Nat.le_of_ble_eq_true rfl) (Nat.le_of_ble_eq_true rfl) dX11_shape_159
          · refine j_sub [3, 0] (lv' := [(4, aI v4), (6, aL x4)]) rfl ?_
            exact jb11_shape_142   v4 x4 v0 σ2
      · refine j_aload_n (pc := 109) 1 dX11_shape_109 rfl rfl ?_
        refine j_iload_n (pc := 110) 2 dX11_shape_110 rfl rfl ?_
        refine j_ifne (pc := 111) (tgt := 119) dX11_shape_111 rfl (fun _ => ?_) (fun _ => ?_)
        · refine j_lconst (pc := 119) (v := 1) (by decide) dX11_shape_119 ?_
          refine j_lload (pc := 120) 0 dX11_shape_120 rfl ?_
          refine j_lsub (pc := 122) dX11_shape_122 ?_
          refine j_putL (pc := 123) fd_29_2 tw_4_68 dX11_shape_123 ?_
          refine j_lets (fun σ6 => ?_)
          refine j_goto (pc := 126) (tgt := 158) dX11_shape_126 rfl ?_
          refine j_iconst (pc := 158) (v := 0) (by decide) dX11_shape_158 ?_
          exact j_ireturn (pc := 159) rfl (Nat.le_of_ble_eq_true rfl) (Nat.le_of_ble_eq_true rfl) dX11_shape_159
        · refine j_lload (pc := 114) 0 dX11_shape_114 rfl ?_
          refine j_goto (pc := 116) (tgt := 123) dX11_shape_116 rfl ?_
          refine j_putL (pc := 123) fd_29_2 tw_4_68 dX11_shape_123 ?_
          refine j_lets (fun σ7 => ?_)
          refine j_goto (pc := 126) (tgt := 158) dX11_shape_126 rfl ?_
          refine j_iconst (pc := 158) (v := 0) (by decide) dX11_shape_158 ?_
          exact j_ireturn (pc := 159) rfl (Nat.le_of_ble_eq_true rfl) (Nat.le_of_ble_eq_true rfl) dX11_shape_159
    · refine j_aload_n (pc := 89) 1 dX11_shape_89 rfl rfl ?_
      refine j_iload (pc := 90) 3 dX11_shape_90 rfl ?_
      refine j_lload (pc := 92) 0 dX11_shape_92 rfl ?_
      refine j_iload_n (pc := 94) 2 dX11_shape_94 rfl rfl ?_
      refine j_callSL (pc := 95) (As := [aI v4, aL x4, aI v3]) (st := [aR 29 v0]) (fun l => c11_shapedReal l v4 x4 v3) cs_RX11_198 rfl rfl (Nat.le_of_ble_eq_true rfl) ⟨(Nat.le_of_ble_eq_true rfl), (Nat.le_of_ble_eq_true rfl)⟩ ⟨(Nat.le_of_ble_eq_true rfl), (Nat.le_of_ble_eq_true rfl)⟩ dX11_shape_95 (fun r8 σ9 => ?_)
      refine j_putL (pc := 98) fd_29_2 tw_4_68 dX11_shape_98 ?_
      refine j_lets (fun σ10 => ?_)
      refine j_goto (pc := 101) (tgt := 158) dX11_shape_101 rfl ?_
      refine j_iconst (pc := 158) (v := 0) (by decide) dX11_shape_158 ?_
      exact j_ireturn (pc := 159) rfl (Nat.le_of_ble_eq_true rfl) (Nat.le_of_ble_eq_true rfl) dX11_shape_159
  · refine j_iload (pc := 66) 0 dX11_shape_66 rfl ?_
    exact j_ireturn (pc := 68) rfl (Nat.le_of_ble_eq_true rfl) (Nat.le_of_ble_eq_true rfl) dX11_shape_68
set_option maxRecDepth 20000 in
set_option maxHeartbeats 4000000 in
theorem j11_shape {Γ : jX} {tg : Int32 × rS} (v0 : Nat) (v1 : Int32) (v2 : Int32) (v3 : Int32) (σ : rS) : J Γ rm11_shape eI cX11_shape RX11 8 (some .int) tg 0 0 0 [(0, aR 29 v0), (1, aI v1), (2, aI v2), (3, aI v3)] [] σ (f11_shape v0 v1 v2 v3 σ) := by
  unfold f11_shape
  refine j_aload_n (pc := 0) 0 dX11_shape_0 rfl rfl ?_
  refine j_iload_n (pc := 1) 1 dX11_shape_1 rfl rfl ?_
  refine j_callVZ (pc := 2) (As := [aI v1]) (st := []) (fun l => c11_isRow l v0 v1) cs_RX11_154 rfl rfl rfl rfl (Nat.le_of_ble_eq_true rfl) ⟨(Nat.le_of_ble_eq_true rfl), (Nat.le_of_ble_eq_true rfl)⟩ ⟨(Nat.le_of_ble_eq_true rfl), (Nat.le_of_ble_eq_true rfl)⟩ dX11_shape_2 (fun r1 σ2 => ?_)
  refine j_ifneB (pc := 5) (tgt := 11) dX11_shape_5 rfl (fun _ => ?_) (fun _ => ?_)
  · refine j_iload_n (pc := 11) 3 dX11_shape_11 rfl rfl ?_
    refine j_i2l (pc := 12) dX11_shape_12 ?_
    refine j_lconst (pc := 13) (v := 0) (by decide) dX11_shape_13 ?_
    refine j_ldc2 (pc := 14) tw_5_22 dX11_shape_14 ?_
    refine j_callSZ (pc := 17) (As := [aL (Int32.toInt64 v3), aL 0, aL 5]) (st := []) (fun l => c11_in l (Int32.toInt64 v3) 0 5) cs_RX11_140 rfl rfl (Nat.le_of_ble_eq_true rfl) ⟨(Nat.le_of_ble_eq_true rfl), (Nat.le_of_ble_eq_true rfl)⟩ ⟨(Nat.le_of_ble_eq_true rfl), (Nat.le_of_ble_eq_true rfl)⟩ dX11_shape_17 (fun r3 σ4 => ?_)
    refine j_ifneB (pc := 20) (tgt := 26) dX11_shape_20 rfl (fun _ => ?_) (fun _ => ?_)
    · refine j_aload_n (pc := 26) 0 dX11_shape_26 rfl rfl ?_
      refine j_getF (pc := 27) fd_29_4 tw_4_70 dX11_shape_27 ?_
      refine j_iload_n (pc := 30) 1 dX11_shape_30 rfl rfl ?_
      refine j_iald (pc := 31) rfl rfl rfl dX11_shape_31 (fun j5 => ?_)
      refine j_leti (fun x6 => ?_)
      refine j_istore (pc := 32) (lv' := [(4, aI x6), (0, aR 29 v0), (1, aI v1), (2, aI v2), (3, aI v3)]) dX11_shape_32 (Nat.le_of_ble_eq_true rfl) rfl ?_
      refine j_iload_n (pc := 34) 4 dX11_shape_34 rfl rfl ?_
      refine j_ifeq (pc := 35) (tgt := 53) dX11_shape_35 rfl (fun _ => ?_) (fun _ => ?_)
      · refine j_sub [1, 2, 3, 4, 0] (lv' := [(0, aR 29 v0), (1, aI v1), (2, aI v2), (3, aI v3), (4, aI x6)]) rfl ?_
        exact jb11_shape_53   v0 v1 v2 v3 x6 σ4
      · refine j_iload_n (pc := 38) 4 dX11_shape_38 rfl rfl ?_
        refine j_iconst (pc := 39) (v := 5) (by decide) dX11_shape_39 ?_
        refine j_icmpeq (pc := 40) (tgt := 53) dX11_shape_40 rfl (fun _ => ?_) (fun _ => ?_)
        · refine j_sub [1, 2, 3, 4, 0] (lv' := [(0, aR 29 v0), (1, aI v1), (2, aI v2), (3, aI v3), (4, aI x6)]) rfl ?_
          exact jb11_shape_53   v0 v1 v2 v3 x6 σ4
        · refine j_iload (pc := 43) 0 dX11_shape_43 rfl ?_
          refine j_bipush (pc := 45) (v := 6) (by decide) dX11_shape_45 ?_
          refine j_icmpge (pc := 47) (tgt := 53) dX11_shape_47 rfl (fun _ => ?_) (fun _ => ?_)
          · refine j_sub [1, 2, 3, 4, 0] (lv' := [(0, aR 29 v0), (1, aI v1), (2, aI v2), (3, aI v3), (4, aI x6)]) rfl ?_
            exact jb11_shape_53   v0 v1 v2 v3 x6 σ4
          · refine j_bipush (pc := 50) (v := (-103)) (by decide) dX11_shape_50 ?_
            exact j_ireturn (pc := 52) rfl (Nat.le_of_ble_eq_true rfl) (Nat.le_of_ble_eq_true rfl) dX11_shape_52
    · refine j_bipush (pc := 23) (v := (-102)) (by decide) dX11_shape_23 ?_
      exact j_ireturn (pc := 25) rfl (Nat.le_of_ble_eq_true rfl) (Nat.le_of_ble_eq_true rfl) dX11_shape_25
  · refine j_bipush (pc := 8) (v := (-101)) (by decide) dX11_shape_8 ?_
    exact j_ireturn (pc := 10) rfl (Nat.le_of_ble_eq_true rfl) (Nat.le_of_ble_eq_true rfl) dX11_shape_10
theorem c11_shape (l : Launch) (v0 : Nat) (v1 : Int32) (v2 : Int32) (v3 : Int32) : Ctr l yX11_shape cX11_shape 8 (some .int) rm11_shape eI [aR 29 v0, aI v1, aI v2, aI v3] (f11_shape v0 v1 v2 v3) := ctr_of (lv := [(0, aR 29 v0), (1, aI v1), (2, aI v2), (3, aI v3)]) (by decide +kernel) (fun _ => rfl) (fun _ => (Nat.le_of_ble_eq_true rfl)) (fun _ h => lvl_als h rfl) (fun _ σ _ => j11_shape v0 v1 v2 v3 σ)
abbrev rm11_stream : Room := { frames := 1, cells := 0, slots := 0, locals := 20 }
set_option maxRecDepth 20000 in
set_option maxHeartbeats 4000000 in
theorem j11_stream {Γ : jX} {tg : Int32 × rS} (v0 : Nat) (σ : rS) : J Γ rm11_stream eI cX11_stream RX11 1 (some .int) tg 0 0 0 [(0, aR 29 v0)] [] σ (f11_stream v0 σ) := by
  unfold f11_stream
  refine j_aload_n (pc := 0) 0 dX11_stream_0 rfl rfl ?_
  refine j_getI (pc := 1) fd_29_13 tw_4_79 dX11_stream_1 ?_
  refine j_bipush (pc := 4) (v := 24) (by decide) dX11_stream_4 ?_
  refine j_icmpne (pc := 6) (tgt := 14) dX11_stream_6 rfl (fun _ => ?_) (fun _ => ?_)
  · refine j_aload_n (pc := 14) 0 dX11_stream_14 rfl rfl ?_
    refine j_callVI (pc := 15) (As := []) (st := []) (fun l => c11_newStream l v0) cs_RX11_243 rfl rfl rfl rfl (Nat.le_of_ble_eq_true rfl) ⟨(Nat.le_of_ble_eq_true rfl), (Nat.le_of_ble_eq_true rfl)⟩ ⟨(Nat.le_of_ble_eq_true rfl), (Nat.le_of_ble_eq_true rfl)⟩ dX11_stream_15 (fun r1 σ2 => ?_)
    exact j_ireturn (pc := 18) rfl (Nat.le_of_ble_eq_true rfl) (Nat.le_of_ble_eq_true rfl) dX11_stream_18
  · refine j_bipush (pc := 9) (v := (-104)) (by decide) dX11_stream_9 ?_
    refine j_goto (pc := 11) (tgt := 18) dX11_stream_11 rfl ?_
    exact j_ireturn (pc := 18) rfl (Nat.le_of_ble_eq_true rfl) (Nat.le_of_ble_eq_true rfl) dX11_stream_18
theorem c11_stream (l : Launch) (v0 : Nat) : Ctr l yX11_stream cX11_stream 1 (some .int) rm11_stream eI [aR 29 v0] (f11_stream v0) := ctr_of (lv := [(0, aR 29 v0)]) (by decide +kernel) (fun _ => rfl) (fun _ => (Nat.le_of_ble_eq_true rfl)) (fun _ h => lvl_als h rfl) (fun _ σ _ => j11_stream v0 σ)
abbrev rm11_take : Room := { frames := 2, cells := 0, slots := 0, locals := 46 }
set_option maxRecDepth 20000 in
set_option maxHeartbeats 4000000 in
theorem jb11_take_67 {Γ : jX} {tg : Int32 × rS} (N : Nat) (K67 : Nat → Int32 → Int32 → Int32 → rS → Option (Int32 × rS)) (hK67 : ∀ (v0 : Nat) (v5 : Int32) (v6 : Int32) (v7 : Int32) (σ : rS), J Γ rm11_take eI cX11_take RX11 8 (some .int) tg 0 0 67 [(0, aR 29 v0), (5, aI v5), (6, aI v6), (7, aI v7)] [] σ (K67 v0 v5 v6 v7 σ)) (v0 : Nat) (v5 : Int32) (v6 : Int32) (v7 : Int32) (σ : rS) : J Γ rm11_take eI cX11_take RX11 8 (some .int) tg 0 0 67 [(0, aR 29 v0), (5, aI v5), (6, aI v6), (7, aI v7)] [] σ (B11_take_67 N K67 v0 v5 v6 v7 σ) := by
  unfold B11_take_67
  refine j_iload (pc := 67) 3 dX11_take_67 rfl ?_
  refine j_aload_n (pc := 69) 0 dX11_take_69 rfl rfl ?_
  refine j_getF (pc := 70) fd_29_22 tw_4_88 dX11_take_70 ?_
  refine j_iload (pc := 73) 2 dX11_take_73 rfl ?_
  refine j_iald (pc := 75) rfl rfl rfl dX11_take_75 (fun j1 => ?_)
  refine j_icmpge (pc := 76) (tgt := 105) dX11_take_76 rfl (fun _ => ?_) (fun _ => ?_)
  · refine j_aload_n (pc := 105) 0 dX11_take_105 rfl rfl ?_
    refine j_getF (pc := 106) fd_29_17 tw_4_83 dX11_take_106 ?_
    refine j_iload (pc := 109) 1 dX11_take_109 rfl ?_
    refine j_iconst (pc := 111) (v := 1) (by decide) dX11_take_111 ?_
    refine j_zast (pc := 112) rfl rfl rfl dX11_take_112 (fun j2 => ?_)
    refine j_lets (fun σ3 => ?_)
    refine j_iload (pc := 113) 1 dX11_take_113 rfl ?_
    exact j_ireturn (pc := 115) rfl (Nat.le_of_ble_eq_true rfl) (Nat.le_of_ble_eq_true rfl) dX11_take_115
  · refine j_aload_n (pc := 79) 0 dX11_take_79 rfl rfl ?_
    refine j_iload (pc := 80) 1 dX11_take_80 rfl ?_
    refine j_aload_n (pc := 82) 0 dX11_take_82 rfl rfl ?_
    refine j_getF (pc := 83) fd_29_24 tw_4_90 dX11_take_83 ?_
    refine j_sipush (pc := 86) (v := 400) (by decide) dX11_take_86 ?_
    refine j_iload (pc := 89) 2 dX11_take_89 rfl ?_
    refine j_imul (pc := 91) dX11_take_91 ?_
    refine j_iload (pc := 92) 3 dX11_take_92 rfl ?_
    refine j_iadd (pc := 94) dX11_take_94 ?_
    refine j_iald (pc := 95) rfl rfl rfl dX11_take_95 (fun j4 => ?_)
    refine j_callVV (pc := 96) (As := [aI v5, aI (gI σ 54 v0 j4)]) (st := []) (fun l => c11_lay l v0 v5 (gI σ 54 v0 j4)) cs_RX11_256 rfl rfl rfl rfl (Nat.le_of_ble_eq_true rfl) ⟨(Nat.le_of_ble_eq_true rfl), (Nat.le_of_ble_eq_true rfl)⟩ ⟨(Nat.le_of_ble_eq_true rfl), (Nat.le_of_ble_eq_true rfl)⟩ dX11_take_96 (fun r5 σ6 => ?_)
    refine j_iinc (pc := 99) (w := 1) (lv' := [(7, aI (v7 + 1)), (0, aR 29 v0), (5, aI v5), (6, aI v6)]) 3 dX11_take_99 rfl (by decide) (Nat.le_of_ble_eq_true rfl) rfl ?_
    refine j_goto (pc := 102) (tgt := 67) dX11_take_102 rfl ?_
    refine j_sub [1, 2, 3, 0] (lv' := [(0, aR 29 v0), (5, aI v5), (6, aI v6), (7, aI (v7 + 1))]) rfl ?_
    exact hK67 v0 v5 v6 (v7 + 1) σ6
theorem jl11_take_67 {Γ : jX} {tg : Int32 × rS} (N : Nat) : ∀ (n : Nat) (v0 : Nat) (v5 : Int32) (v6 : Int32) (v7 : Int32) (σ : rS), J Γ rm11_take eI cX11_take RX11 8 (some .int) tg 0 0 67 [(0, aR 29 v0), (5, aI v5), (6, aI v6), (7, aI v7)] [] σ (L11_take_67 N n v0 v5 v6 v7 σ) := by
  intro n
  induction n with
  | zero => intro v0 v5 v6 v7 σ; exact j_none
  | succ n ih => intro v0 v5 v6 v7 σ; exact jb11_take_67 N (L11_take_67 N n) ih v0 v5 v6 v7 σ
set_option maxRecDepth 20000 in
set_option maxHeartbeats 4000000 in
theorem j11_take {Γ : jX} {tg : Int32 × rS} (N : Nat) (v0 : Nat) (v1 : Int32) (v2 : Int64) (σ : rS) : J Γ rm11_take eI cX11_take RX11 8 (some .int) tg 0 0 0 [(0, aR 29 v0), (1, aI v1), (2, aL v2)] [] σ (f11_take N v0 v1 v2 σ) := by
  unfold f11_take
  refine j_aload_n (pc := 0) 0 dX11_take_0 rfl rfl ?_
  refine j_iload_n (pc := 1) 1 dX11_take_1 rfl rfl ?_
  refine j_callVZ (pc := 2) (As := [aI v1]) (st := []) (fun l => c11_isHouse l v0 v1) cs_RX11_287 rfl rfl rfl rfl (Nat.le_of_ble_eq_true rfl) ⟨(Nat.le_of_ble_eq_true rfl), (Nat.le_of_ble_eq_true rfl)⟩ ⟨(Nat.le_of_ble_eq_true rfl), (Nat.le_of_ble_eq_true rfl)⟩ dX11_take_2 (fun r1 σ2 => ?_)
  refine j_ifneB (pc := 5) (tgt := 11) dX11_take_5 rfl (fun _ => ?_) (fun _ => ?_)
  · refine j_lload_n (pc := 11) 2 dX11_take_11 rfl rfl ?_
    refine j_lconst (pc := 12) (v := 0) (by decide) dX11_take_12 ?_
    refine j_lcmpge (pc := 13) (tgt := 20) dX11_take_13 dX11_take_14 rfl (fun _ => ?_) (fun _ => ?_)
    · refine j_aload_n (pc := 20) 0 dX11_take_20 rfl rfl ?_
      refine j_iload_n (pc := 21) 1 dX11_take_21 rfl rfl ?_
      refine j_lload_n (pc := 22) 2 dX11_take_22 rfl rfl ?_
      refine j_callVI (pc := 23) (As := [aI v1, aL v2]) (st := []) (fun l => c11_entry l N v0 v1 v2) cs_RX11_290 rfl rfl rfl rfl (Nat.le_of_ble_eq_true rfl) ⟨(Nat.le_of_ble_eq_true rfl), (Nat.le_of_ble_eq_true rfl)⟩ ⟨(Nat.le_of_ble_eq_true rfl), (Nat.le_of_ble_eq_true rfl)⟩ dX11_take_23 (fun r3 σ4 => ?_)
      refine j_istore (pc := 26) (lv' := [(4, aI r3), (0, aR 29 v0), (1, aI v1), (2, aL v2)]) dX11_take_26 (Nat.le_of_ble_eq_true rfl) rfl ?_
      refine j_sub [0, 1] (lv' := [(4, aI r3), (0, aR 29 v0)]) rfl ?_
      refine j_iload (pc := 28) 0 dX11_take_28 rfl ?_
      refine j_iconst (pc := 30) (v := (-1)) (by decide) dX11_take_30 ?_
      refine j_icmpne (pc := 31) (tgt := 37) dX11_take_31 rfl (fun _ => ?_) (fun _ => ?_)
      · refine j_aload_n (pc := 37) 1 dX11_take_37 rfl rfl ?_
        refine j_getI (pc := 38) fd_29_13 tw_4_79 dX11_take_38 ?_
        refine j_bipush (pc := 41) (v := 24) (by decide) dX11_take_41 ?_
        refine j_icmpne (pc := 43) (tgt := 49) dX11_take_43 rfl (fun _ => ?_) (fun _ => ?_)
        · refine j_aload_n (pc := 49) 1 dX11_take_49 rfl rfl ?_
          refine j_callVI (pc := 50) (As := []) (st := []) (fun l => c11_newStream l v0) cs_RX11_243 rfl rfl rfl rfl (Nat.le_of_ble_eq_true rfl) ⟨(Nat.le_of_ble_eq_true rfl), (Nat.le_of_ble_eq_true rfl)⟩ ⟨(Nat.le_of_ble_eq_true rfl), (Nat.le_of_ble_eq_true rfl)⟩ dX11_take_50 (fun r5 σ6 => ?_)
          refine j_istore (pc := 53) (lv' := [(5, aI r5), (4, aI r3), (0, aR 29 v0)]) dX11_take_53 (Nat.le_of_ble_eq_true rfl) rfl ?_
          refine j_aload_n (pc := 55) 2 dX11_take_55 rfl rfl ?_
          refine j_getF (pc := 56) fd_29_29 tw_4_95 dX11_take_56 ?_
          refine j_iload (pc := 59) 1 dX11_take_59 rfl ?_
          refine j_iald (pc := 61) rfl rfl rfl dX11_take_61 (fun j7 => ?_)
          refine j_leti (fun x8 => ?_)
          refine j_istore (pc := 62) (lv' := [(6, aI x8), (5, aI r5), (4, aI r3), (0, aR 29 v0)]) dX11_take_62 (Nat.le_of_ble_eq_true rfl) rfl ?_
          refine j_sub [0, 1, 3] (lv' := [(6, aI x8), (5, aI r5), (0, aR 29 v0)]) rfl ?_
          refine j_iconst (pc := 64) (v := 0) (by decide) dX11_take_64 ?_
          refine j_istore (pc := 65) (lv' := [(7, aI 0), (6, aI x8), (5, aI r5), (0, aR 29 v0)]) dX11_take_65 (Nat.le_of_ble_eq_true rfl) rfl ?_
          refine j_sub [3, 2, 1, 0] (lv' := [(0, aR 29 v0), (5, aI r5), (6, aI x8), (7, aI 0)]) rfl ?_
          exact jl11_take_67 N  N v0 r5 x8 0 σ6
        · refine j_bipush (pc := 46) (v := (-104)) (by decide) dX11_take_46 ?_
          exact j_ireturn (pc := 48) rfl (Nat.le_of_ble_eq_true rfl) (Nat.le_of_ble_eq_true rfl) dX11_take_48
      · refine j_bipush (pc := 34) (v := (-103)) (by decide) dX11_take_34 ?_
        exact j_ireturn (pc := 36) rfl (Nat.le_of_ble_eq_true rfl) (Nat.le_of_ble_eq_true rfl) dX11_take_36
    · refine j_bipush (pc := 17) (v := (-102)) (by decide) dX11_take_17 ?_
      exact j_ireturn (pc := 19) rfl (Nat.le_of_ble_eq_true rfl) (Nat.le_of_ble_eq_true rfl) dX11_take_19
  · refine j_bipush (pc := 8) (v := (-101)) (by decide) dX11_take_8 ?_
    exact j_ireturn (pc := 10) rfl (Nat.le_of_ble_eq_true rfl) (Nat.le_of_ble_eq_true rfl) dX11_take_10
theorem c11_take (l : Launch) (N : Nat) (v0 : Nat) (v1 : Int32) (v2 : Int64) : Ctr l yX11_take cX11_take 8 (some .int) rm11_take eI [aR 29 v0, aI v1, aL v2] (f11_take N v0 v1 v2) := ctr_of (lv := [(0, aR 29 v0), (1, aI v1), (2, aL v2)]) (by decide +kernel) (fun _ => rfl) (fun _ => (Nat.le_of_ble_eq_true rfl)) (fun _ h => lvl_als h rfl) (fun _ σ _ => j11_take N v0 v1 v2 σ)
abbrev rm11_uses : Room := { frames := 0, cells := 0, slots := 0, locals := 0 }
set_option maxRecDepth 20000 in
set_option maxHeartbeats 4000000 in
theorem jb11_uses_34 {Γ : jX} {tg : Int32 × rS} (N : Nat) (K4 : Nat → Int32 → Int32 → Int32 → rS → Option (Int32 × rS)) (hK4 : ∀ (v0 : Nat) (v1 : Int32) (v2 : Int32) (v3 : Int32) (σ : rS), J Γ rm11_uses eI cX11_uses RX11 4 (some .int) tg 0 0 4 [(0, aR 29 v0), (1, aI v1), (2, aI v2), (3, aI v3)] [] σ (K4 v0 v1 v2 v3 σ)) (v0 : Nat) (v1 : Int32) (v3 : Int32) (s0 : Int32) (σ : rS) : J Γ rm11_uses eI cX11_uses RX11 4 (some .int) tg 0 0 34 [(0, aR 29 v0), (1, aI v1), (3, aI v3)] [aI s0] σ (B11_uses_34 N K4 v0 v1 v3 s0 σ) := by
  unfold B11_uses_34
  refine j_istore_n (pc := 34) (lv' := [(2, aI s0), (0, aR 29 v0), (1, aI v1), (3, aI v3)]) dX11_uses_34 rfl (Nat.le_of_ble_eq_true rfl) rfl ?_
  refine j_iinc (pc := 35) (w := 1) (lv' := [(3, aI (v3 + 1)), (2, aI s0), (0, aR 29 v0), (1, aI v1)]) 3 dX11_uses_35 rfl (by decide) (Nat.le_of_ble_eq_true rfl) rfl ?_
  refine j_goto (pc := 38) (tgt := 4) dX11_uses_38 rfl ?_
  refine j_sub [2, 3, 1, 0] (lv' := [(0, aR 29 v0), (1, aI v1), (2, aI s0), (3, aI (v3 + 1))]) rfl ?_
  exact hK4 v0 v1 s0 (v3 + 1) σ
set_option maxRecDepth 20000 in
set_option maxHeartbeats 4000000 in
theorem jb11_uses_33 {Γ : jX} {tg : Int32 × rS} (N : Nat) (K4 : Nat → Int32 → Int32 → Int32 → rS → Option (Int32 × rS)) (hK4 : ∀ (v0 : Nat) (v1 : Int32) (v2 : Int32) (v3 : Int32) (σ : rS), J Γ rm11_uses eI cX11_uses RX11 4 (some .int) tg 0 0 4 [(0, aR 29 v0), (1, aI v1), (2, aI v2), (3, aI v3)] [] σ (K4 v0 v1 v2 v3 σ)) (v0 : Nat) (v1 : Int32) (v2 : Int32) (v3 : Int32) (σ : rS) : J Γ rm11_uses eI cX11_uses RX11 4 (some .int) tg 0 0 33 [(0, aR 29 v0), (1, aI v1), (2, aI v2), (3, aI v3)] [] σ (B11_uses_33 N K4 v0 v1 v2 v3 σ) := by
  unfold B11_uses_33
  refine j_iload_n (pc := 33) 2 dX11_uses_33 rfl rfl ?_
  refine j_sub [0, 1, 3] (lv' := [(0, aR 29 v0), (1, aI v1), (3, aI v3)]) rfl ?_
  exact jb11_uses_34 N K4 hK4 v0 v1 v3 v2 σ
set_option maxRecDepth 20000 in
set_option maxHeartbeats 4000000 in
theorem jb11_uses_4 {Γ : jX} {tg : Int32 × rS} (N : Nat) (K4 : Nat → Int32 → Int32 → Int32 → rS → Option (Int32 × rS)) (hK4 : ∀ (v0 : Nat) (v1 : Int32) (v2 : Int32) (v3 : Int32) (σ : rS), J Γ rm11_uses eI cX11_uses RX11 4 (some .int) tg 0 0 4 [(0, aR 29 v0), (1, aI v1), (2, aI v2), (3, aI v3)] [] σ (K4 v0 v1 v2 v3 σ)) (v0 : Nat) (v1 : Int32) (v2 : Int32) (v3 : Int32) (σ : rS) : J Γ rm11_uses eI cX11_uses RX11 4 (some .int) tg 0 0 4 [(0, aR 29 v0), (1, aI v1), (2, aI v2), (3, aI v3)] [] σ (B11_uses_4 N K4 v0 v1 v2 v3 σ) := by
  unfold B11_uses_4
  refine j_iload_n (pc := 4) 3 dX11_uses_4 rfl rfl ?_
  refine j_bipush (pc := 5) (v := 30) (by decide) dX11_uses_5 ?_
  refine j_icmpge (pc := 7) (tgt := 41) dX11_uses_7 rfl (fun _ => ?_) (fun _ => ?_)
  · refine j_iload_n (pc := 41) 2 dX11_uses_41 rfl rfl ?_
    exact j_ireturn (pc := 42) rfl (Nat.le_of_ble_eq_true rfl) (Nat.le_of_ble_eq_true rfl) dX11_uses_42
  · refine j_iload_n (pc := 10) 1 dX11_uses_10 rfl rfl ?_
    refine j_iflt (pc := 11) (tgt := 33) dX11_uses_11 rfl (fun _ => ?_) (fun _ => ?_)
    · exact jb11_uses_33 N K4 hK4 v0 v1 v2 v3 σ
    · refine j_aload_n (pc := 14) 0 dX11_uses_14 rfl rfl ?_
      refine j_getF (pc := 15) fd_29_21 tw_4_87 dX11_uses_15 ?_
      refine j_iload_n (pc := 18) 3 dX11_uses_18 rfl rfl ?_
      refine j_iald (pc := 19) rfl rfl rfl dX11_uses_19 (fun j1 => ?_)
      refine j_iload_n (pc := 20) 1 dX11_uses_20 rfl rfl ?_
      refine j_icmpne (pc := 21) (tgt := 33) dX11_uses_21 rfl (fun _ => ?_) (fun _ => ?_)
      · exact jb11_uses_33 N K4 hK4 v0 v1 v2 v3 σ
      · refine j_aload_n (pc := 24) 0 dX11_uses_24 rfl rfl ?_
        refine j_getF (pc := 25) fd_29_23 tw_4_89 dX11_uses_25 ?_
        refine j_iload_n (pc := 28) 3 dX11_uses_28 rfl rfl ?_
        refine j_iald (pc := 29) rfl rfl rfl dX11_uses_29 (fun j2 => ?_)
        refine j_goto (pc := 30) (tgt := 34) dX11_uses_30 rfl ?_
        refine j_sub [0, 1, 3] (lv' := [(0, aR 29 v0), (1, aI v1), (3, aI v3)]) rfl ?_
        exact jb11_uses_34 N K4 hK4 v0 v1 v3 (gI σ 53 v0 j2) σ
theorem jl11_uses_4 {Γ : jX} {tg : Int32 × rS} (N : Nat) : ∀ (n : Nat) (v0 : Nat) (v1 : Int32) (v2 : Int32) (v3 : Int32) (σ : rS), J Γ rm11_uses eI cX11_uses RX11 4 (some .int) tg 0 0 4 [(0, aR 29 v0), (1, aI v1), (2, aI v2), (3, aI v3)] [] σ (L11_uses_4 N n v0 v1 v2 v3 σ) := by
  intro n
  induction n with
  | zero => intro v0 v1 v2 v3 σ; exact j_none
  | succ n ih => intro v0 v1 v2 v3 σ; exact jb11_uses_4 N (L11_uses_4 N n) ih v0 v1 v2 v3 σ
set_option maxRecDepth 20000 in
set_option maxHeartbeats 4000000 in
theorem j11_uses {Γ : jX} {tg : Int32 × rS} (N : Nat) (v0 : Nat) (v1 : Int32) (σ : rS) : J Γ rm11_uses eI cX11_uses RX11 4 (some .int) tg 0 0 0 [(0, aR 29 v0), (1, aI v1)] [] σ (f11_uses N v0 v1 σ) := by
  unfold f11_uses
  refine j_iconst (pc := 0) (v := 0) (by decide) dX11_uses_0 ?_
  refine j_istore_n (pc := 1) (lv' := [(2, aI 0), (0, aR 29 v0), (1, aI v1)]) dX11_uses_1 rfl (Nat.le_of_ble_eq_true rfl) rfl ?_
  refine j_iconst (pc := 2) (v := 0) (by decide) dX11_uses_2 ?_
  refine j_istore_n (pc := 3) (lv' := [(3, aI 0), (2, aI 0), (0, aR 29 v0), (1, aI v1)]) dX11_uses_3 rfl (Nat.le_of_ble_eq_true rfl) rfl ?_
  refine j_sub [2, 3, 1, 0] (lv' := [(0, aR 29 v0), (1, aI v1), (2, aI 0), (3, aI 0)]) rfl ?_
  exact jl11_uses_4 N  N v0 v1 0 0 σ
theorem c11_uses (l : Launch) (N : Nat) (v0 : Nat) (v1 : Int32) : Ctr l yX11_uses cX11_uses 4 (some .int) rm11_uses eI [aR 29 v0, aI v1] (f11_uses N v0 v1) := ctr_of (lv := [(0, aR 29 v0), (1, aI v1)]) (by decide +kernel) (fun _ => rfl) (fun _ => (Nat.le_of_ble_eq_true rfl)) (fun _ h => lvl_als h rfl) (fun _ σ _ => j11_uses N v0 v1 σ)
abbrev rm11_write : Room := { frames := 3, cells := 0, slots := 0, locals := 70 }
set_option maxRecDepth 20000 in
set_option maxHeartbeats 4000000 in
theorem jb11_write_158 {Γ : jX} {tg : Int32 × rS} (N : Nat) (K158 : Nat → Int32 → Int32 → Int32 → rS → Option (Int32 × rS)) (hK158 : ∀ (v0 : Nat) (v1 : Int32) (v4 : Int32) (v5 : Int32) (σ : rS), J Γ rm11_write eI cX11_write RX11 6 (some .int) tg 0 0 158 [(0, aR 29 v0), (1, aI v1), (4, aI v4), (5, aI v5)] [] σ (K158 v0 v1 v4 v5 σ)) (v0 : Nat) (v1 : Int32) (v4 : Int32) (v5 : Int32) (σ : rS) : J Γ rm11_write eI cX11_write RX11 6 (some .int) tg 0 0 158 [(0, aR 29 v0), (1, aI v1), (4, aI v4), (5, aI v5)] [] σ (B11_write_158 N K158 v0 v1 v4 v5 σ) := by
  unfold B11_write_158
  refine j_iload (pc := 158) 3 dX11_write_158 rfl ?_
  refine j_aload_n (pc := 160) 0 dX11_write_160 rfl rfl ?_
  refine j_getI (pc := 161) fd_29_12 tw_4_78 dX11_write_161 ?_
  refine j_icmpge (pc := 164) (tgt := 185) dX11_write_164 rfl (fun _ => ?_) (fun _ => ?_)
  · refine j_aload_n (pc := 185) 0 dX11_write_185 rfl rfl ?_
    refine j_iload_n (pc := 186) 1 dX11_write_186 rfl rfl ?_
    refine j_iload (pc := 187) 2 dX11_write_187 rfl ?_
    refine j_aload_n (pc := 189) 0 dX11_write_189 rfl rfl ?_
    refine j_getF (pc := 190) fd_29_15 tw_4_81 dX11_write_190 ?_
    refine j_iload_n (pc := 193) 1 dX11_write_193 rfl rfl ?_
    refine j_iald (pc := 194) rfl rfl rfl dX11_write_194 (fun j1 => ?_)
    refine j_callVI (pc := 195) (As := [aI v1, aI v4, aI (gI σ 45 v0 j1)]) (st := []) (fun l => c11_sumOf l N v0 v1 v4 (gI σ 45 v0 j1)) cs_RX11_259 rfl rfl rfl rfl (Nat.le_of_ble_eq_true rfl) ⟨(Nat.le_of_ble_eq_true rfl), (Nat.le_of_ble_eq_true rfl)⟩ ⟨(Nat.le_of_ble_eq_true rfl), (Nat.le_of_ble_eq_true rfl)⟩ dX11_write_195 (fun r2 σ3 => ?_)
    refine j_istore (pc := 198) (lv' := [(5, aI r2), (0, aR 29 v0), (1, aI v1), (4, aI v4)]) dX11_write_198 (Nat.le_of_ble_eq_true rfl) rfl ?_
    refine j_sub [0, 1, 2] (lv' := [(5, aI r2), (0, aR 29 v0), (1, aI v1)]) rfl ?_
    refine j_aload_n (pc := 200) 1 dX11_write_200 rfl rfl ?_
    refine j_iload_n (pc := 201) 2 dX11_write_201 rfl rfl ?_
    refine j_iload (pc := 202) 0 dX11_write_202 rfl ?_
    refine j_sipush (pc := 204) (v := 255) (by decide) dX11_write_204 ?_
    refine j_iand (pc := 207) dX11_write_207 ?_
    refine j_callVV (pc := 208) (As := [aI v1, aI (r2 &&& 255)]) (st := []) (fun l => c11_lay l v0 v1 (r2 &&& 255)) cs_RX11_256 rfl rfl rfl rfl (Nat.le_of_ble_eq_true rfl) ⟨(Nat.le_of_ble_eq_true rfl), (Nat.le_of_ble_eq_true rfl)⟩ ⟨(Nat.le_of_ble_eq_true rfl), (Nat.le_of_ble_eq_true rfl)⟩ dX11_write_208 (fun r4 σ5 => ?_)
    refine j_aload_n (pc := 211) 1 dX11_write_211 rfl rfl ?_
    refine j_iload_n (pc := 212) 2 dX11_write_212 rfl rfl ?_
    refine j_iload (pc := 213) 0 dX11_write_213 rfl ?_
    refine j_bipush (pc := 215) (v := 8) (by decide) dX11_write_215 ?_
    refine j_ishr (pc := 217) dX11_write_217 ?_
    refine j_callVV (pc := 218) (As := [aI v1, aI (r2 >>> (8 &&& 31))]) (st := []) (fun l => c11_lay l v0 v1 (r2 >>> (8 &&& 31))) cs_RX11_256 rfl rfl rfl rfl (Nat.le_of_ble_eq_true rfl) ⟨(Nat.le_of_ble_eq_true rfl), (Nat.le_of_ble_eq_true rfl)⟩ ⟨(Nat.le_of_ble_eq_true rfl), (Nat.le_of_ble_eq_true rfl)⟩ dX11_write_218 (fun r6 σ7 => ?_)
    refine j_aload_n (pc := 221) 1 dX11_write_221 rfl rfl ?_
    refine j_getF (pc := 222) fd_29_15 tw_4_81 dX11_write_222 ?_
    refine j_iload_n (pc := 225) 2 dX11_write_225 rfl rfl ?_
    refine j_iald (pc := 226) rfl rfl rfl dX11_write_226 (fun j8 => ?_)
    exact j_ireturn (pc := 227) rfl (Nat.le_of_ble_eq_true rfl) (Nat.le_of_ble_eq_true rfl) dX11_write_227
  · refine j_aload_n (pc := 167) 0 dX11_write_167 rfl rfl ?_
    refine j_iload_n (pc := 168) 1 dX11_write_168 rfl rfl ?_
    refine j_aload_n (pc := 169) 0 dX11_write_169 rfl rfl ?_
    refine j_getF (pc := 170) fd_29_11 tw_4_77 dX11_write_170 ?_
    refine j_iload (pc := 173) 3 dX11_write_173 rfl ?_
    refine j_iald (pc := 175) rfl rfl rfl dX11_write_175 (fun j9 => ?_)
    refine j_callVV (pc := 176) (As := [aI v1, aI (gI σ 41 v0 j9)]) (st := []) (fun l => c11_lay l v0 v1 (gI σ 41 v0 j9)) cs_RX11_256 rfl rfl rfl rfl (Nat.le_of_ble_eq_true rfl) ⟨(Nat.le_of_ble_eq_true rfl), (Nat.le_of_ble_eq_true rfl)⟩ ⟨(Nat.le_of_ble_eq_true rfl), (Nat.le_of_ble_eq_true rfl)⟩ dX11_write_176 (fun r10 σ11 => ?_)
    refine j_iinc (pc := 179) (w := 1) (lv' := [(5, aI (v5 + 1)), (0, aR 29 v0), (1, aI v1), (4, aI v4)]) 3 dX11_write_179 rfl (by decide) (Nat.le_of_ble_eq_true rfl) rfl ?_
    refine j_goto (pc := 182) (tgt := 158) dX11_write_182 rfl ?_
    refine j_sub [1, 2, 3, 0] (lv' := [(0, aR 29 v0), (1, aI v1), (4, aI v4), (5, aI (v5 + 1))]) rfl ?_
    exact hK158 v0 v1 v4 (v5 + 1) σ11
theorem jl11_write_158 {Γ : jX} {tg : Int32 × rS} (N : Nat) : ∀ (n : Nat) (v0 : Nat) (v1 : Int32) (v4 : Int32) (v5 : Int32) (σ : rS), J Γ rm11_write eI cX11_write RX11 6 (some .int) tg 0 0 158 [(0, aR 29 v0), (1, aI v1), (4, aI v4), (5, aI v5)] [] σ (L11_write_158 N n v0 v1 v4 v5 σ) := by
  intro n
  induction n with
  | zero => intro v0 v1 v4 v5 σ; exact j_none
  | succ n ih => intro v0 v1 v4 v5 σ; exact jb11_write_158 N (L11_write_158 N n) ih v0 v1 v4 v5 σ
set_option maxRecDepth 20000 in
set_option maxHeartbeats 4000000 in
theorem j11_write {Γ : jX} {tg : Int32 × rS} (N : Nat) (v0 : Nat) (v1 : Int32) (v2 : Int32) (v3 : Int32) (σ : rS) : J Γ rm11_write eI cX11_write RX11 6 (some .int) tg 0 0 0 [(0, aR 29 v0), (1, aI v1), (2, aI v2), (3, aI v3)] [] σ (f11_write N v0 v1 v2 v3 σ) := by
  unfold f11_write
  refine j_aload_n (pc := 0) 0 dX11_write_0 rfl rfl ?_
  refine j_iload_n (pc := 1) 1 dX11_write_1 rfl rfl ?_
  refine j_callVZ (pc := 2) (As := [aI v1]) (st := []) (fun l => c11_isStream l v0 v1) cs_RX11_247 rfl rfl rfl rfl (Nat.le_of_ble_eq_true rfl) ⟨(Nat.le_of_ble_eq_true rfl), (Nat.le_of_ble_eq_true rfl)⟩ ⟨(Nat.le_of_ble_eq_true rfl), (Nat.le_of_ble_eq_true rfl)⟩ dX11_write_2 (fun r1 σ2 => ?_)
  refine j_ifeqB (pc := 5) (tgt := 16) dX11_write_5 rfl (fun _ => ?_) (fun _ => ?_)
  · refine j_bipush (pc := 16) (v := (-101)) (by decide) dX11_write_16 ?_
    exact j_ireturn (pc := 18) rfl (Nat.le_of_ble_eq_true rfl) (Nat.le_of_ble_eq_true rfl) dX11_write_18
  · refine j_aload_n (pc := 8) 0 dX11_write_8 rfl rfl ?_
    refine j_iload_n (pc := 9) 2 dX11_write_9 rfl rfl ?_
    refine j_callVZ (pc := 10) (As := [aI v2]) (st := []) (fun l => c11_isRow l v0 v2) cs_RX11_154 rfl rfl rfl rfl (Nat.le_of_ble_eq_true rfl) ⟨(Nat.le_of_ble_eq_true rfl), (Nat.le_of_ble_eq_true rfl)⟩ ⟨(Nat.le_of_ble_eq_true rfl), (Nat.le_of_ble_eq_true rfl)⟩ dX11_write_10 (fun r3 σ4 => ?_)
    refine j_ifneB (pc := 13) (tgt := 19) dX11_write_13 rfl (fun _ => ?_) (fun _ => ?_)
    · refine j_iload_n (pc := 19) 3 dX11_write_19 rfl rfl ?_
      refine j_i2l (pc := 20) dX11_write_20 ?_
      refine j_lconst (pc := 21) (v := 0) (by decide) dX11_write_21 ?_
      refine j_ldc2 (pc := 22) tw_5_100 dX11_write_22 ?_
      refine j_callSZ (pc := 25) (As := [aL (Int32.toInt64 v3), aL 0, aL 4]) (st := []) (fun l => c11_in l (Int32.toInt64 v3) 0 4) cs_RX11_140 rfl rfl (Nat.le_of_ble_eq_true rfl) ⟨(Nat.le_of_ble_eq_true rfl), (Nat.le_of_ble_eq_true rfl)⟩ ⟨(Nat.le_of_ble_eq_true rfl), (Nat.le_of_ble_eq_true rfl)⟩ dX11_write_25 (fun r5 σ6 => ?_)
      refine j_ifneB (pc := 28) (tgt := 34) dX11_write_28 rfl (fun _ => ?_) (fun _ => ?_)
      · refine j_aload_n (pc := 34) 0 dX11_write_34 rfl rfl ?_
        refine j_getF (pc := 35) fd_29_17 tw_4_83 dX11_write_35 ?_
        refine j_iload_n (pc := 38) 1 dX11_write_38 rfl rfl ?_
        refine j_zald (pc := 39) rfl rfl rfl dX11_write_39 (fun j7 => ?_)
        refine j_ifeq (pc := 40) (tgt := 46) dX11_write_40 rfl (fun _ => ?_) (fun _ => ?_)
        · refine j_aload_n (pc := 46) 0 dX11_write_46 rfl rfl ?_
          refine j_getF (pc := 47) fd_29_6 tw_4_72 dX11_write_47 ?_
          refine j_iload_n (pc := 50) 2 dX11_write_50 rfl rfl ?_
          refine j_zald (pc := 51) rfl rfl rfl dX11_write_51 (fun j8 => ?_)
          refine j_ifeq (pc := 52) (tgt := 61) dX11_write_52 rfl (fun _ => ?_) (fun _ => ?_)
          · refine j_aload_n (pc := 61) 0 dX11_write_61 rfl rfl ?_
            refine j_iload_n (pc := 62) 2 dX11_write_62 rfl rfl ?_
            refine j_iload_n (pc := 63) 3 dX11_write_63 rfl rfl ?_
            refine j_callVV (pc := 64) (As := [aI v2, aI v3]) (st := []) (fun l => c11_codeRow l N v0 v2 v3) cs_RX11_252 rfl rfl rfl rfl (Nat.le_of_ble_eq_true rfl) ⟨(Nat.le_of_ble_eq_true rfl), (Nat.le_of_ble_eq_true rfl)⟩ ⟨(Nat.le_of_ble_eq_true rfl), (Nat.le_of_ble_eq_true rfl)⟩ dX11_write_64 (fun r9 σ10 => ?_)
            refine j_aload_n (pc := 67) 0 dX11_write_67 rfl rfl ?_
            refine j_getF (pc := 68) fd_29_15 tw_4_81 dX11_write_68 ?_
            refine j_iload_n (pc := 71) 1 dX11_write_71 rfl rfl ?_
            refine j_iald (pc := 72) rfl rfl rfl dX11_write_72 (fun j11 => ?_)
            refine j_aload_n (pc := 73) 0 dX11_write_73 rfl rfl ?_
            refine j_getI (pc := 74) fd_29_12 tw_4_78 dX11_write_74 ?_
            refine j_iadd (pc := 77) dX11_write_77 ?_
            refine j_bipush (pc := 78) (v := 7) (by decide) dX11_write_78 ?_
            refine j_iadd (pc := 80) dX11_write_80 ?_
            refine j_sipush (pc := 81) (v := 400) (by decide) dX11_write_81 ?_
            refine j_icmple (pc := 84) (tgt := 90) dX11_write_84 rfl (fun _ => ?_) (fun _ => ?_)
            · refine j_aload_n (pc := 90) 0 dX11_write_90 rfl rfl ?_
              refine j_getF (pc := 91) fd_29_15 tw_4_81 dX11_write_91 ?_
              refine j_iload_n (pc := 94) 1 dX11_write_94 rfl rfl ?_
              refine j_iald (pc := 95) rfl rfl rfl dX11_write_95 (fun j12 => ?_)
              refine j_leti (fun x13 => ?_)
              refine j_istore (pc := 96) (lv' := [(4, aI x13), (0, aR 29 v0), (1, aI v1), (2, aI v2), (3, aI v3)]) dX11_write_96 (Nat.le_of_ble_eq_true rfl) rfl ?_
              refine j_aload_n (pc := 98) 1 dX11_write_98 rfl rfl ?_
              refine j_iload_n (pc := 99) 2 dX11_write_99 rfl rfl ?_
              refine j_sipush (pc := 100) (v := 160) (by decide) dX11_write_100 ?_
              refine j_iload_n (pc := 103) 4 dX11_write_103 rfl rfl ?_
              refine j_iadd (pc := 104) dX11_write_104 ?_
              refine j_callVV (pc := 105) (As := [aI v1, aI (160 + v3)]) (st := []) (fun l => c11_lay l v0 v1 (160 + v3)) cs_RX11_256 rfl rfl rfl rfl (Nat.le_of_ble_eq_true rfl) ⟨(Nat.le_of_ble_eq_true rfl), (Nat.le_of_ble_eq_true rfl)⟩ ⟨(Nat.le_of_ble_eq_true rfl), (Nat.le_of_ble_eq_true rfl)⟩ dX11_write_105 (fun r14 σ15 => ?_)
              refine j_aload_n (pc := 108) 1 dX11_write_108 rfl rfl ?_
              refine j_iload_n (pc := 109) 2 dX11_write_109 rfl rfl ?_
              refine j_aload_n (pc := 110) 1 dX11_write_110 rfl rfl ?_
              refine j_getF (pc := 111) fd_29_4 tw_4_70 dX11_write_111 ?_
              refine j_iload_n (pc := 114) 3 dX11_write_114 rfl rfl ?_
              refine j_iald (pc := 115) rfl rfl rfl dX11_write_115 (fun j16 => ?_)
              refine j_callVV (pc := 116) (As := [aI v1, aI (gI σ15 34 v0 j16)]) (st := []) (fun l => c11_lay l v0 v1 (gI σ15 34 v0 j16)) cs_RX11_256 rfl rfl rfl rfl (Nat.le_of_ble_eq_true rfl) ⟨(Nat.le_of_ble_eq_true rfl), (Nat.le_of_ble_eq_true rfl)⟩ ⟨(Nat.le_of_ble_eq_true rfl), (Nat.le_of_ble_eq_true rfl)⟩ dX11_write_116 (fun r17 σ18 => ?_)
              refine j_aload_n (pc := 119) 1 dX11_write_119 rfl rfl ?_
              refine j_iload_n (pc := 120) 2 dX11_write_120 rfl rfl ?_
              refine j_aload_n (pc := 121) 1 dX11_write_121 rfl rfl ?_
              refine j_getF (pc := 122) fd_29_5 tw_4_71 dX11_write_122 ?_
              refine j_iload_n (pc := 125) 3 dX11_write_125 rfl rfl ?_
              refine j_iald (pc := 126) rfl rfl rfl dX11_write_126 (fun j19 => ?_)
              refine j_callVV (pc := 127) (As := [aI v1, aI (gI σ18 35 v0 j19)]) (st := []) (fun l => c11_lay l v0 v1 (gI σ18 35 v0 j19)) cs_RX11_256 rfl rfl rfl rfl (Nat.le_of_ble_eq_true rfl) ⟨(Nat.le_of_ble_eq_true rfl), (Nat.le_of_ble_eq_true rfl)⟩ ⟨(Nat.le_of_ble_eq_true rfl), (Nat.le_of_ble_eq_true rfl)⟩ dX11_write_127 (fun r20 σ21 => ?_)
              refine j_aload_n (pc := 130) 1 dX11_write_130 rfl rfl ?_
              refine j_iload_n (pc := 131) 2 dX11_write_131 rfl rfl ?_
              refine j_aload_n (pc := 132) 1 dX11_write_132 rfl rfl ?_
              refine j_getI (pc := 133) fd_29_12 tw_4_78 dX11_write_133 ?_
              refine j_sipush (pc := 136) (v := 255) (by decide) dX11_write_136 ?_
              refine j_iand (pc := 139) dX11_write_139 ?_
              refine j_callVV (pc := 140) (As := [aI v1, aI ((gI σ21 29 v0 12) &&& 255)]) (st := []) (fun l => c11_lay l v0 v1 ((gI σ21 29 v0 12) &&& 255)) cs_RX11_256 rfl rfl rfl rfl (Nat.le_of_ble_eq_true rfl) ⟨(Nat.le_of_ble_eq_true rfl), (Nat.le_of_ble_eq_true rfl)⟩ ⟨(Nat.le_of_ble_eq_true rfl), (Nat.le_of_ble_eq_true rfl)⟩ dX11_write_140 (fun r22 σ23 => ?_)
              refine j_aload_n (pc := 143) 1 dX11_write_143 rfl rfl ?_
              refine j_iload_n (pc := 144) 2 dX11_write_144 rfl rfl ?_
              refine j_aload_n (pc := 145) 1 dX11_write_145 rfl rfl ?_
              refine j_getI (pc := 146) fd_29_12 tw_4_78 dX11_write_146 ?_
              refine j_bipush (pc := 149) (v := 8) (by decide) dX11_write_149 ?_
              refine j_ishr (pc := 151) dX11_write_151 ?_
              refine j_callVV (pc := 152) (As := [aI v1, aI ((gI σ23 29 v0 12) >>> (8 &&& 31))]) (st := []) (fun l => c11_lay l v0 v1 ((gI σ23 29 v0 12) >>> (8 &&& 31))) cs_RX11_256 rfl rfl rfl rfl (Nat.le_of_ble_eq_true rfl) ⟨(Nat.le_of_ble_eq_true rfl), (Nat.le_of_ble_eq_true rfl)⟩ ⟨(Nat.le_of_ble_eq_true rfl), (Nat.le_of_ble_eq_true rfl)⟩ dX11_write_152 (fun r24 σ25 => ?_)
              refine j_iconst (pc := 155) (v := 0) (by decide) dX11_write_155 ?_
              refine j_istore (pc := 156) (lv' := [(5, aI 0), (4, aI x13), (0, aR 29 v0), (1, aI v1), (2, aI v2), (3, aI v3)]) dX11_write_156 (Nat.le_of_ble_eq_true rfl) rfl ?_
              refine j_sub [0, 1, 2, 3] (lv' := [(5, aI 0), (4, aI x13), (0, aR 29 v0), (1, aI v1)]) rfl ?_
              refine j_sub [2, 3, 1, 0] (lv' := [(0, aR 29 v0), (1, aI v1), (4, aI x13), (5, aI 0)]) rfl ?_
              exact jl11_write_158 N  N v0 v1 x13 0 σ25
            · refine j_bipush (pc := 87) (v := (-104)) (by decide) dX11_write_87 ?_
              exact j_ireturn (pc := 89) rfl (Nat.le_of_ble_eq_true rfl) (Nat.le_of_ble_eq_true rfl) dX11_write_89
          · refine j_aload_n (pc := 55) 0 dX11_write_55 rfl rfl ?_
            refine j_iconst (pc := 56) (v := 1) (by decide) dX11_write_56 ?_
            refine j_callVI (pc := 57) (As := [aI 1]) (st := []) (fun l => c11_meets l v0 1) cs_RX11_146 rfl rfl rfl rfl (Nat.le_of_ble_eq_true rfl) ⟨(Nat.le_of_ble_eq_true rfl), (Nat.le_of_ble_eq_true rfl)⟩ ⟨(Nat.le_of_ble_eq_true rfl), (Nat.le_of_ble_eq_true rfl)⟩ dX11_write_57 (fun r26 σ27 => ?_)
            exact j_ireturn (pc := 60) rfl (Nat.le_of_ble_eq_true rfl) (Nat.le_of_ble_eq_true rfl) dX11_write_60
        · refine j_bipush (pc := 43) (v := (-103)) (by decide) dX11_write_43 ?_
          exact j_ireturn (pc := 45) rfl (Nat.le_of_ble_eq_true rfl) (Nat.le_of_ble_eq_true rfl) dX11_write_45
      · refine j_bipush (pc := 31) (v := (-102)) (by decide) dX11_write_31 ?_
        exact j_ireturn (pc := 33) rfl (Nat.le_of_ble_eq_true rfl) (Nat.le_of_ble_eq_true rfl) dX11_write_33
    · refine j_bipush (pc := 16) (v := (-101)) (by decide) dX11_write_16 ?_
      exact j_ireturn (pc := 18) rfl (Nat.le_of_ble_eq_true rfl) (Nat.le_of_ble_eq_true rfl) dX11_write_18
theorem c11_write (l : Launch) (N : Nat) (v0 : Nat) (v1 : Int32) (v2 : Int32) (v3 : Int32) : Ctr l yX11_write cX11_write 6 (some .int) rm11_write eI [aR 29 v0, aI v1, aI v2, aI v3] (f11_write N v0 v1 v2 v3) := ctr_of (lv := [(0, aR 29 v0), (1, aI v1), (2, aI v2), (3, aI v3)]) (by decide +kernel) (fun _ => rfl) (fun _ => (Nat.le_of_ble_eq_true rfl)) (fun _ h => lvl_als h rfl) (fun _ σ _ => j11_write N v0 v1 v2 v3 σ)
