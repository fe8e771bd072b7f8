abbrev rm11_matching : Room := { frames := 0, cells := 0, slots := 0, locals := 0 }
set_option maxRecDepth 20000 in
set_option maxHeartbeats 4000000 in
theorem jb11_matching_3 {Γ : jX} {tg : Int32 × rS} (N : Nat) (K3 : Nat → Int32 → Int32 → Int32 → Int32 → Int32 → rS → Option (Int32 × rS)) (hK3 : ∀ (v0 : Nat) (v1 : Int32) (v2 : Int32) (v3 : Int32) (v4 : Int32) (v5 : Int32) (σ : rS), J Γ rm11_matching eI cX11_matching RX11 6 (some .int) tg 0 0 3 [(0, aR 29 v0), (1, aI v1), (2, aI v2), (3, aI v3), (4, aI v4), (5, aI v5)] [] σ (K3 v0 v1 v2 v3 v4 v5 σ)) (v0 : Nat) (v1 : Int32) (v2 : Int32) (v3 : Int32) (v4 : Int32) (v5 : Int32) (σ : rS) : J Γ rm11_matching eI cX11_matching RX11 6 (some .int) tg 0 0 3 [(0, aR 29 v0), (1, aI v1), (2, aI v2), (3, aI v3), (4, aI v4), (5, aI v5)] [] σ (B11_matching_3 N K3 v0 v1 v2 v3 v4 v5 σ) := by
  unfold B11_matching_3
  refine j_iload_n (pc := 3) 2 dX11_matching_3 rfl rfl ?_
  refine j_iload (pc := 4) 5 dX11_matching_4 rfl ?_
  refine j_iadd (pc := 6) dX11_matching_6 ?_
  refine j_aload_n (pc := 7) 0 dX11_matching_7 rfl rfl ?_
  refine j_getF (pc := 8) fd_29_15 tw_4_78 dX11_matching_8 ?_
  refine j_iload_n (pc := 11) 1 dX11_matching_11 rfl rfl ?_
  refine j_iald (pc := 12) rfl rfl rfl dX11_matching_12 (fun j1 => ?_)
  refine j_icmpge (pc := 13) (tgt := 70) dX11_matching_13 rfl (fun _ => ?_) (fun _ => ?_)
  · refine j_iload (pc := 70) 5 dX11_matching_70 rfl ?_
    exact j_ireturn (pc := 72) rfl (Nat.le_of_ble_eq_true rfl) (Nat.le_of_ble_eq_true rfl) dX11_matching_72
  · refine j_iload (pc := 16) 4 dX11_matching_16 rfl ?_
    refine j_iload (pc := 18) 5 dX11_matching_18 rfl ?_
    refine j_iadd (pc := 20) dX11_matching_20 ?_
    refine j_aload_n (pc := 21) 0 dX11_matching_21 rfl rfl ?_
    refine j_getF (pc := 22) fd_29_15 tw_4_78 dX11_matching_22 ?_
    refine j_iload_n (pc := 25) 3 dX11_matching_25 rfl rfl ?_
    refine j_iald (pc := 26) rfl rfl rfl dX11_matching_26 (fun j2 => ?_)
    refine j_icmpge (pc := 27) (tgt := 70) dX11_matching_27 rfl (fun _ => ?_) (fun _ => ?_)
    · refine j_iload (pc := 70) 5 dX11_matching_70 rfl ?_
      exact j_ireturn (pc := 72) rfl (Nat.le_of_ble_eq_true rfl) (Nat.le_of_ble_eq_true rfl) dX11_matching_72
    · refine j_aload_n (pc := 30) 0 dX11_matching_30 rfl rfl ?_
      refine j_getF (pc := 31) fd_29_14 tw_4_77 dX11_matching_31 ?_
      refine j_sipush (pc := 34) (v := 400) (by decide) dX11_matching_34 ?_
      refine j_iload_n (pc := 37) 1 dX11_matching_37 rfl rfl ?_
      refine j_imul (pc := 38) dX11_matching_38 ?_
      refine j_iload_n (pc := 39) 2 dX11_matching_39 rfl rfl ?_
      refine j_iadd (pc := 40) dX11_matching_40 ?_
      refine j_iload (pc := 41) 5 dX11_matching_41 rfl ?_
      refine j_iadd (pc := 43) dX11_matching_43 ?_
      refine j_iald (pc := 44) rfl rfl rfl dX11_matching_44 (fun j3 => ?_)
      refine j_aload_n (pc := 45) 0 dX11_matching_45 rfl rfl ?_
      refine j_getF (pc := 46) fd_29_14 tw_4_77 dX11_matching_46 ?_
      refine j_sipush (pc := 49) (v := 400) (by decide) dX11_matching_49 ?_
      refine j_iload_n (pc := 52) 3 dX11_matching_52 rfl rfl ?_
      refine j_imul (pc := 53) dX11_matching_53 ?_
      refine j_iload (pc := 54) 4 dX11_matching_54 rfl ?_
      refine j_iadd (pc := 56) dX11_matching_56 ?_
      refine j_iload (pc := 57) 5 dX11_matching_57 rfl ?_
      refine j_iadd (pc := 59) dX11_matching_59 ?_
      refine j_iald (pc := 60) rfl rfl rfl dX11_matching_60 (fun j4 => ?_)
      refine j_icmpne (pc := 61) (tgt := 70) dX11_matching_61 rfl (fun _ => ?_) (fun _ => ?_)
      · refine j_iload (pc := 70) 5 dX11_matching_70 rfl ?_
        exact j_ireturn (pc := 72) rfl (Nat.le_of_ble_eq_true rfl) (Nat.le_of_ble_eq_true rfl) dX11_matching_72
      · refine j_iinc (pc := 64) (w := 1) (lv' := [(5, aI (v5 + 1)), (0, aR 29 v0), (1, aI v1), (2, aI v2), (3, aI v3), (4, aI v4)]) 5 dX11_matching_64 rfl (by decide) (Nat.le_of_ble_eq_true rfl) rfl ?_
        refine j_goto (pc := 67) (tgt := 3) dX11_matching_67 rfl ?_
        refine j_sub [1, 2, 3, 4, 5, 0] (lv' := [(0, aR 29 v0), (1, aI v1), (2, aI v2), (3, aI v3), (4, aI v4), (5, aI (v5 + 1))]) rfl ?_
        exact hK3 v0 v1 v2 v3 v4 (v5 + 1) σ
theorem jl11_matching_3 {Γ : jX} {tg : Int32 × rS} (N : Nat) : ∀ (n : Nat) (v0 : Nat) (v1 : Int32) (v2 : Int32) (v3 : Int32) (v4 : Int32) (v5 : Int32) (σ : rS), J Γ rm11_matching eI cX11_matching RX11 6 (some .int) tg 0 0 3 [(0, aR 29 v0), (1, aI v1), (2, aI v2), (3, aI v3), (4, aI v4), (5, aI v5)] [] σ (L11_matching_3 N n v0 v1 v2 v3 v4 v5 σ) := by
  intro n
  induction n with
  | zero => intro v0 v1 v2 v3 v4 v5 σ; exact j_none
  | succ n ih => intro v0 v1 v2 v3 v4 v5 σ; exact jb11_matching_3 N (L11_matching_3 N n) ih v0 v1 v2 v3 v4 v5 σ
set_option maxRecDepth 20000 in
set_option maxHeartbeats 4000000 in
theorem j11_matching {Γ : jX} {tg : Int32 × rS} (N : Nat) (v0 : Nat) (v1 : Int32) (v2 : Int32) (v3 : Int32) (v4 : Int32) (σ : rS) : J Γ rm11_matching eI cX11_matching RX11 6 (some .int) tg 0 0 0 [(0, aR 29 v0), (1, aI v1), (2, aI v2), (3, aI v3), (4, aI v4)] [] σ (f11_matching N v0 v1 v2 v3 v4 σ) := by
  unfold f11_matching
  refine j_iconst (pc := 0) (v := 0) (by decide) dX11_matching_0 ?_
  refine j_istore (pc := 1) (lv' := [(5, aI 0), (0, aR 29 v0), (1, aI v1), (2, aI v2), (3, aI v3), (4, aI v4)]) dX11_matching_1 (Nat.le_of_ble_eq_true rfl) rfl ?_
  refine j_sub [1, 2, 3, 4, 5, 0] (lv' := [(0, aR 29 v0), (1, aI v1), (2, aI v2), (3, aI v3), (4, aI v4), (5, aI 0)]) rfl ?_
  exact jl11_matching_3 N  N v0 v1 v2 v3 v4 0 σ
theorem c11_matching (l : Launch) (N : Nat) (v0 : Nat) (v1 : Int32) (v2 : Int32) (v3 : Int32) (v4 : Int32) : Ctr l yX11_matching cX11_matching 6 (some .int) rm11_matching eI [aR 29 v0, aI v1, aI v2, aI v3, aI v4] (f11_matching N v0 v1 v2 v3 v4) := ctr_of (lv := [(0, aR 29 v0), (1, aI v1), (2, aI v2), (3, aI v3), (4, aI v4)]) (by decide +kernel) (fun _ => rfl) (fun _ => (Nat.le_of_ble_eq_true rfl)) (fun _ h => lvl_als h rfl) (fun _ σ _ => j11_matching N v0 v1 v2 v3 v4 σ)
theorem cs_RX11_309 : CaV RX11 RX11 309 yX11_matching cX11_matching 6 (some .int) 4 := ⟨tw_5_238, tw_6_0, tw_p43, tw_1_5, tw_6_1, rfl, by decide +kernel, by decide +kernel, by decide +kernel⟩
abbrev rm11_delta : Room := { frames := 2, cells := 0, slots := 0, locals := 46 }
set_option maxRecDepth 20000 in
set_option maxHeartbeats 4000000 in
theorem jb11_delta_264 {Γ : jX} {tg : Int32 × rS} (N : Nat) (K45 : Nat → Int32 → Int32 → Int32 → Int32 → Int32 → Int32 → rS → Option (Int32 × rS)) (hK45 : ∀ (v0 : Nat) (v1 : Int32) (v2 : Int32) (v3 : Int32) (v4 : Int32) (v5 : Int32) (v6 : Int32) (σ : rS), J Γ rm11_delta eI cX11_delta RX11 11 (some .int) tg 0 0 45 [(0, aR 29 v0), (1, aI v1), (2, aI v2), (3, aI v3), (4, aI v4), (5, aI v5), (6, aI v6)] [] σ (K45 v0 v1 v2 v3 v4 v5 v6 σ)) (v0 : Nat) (v1 : Int32) (v2 : Int32) (v3 : Int32) (v4 : Int32) (v5 : Int32) (v6 : Int32) (σ : rS) : J Γ rm11_delta eI cX11_delta RX11 11 (some .int) tg 0 0 264 [(0, aR 29 v0), (1, aI v1), (2, aI v2), (3, aI v3), (4, aI v4), (5, aI v5), (6, aI v6)] [] σ (B11_delta_264 N K45 v0 v1 v2 v3 v4 v5 v6 σ) := by
  unfold B11_delta_264
  refine j_goto (pc := 264) (tgt := 45) dX11_delta_264 rfl ?_
  exact hK45 v0 v1 v2 v3 v4 v5 v6 σ
set_option maxRecDepth 20000 in
set_option maxHeartbeats 4000000 in
theorem jb11_delta_213 {Γ : jX} {tg : Int32 × rS} (N : Nat) (K45 : Nat → Int32 → Int32 → Int32 → Int32 → Int32 → Int32 → rS → Option (Int32 × rS)) (hK45 : ∀ (v0 : Nat) (v1 : Int32) (v2 : Int32) (v3 : Int32) (v4 : Int32) (v5 : Int32) (v6 : Int32) (σ : rS), J Γ rm11_delta eI cX11_delta RX11 11 (some .int) tg 0 0 45 [(0, aR 29 v0), (1, aI v1), (2, aI v2), (3, aI v3), (4, aI v4), (5, aI v5), (6, aI v6)] [] σ (K45 v0 v1 v2 v3 v4 v5 v6 σ)) (v0 : Nat) (v1 : Int32) (v2 : Int32) (v3 : Int32) (v4 : Int32) (v5 : Int32) (v6 : Int32) (σ : rS) : J Γ rm11_delta eI cX11_delta RX11 11 (some .int) tg 0 0 213 [(0, aR 29 v0), (1, aI v1), (2, aI v2), (3, aI v3), (4, aI v4), (5, aI v5), (6, aI v6)] [] σ (B11_delta_213 N K45 v0 v1 v2 v3 v4 v5 v6 σ) := by
  unfold B11_delta_213
  refine j_aload_n (pc := 213) 0 dX11_delta_213 rfl rfl ?_
  refine j_getF (pc := 214) fd_29_35 tw_4_98 dX11_delta_214 ?_
  refine j_sipush (pc := 217) (v := 400) (by decide) dX11_delta_217 ?_
  refine j_iload_n (pc := 220) 3 dX11_delta_220 rfl rfl ?_
  refine j_imul (pc := 221) dX11_delta_221 ?_
  refine j_iload (pc := 222) 4 dX11_delta_222 rfl ?_
  refine j_iadd (pc := 224) dX11_delta_224 ?_
  refine j_iconst (pc := 225) (v := 1) (by decide) dX11_delta_225 ?_
  refine j_isub (pc := 226) dX11_delta_226 ?_
  refine j_dup2 (pc := 227) dX11_delta_227 rfl rfl ?_
  refine j_iald (pc := 228) rfl rfl rfl dX11_delta_228 (fun j1 => ?_)
  refine j_iconst (pc := 229) (v := 1) (by decide) dX11_delta_229 ?_
  refine j_iadd (pc := 230) dX11_delta_230 ?_
  refine j_iast (pc := 231) rfl rfl rfl dX11_delta_231 (fun j2 => ?_)
  refine j_lets (fun σ3 => ?_)
  refine j_aload_n (pc := 232) 0 dX11_delta_232 rfl rfl ?_
  refine j_getF (pc := 233) fd_29_36 tw_4_99 dX11_delta_233 ?_
  refine j_sipush (pc := 236) (v := 400) (by decide) dX11_delta_236 ?_
  refine j_iload_n (pc := 239) 3 dX11_delta_239 rfl rfl ?_
  refine j_imul (pc := 240) dX11_delta_240 ?_
  refine j_iload (pc := 241) 5 dX11_delta_241 rfl ?_
  refine j_iadd (pc := 243) dX11_delta_243 ?_
  refine j_aload_n (pc := 244) 0 dX11_delta_244 rfl rfl ?_
  refine j_getF (pc := 245) fd_29_14 tw_4_77 dX11_delta_245 ?_
  refine j_sipush (pc := 248) (v := 400) (by decide) dX11_delta_248 ?_
  refine j_iload_n (pc := 251) 2 dX11_delta_251 rfl rfl ?_
  refine j_imul (pc := 252) dX11_delta_252 ?_
  refine j_iload (pc := 253) 6 dX11_delta_253 rfl ?_
  refine j_iadd (pc := 255) dX11_delta_255 ?_
  refine j_iald (pc := 256) rfl rfl rfl dX11_delta_256 (fun j4 => ?_)
  refine j_iast (pc := 257) rfl rfl rfl dX11_delta_257 (fun j5 => ?_)
  refine j_lets (fun σ6 => ?_)
  refine j_iinc (pc := 258) (w := 1) (lv' := [(5, aI (v5 + 1)), (0, aR 29 v0), (1, aI v1), (2, aI v2), (3, aI v3), (4, aI v4), (6, aI v6)]) 5 dX11_delta_258 rfl (by decide) (Nat.le_of_ble_eq_true rfl) rfl ?_
  refine j_iinc (pc := 261) (w := 1) (lv' := [(6, aI (v6 + 1)), (5, aI (v5 + 1)), (0, aR 29 v0), (1, aI v1), (2, aI v2), (3, aI v3), (4, aI v4)]) 6 dX11_delta_261 rfl (by decide) (Nat.le_of_ble_eq_true rfl) rfl ?_
  refine j_sub [2, 3, 4, 5, 6, 1, 0] (lv' := [(0, aR 29 v0), (1, aI v1), (2, aI v2), (3, aI v3), (4, aI v4), (5, aI (v5 + 1)), (6, aI (v6 + 1))]) rfl ?_
  exact jb11_delta_264 N K45 hK45 v0 v1 v2 v3 v4 (v5 + 1) (v6 + 1) σ6
set_option maxRecDepth 20000 in
set_option maxHeartbeats 4000000 in
theorem jb11_delta_182 {Γ : jX} {tg : Int32 × rS} (N : Nat) (K45 : Nat → Int32 → Int32 → Int32 → Int32 → Int32 → Int32 → rS → Option (Int32 × rS)) (hK45 : ∀ (v0 : Nat) (v1 : Int32) (v2 : Int32) (v3 : Int32) (v4 : Int32) (v5 : Int32) (v6 : Int32) (σ : rS), J Γ rm11_delta eI cX11_delta RX11 11 (some .int) tg 0 0 45 [(0, aR 29 v0), (1, aI v1), (2, aI v2), (3, aI v3), (4, aI v4), (5, aI v5), (6, aI v6)] [] σ (K45 v0 v1 v2 v3 v4 v5 v6 σ)) (v0 : Nat) (v1 : Int32) (v2 : Int32) (v3 : Int32) (v4 : Int32) (v5 : Int32) (v6 : Int32) (σ : rS) : J Γ rm11_delta eI cX11_delta RX11 11 (some .int) tg 0 0 182 [(0, aR 29 v0), (1, aI v1), (2, aI v2), (3, aI v3), (4, aI v4), (5, aI v5), (6, aI v6)] [] σ (B11_delta_182 N K45 v0 v1 v2 v3 v4 v5 v6 σ) := by
  unfold B11_delta_182
  refine j_aload_n (pc := 182) 0 dX11_delta_182 rfl rfl ?_
  refine j_getF (pc := 183) fd_29_34 tw_4_97 dX11_delta_183 ?_
  refine j_sipush (pc := 186) (v := 400) (by decide) dX11_delta_186 ?_
  refine j_iload_n (pc := 189) 3 dX11_delta_189 rfl rfl ?_
  refine j_imul (pc := 190) dX11_delta_190 ?_
  refine j_iload (pc := 191) 4 dX11_delta_191 rfl ?_
  refine j_iadd (pc := 193) dX11_delta_193 ?_
  refine j_iconst (pc := 194) (v := (-1)) (by decide) dX11_delta_194 ?_
  refine j_iast (pc := 195) rfl rfl rfl dX11_delta_195 (fun j1 => ?_)
  refine j_lets (fun σ2 => ?_)
  refine j_aload_n (pc := 196) 0 dX11_delta_196 rfl rfl ?_
  refine j_getF (pc := 197) fd_29_35 tw_4_98 dX11_delta_197 ?_
  refine j_sipush (pc := 200) (v := 400) (by decide) dX11_delta_200 ?_
  refine j_iload_n (pc := 203) 3 dX11_delta_203 rfl rfl ?_
  refine j_imul (pc := 204) dX11_delta_204 ?_
  refine j_iload (pc := 205) 4 dX11_delta_205 rfl ?_
  refine j_iadd (pc := 207) dX11_delta_207 ?_
  refine j_iconst (pc := 208) (v := 0) (by decide) dX11_delta_208 ?_
  refine j_iast (pc := 209) rfl rfl rfl dX11_delta_209 (fun j3 => ?_)
  refine j_lets (fun σ4 => ?_)
  refine j_iinc (pc := 210) (w := 1) (lv' := [(4, aI (v4 + 1)), (0, aR 29 v0), (1, aI v1), (2, aI v2), (3, aI v3), (5, aI v5), (6, aI v6)]) 4 dX11_delta_210 rfl (by decide) (Nat.le_of_ble_eq_true rfl) rfl ?_
  refine j_sub [1, 2, 3, 4, 0, 5, 6] (lv' := [(0, aR 29 v0), (1, aI v1), (2, aI v2), (3, aI v3), (4, aI (v4 + 1)), (5, aI v5), (6, aI v6)]) rfl ?_
  exact jb11_delta_213 N K45 hK45 v0 v1 v2 v3 (v4 + 1) v5 v6 σ4
set_option maxRecDepth 20000 in
set_option maxHeartbeats 4000000 in
theorem jb11_delta_103 {Γ : jX} {tg : Int32 × rS} (N : Nat) (K45 : Nat → Int32 → Int32 → Int32 → Int32 → Int32 → Int32 → rS → Option (Int32 × rS)) (K65 : Nat → Int32 → Int32 → Int32 → Int32 → Int32 → Int32 → Int32 → Int32 → Int32 → rS → Option (Int32 × rS)) (hK45 : ∀ (v0 : Nat) (v1 : Int32) (v2 : Int32) (v3 : Int32) (v4 : Int32) (v5 : Int32) (v6 : Int32) (σ : rS), J Γ rm11_delta eI cX11_delta RX11 11 (some .int) tg 0 0 45 [(0, aR 29 v0), (1, aI v1), (2, aI v2), (3, aI v3), (4, aI v4), (5, aI v5), (6, aI v6)] [] σ (K45 v0 v1 v2 v3 v4 v5 v6 σ)) (hK65 : ∀ (v0 : Nat) (v1 : Int32) (v2 : Int32) (v3 : Int32) (v4 : Int32) (v5 : Int32) (v6 : Int32) (v7 : Int32) (v8 : Int32) (v9 : Int32) (σ : rS), J Γ rm11_delta eI cX11_delta RX11 11 (some .int) tg 0 0 65 [(0, aR 29 v0), (1, aI v1), (2, aI v2), (3, aI v3), (4, aI v4), (5, aI v5), (6, aI v6), (7, aI v7), (8, aI v8), (9, aI v9)] [] σ (K65 v0 v1 v2 v3 v4 v5 v6 v7 v8 v9 σ)) (v0 : Nat) (v1 : Int32) (v2 : Int32) (v3 : Int32) (v4 : Int32) (v5 : Int32) (v6 : Int32) (v7 : Int32) (v8 : Int32) (v9 : Int32) (σ : rS) : J Γ rm11_delta eI cX11_delta RX11 11 (some .int) tg 0 0 103 [(0, aR 29 v0), (1, aI v1), (2, aI v2), (3, aI v3), (4, aI v4), (5, aI v5), (6, aI v6), (7, aI v7), (8, aI v8), (9, aI v9)] [] σ (B11_delta_103 N K45 K65 v0 v1 v2 v3 v4 v5 v6 v7 v8 v9 σ) := by
  unfold B11_delta_103
  refine j_iinc (pc := 103) (w := 1) (lv' := [(9, aI (v9 + 1)), (0, aR 29 v0), (1, aI v1), (2, aI v2), (3, aI v3), (4, aI v4), (5, aI v5), (6, aI v6), (7, aI v7), (8, aI v8)]) 9 dX11_delta_103 rfl (by decide) (Nat.le_of_ble_eq_true rfl) rfl ?_
  refine j_goto (pc := 106) (tgt := 65) dX11_delta_106 rfl ?_
  refine j_sub [1, 2, 3, 4, 5, 6, 7, 8, 9, 0] (lv' := [(0, aR 29 v0), (1, aI v1), (2, aI v2), (3, aI v3), (4, aI v4), (5, aI v5), (6, aI v6), (7, aI v7), (8, aI v8), (9, aI (v9 + 1))]) rfl ?_
  exact hK65 v0 v1 v2 v3 v4 v5 v6 v7 v8 (v9 + 1) σ
set_option maxRecDepth 20000 in
set_option maxHeartbeats 4000000 in
theorem jb11_delta_65 {Γ : jX} {tg : Int32 × rS} (N : Nat) (K45 : Nat → Int32 → Int32 → Int32 → Int32 → Int32 → Int32 → rS → Option (Int32 × rS)) (K65 : Nat → Int32 → Int32 → Int32 → Int32 → Int32 → Int32 → Int32 → Int32 → Int32 → rS → Option (Int32 × rS)) (hK45 : ∀ (v0 : Nat) (v1 : Int32) (v2 : Int32) (v3 : Int32) (v4 : Int32) (v5 : Int32) (v6 : Int32) (σ : rS), J Γ rm11_delta eI cX11_delta RX11 11 (some .int) tg 0 0 45 [(0, aR 29 v0), (1, aI v1), (2, aI v2), (3, aI v3), (4, aI v4), (5, aI v5), (6, aI v6)] [] σ (K45 v0 v1 v2 v3 v4 v5 v6 σ)) (hK65 : ∀ (v0 : Nat) (v1 : Int32) (v2 : Int32) (v3 : Int32) (v4 : Int32) (v5 : Int32) (v6 : Int32) (v7 : Int32) (v8 : Int32) (v9 : Int32) (σ : rS), J Γ rm11_delta eI cX11_delta RX11 11 (some .int) tg 0 0 65 [(0, aR 29 v0), (1, aI v1), (2, aI v2), (3, aI v3), (4, aI v4), (5, aI v5), (6, aI v6), (7, aI v7), (8, aI v8), (9, aI v9)] [] σ (K65 v0 v1 v2 v3 v4 v5 v6 v7 v8 v9 σ)) (v0 : Nat) (v1 : Int32) (v2 : Int32) (v3 : Int32) (v4 : Int32) (v5 : Int32) (v6 : Int32) (v7 : Int32) (v8 : Int32) (v9 : Int32) (σ : rS) : J Γ rm11_delta eI cX11_delta RX11 11 (some .int) tg 0 0 65 [(0, aR 29 v0), (1, aI v1), (2, aI v2), (3, aI v3), (4, aI v4), (5, aI v5), (6, aI v6), (7, aI v7), (8, aI v8), (9, aI v9)] [] σ (B11_delta_65 N K45 K65 v0 v1 v2 v3 v4 v5 v6 v7 v8 v9 σ) := by
  unfold B11_delta_65
  refine j_iload (pc := 65) 9 dX11_delta_65 rfl ?_
  refine j_aload_n (pc := 67) 0 dX11_delta_67 rfl rfl ?_
  refine j_getF (pc := 68) fd_29_15 tw_4_78 dX11_delta_68 ?_
  refine j_iload_n (pc := 71) 1 dX11_delta_71 rfl rfl ?_
  refine j_iald (pc := 72) rfl rfl rfl dX11_delta_72 (fun j1 => ?_)
  refine j_icmpge (pc := 73) (tgt := 109) dX11_delta_73 rfl (fun _ => ?_) (fun _ => ?_)
  · refine j_iload (pc := 109) 7 dX11_delta_109 rfl ?_
    refine j_iconst (pc := 111) (v := (-1)) (by decide) dX11_delta_111 ?_
    refine j_icmpeq (pc := 112) (tgt := 158) dX11_delta_112 rfl (fun _ => ?_) (fun _ => ?_)
    · refine j_iload (pc := 158) 4 dX11_delta_158 rfl ?_
      refine j_ifeq (pc := 160) (tgt := 182) dX11_delta_160 rfl (fun _ => ?_) (fun _ => ?_)
      · refine j_sub [0, 1, 2, 3, 4, 5, 6] (lv' := [(0, aR 29 v0), (1, aI v1), (2, aI v2), (3, aI v3), (4, aI v4), (5, aI v5), (6, aI v6)]) rfl ?_
        exact jb11_delta_182 N K45 hK45 v0 v1 v2 v3 v4 v5 v6 σ
      · refine j_aload_n (pc := 163) 0 dX11_delta_163 rfl rfl ?_
        refine j_getF (pc := 164) fd_29_34 tw_4_97 dX11_delta_164 ?_
        refine j_sipush (pc := 167) (v := 400) (by decide) dX11_delta_167 ?_
        refine j_iload_n (pc := 170) 3 dX11_delta_170 rfl rfl ?_
        refine j_imul (pc := 171) dX11_delta_171 ?_
        refine j_iload (pc := 172) 4 dX11_delta_172 rfl ?_
        refine j_iadd (pc := 174) dX11_delta_174 ?_
        refine j_iconst (pc := 175) (v := 1) (by decide) dX11_delta_175 ?_
        refine j_isub (pc := 176) dX11_delta_176 ?_
        refine j_iald (pc := 177) rfl rfl rfl dX11_delta_177 (fun j2 => ?_)
        refine j_iconst (pc := 178) (v := (-1)) (by decide) dX11_delta_178 ?_
        refine j_icmpeq (pc := 179) (tgt := 213) dX11_delta_179 rfl (fun _ => ?_) (fun _ => ?_)
        · refine j_sub [0, 1, 2, 3, 4, 5, 6] (lv' := [(0, aR 29 v0), (1, aI v1), (2, aI v2), (3, aI v3), (4, aI v4), (5, aI v5), (6, aI v6)]) rfl ?_
          exact jb11_delta_213 N K45 hK45 v0 v1 v2 v3 v4 v5 v6 σ
        · refine j_sub [0, 1, 2, 3, 4, 5, 6] (lv' := [(0, aR 29 v0), (1, aI v1), (2, aI v2), (3, aI v3), (4, aI v4), (5, aI v5), (6, aI v6)]) rfl ?_
          exact jb11_delta_182 N K45 hK45 v0 v1 v2 v3 v4 v5 v6 σ
    · refine j_aload_n (pc := 115) 0 dX11_delta_115 rfl rfl ?_
      refine j_getF (pc := 116) fd_29_34 tw_4_97 dX11_delta_116 ?_
      refine j_sipush (pc := 119) (v := 400) (by decide) dX11_delta_119 ?_
      refine j_iload_n (pc := 122) 3 dX11_delta_122 rfl rfl ?_
      refine j_imul (pc := 123) dX11_delta_123 ?_
      refine j_iload (pc := 124) 4 dX11_delta_124 rfl ?_
      refine j_iadd (pc := 126) dX11_delta_126 ?_
      refine j_iload (pc := 127) 7 dX11_delta_127 rfl ?_
      refine j_iast (pc := 129) rfl rfl rfl dX11_delta_129 (fun j3 => ?_)
      refine j_lets (fun σ4 => ?_)
      refine j_aload_n (pc := 130) 0 dX11_delta_130 rfl rfl ?_
      refine j_getF (pc := 131) fd_29_35 tw_4_98 dX11_delta_131 ?_
      refine j_sipush (pc := 134) (v := 400) (by decide) dX11_delta_134 ?_
      refine j_iload_n (pc := 137) 3 dX11_delta_137 rfl rfl ?_
      refine j_imul (pc := 138) dX11_delta_138 ?_
      refine j_iload (pc := 139) 4 dX11_delta_139 rfl ?_
      refine j_iadd (pc := 141) dX11_delta_141 ?_
      refine j_iload (pc := 142) 8 dX11_delta_142 rfl ?_
      refine j_iast (pc := 144) rfl rfl rfl dX11_delta_144 (fun j5 => ?_)
      refine j_lets (fun σ6 => ?_)
      refine j_iinc (pc := 145) (w := 1) (lv' := [(4, aI (v4 + 1)), (0, aR 29 v0), (1, aI v1), (2, aI v2), (3, aI v3), (5, aI v5), (6, aI v6), (7, aI v7), (8, aI v8), (9, aI v9)]) 4 dX11_delta_145 rfl (by decide) (Nat.le_of_ble_eq_true rfl) rfl ?_
      refine j_iload (pc := 148) 6 dX11_delta_148 rfl ?_
      refine j_iload (pc := 150) 8 dX11_delta_150 rfl ?_
      refine j_iadd (pc := 152) dX11_delta_152 ?_
      refine j_leti (fun x7 => ?_)
      refine j_istore (pc := 153) (lv' := [(6, aI x7), (4, aI (v4 + 1)), (0, aR 29 v0), (1, aI v1), (2, aI v2), (3, aI v3), (5, aI v5), (7, aI v7), (8, aI v8), (9, aI v9)]) dX11_delta_153 (Nat.le_of_ble_eq_true rfl) rfl ?_
      refine j_sub [0, 1, 2, 3, 4, 5, 6] (lv' := [(6, aI x7), (4, aI (v4 + 1)), (0, aR 29 v0), (1, aI v1), (2, aI v2), (3, aI v3), (5, aI v5)]) rfl ?_
      refine j_goto (pc := 155) (tgt := 264) dX11_delta_155 rfl ?_
      refine j_sub [2, 3, 4, 5, 1, 6, 0] (lv' := [(0, aR 29 v0), (1, aI v1), (2, aI v2), (3, aI v3), (4, aI (v4 + 1)), (5, aI v5), (6, aI x7)]) rfl ?_
      exact jb11_delta_264 N K45 hK45 v0 v1 v2 v3 (v4 + 1) v5 x7 σ6
  · refine j_aload_n (pc := 76) 0 dX11_delta_76 rfl rfl ?_
    refine j_iload_n (pc := 77) 1 dX11_delta_77 rfl rfl ?_
    refine j_iload (pc := 78) 9 dX11_delta_78 rfl ?_
    refine j_iload_n (pc := 80) 2 dX11_delta_80 rfl rfl ?_
    refine j_iload (pc := 81) 6 dX11_delta_81 rfl ?_
    refine j_callVI (pc := 83) (As := [aI v1, aI v9, aI v2, aI v6]) (st := []) (fun l => c11_matching l N v0 v1 v9 v2 v6) cs_RX11_309 rfl rfl rfl rfl (Nat.le_of_ble_eq_true rfl) ⟨(Nat.le_of_ble_eq_true rfl), (Nat.le_of_ble_eq_true rfl)⟩ ⟨(Nat.le_of_ble_eq_true rfl), (Nat.le_of_ble_eq_true rfl)⟩ dX11_delta_83 (fun r8 σ9 => ?_)
    refine j_istore (pc := 86) (lv' := [(10, aI r8), (0, aR 29 v0), (1, aI v1), (2, aI v2), (3, aI v3), (4, aI v4), (5, aI v5), (6, aI v6), (7, aI v7), (8, aI v8), (9, aI v9)]) dX11_delta_86 (Nat.le_of_ble_eq_true rfl) rfl ?_
    refine j_iload (pc := 88) 0 dX11_delta_88 rfl ?_
    refine j_iload (pc := 90) 9 dX11_delta_90 rfl ?_
    refine j_icmple (pc := 92) (tgt := 103) dX11_delta_92 rfl (fun _ => ?_) (fun _ => ?_)
    · refine j_sub [1, 2, 3, 4, 5, 6, 7, 8, 9, 10] (lv' := [(0, aR 29 v0), (1, aI v1), (2, aI v2), (3, aI v3), (4, aI v4), (5, aI v5), (6, aI v6), (7, aI v7), (8, aI v8), (9, aI v9)]) rfl ?_
      exact jb11_delta_103 N K45 K65 hK45 hK65 v0 v1 v2 v3 v4 v5 v6 v7 v8 v9 σ9
    · refine j_iload (pc := 95) 0 dX11_delta_95 rfl ?_
      refine j_istore (pc := 97) (lv' := [(8, aI r8), (10, aI r8), (0, aR 29 v0), (1, aI v1), (2, aI v2), (3, aI v3), (4, aI v4), (5, aI v5), (6, aI v6), (7, aI v7), (9, aI v9)]) dX11_delta_97 (Nat.le_of_ble_eq_true rfl) rfl ?_
      refine j_sub [0, 2, 3, 4, 5, 6, 7, 8, 10] (lv' := [(8, aI r8), (0, aR 29 v0), (1, aI v1), (2, aI v2), (3, aI v3), (4, aI v4), (5, aI v5), (6, aI v6), (9, aI v9)]) rfl ?_
      refine j_iload (pc := 99) 8 dX11_delta_99 rfl ?_
      refine j_istore (pc := 101) (lv' := [(7, aI v9), (8, aI r8), (0, aR 29 v0), (1, aI v1), (2, aI v2), (3, aI v3), (4, aI v4), (5, aI v5), (6, aI v6), (9, aI v9)]) dX11_delta_101 (Nat.le_of_ble_eq_true rfl) rfl ?_
      refine j_sub [2, 3, 4, 5, 6, 7, 8, 0, 1, 9] (lv' := [(0, aR 29 v0), (1, aI v1), (2, aI v2), (3, aI v3), (4, aI v4), (5, aI v5), (6, aI v6), (7, aI v9), (8, aI r8), (9, aI v9)]) rfl ?_
      exact jb11_delta_103 N K45 K65 hK45 hK65 v0 v1 v2 v3 v4 v5 v6 v9 r8 v9 σ9
theorem jl11_delta_65 {Γ : jX} {tg : Int32 × rS} (N : Nat) (K45 : Nat → Int32 → Int32 → Int32 → Int32 → Int32 → Int32 → rS → Option (Int32 × rS)) (hK45 : ∀ (v0 : Nat) (v1 : Int32) (v2 : Int32) (v3 : Int32) (v4 : Int32) (v5 : Int32) (v6 : Int32) (σ : rS), J Γ rm11_delta eI cX11_delta RX11 11 (some .int) tg 0 0 45 [(0, aR 29 v0), (1, aI v1), (2, aI v2), (3, aI v3), (4, aI v4), (5, aI v5), (6, aI v6)] [] σ (K45 v0 v1 v2 v3 v4 v5 v6 σ)) : ∀ (n : Nat) (v0 : Nat) (v1 : Int32) (v2 : Int32) (v3 : Int32) (v4 : Int32) (v5 : Int32) (v6 : Int32) (v7 : Int32) (v8 : Int32) (v9 : Int32) (σ : rS), J Γ rm11_delta eI cX11_delta RX11 11 (some .int) tg 0 0 65 [(0, aR 29 v0), (1, aI v1), (2, aI v2), (3, aI v3), (4, aI v4), (5, aI v5), (6, aI v6), (7, aI v7), (8, aI v8), (9, aI v9)] [] σ (L11_delta_65 N K45 n v0 v1 v2 v3 v4 v5 v6 v7 v8 v9 σ) := by
  intro n
  induction n with
  | zero => intro v0 v1 v2 v3 v4 v5 v6 v7 v8 v9 σ; exact j_none
  | succ n ih => intro v0 v1 v2 v3 v4 v5 v6 v7 v8 v9 σ; exact jb11_delta_65 N K45 (L11_delta_65 N K45 n) hK45 ih v0 v1 v2 v3 v4 v5 v6 v7 v8 v9 σ
set_option maxRecDepth 20000 in
set_option maxHeartbeats 4000000 in
theorem jb11_delta_45 {Γ : jX} {tg : Int32 × rS} (N : Nat) (K45 : Nat → Int32 → Int32 → Int32 → Int32 → Int32 → Int32 → rS → Option (Int32 × rS)) (hK45 : ∀ (v0 : Nat) (v1 : Int32) (v2 : Int32) (v3 : Int32) (v4 : Int32) (v5 : Int32) (v6 : Int32) (σ : rS), J Γ rm11_delta eI cX11_delta RX11 11 (some .int) tg 0 0 45 [(0, aR 29 v0), (1, aI v1), (2, aI v2), (3, aI v3), (4, aI v4), (5, aI v5), (6, aI v6)] [] σ (K45 v0 v1 v2 v3 v4 v5 v6 σ)) (v0 : Nat) (v1 : Int32) (v2 : Int32) (v3 : Int32) (v4 : Int32) (v5 : Int32) (v6 : Int32) (σ : rS) : J Γ rm11_delta eI cX11_delta RX11 11 (some .int) tg 0 0 45 [(0, aR 29 v0), (1, aI v1), (2, aI v2), (3, aI v3), (4, aI v4), (5, aI v5), (6, aI v6)] [] σ (B11_delta_45 N K45 v0 v1 v2 v3 v4 v5 v6 σ) := by
  unfold B11_delta_45
  refine j_iload (pc := 45) 6 dX11_delta_45 rfl ?_
  refine j_aload_n (pc := 47) 0 dX11_delta_47 rfl rfl ?_
  refine j_getF (pc := 48) fd_29_15 tw_4_78 dX11_delta_48 ?_
  refine j_iload_n (pc := 51) 2 dX11_delta_51 rfl rfl ?_
  refine j_iald (pc := 52) rfl rfl rfl dX11_delta_52 (fun j1 => ?_)
  refine j_icmpge (pc := 53) (tgt := 267) dX11_delta_53 rfl (fun _ => ?_) (fun _ => ?_)
  · refine j_aload_n (pc := 267) 0 dX11_delta_267 rfl rfl ?_
    refine j_getF (pc := 268) fd_29_33 tw_4_96 dX11_delta_268 ?_
    refine j_iload_n (pc := 271) 3 dX11_delta_271 rfl rfl ?_
    refine j_iload (pc := 272) 4 dX11_delta_272 rfl ?_
    refine j_iast (pc := 274) rfl rfl rfl dX11_delta_274 (fun j2 => ?_)
    refine j_lets (fun σ3 => ?_)
    refine j_aload_n (pc := 275) 0 dX11_delta_275 rfl rfl ?_
    refine j_getF (pc := 276) fd_29_31 tw_4_94 dX11_delta_276 ?_
    refine j_iload_n (pc := 279) 3 dX11_delta_279 rfl rfl ?_
    refine j_aload_n (pc := 280) 0 dX11_delta_280 rfl rfl ?_
    refine j_getF (pc := 281) fd_29_15 tw_4_78 dX11_delta_281 ?_
    refine j_iload_n (pc := 284) 1 dX11_delta_284 rfl rfl ?_
    refine j_iald (pc := 285) rfl rfl rfl dX11_delta_285 (fun j4 => ?_)
    refine j_iast (pc := 286) rfl rfl rfl dX11_delta_286 (fun j5 => ?_)
    refine j_lets (fun σ6 => ?_)
    refine j_aload_n (pc := 287) 0 dX11_delta_287 rfl rfl ?_
    refine j_getF (pc := 288) fd_29_32 tw_4_95 dX11_delta_288 ?_
    refine j_iload_n (pc := 291) 3 dX11_delta_291 rfl rfl ?_
    refine j_aload_n (pc := 292) 0 dX11_delta_292 rfl rfl ?_
    refine j_iload_n (pc := 293) 1 dX11_delta_293 rfl rfl ?_
    refine j_iconst (pc := 294) (v := 0) (by decide) dX11_delta_294 ?_
    refine j_aload_n (pc := 295) 0 dX11_delta_295 rfl rfl ?_
    refine j_getF (pc := 296) fd_29_15 tw_4_78 dX11_delta_296 ?_
    refine j_iload_n (pc := 299) 1 dX11_delta_299 rfl rfl ?_
    refine j_iald (pc := 300) rfl rfl rfl dX11_delta_300 (fun j7 => ?_)
    refine j_callVI (pc := 301) (As := [aI v1, aI 0, aI (gI σ6 45 v0 j7)]) (st := [aI v3, aR 62 v0]) (fun l => c11_sumOf l N v0 v1 0 (gI σ6 45 v0 j7)) cs_RX11_259 rfl rfl rfl rfl (Nat.le_of_ble_eq_true rfl) ⟨(Nat.le_of_ble_eq_true rfl), (Nat.le_of_ble_eq_true rfl)⟩ ⟨(Nat.le_of_ble_eq_true rfl), (Nat.le_of_ble_eq_true rfl)⟩ dX11_delta_301 (fun r8 σ9 => ?_)
    refine j_iast (pc := 304) rfl rfl rfl dX11_delta_304 (fun j10 => ?_)
    refine j_lets (fun σ11 => ?_)
    refine j_aload_n (pc := 305) 0 dX11_delta_305 rfl rfl ?_
    refine j_dup (pc := 306) dX11_delta_306 rfl ?_
    refine j_getI (pc := 307) fd_29_30 tw_4_93 dX11_delta_307 ?_
    refine j_iconst (pc := 310) (v := 1) (by decide) dX11_delta_310 ?_
    refine j_iadd (pc := 311) dX11_delta_311 ?_
    refine j_putI (pc := 312) fd_29_30 rfl rfl tw_4_93 dX11_delta_312 ?_
    refine j_lets (fun σ12 => ?_)
    refine j_iload_n (pc := 315) 3 dX11_delta_315 rfl rfl ?_
    exact j_ireturn (pc := 316) rfl (Nat.le_of_ble_eq_true rfl) (Nat.le_of_ble_eq_true rfl) dX11_delta_316
  · refine j_iconst (pc := 56) (v := (-1)) (by decide) dX11_delta_56 ?_
    refine j_istore (pc := 57) (lv' := [(7, aI (-1)), (0, aR 29 v0), (1, aI v1), (2, aI v2), (3, aI v3), (4, aI v4), (5, aI v5), (6, aI v6)]) dX11_delta_57 (Nat.le_of_ble_eq_true rfl) rfl ?_
    refine j_iconst (pc := 59) (v := 3) (by decide) dX11_delta_59 ?_
    refine j_istore (pc := 60) (lv' := [(8, aI 3), (7, aI (-1)), (0, aR 29 v0), (1, aI v1), (2, aI v2), (3, aI v3), (4, aI v4), (5, aI v5), (6, aI v6)]) dX11_delta_60 (Nat.le_of_ble_eq_true rfl) rfl ?_
    refine j_iconst (pc := 62) (v := 0) (by decide) dX11_delta_62 ?_
    refine j_istore (pc := 63) (lv' := [(9, aI 0), (8, aI 3), (7, aI (-1)), (0, aR 29 v0), (1, aI v1), (2, aI v2), (3, aI v3), (4, aI v4), (5, aI v5), (6, aI v6)]) dX11_delta_63 (Nat.le_of_ble_eq_true rfl) rfl ?_
    refine j_sub [3, 4, 5, 6, 7, 8, 9, 2, 1, 0] (lv' := [(0, aR 29 v0), (1, aI v1), (2, aI v2), (3, aI v3), (4, aI v4), (5, aI v5), (6, aI v6), (7, aI (-1)), (8, aI 3), (9, aI 0)]) rfl ?_
    exact jl11_delta_65 N K45 hK45 N v0 v1 v2 v3 v4 v5 v6 (-1) 3 0 σ
theorem jl11_delta_45 {Γ : jX} {tg : Int32 × rS} (N : Nat) : ∀ (n : Nat) (v0 : Nat) (v1 : Int32) (v2 : Int32) (v3 : Int32) (v4 : Int32) (v5 : Int32) (v6 : Int32) (σ : rS), J Γ rm11_delta eI cX11_delta RX11 11 (some .int) tg 0 0 45 [(0, aR 29 v0), (1, aI v1), (2, aI v2), (3, aI v3), (4, aI v4), (5, aI v5), (6, aI v6)] [] σ (L11_delta_45 N n v0 v1 v2 v3 v4 v5 v6 σ) := by
  intro n
  induction n with
  | zero => intro v0 v1 v2 v3 v4 v5 v6 σ; exact j_none
  | succ n ih => intro v0 v1 v2 v3 v4 v5 v6 σ; exact jb11_delta_45 N (L11_delta_45 N n) ih v0 v1 v2 v3 v4 v5 v6 σ
set_option maxRecDepth 20000 in
set_option maxHeartbeats 4000000 in
theorem j11_delta {Γ : jX} {tg : Int32 × rS} (N : Nat) (v0 : Nat) (v1 : Int32) (v2 : Int32) (σ : rS) : J Γ rm11_delta eI cX11_delta RX11 11 (some .int) tg 0 0 0 [(0, aR 29 v0), (1, aI v1), (2, aI v2)] [] σ (f11_delta N v0 v1 v2 σ) := by
  unfold f11_delta
  refine j_aload_n (pc := 0) 0 dX11_delta_0 rfl rfl ?_
  refine j_iload_n (pc := 1) 1 dX11_delta_1 rfl rfl ?_
  refine j_callVZ (pc := 2) (As := [aI v1]) (st := []) (fun l => c11_isStream l v0 v1) cs_RX11_247 rfl rfl rfl rfl (Nat.le_of_ble_eq_true rfl) ⟨(Nat.le_of_ble_eq_true rfl), (Nat.le_of_ble_eq_true rfl)⟩ ⟨(Nat.le_of_ble_eq_true rfl), (Nat.le_of_ble_eq_true rfl)⟩ dX11_delta_2 (fun r1 σ2 => ?_)
  refine j_ifeqB (pc := 5) (tgt := 16) dX11_delta_5 rfl (fun _ => ?_) (fun _ => ?_)
  · refine j_bipush (pc := 16) (v := (-101)) (by decide) dX11_delta_16 ?_
    exact j_ireturn (pc := 18) rfl (Nat.le_of_ble_eq_true rfl) (Nat.le_of_ble_eq_true rfl) dX11_delta_18
  · refine j_aload_n (pc := 8) 0 dX11_delta_8 rfl rfl ?_
    refine j_iload_n (pc := 9) 2 dX11_delta_9 rfl rfl ?_
    refine j_callVZ (pc := 10) (As := [aI v2]) (st := []) (fun l => c11_isStream l v0 v2) cs_RX11_247 rfl rfl rfl rfl (Nat.le_of_ble_eq_true rfl) ⟨(Nat.le_of_ble_eq_true rfl), (Nat.le_of_ble_eq_true rfl)⟩ ⟨(Nat.le_of_ble_eq_true rfl), (Nat.le_of_ble_eq_true rfl)⟩ dX11_delta_10 (fun r3 σ4 => ?_)
    refine j_ifneB (pc := 13) (tgt := 19) dX11_delta_13 rfl (fun _ => ?_) (fun _ => ?_)
    · refine j_aload_n (pc := 19) 0 dX11_delta_19 rfl rfl ?_
      refine j_getI (pc := 20) fd_29_30 tw_4_93 dX11_delta_20 ?_
      refine j_bipush (pc := 23) (v := 16) (by decide) dX11_delta_23 ?_
      refine j_icmpne (pc := 25) (tgt := 31) dX11_delta_25 rfl (fun _ => ?_) (fun _ => ?_)
      · refine j_aload_n (pc := 31) 0 dX11_delta_31 rfl rfl ?_
        refine j_getI (pc := 32) fd_29_30 tw_4_93 dX11_delta_32 ?_
        refine j_leti (fun x5 => ?_)
        refine j_istore_n (pc := 35) (lv' := [(3, aI x5), (0, aR 29 v0), (1, aI v1), (2, aI v2)]) dX11_delta_35 rfl (Nat.le_of_ble_eq_true rfl) rfl ?_
        refine j_iconst (pc := 36) (v := 0) (by decide) dX11_delta_36 ?_
        refine j_istore (pc := 37) (lv' := [(4, aI 0), (3, aI x5), (0, aR 29 v0), (1, aI v1), (2, aI v2)]) dX11_delta_37 (Nat.le_of_ble_eq_true rfl) rfl ?_
        refine j_iconst (pc := 39) (v := 0) (by decide) dX11_delta_39 ?_
        refine j_istore (pc := 40) (lv' := [(5, aI 0), (4, aI 0), (3, aI x5), (0, aR 29 v0), (1, aI v1), (2, aI v2)]) dX11_delta_40 (Nat.le_of_ble_eq_true rfl) rfl ?_
        refine j_iconst (pc := 42) (v := 0) (by decide) dX11_delta_42 ?_
        refine j_istore (pc := 43) (lv' := [(6, aI 0), (5, aI 0), (4, aI 0), (3, aI x5), (0, aR 29 v0), (1, aI v1), (2, aI v2)]) dX11_delta_43 (Nat.le_of_ble_eq_true rfl) rfl ?_
        refine j_sub [4, 5, 6, 3, 2, 1, 0] (lv' := [(0, aR 29 v0), (1, aI v1), (2, aI v2), (3, aI x5), (4, aI 0), (5, aI 0), (6, aI 0)]) rfl ?_
        exact jl11_delta_45 N  N v0 v1 v2 x5 0 0 0 σ4
      · refine j_bipush (pc := 28) (v := (-104)) (by decide) dX11_delta_28 ?_
        exact j_ireturn (pc := 30) rfl (Nat.le_of_ble_eq_true rfl) (Nat.le_of_ble_eq_true rfl) dX11_delta_30
    · refine j_bipush (pc := 16) (v := (-101)) (by decide) dX11_delta_16 ?_
      exact j_ireturn (pc := 18) rfl (Nat.le_of_ble_eq_true rfl) (Nat.le_of_ble_eq_true rfl) dX11_delta_18
theorem c11_delta (l : Launch) (N : Nat) (v0 : Nat) (v1 : Int32) (v2 : Int32) : Ctr l yX11_delta cX11_delta 11 (some .int) rm11_delta eI [aR 29 v0, aI v1, aI v2] (f11_delta N v0 v1 v2) := ctr_of (lv := [(0, aR 29 v0), (1, aI v1), (2, aI v2)]) (by decide +kernel) (fun _ => rfl) (fun _ => (Nat.le_of_ble_eq_true rfl)) (fun _ h => lvl_als h rfl) (fun _ σ _ => j11_delta N v0 v1 v2 σ)
abbrev rm11_digest : Room := { frames := 1, cells := 0, slots := 0, locals := 25 }
set_option maxRecDepth 20000 in
set_option maxHeartbeats 4000000 in
theorem jb11_digest_243 {Γ : jX} {tg : Int64 × rS} (N : Nat) (K215 : Nat → Int64 → Int32 → rS → Option (Int64 × rS)) (K243 : Nat → Int64 → Int32 → Int32 → rS → Option (Int64 × rS)) (hK215 : ∀ (v0 : Nat) (v1 : Int64) (v3 : Int32) (σ : rS), J Γ rm11_digest eL cX11_digest RX11 5 (some .long) tg 0 0 215 [(0, aR 29 v0), (1, aL v1), (3, aI v3)] [] σ (K215 v0 v1 v3 σ)) (hK243 : ∀ (v0 : Nat) (v1 : Int64) (v3 : Int32) (v4 : Int32) (σ : rS), J Γ rm11_digest eL cX11_digest RX11 5 (some .long) tg 0 0 243 [(0, aR 29 v0), (1, aL v1), (3, aI v3), (4, aI v4)] [] σ (K243 v0 v1 v3 v4 σ)) (v0 : Nat) (v1 : Int64) (v3 : Int32) (v4 : Int32) (σ : rS) : J Γ rm11_digest eL cX11_digest RX11 5 (some .long) tg 0 0 243 [(0, aR 29 v0), (1, aL v1), (3, aI v3), (4, aI v4)] [] σ (B11_digest_243 N K215 K243 v0 v1 v3 v4 σ) := by
  unfold B11_digest_243
  refine j_iload (pc := 243) 3 dX11_digest_243 rfl ?_
  refine j_bipush (pc := 245) (v := 12) (by decide) dX11_digest_245 ?_
  refine j_iload_n (pc := 247) 2 dX11_digest_247 rfl rfl ?_
  refine j_imul (pc := 248) dX11_digest_248 ?_
  refine j_aload_n (pc := 249) 0 dX11_digest_249 rfl rfl ?_
  refine j_getF (pc := 250) fd_29_27 tw_4_90 dX11_digest_250 ?_
  refine j_iload_n (pc := 253) 2 dX11_digest_253 rfl rfl ?_
  refine j_iald (pc := 254) rfl rfl rfl dX11_digest_254 (fun j1 => ?_)
  refine j_iadd (pc := 255) dX11_digest_255 ?_
  refine j_icmpge (pc := 256) (tgt := 299) dX11_digest_256 rfl (fun _ => ?_) (fun _ => ?_)
  · refine j_iinc (pc := 299) (w := 1) (lv' := [(3, aI (v3 + 1)), (0, aR 29 v0), (1, aL v1), (4, aI v4)]) 2 dX11_digest_299 rfl (by decide) (Nat.le_of_ble_eq_true rfl) rfl ?_
    refine j_goto (pc := 302) (tgt := 215) dX11_digest_302 rfl ?_
    refine j_sub [1, 2, 0] (lv' := [(0, aR 29 v0), (1, aL v1), (3, aI (v3 + 1))]) rfl ?_
    exact hK215 v0 v1 (v3 + 1) σ
  · refine j_ldc2 (pc := 259) tw_6_40 dX11_digest_259 ?_
    refine j_lload_n (pc := 262) 1 dX11_digest_262 rfl rfl ?_
    refine j_lmul (pc := 263) dX11_digest_263 ?_
    refine j_aload_n (pc := 264) 0 dX11_digest_264 rfl rfl ?_
    refine j_getF (pc := 265) fd_29_28 tw_4_91 dX11_digest_265 ?_
    refine j_iload (pc := 268) 3 dX11_digest_268 rfl ?_
    refine j_lald (pc := 270) rfl rfl rfl dX11_digest_270 (fun j2 => ?_)
    refine j_ladd (pc := 271) dX11_digest_271 ?_
    refine j_letl (fun x3 => ?_)
    refine j_lstore_n (pc := 272) (lv' := [(1, aL x3), (0, aR 29 v0), (3, aI v3), (4, aI v4)]) dX11_digest_272 rfl (Nat.le_of_ble_eq_true rfl) rfl ?_
    refine j_ldc2 (pc := 273) tw_6_40 dX11_digest_273 ?_
    refine j_lload_n (pc := 276) 0 dX11_digest_276 rfl rfl ?_
    refine j_lmul (pc := 277) dX11_digest_277 ?_
    refine j_aload_n (pc := 278) 1 dX11_digest_278 rfl rfl ?_
    refine j_getF (pc := 279) fd_29_21 tw_4_84 dX11_digest_279 ?_
    refine j_aload_n (pc := 282) 1 dX11_digest_282 rfl rfl ?_
    refine j_getF (pc := 283) fd_29_29 tw_4_92 dX11_digest_283 ?_
    refine j_iload (pc := 286) 3 dX11_digest_286 rfl ?_
    refine j_iald (pc := 288) rfl rfl rfl dX11_digest_288 (fun j4 => ?_)
    refine j_iald (pc := 289) rfl rfl rfl dX11_digest_289 (fun j5 => ?_)
    refine j_i2l (pc := 290) dX11_digest_290 ?_
    refine j_ladd (pc := 291) dX11_digest_291 ?_
    refine j_letl (fun x6 => ?_)
    refine j_lstore_n (pc := 292) (lv' := [(1, aL x6), (0, aR 29 v0), (3, aI v3), (4, aI v4)]) dX11_digest_292 rfl (Nat.le_of_ble_eq_true rfl) rfl ?_
    refine j_iinc (pc := 293) (w := 1) (lv' := [(4, aI (v4 + 1)), (1, aL x6), (0, aR 29 v0), (3, aI v3)]) 3 dX11_digest_293 rfl (by decide) (Nat.le_of_ble_eq_true rfl) rfl ?_
    refine j_goto (pc := 296) (tgt := 243) dX11_digest_296 rfl ?_
    refine j_sub [2, 1, 3, 0] (lv' := [(0, aR 29 v0), (1, aL x6), (3, aI v3), (4, aI (v4 + 1))]) rfl ?_
    exact hK243 v0 x6 v3 (v4 + 1) σ
theorem jl11_digest_243 {Γ : jX} {tg : Int64 × rS} (N : Nat) (K215 : Nat → Int64 → Int32 → rS → Option (Int64 × rS)) (hK215 : ∀ (v0 : Nat) (v1 : Int64) (v3 : Int32) (σ : rS), J Γ rm11_digest eL cX11_digest RX11 5 (some .long) tg 0 0 215 [(0, aR 29 v0), (1, aL v1), (3, aI v3)] [] σ (K215 v0 v1 v3 σ)) : ∀ (n : Nat) (v0 : Nat) (v1 : Int64) (v3 : Int32) (v4 : Int32) (σ : rS), J Γ rm11_digest eL cX11_digest RX11 5 (some .long) tg 0 0 243 [(0, aR 29 v0), (1, aL v1), (3, aI v3), (4, aI v4)] [] σ (L11_digest_243 N K215 n v0 v1 v3 v4 σ) := by
  intro n
  induction n with
  | zero => intro v0 v1 v3 v4 σ; exact j_none
  | succ n ih => intro v0 v1 v3 v4 σ; exact jb11_digest_243 N K215 (L11_digest_243 N K215 n) hK215 ih v0 v1 v3 v4 σ
set_option maxRecDepth 20000 in
set_option maxHeartbeats 4000000 in
theorem jb11_digest_215 {Γ : jX} {tg : Int64 × rS} (N : Nat) (K215 : Nat → Int64 → Int32 → rS → Option (Int64 × rS)) (hK215 : ∀ (v0 : Nat) (v1 : Int64) (v3 : Int32) (σ : rS), J Γ rm11_digest eL cX11_digest RX11 5 (some .long) tg 0 0 215 [(0, aR 29 v0), (1, aL v1), (3, aI v3)] [] σ (K215 v0 v1 v3 σ)) (v0 : Nat) (v1 : Int64) (v3 : Int32) (σ : rS) : J Γ rm11_digest eL cX11_digest RX11 5 (some .long) tg 0 0 215 [(0, aR 29 v0), (1, aL v1), (3, aI v3)] [] σ (B11_digest_215 N K215 v0 v1 v3 σ) := by
  unfold B11_digest_215
  refine j_iload_n (pc := 215) 2 dX11_digest_215 rfl rfl ?_
  refine j_aload_n (pc := 216) 0 dX11_digest_216 rfl rfl ?_
  refine j_getI (pc := 217) fd_29_26 tw_4_89 dX11_digest_217 ?_
  refine j_icmpge (pc := 220) (tgt := 305) dX11_digest_220 rfl (fun _ => ?_) (fun _ => ?_)
  · refine j_ldc2 (pc := 305) tw_6_40 dX11_digest_305 ?_
    refine j_lload_n (pc := 308) 1 dX11_digest_308 rfl rfl ?_
    refine j_lmul (pc := 309) dX11_digest_309 ?_
    refine j_aload_n (pc := 310) 0 dX11_digest_310 rfl rfl ?_
    refine j_getI (pc := 311) fd_29_30 tw_4_93 dX11_digest_311 ?_
    refine j_i2l (pc := 314) dX11_digest_314 ?_
    refine j_ladd (pc := 315) dX11_digest_315 ?_
    exact j_lreturn (pc := 316) rfl (Nat.le_of_ble_eq_true rfl) (Nat.le_of_ble_eq_true rfl) dX11_digest_316
  · refine j_ldc2 (pc := 223) tw_6_40 dX11_digest_223 ?_
    refine j_lload_n (pc := 226) 1 dX11_digest_226 rfl rfl ?_
    refine j_lmul (pc := 227) dX11_digest_227 ?_
    refine j_aload_n (pc := 228) 0 dX11_digest_228 rfl rfl ?_
    refine j_getF (pc := 229) fd_29_27 tw_4_90 dX11_digest_229 ?_
    refine j_iload_n (pc := 232) 2 dX11_digest_232 rfl rfl ?_
    refine j_iald (pc := 233) rfl rfl rfl dX11_digest_233 (fun j1 => ?_)
    refine j_i2l (pc := 234) dX11_digest_234 ?_
    refine j_ladd (pc := 235) dX11_digest_235 ?_
    refine j_letl (fun x2 => ?_)
    refine j_lstore_n (pc := 236) (lv' := [(1, aL x2), (0, aR 29 v0), (3, aI v3)]) dX11_digest_236 rfl (Nat.le_of_ble_eq_true rfl) rfl ?_
    refine j_bipush (pc := 237) (v := 12) (by decide) dX11_digest_237 ?_
    refine j_iload_n (pc := 239) 2 dX11_digest_239 rfl rfl ?_
    refine j_imul (pc := 240) dX11_digest_240 ?_
    refine j_leti (fun x3 => ?_)
    refine j_istore (pc := 241) (lv' := [(4, aI x3), (1, aL x2), (0, aR 29 v0), (3, aI v3)]) dX11_digest_241 (Nat.le_of_ble_eq_true rfl) rfl ?_
    refine j_sub [2, 1, 3, 0] (lv' := [(0, aR 29 v0), (1, aL x2), (3, aI v3), (4, aI x3)]) rfl ?_
    exact jl11_digest_243 N K215 hK215 N v0 x2 v3 x3 σ
theorem jl11_digest_215 {Γ : jX} {tg : Int64 × rS} (N : Nat) : ∀ (n : Nat) (v0 : Nat) (v1 : Int64) (v3 : Int32) (σ : rS), J Γ rm11_digest eL cX11_digest RX11 5 (some .long) tg 0 0 215 [(0, aR 29 v0), (1, aL v1), (3, aI v3)] [] σ (L11_digest_215 N n v0 v1 v3 σ) := by
  intro n
  induction n with
  | zero => intro v0 v1 v3 σ; exact j_none
  | succ n ih => intro v0 v1 v3 σ; exact jb11_digest_215 N (L11_digest_215 N n) ih v0 v1 v3 σ
set_option maxRecDepth 20000 in
set_option maxHeartbeats 4000000 in
theorem jb11_digest_204 {Γ : jX} {tg : Int64 × rS} (N : Nat) (K129 : Nat → Int64 → Int32 → rS → Option (Int64 × rS)) (hK129 : ∀ (v0 : Nat) (v1 : Int64) (v3 : Int32) (σ : rS), J Γ rm11_digest eL cX11_digest RX11 5 (some .long) tg 0 0 129 [(0, aR 29 v0), (1, aL v1), (3, aI v3)] [] σ (K129 v0 v1 v3 σ)) (v0 : Nat) (v3 : Int32) (s0 : Int64) (s1 : Bool) (σ : rS) : J Γ rm11_digest eL cX11_digest RX11 5 (some .long) tg 0 0 204 [(0, aR 29 v0), (3, aI v3)] [aI (bi s1), aL s0] σ (B11_digest_204 N K129 v0 v3 s0 s1 σ) := by
  unfold B11_digest_204
  refine j_i2l (pc := 204) dX11_digest_204 ?_
  refine j_ladd (pc := 205) dX11_digest_205 ?_
  refine j_letl (fun x1 => ?_)
  refine j_lstore_n (pc := 206) (lv' := [(1, aL x1), (0, aR 29 v0), (3, aI v3)]) dX11_digest_206 rfl (Nat.le_of_ble_eq_true rfl) rfl ?_
  refine j_iinc (pc := 207) (w := 1) (lv' := [(3, aI (v3 + 1)), (1, aL x1), (0, aR 29 v0)]) 2 dX11_digest_207 rfl (by decide) (Nat.le_of_ble_eq_true rfl) rfl ?_
  refine j_goto (pc := 210) (tgt := 129) dX11_digest_210 rfl ?_
  refine j_sub [2, 1, 0] (lv' := [(0, aR 29 v0), (1, aL x1), (3, aI (v3 + 1))]) rfl ?_
  exact hK129 v0 x1 (v3 + 1) σ
set_option maxRecDepth 20000 in
set_option maxHeartbeats 4000000 in
theorem jb11_digest_129 {Γ : jX} {tg : Int64 × rS} (N : Nat) (K129 : Nat → Int64 → Int32 → rS → Option (Int64 × rS)) (hK129 : ∀ (v0 : Nat) (v1 : Int64) (v3 : Int32) (σ : rS), J Γ rm11_digest eL cX11_digest RX11 5 (some .long) tg 0 0 129 [(0, aR 29 v0), (1, aL v1), (3, aI v3)] [] σ (K129 v0 v1 v3 σ)) (v0 : Nat) (v1 : Int64) (v3 : Int32) (σ : rS) : J Γ rm11_digest eL cX11_digest RX11 5 (some .long) tg 0 0 129 [(0, aR 29 v0), (1, aL v1), (3, aI v3)] [] σ (B11_digest_129 N K129 v0 v1 v3 σ) := by
  unfold B11_digest_129
  refine j_iload_n (pc := 129) 2 dX11_digest_129 rfl rfl ?_
  refine j_aload_n (pc := 130) 0 dX11_digest_130 rfl rfl ?_
  refine j_getI (pc := 131) fd_29_13 tw_4_76 dX11_digest_131 ?_
  refine j_icmpge (pc := 134) (tgt := 213) dX11_digest_134 rfl (fun _ => ?_) (fun _ => ?_)
  · refine j_iconst (pc := 213) (v := 0) (by decide) dX11_digest_213 ?_
    refine j_istore_n (pc := 214) (lv' := [(3, aI 0), (0, aR 29 v0), (1, aL v1)]) dX11_digest_214 rfl (Nat.le_of_ble_eq_true rfl) rfl ?_
    refine j_sub [1, 2, 0] (lv' := [(0, aR 29 v0), (1, aL v1), (3, aI 0)]) rfl ?_
    exact jl11_digest_215 N  N v0 v1 0 σ
  · refine j_ldc2 (pc := 137) tw_6_40 dX11_digest_137 ?_
    refine j_lload_n (pc := 140) 1 dX11_digest_140 rfl rfl ?_
    refine j_lmul (pc := 141) dX11_digest_141 ?_
    refine j_aload_n (pc := 142) 0 dX11_digest_142 rfl rfl ?_
    refine j_getF (pc := 143) fd_29_15 tw_4_78 dX11_digest_143 ?_
    refine j_iload_n (pc := 146) 2 dX11_digest_146 rfl rfl ?_
    refine j_iald (pc := 147) rfl rfl rfl dX11_digest_147 (fun j1 => ?_)
    refine j_i2l (pc := 148) dX11_digest_148 ?_
    refine j_ladd (pc := 149) dX11_digest_149 ?_
    refine j_letl (fun x2 => ?_)
    refine j_lstore_n (pc := 150) (lv' := [(1, aL x2), (0, aR 29 v0), (3, aI v3)]) dX11_digest_150 rfl (Nat.le_of_ble_eq_true rfl) rfl ?_
    refine j_ldc2 (pc := 151) tw_6_40 dX11_digest_151 ?_
    refine j_lload_n (pc := 154) 0 dX11_digest_154 rfl rfl ?_
    refine j_lmul (pc := 155) dX11_digest_155 ?_
    refine j_aload_n (pc := 156) 1 dX11_digest_156 rfl rfl ?_
    refine j_iload_n (pc := 157) 2 dX11_digest_157 rfl rfl ?_
    refine j_iconst (pc := 158) (v := 0) (by decide) dX11_digest_158 ?_
    refine j_aload_n (pc := 159) 1 dX11_digest_159 rfl rfl ?_
    refine j_getF (pc := 160) fd_29_15 tw_4_78 dX11_digest_160 ?_
    refine j_iload_n (pc := 163) 2 dX11_digest_163 rfl rfl ?_
    refine j_iald (pc := 164) rfl rfl rfl dX11_digest_164 (fun j3 => ?_)
    refine j_callVI (pc := 165) (As := [aI v3, aI 0, aI (gI σ 45 v0 j3)]) (st := [aL (31 * x2)]) (fun l => c11_sumOf l N v0 v3 0 (gI σ 45 v0 j3)) cs_RX11_259 rfl rfl rfl rfl (Nat.le_of_ble_eq_true rfl) ⟨(Nat.le_of_ble_eq_true rfl), (Nat.le_of_ble_eq_true rfl)⟩ ⟨(Nat.le_of_ble_eq_true rfl), (Nat.le_of_ble_eq_true rfl)⟩ dX11_digest_165 (fun r4 σ5 => ?_)
    refine j_i2l (pc := 168) dX11_digest_168 ?_
    refine j_ladd (pc := 169) dX11_digest_169 ?_
    refine j_letl (fun x6 => ?_)
    refine j_lstore_n (pc := 170) (lv' := [(1, aL x6), (0, aR 29 v0), (3, aI v3)]) dX11_digest_170 rfl (Nat.le_of_ble_eq_true rfl) rfl ?_
    refine j_ldc2 (pc := 171) tw_6_40 dX11_digest_171 ?_
    refine j_lload_n (pc := 174) 0 dX11_digest_174 rfl rfl ?_
    refine j_lmul (pc := 175) dX11_digest_175 ?_
    refine j_aload_n (pc := 176) 1 dX11_digest_176 rfl rfl ?_
    refine j_getF (pc := 177) fd_29_16 tw_4_79 dX11_digest_177 ?_
    refine j_iload_n (pc := 180) 2 dX11_digest_180 rfl rfl ?_
    refine j_iald (pc := 181) rfl rfl rfl dX11_digest_181 (fun j7 => ?_)
    refine j_i2l (pc := 182) dX11_digest_182 ?_
    refine j_ladd (pc := 183) dX11_digest_183 ?_
    refine j_letl (fun x8 => ?_)
    refine j_lstore_n (pc := 184) (lv' := [(1, aL x8), (0, aR 29 v0), (3, aI v3)]) dX11_digest_184 rfl (Nat.le_of_ble_eq_true rfl) rfl ?_
    refine j_ldc2 (pc := 185) tw_6_40 dX11_digest_185 ?_
    refine j_lload_n (pc := 188) 0 dX11_digest_188 rfl rfl ?_
    refine j_lmul (pc := 189) dX11_digest_189 ?_
    refine j_aload_n (pc := 190) 1 dX11_digest_190 rfl rfl ?_
    refine j_getF (pc := 191) fd_29_17 tw_4_80 dX11_digest_191 ?_
    refine j_iload_n (pc := 194) 2 dX11_digest_194 rfl rfl ?_
    refine j_zald (pc := 195) rfl rfl rfl dX11_digest_195 (fun j9 => ?_)
    refine j_ifeq (pc := 196) (tgt := 203) dX11_digest_196 rfl (fun _ => ?_) (fun _ => ?_)
    · refine j_iconst (pc := 203) (v := 0) (by decide) dX11_digest_203 ?_
      refine j_sub [1, 2] (lv' := [(0, aR 29 v0), (3, aI v3)]) rfl ?_
      exact jb11_digest_204 N K129 hK129 v0 v3 (31 * x8) false σ5
    · refine j_iconst (pc := 199) (v := 1) (by decide) dX11_digest_199 ?_
      refine j_goto (pc := 200) (tgt := 204) dX11_digest_200 rfl ?_
      refine j_sub [1, 2] (lv' := [(0, aR 29 v0), (3, aI v3)]) rfl ?_
      exact jb11_digest_204 N K129 hK129 v0 v3 (31 * x8) true σ5
theorem jl11_digest_129 {Γ : jX} {tg : Int64 × rS} (N : Nat) : ∀ (n : Nat) (v0 : Nat) (v1 : Int64) (v3 : Int32) (σ : rS), J Γ rm11_digest eL cX11_digest RX11 5 (some .long) tg 0 0 129 [(0, aR 29 v0), (1, aL v1), (3, aI v3)] [] σ (L11_digest_129 N n v0 v1 v3 σ) := by
  intro n
  induction n with
  | zero => intro v0 v1 v3 σ; exact j_none
  | succ n ih => intro v0 v1 v3 σ; exact jb11_digest_129 N (L11_digest_129 N n) ih v0 v1 v3 σ
set_option maxRecDepth 20000 in
set_option maxHeartbeats 4000000 in
theorem jb11_digest_109 {Γ : jX} {tg : Int64 × rS} (N : Nat) (K12 : Nat → Int64 → Int32 → rS → Option (Int64 × rS)) (hK12 : ∀ (v0 : Nat) (v1 : Int64) (v3 : Int32) (σ : rS), J Γ rm11_digest eL cX11_digest RX11 5 (some .long) tg 0 0 12 [(0, aR 29 v0), (1, aL v1), (3, aI v3)] [] σ (K12 v0 v1 v3 σ)) (v0 : Nat) (v1 : Int64) (v3 : Int32) (σ : rS) : J Γ rm11_digest eL cX11_digest RX11 5 (some .long) tg 0 0 109 [(0, aR 29 v0), (1, aL v1), (3, aI v3)] [] σ (B11_digest_109 N K12 v0 v1 v3 σ) := by
  unfold B11_digest_109
  refine j_iinc (pc := 109) (w := 1) (lv' := [(3, aI (v3 + 1)), (0, aR 29 v0), (1, aL v1)]) 2 dX11_digest_109 rfl (by decide) (Nat.le_of_ble_eq_true rfl) rfl ?_
  refine j_goto (pc := 112) (tgt := 12) dX11_digest_112 rfl ?_
  refine j_sub [1, 2, 0] (lv' := [(0, aR 29 v0), (1, aL v1), (3, aI (v3 + 1))]) rfl ?_
  exact hK12 v0 v1 (v3 + 1) σ
set_option maxRecDepth 20000 in
set_option maxHeartbeats 4000000 in
theorem jb11_digest_64 {Γ : jX} {tg : Int64 × rS} (N : Nat) (K12 : Nat → Int64 → Int32 → rS → Option (Int64 × rS)) (K64 : Nat → Int64 → Int32 → Int32 → rS → Option (Int64 × rS)) (hK12 : ∀ (v0 : Nat) (v1 : Int64) (v3 : Int32) (σ : rS), J Γ rm11_digest eL cX11_digest RX11 5 (some .long) tg 0 0 12 [(0, aR 29 v0), (1, aL v1), (3, aI v3)] [] σ (K12 v0 v1 v3 σ)) (hK64 : ∀ (v0 : Nat) (v1 : Int64) (v3 : Int32) (v4 : Int32) (σ : rS), J Γ rm11_digest eL cX11_digest RX11 5 (some .long) tg 0 0 64 [(0, aR 29 v0), (1, aL v1), (3, aI v3), (4, aI v4)] [] σ (K64 v0 v1 v3 v4 σ)) (v0 : Nat) (v1 : Int64) (v3 : Int32) (v4 : Int32) (σ : rS) : J Γ rm11_digest eL cX11_digest RX11 5 (some .long) tg 0 0 64 [(0, aR 29 v0), (1, aL v1), (3, aI v3), (4, aI v4)] [] σ (B11_digest_64 N K12 K64 v0 v1 v3 v4 σ) := by
  unfold B11_digest_64
  refine j_iload (pc := 64) 3 dX11_digest_64 rfl ?_
  refine j_aload_n (pc := 66) 0 dX11_digest_66 rfl rfl ?_
  refine j_getF (pc := 67) fd_29_5 tw_4_68 dX11_digest_67 ?_
  refine j_iload_n (pc := 70) 2 dX11_digest_70 rfl rfl ?_
  refine j_iald (pc := 71) rfl rfl rfl dX11_digest_71 (fun j1 => ?_)
  refine j_icmpge (pc := 72) (tgt := 109) dX11_digest_72 rfl (fun _ => ?_) (fun _ => ?_)
  · refine j_sub [0, 1, 2] (lv' := [(0, aR 29 v0), (1, aL v1), (3, aI v3)]) rfl ?_
    exact jb11_digest_109 N K12 hK12 v0 v1 v3 σ
  · refine j_aload_n (pc := 75) 0 dX11_digest_75 rfl rfl ?_
    refine j_getF (pc := 76) fd_29_6 tw_4_69 dX11_digest_76 ?_
    refine j_iload_n (pc := 79) 2 dX11_digest_79 rfl rfl ?_
    refine j_zald (pc := 80) rfl rfl rfl dX11_digest_80 (fun j2 => ?_)
    refine j_ifne (pc := 81) (tgt := 109) dX11_digest_81 rfl (fun _ => ?_) (fun _ => ?_)
    · refine j_sub [0, 1, 2] (lv' := [(0, aR 29 v0), (1, aL v1), (3, aI v3)]) rfl ?_
      exact jb11_digest_109 N K12 hK12 v0 v1 v3 σ
    · refine j_ldc2 (pc := 84) tw_6_40 dX11_digest_84 ?_
      refine j_lload_n (pc := 87) 1 dX11_digest_87 rfl rfl ?_
      refine j_lmul (pc := 88) dX11_digest_88 ?_
      refine j_aload_n (pc := 89) 0 dX11_digest_89 rfl rfl ?_
      refine j_getF (pc := 90) fd_29_7 tw_4_70 dX11_digest_90 ?_
      refine j_bipush (pc := 93) (v := 24) (by decide) dX11_digest_93 ?_
      refine j_iload_n (pc := 95) 2 dX11_digest_95 rfl rfl ?_
      refine j_imul (pc := 96) dX11_digest_96 ?_
      refine j_iload (pc := 97) 3 dX11_digest_97 rfl ?_
      refine j_iadd (pc := 99) dX11_digest_99 ?_
      refine j_lald (pc := 100) rfl rfl rfl dX11_digest_100 (fun j3 => ?_)
      refine j_ladd (pc := 101) dX11_digest_101 ?_
      refine j_letl (fun x4 => ?_)
      refine j_lstore_n (pc := 102) (lv' := [(1, aL x4), (0, aR 29 v0), (3, aI v3), (4, aI v4)]) dX11_digest_102 rfl (Nat.le_of_ble_eq_true rfl) rfl ?_
      refine j_iinc (pc := 103) (w := 1) (lv' := [(4, aI (v4 + 1)), (1, aL x4), (0, aR 29 v0), (3, aI v3)]) 3 dX11_digest_103 rfl (by decide) (Nat.le_of_ble_eq_true rfl) rfl ?_
      refine j_goto (pc := 106) (tgt := 64) dX11_digest_106 rfl ?_
      refine j_sub [2, 1, 3, 0] (lv' := [(0, aR 29 v0), (1, aL x4), (3, aI v3), (4, aI (v4 + 1))]) rfl ?_
      exact hK64 v0 x4 v3 (v4 + 1) σ
theorem jl11_digest_64 {Γ : jX} {tg : Int64 × rS} (N : Nat) (K12 : Nat → Int64 → Int32 → rS → Option (Int64 × rS)) (hK12 : ∀ (v0 : Nat) (v1 : Int64) (v3 : Int32) (σ : rS), J Γ rm11_digest eL cX11_digest RX11 5 (some .long) tg 0 0 12 [(0, aR 29 v0), (1, aL v1), (3, aI v3)] [] σ (K12 v0 v1 v3 σ)) : ∀ (n : Nat) (v0 : Nat) (v1 : Int64) (v3 : Int32) (v4 : Int32) (σ : rS), J Γ rm11_digest eL cX11_digest RX11 5 (some .long) tg 0 0 64 [(0, aR 29 v0), (1, aL v1), (3, aI v3), (4, aI v4)] [] σ (L11_digest_64 N K12 n v0 v1 v3 v4 σ) := by
  intro n
  induction n with
  | zero => intro v0 v1 v3 v4 σ; exact j_none
  | succ n ih => intro v0 v1 v3 v4 σ; exact jb11_digest_64 N K12 (L11_digest_64 N K12 n) hK12 ih v0 v1 v3 v4 σ
set_option maxRecDepth 20000 in
set_option maxHeartbeats 4000000 in
theorem jb11_digest_58 {Γ : jX} {tg : Int64 × rS} (N : Nat) (K12 : Nat → Int64 → Int32 → rS → Option (Int64 × rS)) (hK12 : ∀ (v0 : Nat) (v1 : Int64) (v3 : Int32) (σ : rS), J Γ rm11_digest eL cX11_digest RX11 5 (some .long) tg 0 0 12 [(0, aR 29 v0), (1, aL v1), (3, aI v3)] [] σ (K12 v0 v1 v3 σ)) (v0 : Nat) (v3 : Int32) (s0 : Int64) (s1 : Int32) (σ : rS) : J Γ rm11_digest eL cX11_digest RX11 5 (some .long) tg 0 0 58 [(0, aR 29 v0), (3, aI v3)] [aI s1, aL s0] σ (B11_digest_58 N K12 v0 v3 s0 s1 σ) := by
  unfold B11_digest_58
  refine j_i2l (pc := 58) dX11_digest_58 ?_
  refine j_ladd (pc := 59) dX11_digest_59 ?_
  refine j_letl (fun x1 => ?_)
  refine j_lstore_n (pc := 60) (lv' := [(1, aL x1), (0, aR 29 v0), (3, aI v3)]) dX11_digest_60 rfl (Nat.le_of_ble_eq_true rfl) rfl ?_
  refine j_iconst (pc := 61) (v := 0) (by decide) dX11_digest_61 ?_
  refine j_istore (pc := 62) (lv' := [(4, aI 0), (1, aL x1), (0, aR 29 v0), (3, aI v3)]) dX11_digest_62 (Nat.le_of_ble_eq_true rfl) rfl ?_
  refine j_sub [2, 1, 3, 0] (lv' := [(0, aR 29 v0), (1, aL x1), (3, aI v3), (4, aI 0)]) rfl ?_
  exact jl11_digest_64 N K12 hK12 N v0 x1 v3 0 σ
set_option maxRecDepth 20000 in
set_option maxHeartbeats 4000000 in
theorem jb11_digest_12 {Γ : jX} {tg : Int64 × rS} (N : Nat) (K12 : Nat → Int64 → Int32 → rS → Option (Int64 × rS)) (hK12 : ∀ (v0 : Nat) (v1 : Int64) (v3 : Int32) (σ : rS), J Γ rm11_digest eL cX11_digest RX11 5 (some .long) tg 0 0 12 [(0, aR 29 v0), (1, aL v1), (3, aI v3)] [] σ (K12 v0 v1 v3 σ)) (v0 : Nat) (v1 : Int64) (v3 : Int32) (σ : rS) : J Γ rm11_digest eL cX11_digest RX11 5 (some .long) tg 0 0 12 [(0, aR 29 v0), (1, aL v1), (3, aI v3)] [] σ (B11_digest_12 N K12 v0 v1 v3 σ) := by
  unfold B11_digest_12
  refine j_iload_n (pc := 12) 2 dX11_digest_12 rfl rfl ?_
  refine j_aload_n (pc := 13) 0 dX11_digest_13 rfl rfl ?_
  refine j_getI (pc := 14) fd_29_3 tw_4_66 dX11_digest_14 ?_
  refine j_icmpge (pc := 17) (tgt := 115) dX11_digest_17 rfl (fun _ => ?_) (fun _ => ?_)
  · refine j_ldc2 (pc := 115) tw_6_40 dX11_digest_115 ?_
    refine j_lload_n (pc := 118) 1 dX11_digest_118 rfl rfl ?_
    refine j_lmul (pc := 119) dX11_digest_119 ?_
    refine j_aload_n (pc := 120) 0 dX11_digest_120 rfl rfl ?_
    refine j_getI (pc := 121) fd_29_13 tw_4_76 dX11_digest_121 ?_
    refine j_i2l (pc := 124) dX11_digest_124 ?_
    refine j_ladd (pc := 125) dX11_digest_125 ?_
    refine j_letl (fun x1 => ?_)
    refine j_lstore_n (pc := 126) (lv' := [(1, aL x1), (0, aR 29 v0), (3, aI v3)]) dX11_digest_126 rfl (Nat.le_of_ble_eq_true rfl) rfl ?_
    refine j_sub [0, 1] (lv' := [(1, aL x1), (0, aR 29 v0)]) rfl ?_
    refine j_iconst (pc := 127) (v := 0) (by decide) dX11_digest_127 ?_
    refine j_istore_n (pc := 128) (lv' := [(3, aI 0), (1, aL x1), (0, aR 29 v0)]) dX11_digest_128 rfl (Nat.le_of_ble_eq_true rfl) rfl ?_
    refine j_sub [2, 1, 0] (lv' := [(0, aR 29 v0), (1, aL x1), (3, aI 0)]) rfl ?_
    exact jl11_digest_129 N  N v0 x1 0 σ
  · refine j_ldc2 (pc := 20) tw_6_40 dX11_digest_20 ?_
    refine j_lload_n (pc := 23) 1 dX11_digest_23 rfl rfl ?_
    refine j_lmul (pc := 24) dX11_digest_24 ?_
    refine j_aload_n (pc := 25) 0 dX11_digest_25 rfl rfl ?_
    refine j_getF (pc := 26) fd_29_4 tw_4_67 dX11_digest_26 ?_
    refine j_iload_n (pc := 29) 2 dX11_digest_29 rfl rfl ?_
    refine j_iald (pc := 30) rfl rfl rfl dX11_digest_30 (fun j2 => ?_)
    refine j_i2l (pc := 31) dX11_digest_31 ?_
    refine j_ladd (pc := 32) dX11_digest_32 ?_
    refine j_letl (fun x3 => ?_)
    refine j_lstore_n (pc := 33) (lv' := [(1, aL x3), (0, aR 29 v0), (3, aI v3)]) dX11_digest_33 rfl (Nat.le_of_ble_eq_true rfl) rfl ?_
    refine j_ldc2 (pc := 34) tw_6_40 dX11_digest_34 ?_
    refine j_lload_n (pc := 37) 0 dX11_digest_37 rfl rfl ?_
    refine j_lmul (pc := 38) dX11_digest_38 ?_
    refine j_aload_n (pc := 39) 1 dX11_digest_39 rfl rfl ?_
    refine j_getF (pc := 40) fd_29_6 tw_4_69 dX11_digest_40 ?_
    refine j_iload_n (pc := 43) 2 dX11_digest_43 rfl rfl ?_
    refine j_zald (pc := 44) rfl rfl rfl dX11_digest_44 (fun j4 => ?_)
    refine j_ifeq (pc := 45) (tgt := 52) dX11_digest_45 rfl (fun _ => ?_) (fun _ => ?_)
    · refine j_aload_n (pc := 52) 1 dX11_digest_52 rfl rfl ?_
      refine j_getF (pc := 53) fd_29_5 tw_4_68 dX11_digest_53 ?_
      refine j_iload_n (pc := 56) 2 dX11_digest_56 rfl rfl ?_
      refine j_iald (pc := 57) rfl rfl rfl dX11_digest_57 (fun j5 => ?_)
      refine j_sub [1, 2] (lv' := [(0, aR 29 v0), (3, aI v3)]) rfl ?_
      exact jb11_digest_58 N K12 hK12 v0 v3 (31 * x3) (gI σ 35 v0 j5) σ
    · refine j_iconst (pc := 48) (v := (-1)) (by decide) dX11_digest_48 ?_
      refine j_goto (pc := 49) (tgt := 58) dX11_digest_49 rfl ?_
      refine j_sub [1, 2] (lv' := [(0, aR 29 v0), (3, aI v3)]) rfl ?_
      exact jb11_digest_58 N K12 hK12 v0 v3 (31 * x3) (-1) σ
theorem jl11_digest_12 {Γ : jX} {tg : Int64 × rS} (N : Nat) : ∀ (n : Nat) (v0 : Nat) (v1 : Int64) (v3 : Int32) (σ : rS), J Γ rm11_digest eL cX11_digest RX11 5 (some .long) tg 0 0 12 [(0, aR 29 v0), (1, aL v1), (3, aI v3)] [] σ (L11_digest_12 N n v0 v1 v3 σ) := by
  intro n
  induction n with
  | zero => intro v0 v1 v3 σ; exact j_none
  | succ n ih => intro v0 v1 v3 σ; exact jb11_digest_12 N (L11_digest_12 N n) ih v0 v1 v3 σ
set_option maxRecDepth 20000 in
set_option maxHeartbeats 4000000 in
theorem j11_digest {Γ : jX} {tg : Int64 × rS} (N : Nat) (v0 : Nat) (σ : rS) : J Γ rm11_digest eL cX11_digest RX11 5 (some .long) tg 0 0 0 [(0, aR 29 v0)] [] σ (f11_digest N v0 σ) := by
  unfold f11_digest
  refine j_ldc2 (pc := 0) tw_6_39 dX11_digest_0 ?_
  refine j_aload_n (pc := 3) 0 dX11_digest_3 rfl rfl ?_
  refine j_getI (pc := 4) fd_29_3 tw_4_66 dX11_digest_4 ?_
  refine j_i2l (pc := 7) dX11_digest_7 ?_
  refine j_ladd (pc := 8) dX11_digest_8 ?_
  refine j_letl (fun x1 => ?_)
  refine j_lstore_n (pc := 9) (lv' := [(1, aL x1), (0, aR 29 v0)]) dX11_digest_9 rfl (Nat.le_of_ble_eq_true rfl) rfl ?_
  refine j_iconst (pc := 10) (v := 0) (by decide) dX11_digest_10 ?_
  refine j_istore_n (pc := 11) (lv' := [(3, aI 0), (1, aL x1), (0, aR 29 v0)]) dX11_digest_11 rfl (Nat.le_of_ble_eq_true rfl) rfl ?_
  refine j_sub [2, 1, 0] (lv' := [(0, aR 29 v0), (1, aL x1), (3, aI 0)]) rfl ?_
  exact jl11_digest_12 N  N v0 x1 0 σ
theorem c11_digest (l : Launch) (N : Nat) (v0 : Nat) : Ctr l yX11_digest cX11_digest 5 (some .long) rm11_digest eL [aR 29 v0] (f11_digest N v0) := ctr_of (lv := [(0, aR 29 v0)]) (by decide +kernel) (fun _ => rfl) (fun _ => (Nat.le_of_ble_eq_true rfl)) (fun _ h => lvl_als h rfl) (fun _ σ _ => j11_digest N v0 σ)
abbrev rm11_entry : Room := { frames := 0, cells := 0, slots := 0, locals := 0 }
set_option maxRecDepth 20000 in
set_option maxHeartbeats 4000000 in
theorem jb11_entry_3 {Γ : jX} {tg : Int32 × rS} (N : Nat) (K3 : Nat → Int32 → Int64 → Int32 → rS → Option (Int32 × rS)) (hK3 : ∀ (v0 : Nat) (v1 : Int32) (v2 : Int64) (v4 : Int32) (σ : rS), J Γ rm11_entry eI cX11_entry RX11 5 (some .int) tg 0 0 3 [(0, aR 29 v0), (1, aI v1), (2, aL v2), (4, aI v4)] [] σ (K3 v0 v1 v2 v4 σ)) (v0 : Nat) (v1 : Int32) (v2 : Int64) (v4 : Int32) (σ : rS) : J Γ rm11_entry eI cX11_entry RX11 5 (some .int) tg 0 0 3 [(0, aR 29 v0), (1, aI v1), (2, aL v2), (4, aI v4)] [] σ (B11_entry_3 N K3 v0 v1 v2 v4 σ) := by
  unfold B11_entry_3
  refine j_iload (pc := 3) 3 dX11_entry_3 rfl ?_
  refine j_aload_n (pc := 5) 0 dX11_entry_5 rfl rfl ?_
  refine j_getF (pc := 6) fd_29_27 tw_4_90 dX11_entry_6 ?_
  refine j_iload_n (pc := 9) 1 dX11_entry_9 rfl rfl ?_
  refine j_iald (pc := 10) rfl rfl rfl dX11_entry_10 (fun j1 => ?_)
  refine j_icmpge (pc := 11) (tgt := 45) dX11_entry_11 rfl (fun _ => ?_) (fun _ => ?_)
  · refine j_iconst (pc := 45) (v := (-1)) (by decide) dX11_entry_45 ?_
    exact j_ireturn (pc := 46) rfl (Nat.le_of_ble_eq_true rfl) (Nat.le_of_ble_eq_true rfl) dX11_entry_46
  · refine j_aload_n (pc := 14) 0 dX11_entry_14 rfl rfl ?_
    refine j_getF (pc := 15) fd_29_28 tw_4_91 dX11_entry_15 ?_
    refine j_bipush (pc := 18) (v := 12) (by decide) dX11_entry_18 ?_
    refine j_iload_n (pc := 20) 1 dX11_entry_20 rfl rfl ?_
    refine j_imul (pc := 21) dX11_entry_21 ?_
    refine j_iload (pc := 22) 3 dX11_entry_22 rfl ?_
    refine j_iadd (pc := 24) dX11_entry_24 ?_
    refine j_lald (pc := 25) rfl rfl rfl dX11_entry_25 (fun j2 => ?_)
    refine j_lload_n (pc := 26) 2 dX11_entry_26 rfl rfl ?_
    refine j_lcmpne (pc := 27) (tgt := 39) dX11_entry_27 dX11_entry_28 rfl (fun _ => ?_) (fun _ => ?_)
    · refine j_iinc (pc := 39) (w := 1) (lv' := [(4, aI (v4 + 1)), (0, aR 29 v0), (1, aI v1), (2, aL v2)]) 3 dX11_entry_39 rfl (by decide) (Nat.le_of_ble_eq_true rfl) rfl ?_
      refine j_goto (pc := 42) (tgt := 3) dX11_entry_42 rfl ?_
      refine j_sub [1, 2, 3, 0] (lv' := [(0, aR 29 v0), (1, aI v1), (2, aL v2), (4, aI (v4 + 1))]) rfl ?_
      exact hK3 v0 v1 v2 (v4 + 1) σ
    · refine j_bipush (pc := 31) (v := 12) (by decide) dX11_entry_31 ?_
      refine j_iload_n (pc := 33) 1 dX11_entry_33 rfl rfl ?_
      refine j_imul (pc := 34) dX11_entry_34 ?_
      refine j_iload (pc := 35) 3 dX11_entry_35 rfl ?_
      refine j_iadd (pc := 37) dX11_entry_37 ?_
      exact j_ireturn (pc := 38) rfl (Nat.le_of_ble_eq_true rfl) (Nat.le_of_ble_eq_true rfl) dX11_entry_38
theorem jl11_entry_3 {Γ : jX} {tg : Int32 × rS} (N : Nat) : ∀ (n : Nat) (v0 : Nat) (v1 : Int32) (v2 : Int64) (v4 : Int32) (σ : rS), J Γ rm11_entry eI cX11_entry RX11 5 (some .int) tg 0 0 3 [(0, aR 29 v0), (1, aI v1), (2, aL v2), (4, aI v4)] [] σ (L11_entry_3 N n v0 v1 v2 v4 σ) := by
  intro n
  induction n with
  | zero => intro v0 v1 v2 v4 σ; exact j_none
  | succ n ih => intro v0 v1 v2 v4 σ; exact jb11_entry_3 N (L11_entry_3 N n) ih v0 v1 v2 v4 σ
set_option maxRecDepth 20000 in
set_option maxHeartbeats 4000000 in
theorem j11_entry {Γ : jX} {tg : Int32 × rS} (N : Nat) (v0 : Nat) (v1 : Int32) (v2 : Int64) (σ : rS) : J Γ rm11_entry eI cX11_entry RX11 5 (some .int) tg 0 0 0 [(0, aR 29 v0), (1, aI v1), (2, aL v2)] [] σ (f11_entry N v0 v1 v2 σ) := by
  unfold f11_entry
  refine j_iconst (pc := 0) (v := 0) (by decide) dX11_entry_0 ?_
  refine j_istore (pc := 1) (lv' := [(4, aI 0), (0, aR 29 v0), (1, aI v1), (2, aL v2)]) dX11_entry_1 (Nat.le_of_ble_eq_true rfl) rfl ?_
  refine j_sub [1, 2, 3, 0] (lv' := [(0, aR 29 v0), (1, aI v1), (2, aL v2), (4, aI 0)]) rfl ?_
  exact jl11_entry_3 N  N v0 v1 v2 0 σ
theorem c11_entry (l : Launch) (N : Nat) (v0 : Nat) (v1 : Int32) (v2 : Int64) : Ctr l yX11_entry cX11_entry 5 (some .int) rm11_entry eI [aR 29 v0, aI v1, aL v2] (f11_entry N v0 v1 v2) := ctr_of (lv := [(0, aR 29 v0), (1, aI v1), (2, aL v2)]) (by decide +kernel) (fun _ => rfl) (fun _ => (Nat.le_of_ble_eq_true rfl)) (fun _ h => lvl_als h rfl) (fun _ σ _ => j11_entry N v0 v1 v2 σ)
abbrev rm11_isHouse : Room := { frames := 1, cells := 0, slots := 0, locals := 25 }
set_option maxRecDepth 20000 in
set_option maxHeartbeats 4000000 in
theorem j11_isHouse {Γ : jX} {tg : Bool × rS} (v0 : Nat) (v1 : Int32) (σ : rS) : J Γ rm11_isHouse eZ cX11_isHouse RX11 2 (some .boolean) tg 0 0 0 [(0, aR 29 v0), (1, aI v1)] [] σ (f11_isHouse v0 v1 σ) := by
  unfold f11_isHouse
  refine j_iload_n (pc := 0) 1 dX11_isHouse_0 rfl rfl ?_
  refine j_i2l (pc := 1) dX11_isHouse_1 ?_
  refine j_lconst (pc := 2) (v := 0) (by decide) dX11_isHouse_2 ?_
  refine j_aload_n (pc := 3) 0 dX11_isHouse_3 rfl rfl ?_
  refine j_getI (pc := 4) fd_29_26 tw_4_89 dX11_isHouse_4 ?_
  refine j_iconst (pc := 7) (v := 1) (by decide) dX11_isHouse_7 ?_
  refine j_isub (pc := 8) dX11_isHouse_8 ?_
  refine j_i2l (pc := 9) dX11_isHouse_9 ?_
  refine j_callSZ (pc := 10) (As := [aL (Int32.toInt64 v1), aL 0, aL (Int32.toInt64 ((gI σ 29 v0 26) - 1))]) (st := []) (fun l => c11_in l (Int32.toInt64 v1) 0 (Int32.toInt64 ((gI σ 29 v0 26) - 1))) cs_RX11_140 rfl rfl (Nat.le_of_ble_eq_true rfl) ⟨(Nat.le_of_ble_eq_true rfl), (Nat.le_of_ble_eq_true rfl)⟩ ⟨(Nat.le_of_ble_eq_true rfl), (Nat.le_of_ble_eq_true rfl)⟩ dX11_isHouse_10 (fun r1 σ2 => ?_)
  exact j_zretB (pc := 13) rfl (Nat.le_of_ble_eq_true rfl) (Nat.le_of_ble_eq_true rfl) dX11_isHouse_13
theorem c11_isHouse (l : Launch) (v0 : Nat) (v1 : Int32) : Ctr l yX11_isHouse cX11_isHouse 2 (some .boolean) rm11_isHouse eZ [aR 29 v0, aI v1] (f11_isHouse v0 v1) := ctr_of (lv := [(0, aR 29 v0), (1, aI v1)]) (by decide +kernel) (fun _ => rfl) (fun _ => (Nat.le_of_ble_eq_true rfl)) (fun _ h => lvl_als h rfl) (fun _ σ _ => j11_isHouse v0 v1 σ)
abbrev rm11_leave : Room := { frames := 0, cells := 0, slots := 0, locals := 0 }
set_option maxRecDepth 20000 in
set_option maxHeartbeats 4000000 in
theorem j11_leave {Γ : jX} {tg : Unit × rS} (v0 : Nat) (v1 : Int32) (σ : rS) : J Γ rm11_leave eV cX11_leave RX11 2 none tg 0 0 0 [(0, aR 29 v0), (1, aI v1)] [] σ (f11_leave v0 v1 σ) := by
  unfold f11_leave
  refine j_aload_n (pc := 0) 0 dX11_leave_0 rfl rfl ?_
  refine j_getF (pc := 1) fd_29_23 tw_4_86 dX11_leave_1 ?_
  refine j_iload_n (pc := 4) 1 dX11_leave_4 rfl rfl ?_
  refine j_dup2 (pc := 5) dX11_leave_5 rfl rfl ?_
  refine j_iald (pc := 6) rfl rfl rfl dX11_leave_6 (fun j1 => ?_)
  refine j_iconst (pc := 7) (v := 1) (by decide) dX11_leave_7 ?_
  refine j_isub (pc := 8) dX11_leave_8 ?_
  refine j_iast (pc := 9) rfl rfl rfl dX11_leave_9 (fun j2 => ?_)
  refine j_lets (fun σ3 => ?_)
  refine j_aload_n (pc := 10) 0 dX11_leave_10 rfl rfl ?_
  refine j_getF (pc := 11) fd_29_23 tw_4_86 dX11_leave_11 ?_
  refine j_iload_n (pc := 14) 1 dX11_leave_14 rfl rfl ?_
  refine j_iald (pc := 15) rfl rfl rfl dX11_leave_15 (fun j4 => ?_)
  refine j_ifne (pc := 16) (tgt := 26) dX11_leave_16 rfl (fun _ => ?_) (fun _ => ?_)
  · exact j_return (pc := 26) rfl (Nat.le_of_ble_eq_true rfl) (Nat.le_of_ble_eq_true rfl) dX11_leave_26
  · refine j_aload_n (pc := 19) 0 dX11_leave_19 rfl rfl ?_
    refine j_getF (pc := 20) fd_29_21 tw_4_84 dX11_leave_20 ?_
    refine j_iload_n (pc := 23) 1 dX11_leave_23 rfl rfl ?_
    refine j_iconst (pc := 24) (v := (-1)) (by decide) dX11_leave_24 ?_
    refine j_iast (pc := 25) rfl rfl rfl dX11_leave_25 (fun j5 => ?_)
    refine j_lets (fun σ6 => ?_)
    exact j_return (pc := 26) rfl (Nat.le_of_ble_eq_true rfl) (Nat.le_of_ble_eq_true rfl) dX11_leave_26
theorem c11_leave (l : Launch) (v0 : Nat) (v1 : Int32) : Ctr l yX11_leave cX11_leave 2 none rm11_leave eV [aR 29 v0, aI v1] (f11_leave v0 v1) := ctr_of (lv := [(0, aR 29 v0), (1, aI v1)]) (by decide +kernel) (fun _ => rfl) (fun _ => (Nat.le_of_ble_eq_true rfl)) (fun _ h => lvl_als h rfl) (fun _ σ _ => j11_leave v0 v1 σ)
theorem cs_RX11_287 : CaV RX11 RX11 287 yX11_isHouse cX11_isHouse 2 (some .boolean) 1 := ⟨tw_5_194, tw_5_196, tw_p38, tw_1_5, tw_5_197, rfl, by decide +kernel, by decide +kernel, by decide +kernel⟩
theorem cs_RX11_290 : CaV RX11 RX11 290 yX11_entry cX11_entry 5 (some .int) 2 := ⟨tw_5_198, tw_5_200, tw_p39, tw_1_5, tw_5_201, rfl, by decide +kernel, by decide +kernel, by decide +kernel⟩
theorem cs_RX11_303 : CaV RX11 RX11 303 yX11_leave cX11_leave 2 none 1 := ⟨tw_5_210, tw_5_212, tw_p42, tw_1_5, tw_5_213, rfl, by decide +kernel, by decide +kernel, by decide +kernel⟩
abbrev rm11_drop : Room := { frames := 2, cells := 0, slots := 0, locals := 46 }
set_option maxRecDepth 20000 in
set_option maxHeartbeats 4000000 in
theorem jb11_drop_75 {Γ : jX} {tg : Int32 × rS} (N : Nat) (K75 : Nat → Int32 → Int32 → Int32 → rS → Option (Int32 × rS)) (hK75 : ∀ (v0 : Nat) (v1 : Int32) (v5 : Int32) (v6 : Int32) (σ : rS), J Γ rm11_drop eI cX11_drop RX11 7 (some .int) tg 0 0 75 [(0, aR 29 v0), (1, aI v1), (5, aI v5), (6, aI v6)] [] σ (K75 v0 v1 v5 v6 σ)) (v0 : Nat) (v1 : Int32) (v5 : Int32) (v6 : Int32) (σ : rS) : J Γ rm11_drop eI cX11_drop RX11 7 (some .int) tg 0 0 75 [(0, aR 29 v0), (1, aI v1), (5, aI v5), (6, aI v6)] [] σ (B11_drop_75 N K75 v0 v1 v5 v6 σ) := by
  unfold B11_drop_75
  refine j_iload (pc := 75) 3 dX11_drop_75 rfl ?_
  refine j_bipush (pc := 77) (v := 12) (by decide) dX11_drop_77 ?_
  refine j_iload_n (pc := 79) 1 dX11_drop_79 rfl rfl ?_
  refine j_imul (pc := 80) dX11_drop_80 ?_
  refine j_aload_n (pc := 81) 0 dX11_drop_81 rfl rfl ?_
  refine j_getF (pc := 82) fd_29_27 tw_4_90 dX11_drop_82 ?_
  refine j_iload_n (pc := 85) 1 dX11_drop_85 rfl rfl ?_
  refine j_iald (pc := 86) rfl rfl rfl dX11_drop_86 (fun j1 => ?_)
  refine j_iadd (pc := 87) dX11_drop_87 ?_
  refine j_icmpge (pc := 88) (tgt := 129) dX11_drop_88 rfl (fun _ => ?_) (fun _ => ?_)
  · refine j_iload (pc := 129) 2 dX11_drop_129 rfl ?_
    exact j_ireturn (pc := 131) rfl (Nat.le_of_ble_eq_true rfl) (Nat.le_of_ble_eq_true rfl) dX11_drop_131
  · refine j_aload_n (pc := 91) 0 dX11_drop_91 rfl rfl ?_
    refine j_getF (pc := 92) fd_29_28 tw_4_91 dX11_drop_92 ?_
    refine j_iload (pc := 95) 3 dX11_drop_95 rfl ?_
    refine j_aload_n (pc := 97) 0 dX11_drop_97 rfl rfl ?_
    refine j_getF (pc := 98) fd_29_28 tw_4_91 dX11_drop_98 ?_
    refine j_iload (pc := 101) 3 dX11_drop_101 rfl ?_
    refine j_iconst (pc := 103) (v := 1) (by decide) dX11_drop_103 ?_
    refine j_iadd (pc := 104) dX11_drop_104 ?_
    refine j_lald (pc := 105) rfl rfl rfl dX11_drop_105 (fun j2 => ?_)
    refine j_last (pc := 106) rfl rfl rfl dX11_drop_106 (fun j3 => ?_)
    refine j_lets (fun σ4 => ?_)
    refine j_aload_n (pc := 107) 0 dX11_drop_107 rfl rfl ?_
    refine j_getF (pc := 108) fd_29_29 tw_4_92 dX11_drop_108 ?_
    refine j_iload (pc := 111) 3 dX11_drop_111 rfl ?_
    refine j_aload_n (pc := 113) 0 dX11_drop_113 rfl rfl ?_
    refine j_getF (pc := 114) fd_29_29 tw_4_92 dX11_drop_114 ?_
    refine j_iload (pc := 117) 3 dX11_drop_117 rfl ?_
    refine j_iconst (pc := 119) (v := 1) (by decide) dX11_drop_119 ?_
    refine j_iadd (pc := 120) dX11_drop_120 ?_
    refine j_iald (pc := 121) rfl rfl rfl dX11_drop_121 (fun j5 => ?_)
    refine j_iast (pc := 122) rfl rfl rfl dX11_drop_122 (fun j6 => ?_)
    refine j_lets (fun σ7 => ?_)
    refine j_iinc (pc := 123) (w := 1) (lv' := [(6, aI (v6 + 1)), (0, aR 29 v0), (1, aI v1), (5, aI v5)]) 3 dX11_drop_123 rfl (by decide) (Nat.le_of_ble_eq_true rfl) rfl ?_
    refine j_goto (pc := 126) (tgt := 75) dX11_drop_126 rfl ?_
    refine j_sub [1, 2, 3, 0] (lv' := [(0, aR 29 v0), (1, aI v1), (5, aI v5), (6, aI (v6 + 1))]) rfl ?_
    exact hK75 v0 v1 v5 (v6 + 1) σ7
theorem jl11_drop_75 {Γ : jX} {tg : Int32 × rS} (N : Nat) : ∀ (n : Nat) (v0 : Nat) (v1 : Int32) (v5 : Int32) (v6 : Int32) (σ : rS), J Γ rm11_drop eI cX11_drop RX11 7 (some .int) tg 0 0 75 [(0, aR 29 v0), (1, aI v1), (5, aI v5), (6, aI v6)] [] σ (L11_drop_75 N n v0 v1 v5 v6 σ) := by
  intro n
  induction n with
  | zero => intro v0 v1 v5 v6 σ; exact j_none
  | succ n ih => intro v0 v1 v5 v6 σ; exact jb11_drop_75 N (L11_drop_75 N n) ih v0 v1 v5 v6 σ
set_option maxRecDepth 20000 in
set_option maxHeartbeats 4000000 in
theorem j11_drop {Γ : jX} {tg : Int32 × rS} (N : Nat) (v0 : Nat) (v1 : Int32) (v2 : Int64) (σ : rS) : J Γ rm11_drop eI cX11_drop RX11 7 (some .int) tg 0 0 0 [(0, aR 29 v0), (1, aI v1), (2, aL v2)] [] σ (f11_drop N v0 v1 v2 σ) := by
  unfold f11_drop
  refine j_aload_n (pc := 0) 0 dX11_drop_0 rfl rfl ?_
  refine j_iload_n (pc := 1) 1 dX11_drop_1 rfl rfl ?_
  refine j_callVZ (pc := 2) (As := [aI v1]) (st := []) (fun l => c11_isHouse l v0 v1) cs_RX11_287 rfl rfl rfl rfl (Nat.le_of_ble_eq_true rfl) ⟨(Nat.le_of_ble_eq_true rfl), (Nat.le_of_ble_eq_true rfl)⟩ ⟨(Nat.le_of_ble_eq_true rfl), (Nat.le_of_ble_eq_true rfl)⟩ dX11_drop_2 (fun r1 σ2 => ?_)
  refine j_ifneB (pc := 5) (tgt := 11) dX11_drop_5 rfl (fun _ => ?_) (fun _ => ?_)
  · refine j_lload_n (pc := 11) 2 dX11_drop_11 rfl rfl ?_
    refine j_lconst (pc := 12) (v := 0) (by decide) dX11_drop_12 ?_
    refine j_lcmpge (pc := 13) (tgt := 20) dX11_drop_13 dX11_drop_14 rfl (fun _ => ?_) (fun _ => ?_)
    · refine j_aload_n (pc := 20) 0 dX11_drop_20 rfl rfl ?_
      refine j_iload_n (pc := 21) 1 dX11_drop_21 rfl rfl ?_
      refine j_lload_n (pc := 22) 2 dX11_drop_22 rfl rfl ?_
      refine j_callVI (pc := 23) (As := [aI v1, aL v2]) (st := []) (fun l => c11_entry l N v0 v1 v2) cs_RX11_290 rfl rfl rfl rfl (Nat.le_of_ble_eq_true rfl) ⟨(Nat.le_of_ble_eq_true rfl), (Nat.le_of_ble_eq_true rfl)⟩ ⟨(Nat.le_of_ble_eq_true rfl), (Nat.le_of_ble_eq_true rfl)⟩ dX11_drop_23 (fun r3 σ4 => ?_)
      refine j_istore (pc := 26) (lv' := [(4, aI r3), (0, aR 29 v0), (1, aI v1), (2, aL v2)]) dX11_drop_26 (Nat.le_of_ble_eq_true rfl) rfl ?_
      refine j_sub [0, 1, 2] (lv' := [(4, aI r3), (0, aR 29 v0), (1, aI v1)]) rfl ?_
      refine j_iload (pc := 28) 0 dX11_drop_28 rfl ?_
      refine j_iconst (pc := 30) (v := (-1)) (by decide) dX11_drop_30 ?_
      refine j_icmpne (pc := 31) (tgt := 36) dX11_drop_31 rfl (fun _ => ?_) (fun _ => ?_)
      · refine j_aload_n (pc := 36) 1 dX11_drop_36 rfl rfl ?_
        refine j_getF (pc := 37) fd_29_21 tw_4_84 dX11_drop_37 ?_
        refine j_aload_n (pc := 40) 1 dX11_drop_40 rfl rfl ?_
        refine j_getF (pc := 41) fd_29_29 tw_4_92 dX11_drop_41 ?_
        refine j_iload (pc := 44) 0 dX11_drop_44 rfl ?_
        refine j_iald (pc := 46) rfl rfl rfl dX11_drop_46 (fun j5 => ?_)
        refine j_iald (pc := 47) rfl rfl rfl dX11_drop_47 (fun j6 => ?_)
        refine j_leti (fun x7 => ?_)
        refine j_istore (pc := 48) (lv' := [(5, aI x7), (4, aI r3), (0, aR 29 v0), (1, aI v1)]) dX11_drop_48 (Nat.le_of_ble_eq_true rfl) rfl ?_
        refine j_aload_n (pc := 50) 2 dX11_drop_50 rfl rfl ?_
        refine j_aload_n (pc := 51) 2 dX11_drop_51 rfl rfl ?_
        refine j_getF (pc := 52) fd_29_29 tw_4_92 dX11_drop_52 ?_
        refine j_iload (pc := 55) 1 dX11_drop_55 rfl ?_
        refine j_iald (pc := 57) rfl rfl rfl dX11_drop_57 (fun j8 => ?_)
        refine j_callVV (pc := 58) (As := [aI (gI σ4 59 v0 j8)]) (st := []) (fun l => c11_leave l v0 (gI σ4 59 v0 j8)) cs_RX11_303 rfl rfl rfl rfl (Nat.le_of_ble_eq_true rfl) ⟨(Nat.le_of_ble_eq_true rfl), (Nat.le_of_ble_eq_true rfl)⟩ ⟨(Nat.le_of_ble_eq_true rfl), (Nat.le_of_ble_eq_true rfl)⟩ dX11_drop_58 (fun r9 σ10 => ?_)
        refine j_aload_n (pc := 61) 2 dX11_drop_61 rfl rfl ?_
        refine j_getF (pc := 62) fd_29_27 tw_4_90 dX11_drop_62 ?_
        refine j_iload_n (pc := 65) 3 dX11_drop_65 rfl rfl ?_
        refine j_dup2 (pc := 66) dX11_drop_66 rfl rfl ?_
        refine j_iald (pc := 67) rfl rfl rfl dX11_drop_67 (fun j11 => ?_)
        refine j_iconst (pc := 68) (v := 1) (by decide) dX11_drop_68 ?_
        refine j_isub (pc := 69) dX11_drop_69 ?_
        refine j_iast (pc := 70) rfl rfl rfl dX11_drop_70 (fun j12 => ?_)
        refine j_lets (fun σ13 => ?_)
        refine j_iload (pc := 71) 1 dX11_drop_71 rfl ?_
        refine j_istore (pc := 73) (lv' := [(6, aI r3), (5, aI x7), (4, aI r3), (0, aR 29 v0), (1, aI v1)]) dX11_drop_73 (Nat.le_of_ble_eq_true rfl) rfl ?_
        refine j_sub [0, 1, 3, 4] (lv' := [(6, aI r3), (5, aI x7), (0, aR 29 v0), (1, aI v1)]) rfl ?_
        refine j_sub [2, 3, 1, 0] (lv' := [(0, aR 29 v0), (1, aI v1), (5, aI x7), (6, aI r3)]) rfl ?_
        exact jl11_drop_75 N  N v0 v1 x7 r3 σ13
      · refine j_iconst (pc := 34) (v := (-1)) (by decide) dX11_drop_34 ?_
        exact j_ireturn (pc := 35) rfl (Nat.le_of_ble_eq_true rfl) (Nat.le_of_ble_eq_true rfl) dX11_drop_35
    · refine j_bipush (pc := 17) (v := (-102)) (by decide) dX11_drop_17 ?_
      exact j_ireturn (pc := 19) rfl (Nat.le_of_ble_eq_true rfl) (Nat.le_of_ble_eq_true rfl) dX11_drop_19
  · refine j_bipush (pc := 8) (v := (-101)) (by decide) dX11_drop_8 ?_
    exact j_ireturn (pc := 10) rfl (Nat.le_of_ble_eq_true rfl) (Nat.le_of_ble_eq_true rfl) dX11_drop_10
theorem c11_drop (l : Launch) (N : Nat) (v0 : Nat) (v1 : Int32) (v2 : Int64) : Ctr l yX11_drop cX11_drop 7 (some .int) rm11_drop eI [aR 29 v0, aI v1, aL v2] (f11_drop N v0 v1 v2) := ctr_of (lv := [(0, aR 29 v0), (1, aI v1), (2, aL v2)]) (by decide +kernel) (fun _ => rfl) (fun _ => (Nat.le_of_ble_eq_true rfl)) (fun _ h => lvl_als h rfl) (fun _ σ _ => j11_drop N v0 v1 v2 σ)
abbrev rm11_end : Room := { frames := 2, cells := 0, slots := 0, locals := 46 }
set_option maxRecDepth 20000 in
set_option maxHeartbeats 4000000 in
theorem j11_end {Γ : jX} {tg : Int32 × rS} (v0 : Nat) (v1 : Int32) (σ : rS) : J Γ rm11_end eI cX11_end RX11 2 (some .int) tg 0 0 0 [(0, aR 29 v0), (1, aI v1)] [] σ (f11_end v0 v1 σ) := by
  unfold f11_end
  refine j_aload_n (pc := 0) 0 dX11_end_0 rfl rfl ?_
  refine j_iload_n (pc := 1) 1 dX11_end_1 rfl rfl ?_
  refine j_callVZ (pc := 2) (As := [aI v1]) (st := []) (fun l => c11_isStream l v0 v1) cs_RX11_247 rfl rfl rfl rfl (Nat.le_of_ble_eq_true rfl) ⟨(Nat.le_of_ble_eq_true rfl), (Nat.le_of_ble_eq_true rfl)⟩ ⟨(Nat.le_of_ble_eq_true rfl), (Nat.le_of_ble_eq_true rfl)⟩ dX11_end_2 (fun r1 σ2 => ?_)
  refine j_ifneB (pc := 5) (tgt := 11) dX11_end_5 rfl (fun _ => ?_) (fun _ => ?_)
  · refine j_aload_n (pc := 11) 0 dX11_end_11 rfl rfl ?_
    refine j_getF (pc := 12) fd_29_17 tw_4_80 dX11_end_12 ?_
    refine j_iload_n (pc := 15) 1 dX11_end_15 rfl rfl ?_
    refine j_zald (pc := 16) rfl rfl rfl dX11_end_16 (fun j3 => ?_)
    refine j_ifeq (pc := 17) (tgt := 23) dX11_end_17 rfl (fun _ => ?_) (fun _ => ?_)
    · refine j_aload_n (pc := 23) 0 dX11_end_23 rfl rfl ?_
      refine j_getF (pc := 24) fd_29_17 tw_4_80 dX11_end_24 ?_
      refine j_iload_n (pc := 27) 1 dX11_end_27 rfl rfl ?_
      refine j_iconst (pc := 28) (v := 1) (by decide) dX11_end_28 ?_
      refine j_zast (pc := 29) rfl rfl rfl dX11_end_29 (fun j4 => ?_)
      refine j_lets (fun σ5 => ?_)
      refine j_aload_n (pc := 30) 0 dX11_end_30 rfl rfl ?_
      refine j_getF (pc := 31) fd_29_15 tw_4_78 dX11_end_31 ?_
      refine j_iload_n (pc := 34) 1 dX11_end_34 rfl rfl ?_
      refine j_iald (pc := 35) rfl rfl rfl dX11_end_35 (fun j6 => ?_)
      exact j_ireturn (pc := 36) rfl (Nat.le_of_ble_eq_true rfl) (Nat.le_of_ble_eq_true rfl) dX11_end_36
    · refine j_bipush (pc := 20) (v := (-103)) (by decide) dX11_end_20 ?_
      exact j_ireturn (pc := 22) rfl (Nat.le_of_ble_eq_true rfl) (Nat.le_of_ble_eq_true rfl) dX11_end_22
  · refine j_bipush (pc := 8) (v := (-101)) (by decide) dX11_end_8 ?_
    exact j_ireturn (pc := 10) rfl (Nat.le_of_ble_eq_true rfl) (Nat.le_of_ble_eq_true rfl) dX11_end_10
theorem c11_end (l : Launch) (v0 : Nat) (v1 : Int32) : Ctr l yX11_end cX11_end 2 (some .int) rm11_end eI [aR 29 v0, aI v1] (f11_end v0 v1) := ctr_of (lv := [(0, aR 29 v0), (1, aI v1)]) (by decide +kernel) (fun _ => rfl) (fun _ => (Nat.le_of_ble_eq_true rfl)) (fun _ h => lvl_als h rfl) (fun _ σ _ => j11_end v0 v1 σ)
abbrev rm11_find : Room := { frames := 2, cells := 0, slots := 0, locals := 46 }
set_option maxRecDepth 20000 in
set_option maxHeartbeats 4000000 in
theorem j11_find {Γ : jX} {tg : Int32 × rS} (N : Nat) (v0 : Nat) (v1 : Int32) (v2 : Int64) (σ : rS) : J Γ rm11_find eI cX11_find RX11 5 (some .int) tg 0 0 0 [(0, aR 29 v0), (1, aI v1), (2, aL v2)] [] σ (f11_find N v0 v1 v2 σ) := by
  unfold f11_find
  refine j_aload_n (pc := 0) 0 dX11_find_0 rfl rfl ?_
  refine j_iload_n (pc := 1) 1 dX11_find_1 rfl rfl ?_
  refine j_callVZ (pc := 2) (As := [aI v1]) (st := []) (fun l => c11_isHouse l v0 v1) cs_RX11_287 rfl rfl rfl rfl (Nat.le_of_ble_eq_true rfl) ⟨(Nat.le_of_ble_eq_true rfl), (Nat.le_of_ble_eq_true rfl)⟩ ⟨(Nat.le_of_ble_eq_true rfl), (Nat.le_of_ble_eq_true rfl)⟩ dX11_find_2 (fun r1 σ2 => ?_)
  refine j_ifneB (pc := 5) (tgt := 11) dX11_find_5 rfl (fun _ => ?_) (fun _ => ?_)
  · refine j_lload_n (pc := 11) 2 dX11_find_11 rfl rfl ?_
    refine j_lconst (pc := 12) (v := 0) (by decide) dX11_find_12 ?_
    refine j_lcmpge (pc := 13) (tgt := 20) dX11_find_13 dX11_find_14 rfl (fun _ => ?_) (fun _ => ?_)
    · refine j_aload_n (pc := 20) 0 dX11_find_20 rfl rfl ?_
      refine j_iload_n (pc := 21) 1 dX11_find_21 rfl rfl ?_
      refine j_lload_n (pc := 22) 2 dX11_find_22 rfl rfl ?_
      refine j_callVI (pc := 23) (As := [aI v1, aL v2]) (st := []) (fun l => c11_entry l N v0 v1 v2) cs_RX11_290 rfl rfl rfl rfl (Nat.le_of_ble_eq_true rfl) ⟨(Nat.le_of_ble_eq_true rfl), (Nat.le_of_ble_eq_true rfl)⟩ ⟨(Nat.le_of_ble_eq_true rfl), (Nat.le_of_ble_eq_true rfl)⟩ dX11_find_23 (fun r3 σ4 => ?_)
      refine j_istore (pc := 26) (lv' := [(4, aI r3), (0, aR 29 v0), (1, aI v1), (2, aL v2)]) dX11_find_26 (Nat.le_of_ble_eq_true rfl) rfl ?_
      refine j_sub [0, 1] (lv' := [(4, aI r3), (0, aR 29 v0)]) rfl ?_
      refine j_iload (pc := 28) 0 dX11_find_28 rfl ?_
      refine j_iconst (pc := 30) (v := (-1)) (by decide) dX11_find_30 ?_
      refine j_icmpne (pc := 31) (tgt := 38) dX11_find_31 rfl (fun _ => ?_) (fun _ => ?_)
      · refine j_aload_n (pc := 38) 1 dX11_find_38 rfl rfl ?_
        refine j_getF (pc := 39) fd_29_21 tw_4_84 dX11_find_39 ?_
        refine j_aload_n (pc := 42) 1 dX11_find_42 rfl rfl ?_
        refine j_getF (pc := 43) fd_29_29 tw_4_92 dX11_find_43 ?_
        refine j_iload (pc := 46) 0 dX11_find_46 rfl ?_
        refine j_iald (pc := 48) rfl rfl rfl dX11_find_48 (fun j5 => ?_)
        refine j_iald (pc := 49) rfl rfl rfl dX11_find_49 (fun j6 => ?_)
        exact j_ireturn (pc := 50) rfl (Nat.le_of_ble_eq_true rfl) (Nat.le_of_ble_eq_true rfl) dX11_find_50
      · refine j_iconst (pc := 34) (v := (-1)) (by decide) dX11_find_34 ?_
        refine j_goto (pc := 35) (tgt := 50) dX11_find_35 rfl ?_
        exact j_ireturn (pc := 50) rfl (Nat.le_of_ble_eq_true rfl) (Nat.le_of_ble_eq_true rfl) dX11_find_50
    · refine j_bipush (pc := 17) (v := (-102)) (by decide) dX11_find_17 ?_
      exact j_ireturn (pc := 19) rfl (Nat.le_of_ble_eq_true rfl) (Nat.le_of_ble_eq_true rfl) dX11_find_19
  · refine j_bipush (pc := 8) (v := (-101)) (by decide) dX11_find_8 ?_
    exact j_ireturn (pc := 10) rfl (Nat.le_of_ble_eq_true rfl) (Nat.le_of_ble_eq_true rfl) dX11_find_10
theorem c11_find (l : Launch) (N : Nat) (v0 : Nat) (v1 : Int32) (v2 : Int64) : Ctr l yX11_find cX11_find 5 (some .int) rm11_find eI [aR 29 v0, aI v1, aL v2] (f11_find N v0 v1 v2) := ctr_of (lv := [(0, aR 29 v0), (1, aI v1), (2, aL v2)]) (by decide +kernel) (fun _ => rfl) (fun _ => (Nat.le_of_ble_eq_true rfl)) (fun _ h => lvl_als h rfl) (fun _ σ _ => j11_find N v0 v1 v2 σ)
abbrev rm11_finding : Room := { frames := 0, cells := 0, slots := 0, locals := 0 }
set_option maxRecDepth 20000 in
set_option maxHeartbeats 4000000 in
theorem j11_finding {Γ : jX} {tg : Int32 × rS} (v0 : Nat) (σ : rS) : J Γ rm11_finding eI cX11_finding RX11 1 (some .int) tg 0 0 0 [(0, aR 29 v0)] [] σ (f11_finding v0 σ) := by
  unfold f11_finding
  refine j_aload_n (pc := 0) 0 dX11_finding_0 rfl rfl ?_
  refine j_getI (pc := 1) fd_29_0 tw_4_63 dX11_finding_1 ?_
  exact j_ireturn (pc := 4) rfl (Nat.le_of_ble_eq_true rfl) (Nat.le_of_ble_eq_true rfl) dX11_finding_4
theorem c11_finding (l : Launch) (v0 : Nat) : Ctr l yX11_finding cX11_finding 1 (some .int) rm11_finding eI [aR 29 v0] (f11_finding v0) := ctr_of (lv := [(0, aR 29 v0)]) (by decide +kernel) (fun _ => rfl) (fun _ => (Nat.le_of_ble_eq_true rfl)) (fun _ h => lvl_als h rfl) (fun _ σ _ => j11_finding v0 σ)
abbrev rm11_findings : Room := { frames := 1, cells := 0, slots := 0, locals := 25 }
set_option maxRecDepth 20000 in
set_option maxHeartbeats 4000000 in
theorem j11_findings {Γ : jX} {tg : Int32 × rS} (v0 : Nat) (v1 : Int32) (σ : rS) : J Γ rm11_findings eI cX11_findings RX11 2 (some .int) tg 0 0 0 [(0, aR 29 v0), (1, aI v1)] [] σ (f11_findings v0 v1 σ) := by
  unfold f11_findings
  refine j_iload_n (pc := 0) 1 dX11_findings_0 rfl rfl ?_
  refine j_i2l (pc := 1) dX11_findings_1 ?_
  refine j_lconst (pc := 2) (v := 1) (by decide) dX11_findings_2 ?_
  refine j_ldc2 (pc := 3) tw_6_26 dX11_findings_3 ?_
  refine j_callSZ (pc := 6) (As := [aL (Int32.toInt64 v1), aL 1, aL 9]) (st := []) (fun l => c11_in l (Int32.toInt64 v1) 1 9) cs_RX11_140 rfl rfl (Nat.le_of_ble_eq_true rfl) ⟨(Nat.le_of_ble_eq_true rfl), (Nat.le_of_ble_eq_true rfl)⟩ ⟨(Nat.le_of_ble_eq_true rfl), (Nat.le_of_ble_eq_true rfl)⟩ dX11_findings_6 (fun r1 σ2 => ?_)
  refine j_ifeqB (pc := 9) (tgt := 21) dX11_findings_9 rfl (fun _ => ?_) (fun _ => ?_)
  · refine j_bipush (pc := 21) (v := (-102)) (by decide) dX11_findings_21 ?_
    exact j_ireturn (pc := 23) rfl (Nat.le_of_ble_eq_true rfl) (Nat.le_of_ble_eq_true rfl) dX11_findings_23
  · refine j_aload_n (pc := 12) 0 dX11_findings_12 rfl rfl ?_
    refine j_getF (pc := 13) fd_29_1 tw_4_64 dX11_findings_13 ?_
    refine j_iload_n (pc := 16) 1 dX11_findings_16 rfl rfl ?_
    refine j_iald (pc := 17) rfl rfl rfl dX11_findings_17 (fun j3 => ?_)
    refine j_goto (pc := 18) (tgt := 23) dX11_findings_18 rfl ?_
    exact j_ireturn (pc := 23) rfl (Nat.le_of_ble_eq_true rfl) (Nat.le_of_ble_eq_true rfl) dX11_findings_23
theorem c11_findings (l : Launch) (v0 : Nat) (v1 : Int32) : Ctr l yX11_findings cX11_findings 2 (some .int) rm11_findings eI [aR 29 v0, aI v1] (f11_findings v0 v1) := ctr_of (lv := [(0, aR 29 v0), (1, aI v1)]) (by decide +kernel) (fun _ => rfl) (fun _ => (Nat.le_of_ble_eq_true rfl)) (fun _ h => lvl_als h rfl) (fun _ σ _ => j11_findings v0 v1 σ)
abbrev rm11_freeBody : Room := { frames := 0, cells := 0, slots := 0, locals := 0 }
set_option maxRecDepth 20000 in
set_option maxHeartbeats 4000000 in
theorem jb11_freeBody_2 {Γ : jX} {tg : Int32 × rS} (N : Nat) (K2 : Nat → Int32 → rS → Option (Int32 × rS)) (hK2 : ∀ (v0 : Nat) (v1 : Int32) (σ : rS), J Γ rm11_freeBody eI cX11_freeBody RX11 2 (some .int) tg 0 0 2 [(0, aR 29 v0), (1, aI v1)] [] σ (K2 v0 v1 σ)) (v0 : Nat) (v1 : Int32) (σ : rS) : J Γ rm11_freeBody eI cX11_freeBody RX11 2 (some .int) tg 0 0 2 [(0, aR 29 v0), (1, aI v1)] [] σ (B11_freeBody_2 N K2 v0 v1 σ) := by
  unfold B11_freeBody_2
  refine j_iload_n (pc := 2) 1 dX11_freeBody_2 rfl rfl ?_
  refine j_bipush (pc := 3) (v := 30) (by decide) dX11_freeBody_3 ?_
  refine j_icmpge (pc := 5) (tgt := 24) dX11_freeBody_5 rfl (fun _ => ?_) (fun _ => ?_)
  · refine j_iload_n (pc := 24) 1 dX11_freeBody_24 rfl rfl ?_
    exact j_ireturn (pc := 25) rfl (Nat.le_of_ble_eq_true rfl) (Nat.le_of_ble_eq_true rfl) dX11_freeBody_25
  · refine j_aload_n (pc := 8) 0 dX11_freeBody_8 rfl rfl ?_
    refine j_getF (pc := 9) fd_29_21 tw_4_84 dX11_freeBody_9 ?_
    refine j_iload_n (pc := 12) 1 dX11_freeBody_12 rfl rfl ?_
    refine j_iald (pc := 13) rfl rfl rfl dX11_freeBody_13 (fun j1 => ?_)
    refine j_iconst (pc := 14) (v := (-1)) (by decide) dX11_freeBody_14 ?_
    refine j_icmpeq (pc := 15) (tgt := 24) dX11_freeBody_15 rfl (fun _ => ?_) (fun _ => ?_)
    · refine j_iload_n (pc := 24) 1 dX11_freeBody_24 rfl rfl ?_
      exact j_ireturn (pc := 25) rfl (Nat.le_of_ble_eq_true rfl) (Nat.le_of_ble_eq_true rfl) dX11_freeBody_25
    · refine j_iinc (pc := 18) (w := 1) (lv' := [(1, aI (v1 + 1)), (0, aR 29 v0)]) 1 dX11_freeBody_18 rfl (by decide) (Nat.le_of_ble_eq_true rfl) rfl ?_
      refine j_goto (pc := 21) (tgt := 2) dX11_freeBody_21 rfl ?_
      refine j_sub [1, 0] (lv' := [(0, aR 29 v0), (1, aI (v1 + 1))]) rfl ?_
      exact hK2 v0 (v1 + 1) σ
theorem jl11_freeBody_2 {Γ : jX} {tg : Int32 × rS} (N : Nat) : ∀ (n : Nat) (v0 : Nat) (v1 : Int32) (σ : rS), J Γ rm11_freeBody eI cX11_freeBody RX11 2 (some .int) tg 0 0 2 [(0, aR 29 v0), (1, aI v1)] [] σ (L11_freeBody_2 N n v0 v1 σ) := by
  intro n
  induction n with
  | zero => intro v0 v1 σ; exact j_none
  | succ n ih => intro v0 v1 σ; exact jb11_freeBody_2 N (L11_freeBody_2 N n) ih v0 v1 σ
set_option maxRecDepth 20000 in
set_option maxHeartbeats 4000000 in
theorem j11_freeBody {Γ : jX} {tg : Int32 × rS} (N : Nat) (v0 : Nat) (σ : rS) : J Γ rm11_freeBody eI cX11_freeBody RX11 2 (some .int) tg 0 0 0 [(0, aR 29 v0)] [] σ (f11_freeBody N v0 σ) := by
  unfold f11_freeBody
  refine j_iconst (pc := 0) (v := 0) (by decide) dX11_freeBody_0 ?_
  refine j_istore_n (pc := 1) (lv' := [(1, aI 0), (0, aR 29 v0)]) dX11_freeBody_1 rfl (Nat.le_of_ble_eq_true rfl) rfl ?_
  refine j_sub [1, 0] (lv' := [(0, aR 29 v0), (1, aI 0)]) rfl ?_
  exact jl11_freeBody_2 N  N v0 0 σ
theorem c11_freeBody (l : Launch) (N : Nat) (v0 : Nat) : Ctr l yX11_freeBody cX11_freeBody 2 (some .int) rm11_freeBody eI [aR 29 v0] (f11_freeBody N v0) := ctr_of (lv := [(0, aR 29 v0)]) (by decide +kernel) (fun _ => rfl) (fun _ => (Nat.le_of_ble_eq_true rfl)) (fun _ h => lvl_als h rfl) (fun _ σ _ => j11_freeBody N v0 σ)
abbrev rm11_get : Room := { frames := 3, cells := 0, slots := 0, locals := 68 }
set_option maxRecDepth 20000 in
set_option maxHeartbeats 4000000 in
theorem j11_get {Γ : jX} {tg : Int32 × rS} (v0 : Nat) (v1 : Int32) (v2 : Int32) (σ : rS) : J Γ rm11_get eI cX11_get RX11 4 (some .int) tg 0 0 0 [(0, aR 29 v0), (1, aI v1), (2, aI v2)] [] σ (f11_get v0 v1 v2 σ) := by
  unfold f11_get
  refine j_aload_n (pc := 0) 0 dX11_get_0 rfl rfl ?_
  refine j_iload_n (pc := 1) 1 dX11_get_1 rfl rfl ?_
  refine j_iload_n (pc := 2) 2 dX11_get_2 rfl rfl ?_
  refine j_callVI (pc := 3) (As := [aI v1, aI v2]) (st := []) (fun l => c11_against l v0 v1 v2) cs_RX11_158 rfl rfl rfl rfl (Nat.le_of_ble_eq_true rfl) ⟨(Nat.le_of_ble_eq_true rfl), (Nat.le_of_ble_eq_true rfl)⟩ ⟨(Nat.le_of_ble_eq_true rfl), (Nat.le_of_ble_eq_true rfl)⟩ dX11_get_3 (fun r1 σ2 => ?_)
  refine j_istore_n (pc := 6) (lv' := [(3, aI r1), (0, aR 29 v0), (1, aI v1), (2, aI v2)]) dX11_get_6 rfl (Nat.le_of_ble_eq_true rfl) rfl ?_
  refine j_iload_n (pc := 7) 0 dX11_get_7 rfl rfl ?_
  refine j_ifne (pc := 8) (tgt := 26) dX11_get_8 rfl (fun _ => ?_) (fun _ => ?_)
  · refine j_iload_n (pc := 26) 0 dX11_get_26 rfl rfl ?_
    exact j_ireturn (pc := 27) rfl (Nat.le_of_ble_eq_true rfl) (Nat.le_of_ble_eq_true rfl) dX11_get_27
  · refine j_aload_n (pc := 11) 1 dX11_get_11 rfl rfl ?_
    refine j_aload_n (pc := 12) 1 dX11_get_12 rfl rfl ?_
    refine j_getF (pc := 13) fd_29_7 tw_4_70 dX11_get_13 ?_
    refine j_bipush (pc := 16) (v := 24) (by decide) dX11_get_16 ?_
    refine j_iload_n (pc := 18) 2 dX11_get_18 rfl rfl ?_
    refine j_imul (pc := 19) dX11_get_19 ?_
    refine j_iload_n (pc := 20) 3 dX11_get_20 rfl rfl ?_
    refine j_iadd (pc := 21) dX11_get_21 ?_
    refine j_lald (pc := 22) rfl rfl rfl dX11_get_22 (fun j3 => ?_)
    refine j_putL (pc := 23) fd_29_2 tw_4_65 dX11_get_23 ?_
    refine j_lets (fun σ4 => ?_)
    refine j_iload_n (pc := 26) 0 dX11_get_26 rfl rfl ?_
    exact j_ireturn (pc := 27) rfl (Nat.le_of_ble_eq_true rfl) (Nat.le_of_ble_eq_true rfl) dX11_get_27
theorem c11_get (l : Launch) (v0 : Nat) (v1 : Int32) (v2 : Int32) : Ctr l yX11_get cX11_get 4 (some .int) rm11_get eI [aR 29 v0, aI v1, aI v2] (f11_get v0 v1 v2) := ctr_of (lv := [(0, aR 29 v0), (1, aI v1), (2, aI v2)]) (by decide +kernel) (fun _ => rfl) (fun _ => (Nat.le_of_ble_eq_true rfl)) (fun _ h => lvl_als h rfl) (fun _ σ _ => j11_get v0 v1 v2 σ)
abbrev rm11_harm : Room := { frames := 2, cells := 0, slots := 0, locals := 46 }
set_option maxRecDepth 20000 in
set_option maxHeartbeats 4000000 in
theorem j11_harm {Γ : jX} {tg : Int32 × rS} (v0 : Nat) (v1 : Int32) (v2 : Int32) (v3 : Int32) (σ : rS) : J Γ rm11_harm eI cX11_harm RX11 4 (some .int) tg 0 0 0 [(0, aR 29 v0), (1, aI v1), (2, aI v2), (3, aI v3)] [] σ (f11_harm v0 v1 v2 v3 σ) := by
  unfold f11_harm
  refine j_aload_n (pc := 0) 0 dX11_harm_0 rfl rfl ?_
  refine j_iload_n (pc := 1) 1 dX11_harm_1 rfl rfl ?_
  refine j_callVZ (pc := 2) (As := [aI v1]) (st := []) (fun l => c11_isStream l v0 v1) cs_RX11_247 rfl rfl rfl rfl (Nat.le_of_ble_eq_true rfl) ⟨(Nat.le_of_ble_eq_true rfl), (Nat.le_of_ble_eq_true rfl)⟩ ⟨(Nat.le_of_ble_eq_true rfl), (Nat.le_of_ble_eq_true rfl)⟩ dX11_harm_2 (fun r1 σ2 => ?_)
  refine j_ifneB (pc := 5) (tgt := 11) dX11_harm_5 rfl (fun _ => ?_) (fun _ => ?_)
  · refine j_iload_n (pc := 11) 2 dX11_harm_11 rfl rfl ?_
    refine j_i2l (pc := 12) dX11_harm_12 ?_
    refine j_lconst (pc := 13) (v := 0) (by decide) dX11_harm_13 ?_
    refine j_aload_n (pc := 14) 0 dX11_harm_14 rfl rfl ?_
    refine j_getF (pc := 15) fd_29_15 tw_4_78 dX11_harm_15 ?_
    refine j_iload_n (pc := 18) 1 dX11_harm_18 rfl rfl ?_
    refine j_iald (pc := 19) rfl rfl rfl dX11_harm_19 (fun j3 => ?_)
    refine j_iconst (pc := 20) (v := 1) (by decide) dX11_harm_20 ?_
    refine j_isub (pc := 21) dX11_harm_21 ?_
    refine j_i2l (pc := 22) dX11_harm_22 ?_
    refine j_callSZ (pc := 23) (As := [aL (Int32.toInt64 v2), aL 0, aL (Int32.toInt64 ((gI σ2 45 v0 j3) - 1))]) (st := []) (fun l => c11_in l (Int32.toInt64 v2) 0 (Int32.toInt64 ((gI σ2 45 v0 j3) - 1))) cs_RX11_140 rfl rfl (Nat.le_of_ble_eq_true rfl) ⟨(Nat.le_of_ble_eq_true rfl), (Nat.le_of_ble_eq_true rfl)⟩ ⟨(Nat.le_of_ble_eq_true rfl), (Nat.le_of_ble_eq_true rfl)⟩ dX11_harm_23 (fun r4 σ5 => ?_)
    refine j_ifneB (pc := 26) (tgt := 35) dX11_harm_26 rfl (fun _ => ?_) (fun _ => ?_)
    · refine j_aload_n (pc := 35) 0 dX11_harm_35 rfl rfl ?_
      refine j_getF (pc := 36) fd_29_14 tw_4_77 dX11_harm_36 ?_
      refine j_sipush (pc := 39) (v := 400) (by decide) dX11_harm_39 ?_
      refine j_iload_n (pc := 42) 1 dX11_harm_42 rfl rfl ?_
      refine j_imul (pc := 43) dX11_harm_43 ?_
      refine j_iload_n (pc := 44) 2 dX11_harm_44 rfl rfl ?_
      refine j_iadd (pc := 45) dX11_harm_45 ?_
      refine j_dup2 (pc := 46) dX11_harm_46 rfl rfl ?_
      refine j_iald (pc := 47) rfl rfl rfl dX11_harm_47 (fun j6 => ?_)
      refine j_iload_n (pc := 48) 3 dX11_harm_48 rfl rfl ?_
      refine j_sipush (pc := 49) (v := 255) (by decide) dX11_harm_49 ?_
      refine j_iand (pc := 52) dX11_harm_52 ?_
      refine j_ixor (pc := 53) dX11_harm_53 ?_
      refine j_iast (pc := 54) rfl rfl rfl dX11_harm_54 (fun j7 => ?_)
      refine j_lets (fun σ8 => ?_)
      refine j_aload_n (pc := 55) 0 dX11_harm_55 rfl rfl ?_
      refine j_getF (pc := 56) fd_29_14 tw_4_77 dX11_harm_56 ?_
      refine j_sipush (pc := 59) (v := 400) (by decide) dX11_harm_59 ?_
      refine j_iload_n (pc := 62) 1 dX11_harm_62 rfl rfl ?_
      refine j_imul (pc := 63) dX11_harm_63 ?_
      refine j_iload_n (pc := 64) 2 dX11_harm_64 rfl rfl ?_
      refine j_iadd (pc := 65) dX11_harm_65 ?_
      refine j_iald (pc := 66) rfl rfl rfl dX11_harm_66 (fun j9 => ?_)
      exact j_ireturn (pc := 67) rfl (Nat.le_of_ble_eq_true rfl) (Nat.le_of_ble_eq_true rfl) dX11_harm_67
    · refine j_aload_n (pc := 29) 0 dX11_harm_29 rfl rfl ?_
      refine j_iconst (pc := 30) (v := 2) (by decide) dX11_harm_30 ?_
      refine j_callVI (pc := 31) (As := [aI 2]) (st := []) (fun l => c11_meets l v0 2) cs_RX11_146 rfl rfl rfl rfl (Nat.le_of_ble_eq_true rfl) ⟨(Nat.le_of_ble_eq_true rfl), (Nat.le_of_ble_eq_true rfl)⟩ ⟨(Nat.le_of_ble_eq_true rfl), (Nat.le_of_ble_eq_true rfl)⟩ dX11_harm_31 (fun r10 σ11 => ?_)
      exact j_ireturn (pc := 34) rfl (Nat.le_of_ble_eq_true rfl) (Nat.le_of_ble_eq_true rfl) dX11_harm_34
  · refine j_bipush (pc := 8) (v := (-101)) (by decide) dX11_harm_8 ?_
    exact j_ireturn (pc := 10) rfl (Nat.le_of_ble_eq_true rfl) (Nat.le_of_ble_eq_true rfl) dX11_harm_10
theorem c11_harm (l : Launch) (v0 : Nat) (v1 : Int32) (v2 : Int32) (v3 : Int32) : Ctr l yX11_harm cX11_harm 4 (some .int) rm11_harm eI [aR 29 v0, aI v1, aI v2, aI v3] (f11_harm v0 v1 v2 v3) := ctr_of (lv := [(0, aR 29 v0), (1, aI v1), (2, aI v2), (3, aI v3)]) (by decide +kernel) (fun _ => rfl) (fun _ => (Nat.le_of_ble_eq_true rfl)) (fun _ h => lvl_als h rfl) (fun _ σ _ => j11_harm v0 v1 v2 v3 σ)
abbrev rm11_house : Room := { frames := 0, cells := 0, slots := 0, locals := 0 }
set_option maxRecDepth 20000 in
set_option maxHeartbeats 4000000 in
theorem j11_house {Γ : jX} {tg : Int32 × rS} (v0 : Nat) (σ : rS) : J Γ rm11_house eI cX11_house RX11 1 (some .int) tg 0 0 0 [(0, aR 29 v0)] [] σ (f11_house v0 σ) := by
  unfold f11_house
  refine j_aload_n (pc := 0) 0 dX11_house_0 rfl rfl ?_
  refine j_getI (pc := 1) fd_29_26 tw_4_89 dX11_house_1 ?_
  refine j_bipush (pc := 4) (v := 6) (by decide) dX11_house_4 ?_
  refine j_icmpne (pc := 6) (tgt := 12) dX11_house_6 rfl (fun _ => ?_) (fun _ => ?_)
  · refine j_aload_n (pc := 12) 0 dX11_house_12 rfl rfl ?_
    refine j_getF (pc := 13) fd_29_27 tw_4_90 dX11_house_13 ?_
    refine j_aload_n (pc := 16) 0 dX11_house_16 rfl rfl ?_
    refine j_getI (pc := 17) fd_29_26 tw_4_89 dX11_house_17 ?_
    refine j_iconst (pc := 20) (v := 0) (by decide) dX11_house_20 ?_
    refine j_iast (pc := 21) rfl rfl rfl dX11_house_21 (fun j1 => ?_)
    refine j_lets (fun σ2 => ?_)
    refine j_aload_n (pc := 22) 0 dX11_house_22 rfl rfl ?_
    refine j_dup (pc := 23) dX11_house_23 rfl ?_
    refine j_getI (pc := 24) fd_29_26 tw_4_89 dX11_house_24 ?_
    refine j_iconst (pc := 27) (v := 1) (by decide) dX11_house_27 ?_
    refine j_iadd (pc := 28) dX11_house_28 ?_
    refine j_putI (pc := 29) fd_29_26 rfl rfl tw_4_89 dX11_house_29 ?_
    refine j_lets (fun σ3 => ?_)
    refine j_aload_n (pc := 32) 0 dX11_house_32 rfl rfl ?_
    refine j_getI (pc := 33) fd_29_26 tw_4_89 dX11_house_33 ?_
    refine j_iconst (pc := 36) (v := 1) (by decide) dX11_house_36 ?_
    refine j_isub (pc := 37) dX11_house_37 ?_
    exact j_ireturn (pc := 38) rfl (Nat.le_of_ble_eq_true rfl) (Nat.le_of_ble_eq_true rfl) dX11_house_38
  · refine j_bipush (pc := 9) (v := (-104)) (by decide) dX11_house_9 ?_
    exact j_ireturn (pc := 11) rfl (Nat.le_of_ble_eq_true rfl) (Nat.le_of_ble_eq_true rfl) dX11_house_11
theorem c11_house (l : Launch) (v0 : Nat) : Ctr l yX11_house cX11_house 1 (some .int) rm11_house eI [aR 29 v0] (f11_house v0) := ctr_of (lv := [(0, aR 29 v0)]) (by decide +kernel) (fun _ => rfl) (fun _ => (Nat.le_of_ble_eq_true rfl)) (fun _ h => lvl_als h rfl) (fun _ σ _ => j11_house v0 σ)
abbrev rm11_kEndless : Room := { frames := 0, cells := 0, slots := 0, locals := 0 }
set_option maxRecDepth 20000 in
set_option maxHeartbeats 4000000 in
theorem j11_kEndless {Γ : jX} {tg : Int64 × rS} (v0 : Int32) (σ : rS) : J Γ rm11_kEndless eL cX11_kEndless RX11 1 (some .long) tg 0 0 0 [(0, aI v0)] [] σ (f11_kEndless v0 σ) := by
  unfold f11_kEndless
  refine j_iload_n (pc := 0) 0 dX11_kEndless_0 rfl rfl ?_
  refine j_bipush (pc := 1) (v := 6) (by decide) dX11_kEndless_1 ?_
  refine j_icmpne (pc := 3) (tgt := 12) dX11_kEndless_3 rfl (fun _ => ?_) (fun _ => ?_)
  · refine j_ldc2 (pc := 12) tw_4_225 dX11_kEndless_12 ?_
    exact j_lreturn (pc := 15) rfl (Nat.le_of_ble_eq_true rfl) (Nat.le_of_ble_eq_true rfl) dX11_kEndless_15
  · refine j_ldc2 (pc := 6) tw_4_223 dX11_kEndless_6 ?_
    refine j_goto (pc := 9) (tgt := 15) dX11_kEndless_9 rfl ?_
    exact j_lreturn (pc := 15) rfl (Nat.le_of_ble_eq_true rfl) (Nat.le_of_ble_eq_true rfl) dX11_kEndless_15
theorem c11_kEndless (l : Launch) (v0 : Int32) : Ctr l yX11_kEndless cX11_kEndless 1 (some .long) rm11_kEndless eL [aI v0] (f11_kEndless v0) := ctr_of (lv := [(0, aI v0)]) (by decide +kernel) (fun _ => rfl) (fun _ => (Nat.le_of_ble_eq_true rfl)) (fun _ h => lvl_als h rfl) (fun _ σ _ => j11_kEndless v0 σ)
abbrev rm11_kMask : Room := { frames := 0, cells := 0, slots := 0, locals := 0 }
set_option maxRecDepth 20000 in
set_option maxHeartbeats 4000000 in
theorem j11_kMask {Γ : jX} {tg : Int64 × rS} (v0 : Int32) (σ : rS) : J Γ rm11_kMask eL cX11_kMask RX11 1 (some .long) tg 0 0 0 [(0, aI v0)] [] σ (f11_kMask v0 σ) := by
  unfold f11_kMask
  refine j_iload_n (pc := 0) 0 dX11_kMask_0 rfl rfl ?_
  refine j_bipush (pc := 1) (v := 6) (by decide) dX11_kMask_1 ?_
  refine j_icmpne (pc := 3) (tgt := 12) dX11_kMask_3 rfl (fun _ => ?_) (fun _ => ?_)
  · refine j_ldc2 (pc := 12) tw_4_224 dX11_kMask_12 ?_
    exact j_lreturn (pc := 15) rfl (Nat.le_of_ble_eq_true rfl) (Nat.le_of_ble_eq_true rfl) dX11_kMask_15
  · refine j_ldc2 (pc := 6) tw_4_222 dX11_kMask_6 ?_
    refine j_goto (pc := 9) (tgt := 15) dX11_kMask_9 rfl ?_
    exact j_lreturn (pc := 15) rfl (Nat.le_of_ble_eq_true rfl) (Nat.le_of_ble_eq_true rfl) dX11_kMask_15
theorem c11_kMask (l : Launch) (v0 : Int32) : Ctr l yX11_kMask cX11_kMask 1 (some .long) rm11_kMask eL [aI v0] (f11_kMask v0) := ctr_of (lv := [(0, aI v0)]) (by decide +kernel) (fun _ => rfl) (fun _ => (Nat.le_of_ble_eq_true rfl)) (fun _ h => lvl_als h rfl) (fun _ σ _ => j11_kMask v0 σ)
abbrev rm11_likeBody : Room := { frames := 0, cells := 0, slots := 0, locals := 0 }
set_option maxRecDepth 20000 in
set_option maxHeartbeats 4000000 in
theorem jb11_likeBody_98 {Γ : jX} {tg : Int32 × rS} (N : Nat) (K2 : Nat → Int32 → Int32 → rS → Option (Int32 × rS)) (hK2 : ∀ (v0 : Nat) (v1 : Int32) (v2 : Int32) (σ : rS), J Γ rm11_likeBody eI cX11_likeBody RX11 5 (some .int) tg 0 0 2 [(0, aR 29 v0), (1, aI v1), (2, aI v2)] [] σ (K2 v0 v1 v2 σ)) (v0 : Nat) (v1 : Int32) (v2 : Int32) (v3 : Bool) (σ : rS) : J Γ rm11_likeBody eI cX11_likeBody RX11 5 (some .int) tg 0 0 98 [(0, aR 29 v0), (1, aI v1), (2, aI v2), (3, aI (bi v3))] [] σ (B11_likeBody_98 N K2 v0 v1 v2 v3 σ) := by
  unfold B11_likeBody_98
  refine j_iload_n (pc := 98) 3 dX11_likeBody_98 rfl rfl ?_
  refine j_ifeqB (pc := 99) (tgt := 104) dX11_likeBody_99 rfl (fun _ => ?_) (fun _ => ?_)
  · refine j_iinc (pc := 104) (w := 1) (lv' := [(2, aI (v2 + 1)), (0, aR 29 v0), (1, aI v1), (3, aI (bi v3))]) 2 dX11_likeBody_104 rfl (by decide) (Nat.le_of_ble_eq_true rfl) rfl ?_
    refine j_goto (pc := 107) (tgt := 2) dX11_likeBody_107 rfl ?_
    refine j_sub [1, 2, 0] (lv' := [(0, aR 29 v0), (1, aI v1), (2, aI (v2 + 1))]) rfl ?_
    exact hK2 v0 v1 (v2 + 1) σ
  · refine j_iload_n (pc := 102) 2 dX11_likeBody_102 rfl rfl ?_
    exact j_ireturn (pc := 103) rfl (Nat.le_of_ble_eq_true rfl) (Nat.le_of_ble_eq_true rfl) dX11_likeBody_103
set_option maxRecDepth 20000 in
set_option maxHeartbeats 4000000 in
theorem jb11_likeBody_91 {Γ : jX} {tg : Int32 × rS} (N : Nat) (K2 : Nat → Int32 → Int32 → rS → Option (Int32 × rS)) (K42 : Nat → Int32 → Int32 → Bool → Int32 → rS → Option (Int32 × rS)) (hK2 : ∀ (v0 : Nat) (v1 : Int32) (v2 : Int32) (σ : rS), J Γ rm11_likeBody eI cX11_likeBody RX11 5 (some .int) tg 0 0 2 [(0, aR 29 v0), (1, aI v1), (2, aI v2)] [] σ (K2 v0 v1 v2 σ)) (hK42 : ∀ (v0 : Nat) (v1 : Int32) (v2 : Int32) (v3 : Bool) (v4 : Int32) (σ : rS), J Γ rm11_likeBody eI cX11_likeBody RX11 5 (some .int) tg 0 0 42 [(0, aR 29 v0), (1, aI v1), (2, aI v2), (3, aI (bi v3)), (4, aI v4)] [] σ (K42 v0 v1 v2 v3 v4 σ)) (v0 : Nat) (v1 : Int32) (v2 : Int32) (v4 : Int32) (s0 : Bool) (σ : rS) : J Γ rm11_likeBody eI cX11_likeBody RX11 5 (some .int) tg 0 0 91 [(0, aR 29 v0), (1, aI v1), (2, aI v2), (4, aI v4)] [aI (bi s0)] σ (B11_likeBody_91 N K2 K42 v0 v1 v2 v4 s0 σ) := by
  unfold B11_likeBody_91
  refine j_istore_n (pc := 91) (lv' := [(3, aI (bi s0)), (0, aR 29 v0), (1, aI v1), (2, aI v2), (4, aI v4)]) dX11_likeBody_91 rfl (Nat.le_of_ble_eq_true rfl) rfl ?_
  refine j_iinc (pc := 92) (w := 1) (lv' := [(4, aI (v4 + 1)), (3, aI (bi s0)), (0, aR 29 v0), (1, aI v1), (2, aI v2)]) 4 dX11_likeBody_92 rfl (by decide) (Nat.le_of_ble_eq_true rfl) rfl ?_
  refine j_goto (pc := 95) (tgt := 42) dX11_likeBody_95 rfl ?_
  refine j_sub [2, 3, 4, 1, 0] (lv' := [(0, aR 29 v0), (1, aI v1), (2, aI v2), (3, aI (bi s0)), (4, aI (v4 + 1))]) rfl ?_
  exact hK42 v0 v1 v2 s0 (v4 + 1) σ
set_option maxRecDepth 20000 in
set_option maxHeartbeats 4000000 in
theorem jb11_likeBody_42 {Γ : jX} {tg : Int32 × rS} (N : Nat) (K2 : Nat → Int32 → Int32 → rS → Option (Int32 × rS)) (K42 : Nat → Int32 → Int32 → Bool → Int32 → rS → Option (Int32 × rS)) (hK2 : ∀ (v0 : Nat) (v1 : Int32) (v2 : Int32) (σ : rS), J Γ rm11_likeBody eI cX11_likeBody RX11 5 (some .int) tg 0 0 2 [(0, aR 29 v0), (1, aI v1), (2, aI v2)] [] σ (K2 v0 v1 v2 σ)) (hK42 : ∀ (v0 : Nat) (v1 : Int32) (v2 : Int32) (v3 : Bool) (v4 : Int32) (σ : rS), J Γ rm11_likeBody eI cX11_likeBody RX11 5 (some .int) tg 0 0 42 [(0, aR 29 v0), (1, aI v1), (2, aI v2), (3, aI (bi v3)), (4, aI v4)] [] σ (K42 v0 v1 v2 v3 v4 σ)) (v0 : Nat) (v1 : Int32) (v2 : Int32) (v3 : Bool) (v4 : Int32) (σ : rS) : J Γ rm11_likeBody eI cX11_likeBody RX11 5 (some .int) tg 0 0 42 [(0, aR 29 v0), (1, aI v1), (2, aI v2), (3, aI (bi v3)), (4, aI v4)] [] σ (B11_likeBody_42 N K2 K42 v0 v1 v2 v3 v4 σ) := by
  unfold B11_likeBody_42
  refine j_iload (pc := 42) 4 dX11_likeBody_42 rfl ?_
  refine j_aload_n (pc := 44) 0 dX11_likeBody_44 rfl rfl ?_
  refine j_getF (pc := 45) fd_29_15 tw_4_78 dX11_likeBody_45 ?_
  refine j_iload_n (pc := 48) 1 dX11_likeBody_48 rfl rfl ?_
  refine j_iald (pc := 49) rfl rfl rfl dX11_likeBody_49 (fun j1 => ?_)
  refine j_icmpge (pc := 50) (tgt := 98) dX11_likeBody_50 rfl (fun _ => ?_) (fun _ => ?_)
  · refine j_sub [0, 1, 2, 3] (lv' := [(0, aR 29 v0), (1, aI v1), (2, aI v2), (3, aI (bi v3))]) rfl ?_
    exact jb11_likeBody_98 N K2 hK2 v0 v1 v2 v3 σ
  · refine j_iload_n (pc := 53) 3 dX11_likeBody_53 rfl rfl ?_
    refine j_ifeqB (pc := 54) (tgt := 98) dX11_likeBody_54 rfl (fun _ => ?_) (fun _ => ?_)
    · refine j_sub [0, 1, 2, 3] (lv' := [(0, aR 29 v0), (1, aI v1), (2, aI v2), (3, aI (bi v3))]) rfl ?_
      exact jb11_likeBody_98 N K2 hK2 v0 v1 v2 v3 σ
    · refine j_aload_n (pc := 57) 0 dX11_likeBody_57 rfl rfl ?_
      refine j_getF (pc := 58) fd_29_24 tw_4_87 dX11_likeBody_58 ?_
      refine j_sipush (pc := 61) (v := 400) (by decide) dX11_likeBody_61 ?_
      refine j_iload_n (pc := 64) 2 dX11_likeBody_64 rfl rfl ?_
      refine j_imul (pc := 65) dX11_likeBody_65 ?_
      refine j_iload (pc := 66) 4 dX11_likeBody_66 rfl ?_
      refine j_iadd (pc := 68) dX11_likeBody_68 ?_
      refine j_iald (pc := 69) rfl rfl rfl dX11_likeBody_69 (fun j2 => ?_)
      refine j_aload_n (pc := 70) 0 dX11_likeBody_70 rfl rfl ?_
      refine j_getF (pc := 71) fd_29_14 tw_4_77 dX11_likeBody_71 ?_
      refine j_sipush (pc := 74) (v := 400) (by decide) dX11_likeBody_74 ?_
      refine j_iload_n (pc := 77) 1 dX11_likeBody_77 rfl rfl ?_
      refine j_imul (pc := 78) dX11_likeBody_78 ?_
      refine j_iload (pc := 79) 4 dX11_likeBody_79 rfl ?_
      refine j_iadd (pc := 81) dX11_likeBody_81 ?_
      refine j_iald (pc := 82) rfl rfl rfl dX11_likeBody_82 (fun j3 => ?_)
      refine j_icmpne (pc := 83) (tgt := 90) dX11_likeBody_83 rfl (fun _ => ?_) (fun _ => ?_)
      · refine j_iconst (pc := 90) (v := 0) (by decide) dX11_likeBody_90 ?_
        refine j_sub [0, 1, 2, 4] (lv' := [(0, aR 29 v0), (1, aI v1), (2, aI v2), (4, aI v4)]) rfl ?_
        exact jb11_likeBody_91 N K2 K42 hK2 hK42 v0 v1 v2 v4 false σ
      · refine j_iconst (pc := 86) (v := 1) (by decide) dX11_likeBody_86 ?_
        refine j_goto (pc := 87) (tgt := 91) dX11_likeBody_87 rfl ?_
        refine j_sub [0, 1, 2, 4] (lv' := [(0, aR 29 v0), (1, aI v1), (2, aI v2), (4, aI v4)]) rfl ?_
        exact jb11_likeBody_91 N K2 K42 hK2 hK42 v0 v1 v2 v4 true σ
theorem jl11_likeBody_42 {Γ : jX} {tg : Int32 × rS} (N : Nat) (K2 : Nat → Int32 → Int32 → rS → Option (Int32 × rS)) (hK2 : ∀ (v0 : Nat) (v1 : Int32) (v2 : Int32) (σ : rS), J Γ rm11_likeBody eI cX11_likeBody RX11 5 (some .int) tg 0 0 2 [(0, aR 29 v0), (1, aI v1), (2, aI v2)] [] σ (K2 v0 v1 v2 σ)) : ∀ (n : Nat) (v0 : Nat) (v1 : Int32) (v2 : Int32) (v3 : Bool) (v4 : Int32) (σ : rS), J Γ rm11_likeBody eI cX11_likeBody RX11 5 (some .int) tg 0 0 42 [(0, aR 29 v0), (1, aI v1), (2, aI v2), (3, aI (bi v3)), (4, aI v4)] [] σ (L11_likeBody_42 N K2 n v0 v1 v2 v3 v4 σ) := by
  intro n
  induction n with
  | zero => intro v0 v1 v2 v3 v4 σ; exact j_none
  | succ n ih => intro v0 v1 v2 v3 v4 σ; exact jb11_likeBody_42 N K2 (L11_likeBody_42 N K2 n) hK2 ih v0 v1 v2 v3 v4 σ
set_option maxRecDepth 20000 in
set_option maxHeartbeats 4000000 in
theorem jb11_likeBody_38 {Γ : jX} {tg : Int32 × rS} (N : Nat) (K2 : Nat → Int32 → Int32 → rS → Option (Int32 × rS)) (hK2 : ∀ (v0 : Nat) (v1 : Int32) (v2 : Int32) (σ : rS), J Γ rm11_likeBody eI cX11_likeBody RX11 5 (some .int) tg 0 0 2 [(0, aR 29 v0), (1, aI v1), (2, aI v2)] [] σ (K2 v0 v1 v2 σ)) (v0 : Nat) (v1 : Int32) (v2 : Int32) (s0 : Bool) (σ : rS) : J Γ rm11_likeBody eI cX11_likeBody RX11 5 (some .int) tg 0 0 38 [(0, aR 29 v0), (1, aI v1), (2, aI v2)] [aI (bi s0)] σ (B11_likeBody_38 N K2 v0 v1 v2 s0 σ) := by
  unfold B11_likeBody_38
  refine j_istore_n (pc := 38) (lv' := [(3, aI (bi s0)), (0, aR 29 v0), (1, aI v1), (2, aI v2)]) dX11_likeBody_38 rfl (Nat.le_of_ble_eq_true rfl) rfl ?_
  refine j_iconst (pc := 39) (v := 0) (by decide) dX11_likeBody_39 ?_
  refine j_istore (pc := 40) (lv' := [(4, aI 0), (3, aI (bi s0)), (0, aR 29 v0), (1, aI v1), (2, aI v2)]) dX11_likeBody_40 (Nat.le_of_ble_eq_true rfl) rfl ?_
  refine j_sub [2, 3, 4, 1, 0] (lv' := [(0, aR 29 v0), (1, aI v1), (2, aI v2), (3, aI (bi s0)), (4, aI 0)]) rfl ?_
  exact jl11_likeBody_42 N K2 hK2 N v0 v1 v2 s0 0 σ
set_option maxRecDepth 20000 in
set_option maxHeartbeats 4000000 in
theorem jb11_likeBody_37 {Γ : jX} {tg : Int32 × rS} (N : Nat) (K2 : Nat → Int32 → Int32 → rS → Option (Int32 × rS)) (hK2 : ∀ (v0 : Nat) (v1 : Int32) (v2 : Int32) (σ : rS), J Γ rm11_likeBody eI cX11_likeBody RX11 5 (some .int) tg 0 0 2 [(0, aR 29 v0), (1, aI v1), (2, aI v2)] [] σ (K2 v0 v1 v2 σ)) (v0 : Nat) (v1 : Int32) (v2 : Int32) (σ : rS) : J Γ rm11_likeBody eI cX11_likeBody RX11 5 (some .int) tg 0 0 37 [(0, aR 29 v0), (1, aI v1), (2, aI v2)] [] σ (B11_likeBody_37 N K2 v0 v1 v2 σ) := by
  unfold B11_likeBody_37
  refine j_iconst (pc := 37) (v := 0) (by decide) dX11_likeBody_37 ?_
  exact jb11_likeBody_38 N K2 hK2 v0 v1 v2 false σ
set_option maxRecDepth 20000 in
set_option maxHeartbeats 4000000 in
theorem jb11_likeBody_2 {Γ : jX} {tg : Int32 × rS} (N : Nat) (K2 : Nat → Int32 → Int32 → rS → Option (Int32 × rS)) (hK2 : ∀ (v0 : Nat) (v1 : Int32) (v2 : Int32) (σ : rS), J Γ rm11_likeBody eI cX11_likeBody RX11 5 (some .int) tg 0 0 2 [(0, aR 29 v0), (1, aI v1), (2, aI v2)] [] σ (K2 v0 v1 v2 σ)) (v0 : Nat) (v1 : Int32) (v2 : Int32) (σ : rS) : J Γ rm11_likeBody eI cX11_likeBody RX11 5 (some .int) tg 0 0 2 [(0, aR 29 v0), (1, aI v1), (2, aI v2)] [] σ (B11_likeBody_2 N K2 v0 v1 v2 σ) := by
  unfold B11_likeBody_2
  refine j_iload_n (pc := 2) 2 dX11_likeBody_2 rfl rfl ?_
  refine j_bipush (pc := 3) (v := 30) (by decide) dX11_likeBody_3 ?_
  refine j_icmpge (pc := 5) (tgt := 110) dX11_likeBody_5 rfl (fun _ => ?_) (fun _ => ?_)
  · refine j_iconst (pc := 110) (v := (-1)) (by decide) dX11_likeBody_110 ?_
    exact j_ireturn (pc := 111) rfl (Nat.le_of_ble_eq_true rfl) (Nat.le_of_ble_eq_true rfl) dX11_likeBody_111
  · refine j_aload_n (pc := 8) 0 dX11_likeBody_8 rfl rfl ?_
    refine j_getF (pc := 9) fd_29_21 tw_4_84 dX11_likeBody_9 ?_
    refine j_iload_n (pc := 12) 2 dX11_likeBody_12 rfl rfl ?_
    refine j_iald (pc := 13) rfl rfl rfl dX11_likeBody_13 (fun j1 => ?_)
    refine j_iconst (pc := 14) (v := (-1)) (by decide) dX11_likeBody_14 ?_
    refine j_icmpeq (pc := 15) (tgt := 37) dX11_likeBody_15 rfl (fun _ => ?_) (fun _ => ?_)
    · exact jb11_likeBody_37 N K2 hK2 v0 v1 v2 σ
    · refine j_aload_n (pc := 18) 0 dX11_likeBody_18 rfl rfl ?_
      refine j_getF (pc := 19) fd_29_22 tw_4_85 dX11_likeBody_19 ?_
      refine j_iload_n (pc := 22) 2 dX11_likeBody_22 rfl rfl ?_
      refine j_iald (pc := 23) rfl rfl rfl dX11_likeBody_23 (fun j2 => ?_)
      refine j_aload_n (pc := 24) 0 dX11_likeBody_24 rfl rfl ?_
      refine j_getF (pc := 25) fd_29_15 tw_4_78 dX11_likeBody_25 ?_
      refine j_iload_n (pc := 28) 1 dX11_likeBody_28 rfl rfl ?_
      refine j_iald (pc := 29) rfl rfl rfl dX11_likeBody_29 (fun j3 => ?_)
      refine j_icmpne (pc := 30) (tgt := 37) dX11_likeBody_30 rfl (fun _ => ?_) (fun _ => ?_)
      · exact jb11_likeBody_37 N K2 hK2 v0 v1 v2 σ
      · refine j_iconst (pc := 33) (v := 1) (by decide) dX11_likeBody_33 ?_
        refine j_goto (pc := 34) (tgt := 38) dX11_likeBody_34 rfl ?_
        exact jb11_likeBody_38 N K2 hK2 v0 v1 v2 true σ
theorem jl11_likeBody_2 {Γ : jX} {tg : Int32 × rS} (N : Nat) : ∀ (n : Nat) (v0 : Nat) (v1 : Int32) (v2 : Int32) (σ : rS), J Γ rm11_likeBody eI cX11_likeBody RX11 5 (some .int) tg 0 0 2 [(0, aR 29 v0), (1, aI v1), (2, aI v2)] [] σ (L11_likeBody_2 N n v0 v1 v2 σ) := by
  intro n
  induction n with
  | zero => intro v0 v1 v2 σ; exact j_none
  | succ n ih => intro v0 v1 v2 σ; exact jb11_likeBody_2 N (L11_likeBody_2 N n) ih v0 v1 v2 σ
set_option maxRecDepth 20000 in
set_option maxHeartbeats 4000000 in
theorem j11_likeBody {Γ : jX} {tg : Int32 × rS} (N : Nat) (v0 : Nat) (v1 : Int32) (σ : rS) : J Γ rm11_likeBody eI cX11_likeBody RX11 5 (some .int) tg 0 0 0 [(0, aR 29 v0), (1, aI v1)] [] σ (f11_likeBody N v0 v1 σ) := by
  unfold f11_likeBody
  refine j_iconst (pc := 0) (v := 0) (by decide) dX11_likeBody_0 ?_
  refine j_istore_n (pc := 1) (lv' := [(2, aI 0), (0, aR 29 v0), (1, aI v1)]) dX11_likeBody_1 rfl (Nat.le_of_ble_eq_true rfl) rfl ?_
  refine j_sub [1, 2, 0] (lv' := [(0, aR 29 v0), (1, aI v1), (2, aI 0)]) rfl ?_
  exact jl11_likeBody_2 N  N v0 v1 0 σ
theorem c11_likeBody (l : Launch) (N : Nat) (v0 : Nat) (v1 : Int32) : Ctr l yX11_likeBody cX11_likeBody 5 (some .int) rm11_likeBody eI [aR 29 v0, aI v1] (f11_likeBody N v0 v1) := ctr_of (lv := [(0, aR 29 v0), (1, aI v1)]) (by decide +kernel) (fun _ => rfl) (fun _ => (Nat.le_of_ble_eq_true rfl)) (fun _ h => lvl_als h rfl) (fun _ σ _ => j11_likeBody N v0 v1 σ)
theorem cs_RX11_297 : CaV RX11 RX11 297 yX11_freeBody cX11_freeBody 2 (some .int) 0 := ⟨tw_5_206, tw_5_208, tw_p41, tw_1_5, tw_5_209, rfl, by decide +kernel, by decide +kernel, by decide +kernel⟩
theorem cs_RX11_294 : CaV RX11 RX11 294 yX11_likeBody cX11_likeBody 5 (some .int) 1 := ⟨tw_5_202, tw_5_204, tw_p40, tw_1_5, tw_5_205, rfl, by decide +kernel, by decide +kernel, by decide +kernel⟩
abbrev rm11_keep : Room := { frames := 2, cells := 0, slots := 0, locals := 46 }
set_option maxRecDepth 20000 in
set_option maxHeartbeats 4000000 in
theorem jb11_keep_316 {Γ : jX} {tg : Int32 × rS} (N : Nat) (v0 : Nat) (v1 : Int32) (v2 : Int64) (v6 : Int32) (v7 : Int32) (σ : rS) : J Γ rm11_keep eI cX11_keep RX11 8 (some .int) tg 0 0 316 [(0, aR 29 v0), (1, aI v1), (2, aL v2), (6, aI v6), (7, aI v7)] [] σ (B11_keep_316 N v0 v1 v2 v6 v7 σ) := by
  unfold B11_keep_316
  refine j_aload_n (pc := 316) 0 dX11_keep_316 rfl rfl ?_
  refine j_getF (pc := 317) fd_29_28 tw_4_91 dX11_keep_317 ?_
  refine j_iload (pc := 320) 4 dX11_keep_320 rfl ?_
  refine j_lload_n (pc := 322) 2 dX11_keep_322 rfl rfl ?_
  refine j_last (pc := 323) rfl rfl rfl dX11_keep_323 (fun j1 => ?_)
  refine j_lets (fun σ2 => ?_)
  refine j_aload_n (pc := 324) 0 dX11_keep_324 rfl rfl ?_
  refine j_getF (pc := 325) fd_29_29 tw_4_92 dX11_keep_325 ?_
  refine j_iload (pc := 328) 4 dX11_keep_328 rfl ?_
  refine j_iload (pc := 330) 3 dX11_keep_330 rfl ?_
  refine j_iast (pc := 332) rfl rfl rfl dX11_keep_332 (fun j3 => ?_)
  refine j_lets (fun σ4 => ?_)
  refine j_aload_n (pc := 333) 0 dX11_keep_333 rfl rfl ?_
  refine j_getF (pc := 334) fd_29_27 tw_4_90 dX11_keep_334 ?_
  refine j_iload_n (pc := 337) 1 dX11_keep_337 rfl rfl ?_
  refine j_dup2 (pc := 338) dX11_keep_338 rfl rfl ?_
  refine j_iald (pc := 339) rfl rfl rfl dX11_keep_339 (fun j5 => ?_)
  refine j_iconst (pc := 340) (v := 1) (by decide) dX11_keep_340 ?_
  refine j_iadd (pc := 341) dX11_keep_341 ?_
  refine j_iast (pc := 342) rfl rfl rfl dX11_keep_342 (fun j6 => ?_)
  refine j_lets (fun σ7 => ?_)
  refine j_aload_n (pc := 343) 0 dX11_keep_343 rfl rfl ?_
  refine j_getF (pc := 344) fd_29_21 tw_4_84 dX11_keep_344 ?_
  refine j_iload (pc := 347) 3 dX11_keep_347 rfl ?_
  refine j_iald (pc := 349) rfl rfl rfl dX11_keep_349 (fun j8 => ?_)
  exact j_ireturn (pc := 350) rfl (Nat.le_of_ble_eq_true rfl) (Nat.le_of_ble_eq_true rfl) dX11_keep_350
set_option maxRecDepth 20000 in
set_option maxHeartbeats 4000000 in
theorem jb11_keep_255 {Γ : jX} {tg : Int32 × rS} (N : Nat) (K255 : Nat → Int32 → Int64 → Int32 → Int32 → rS → Option (Int32 × rS)) (hK255 : ∀ (v0 : Nat) (v1 : Int32) (v2 : Int64) (v6 : Int32) (v7 : Int32) (σ : rS), J Γ rm11_keep eI cX11_keep RX11 8 (some .int) tg 0 0 255 [(0, aR 29 v0), (1, aI v1), (2, aL v2), (6, aI v6), (7, aI v7)] [] σ (K255 v0 v1 v2 v6 v7 σ)) (v0 : Nat) (v1 : Int32) (v2 : Int64) (v6 : Int32) (v7 : Int32) (σ : rS) : J Γ rm11_keep eI cX11_keep RX11 8 (some .int) tg 0 0 255 [(0, aR 29 v0), (1, aI v1), (2, aL v2), (6, aI v6), (7, aI v7)] [] σ (B11_keep_255 N K255 v0 v1 v2 v6 v7 σ) := by
  unfold B11_keep_255
  refine j_iload (pc := 255) 4 dX11_keep_255 rfl ?_
  refine j_bipush (pc := 257) (v := 12) (by decide) dX11_keep_257 ?_
  refine j_iload_n (pc := 259) 1 dX11_keep_259 rfl rfl ?_
  refine j_imul (pc := 260) dX11_keep_260 ?_
  refine j_icmple (pc := 261) (tgt := 316) dX11_keep_261 rfl (fun _ => ?_) (fun _ => ?_)
  · exact jb11_keep_316 N  v0 v1 v2 v6 v7 σ
  · refine j_aload_n (pc := 264) 0 dX11_keep_264 rfl rfl ?_
    refine j_getF (pc := 265) fd_29_28 tw_4_91 dX11_keep_265 ?_
    refine j_iload (pc := 268) 4 dX11_keep_268 rfl ?_
    refine j_iconst (pc := 270) (v := 1) (by decide) dX11_keep_270 ?_
    refine j_isub (pc := 271) dX11_keep_271 ?_
    refine j_lald (pc := 272) rfl rfl rfl dX11_keep_272 (fun j1 => ?_)
    refine j_lload_n (pc := 273) 2 dX11_keep_273 rfl rfl ?_
    refine j_lcmple (pc := 274) (tgt := 316) dX11_keep_274 dX11_keep_275 rfl (fun _ => ?_) (fun _ => ?_)
    · exact jb11_keep_316 N  v0 v1 v2 v6 v7 σ
    · refine j_aload_n (pc := 278) 0 dX11_keep_278 rfl rfl ?_
      refine j_getF (pc := 279) fd_29_28 tw_4_91 dX11_keep_279 ?_
      refine j_iload (pc := 282) 4 dX11_keep_282 rfl ?_
      refine j_aload_n (pc := 284) 0 dX11_keep_284 rfl rfl ?_
      refine j_getF (pc := 285) fd_29_28 tw_4_91 dX11_keep_285 ?_
      refine j_iload (pc := 288) 4 dX11_keep_288 rfl ?_
      refine j_iconst (pc := 290) (v := 1) (by decide) dX11_keep_290 ?_
      refine j_isub (pc := 291) dX11_keep_291 ?_
      refine j_lald (pc := 292) rfl rfl rfl dX11_keep_292 (fun j2 => ?_)
      refine j_last (pc := 293) rfl rfl rfl dX11_keep_293 (fun j3 => ?_)
      refine j_lets (fun σ4 => ?_)
      refine j_aload_n (pc := 294) 0 dX11_keep_294 rfl rfl ?_
      refine j_getF (pc := 295) fd_29_29 tw_4_92 dX11_keep_295 ?_
      refine j_iload (pc := 298) 4 dX11_keep_298 rfl ?_
      refine j_aload_n (pc := 300) 0 dX11_keep_300 rfl rfl ?_
      refine j_getF (pc := 301) fd_29_29 tw_4_92 dX11_keep_301 ?_
      refine j_iload (pc := 304) 4 dX11_keep_304 rfl ?_
      refine j_iconst (pc := 306) (v := 1) (by decide) dX11_keep_306 ?_
      refine j_isub (pc := 307) dX11_keep_307 ?_
      refine j_iald (pc := 308) rfl rfl rfl dX11_keep_308 (fun j5 => ?_)
      refine j_iast (pc := 309) rfl rfl rfl dX11_keep_309 (fun j6 => ?_)
      refine j_lets (fun σ7 => ?_)
      refine j_iinc (pc := 310) (w := (-1)) (lv' := [(7, aI (v7 + (-1))), (0, aR 29 v0), (1, aI v1), (2, aL v2), (6, aI v6)]) 4 dX11_keep_310 rfl (by decide) (Nat.le_of_ble_eq_true rfl) rfl ?_
      refine j_goto (pc := 313) (tgt := 255) dX11_keep_313 rfl ?_
      refine j_sub [1, 2, 3, 4, 0] (lv' := [(0, aR 29 v0), (1, aI v1), (2, aL v2), (6, aI v6), (7, aI (v7 + (-1)))]) rfl ?_
      exact hK255 v0 v1 v2 v6 (v7 + (-1)) σ7
theorem jl11_keep_255 {Γ : jX} {tg : Int32 × rS} (N : Nat) : ∀ (n : Nat) (v0 : Nat) (v1 : Int32) (v2 : Int64) (v6 : Int32) (v7 : Int32) (σ : rS), J Γ rm11_keep eI cX11_keep RX11 8 (some .int) tg 0 0 255 [(0, aR 29 v0), (1, aI v1), (2, aL v2), (6, aI v6), (7, aI v7)] [] σ (L11_keep_255 N n v0 v1 v2 v6 v7 σ) := by
  intro n
  induction n with
  | zero => intro v0 v1 v2 v6 v7 σ; exact j_none
  | succ n ih => intro v0 v1 v2 v6 v7 σ; exact jb11_keep_255 N (L11_keep_255 N n) ih v0 v1 v2 v6 v7 σ
set_option maxRecDepth 20000 in
set_option maxHeartbeats 4000000 in
theorem jb11_keep_197 {Γ : jX} {tg : Int32 × rS} (N : Nat) (v0 : Nat) (v1 : Int32) (v2 : Int64) (v5 : Int32) (v6 : Int32) (σ : rS) : J Γ rm11_keep eI cX11_keep RX11 8 (some .int) tg 0 0 197 [(0, aR 29 v0), (1, aI v1), (2, aL v2), (5, aI v5), (6, aI v6)] [] σ (B11_keep_197 N v0 v1 v2 v5 v6 σ) := by
  unfold B11_keep_197
  refine j_aload_n (pc := 197) 0 dX11_keep_197 rfl rfl ?_
  refine j_getF (pc := 198) fd_29_23 tw_4_86 dX11_keep_198 ?_
  refine j_iload (pc := 201) 4 dX11_keep_201 rfl ?_
  refine j_dup2 (pc := 203) dX11_keep_203 rfl rfl ?_
  refine j_iald (pc := 204) rfl rfl rfl dX11_keep_204 (fun j1 => ?_)
  refine j_iconst (pc := 205) (v := 1) (by decide) dX11_keep_205 ?_
  refine j_iadd (pc := 206) dX11_keep_206 ?_
  refine j_iast (pc := 207) rfl rfl rfl dX11_keep_207 (fun j2 => ?_)
  refine j_lets (fun σ3 => ?_)
  refine j_iload (pc := 208) 3 dX11_keep_208 rfl ?_
  refine j_iconst (pc := 210) (v := (-1)) (by decide) dX11_keep_210 ?_
  refine j_icmpeq (pc := 211) (tgt := 242) dX11_keep_211 rfl (fun _ => ?_) (fun _ => ?_)
  · refine j_bipush (pc := 242) (v := 12) (by decide) dX11_keep_242 ?_
    refine j_iload_n (pc := 244) 1 dX11_keep_244 rfl rfl ?_
    refine j_imul (pc := 245) dX11_keep_245 ?_
    refine j_aload_n (pc := 246) 0 dX11_keep_246 rfl rfl ?_
    refine j_getF (pc := 247) fd_29_27 tw_4_90 dX11_keep_247 ?_
    refine j_iload_n (pc := 250) 1 dX11_keep_250 rfl rfl ?_
    refine j_iald (pc := 251) rfl rfl rfl dX11_keep_251 (fun j4 => ?_)
    refine j_iadd (pc := 252) dX11_keep_252 ?_
    refine j_leti (fun x5 => ?_)
    refine j_istore (pc := 253) (lv' := [(7, aI x5), (0, aR 29 v0), (1, aI v1), (2, aL v2), (5, aI v5), (6, aI v6)]) dX11_keep_253 (Nat.le_of_ble_eq_true rfl) rfl ?_
    refine j_sub [0, 1, 2, 3, 5] (lv' := [(7, aI x5), (0, aR 29 v0), (1, aI v1), (2, aL v2), (6, aI v6)]) rfl ?_
    refine j_sub [1, 2, 3, 4, 0] (lv' := [(0, aR 29 v0), (1, aI v1), (2, aL v2), (6, aI v6), (7, aI x5)]) rfl ?_
    exact jl11_keep_255 N  N v0 v1 v2 v6 x5 σ3
  · refine j_aload_n (pc := 214) 0 dX11_keep_214 rfl rfl ?_
    refine j_aload_n (pc := 215) 0 dX11_keep_215 rfl rfl ?_
    refine j_getF (pc := 216) fd_29_29 tw_4_92 dX11_keep_216 ?_
    refine j_iload (pc := 219) 3 dX11_keep_219 rfl ?_
    refine j_iald (pc := 221) rfl rfl rfl dX11_keep_221 (fun j6 => ?_)
    refine j_callVV (pc := 222) (As := [aI (gI σ3 59 v0 j6)]) (st := []) (fun l => c11_leave l v0 (gI σ3 59 v0 j6)) cs_RX11_303 rfl rfl rfl rfl (Nat.le_of_ble_eq_true rfl) ⟨(Nat.le_of_ble_eq_true rfl), (Nat.le_of_ble_eq_true rfl)⟩ ⟨(Nat.le_of_ble_eq_true rfl), (Nat.le_of_ble_eq_true rfl)⟩ dX11_keep_222 (fun r7 σ8 => ?_)
    refine j_aload_n (pc := 225) 0 dX11_keep_225 rfl rfl ?_
    refine j_getF (pc := 226) fd_29_29 tw_4_92 dX11_keep_226 ?_
    refine j_iload (pc := 229) 3 dX11_keep_229 rfl ?_
    refine j_iload (pc := 231) 4 dX11_keep_231 rfl ?_
    refine j_iast (pc := 233) rfl rfl rfl dX11_keep_233 (fun j9 => ?_)
    refine j_lets (fun σ10 => ?_)
    refine j_aload_n (pc := 234) 0 dX11_keep_234 rfl rfl ?_
    refine j_getF (pc := 235) fd_29_21 tw_4_84 dX11_keep_235 ?_
    refine j_iload (pc := 238) 4 dX11_keep_238 rfl ?_
    refine j_iald (pc := 240) rfl rfl rfl dX11_keep_240 (fun j11 => ?_)
    exact j_ireturn (pc := 241) rfl (Nat.le_of_ble_eq_true rfl) (Nat.le_of_ble_eq_true rfl) dX11_keep_241
set_option maxRecDepth 20000 in
set_option maxHeartbeats 4000000 in
theorem jb11_keep_151 {Γ : jX} {tg : Int32 × rS} (N : Nat) (K151 : Nat → Int32 → Int64 → Int32 → Int32 → Int32 → Int32 → rS → Option (Int32 × rS)) (hK151 : ∀ (v0 : Nat) (v1 : Int32) (v2 : Int64) (v4 : Int32) (v5 : Int32) (v6 : Int32) (v7 : Int32) (σ : rS), J Γ rm11_keep eI cX11_keep RX11 8 (some .int) tg 0 0 151 [(0, aR 29 v0), (1, aI v1), (2, aL v2), (4, aI v4), (5, aI v5), (6, aI v6), (7, aI v7)] [] σ (K151 v0 v1 v2 v4 v5 v6 v7 σ)) (v0 : Nat) (v1 : Int32) (v2 : Int64) (v4 : Int32) (v5 : Int32) (v6 : Int32) (v7 : Int32) (σ : rS) : J Γ rm11_keep eI cX11_keep RX11 8 (some .int) tg 0 0 151 [(0, aR 29 v0), (1, aI v1), (2, aL v2), (4, aI v4), (5, aI v5), (6, aI v6), (7, aI v7)] [] σ (B11_keep_151 N K151 v0 v1 v2 v4 v5 v6 v7 σ) := by
  unfold B11_keep_151
  refine j_iload (pc := 151) 6 dX11_keep_151 rfl ?_
  refine j_aload_n (pc := 153) 0 dX11_keep_153 rfl rfl ?_
  refine j_getF (pc := 154) fd_29_15 tw_4_78 dX11_keep_154 ?_
  refine j_iload (pc := 157) 3 dX11_keep_157 rfl ?_
  refine j_iald (pc := 159) rfl rfl rfl dX11_keep_159 (fun j1 => ?_)
  refine j_icmpge (pc := 160) (tgt := 197) dX11_keep_160 rfl (fun _ => ?_) (fun _ => ?_)
  · refine j_sub [0, 1, 2, 4, 5] (lv' := [(0, aR 29 v0), (1, aI v1), (2, aL v2), (5, aI v5), (6, aI v6)]) rfl ?_
    exact jb11_keep_197 N  v0 v1 v2 v5 v6 σ
  · refine j_aload_n (pc := 163) 0 dX11_keep_163 rfl rfl ?_
    refine j_getF (pc := 164) fd_29_24 tw_4_87 dX11_keep_164 ?_
    refine j_sipush (pc := 167) (v := 400) (by decide) dX11_keep_167 ?_
    refine j_iload (pc := 170) 5 dX11_keep_170 rfl ?_
    refine j_imul (pc := 172) dX11_keep_172 ?_
    refine j_iload (pc := 173) 6 dX11_keep_173 rfl ?_
    refine j_iadd (pc := 175) dX11_keep_175 ?_
    refine j_aload_n (pc := 176) 0 dX11_keep_176 rfl rfl ?_
    refine j_getF (pc := 177) fd_29_14 tw_4_77 dX11_keep_177 ?_
    refine j_sipush (pc := 180) (v := 400) (by decide) dX11_keep_180 ?_
    refine j_iload (pc := 183) 3 dX11_keep_183 rfl ?_
    refine j_imul (pc := 185) dX11_keep_185 ?_
    refine j_iload (pc := 186) 6 dX11_keep_186 rfl ?_
    refine j_iadd (pc := 188) dX11_keep_188 ?_
    refine j_iald (pc := 189) rfl rfl rfl dX11_keep_189 (fun j2 => ?_)
    refine j_iast (pc := 190) rfl rfl rfl dX11_keep_190 (fun j3 => ?_)
    refine j_lets (fun σ4 => ?_)
    refine j_iinc (pc := 191) (w := 1) (lv' := [(7, aI (v7 + 1)), (0, aR 29 v0), (1, aI v1), (2, aL v2), (4, aI v4), (5, aI v5), (6, aI v6)]) 6 dX11_keep_191 rfl (by decide) (Nat.le_of_ble_eq_true rfl) rfl ?_
    refine j_goto (pc := 194) (tgt := 151) dX11_keep_194 rfl ?_
    refine j_sub [1, 2, 3, 4, 5, 6, 0] (lv' := [(0, aR 29 v0), (1, aI v1), (2, aL v2), (4, aI v4), (5, aI v5), (6, aI v6), (7, aI (v7 + 1))]) rfl ?_
    exact hK151 v0 v1 v2 v4 v5 v6 (v7 + 1) σ4
theorem jl11_keep_151 {Γ : jX} {tg : Int32 × rS} (N : Nat) : ∀ (n : Nat) (v0 : Nat) (v1 : Int32) (v2 : Int64) (v4 : Int32) (v5 : Int32) (v6 : Int32) (v7 : Int32) (σ : rS), J Γ rm11_keep eI cX11_keep RX11 8 (some .int) tg 0 0 151 [(0, aR 29 v0), (1, aI v1), (2, aL v2), (4, aI v4), (5, aI v5), (6, aI v6), (7, aI v7)] [] σ (L11_keep_151 N n v0 v1 v2 v4 v5 v6 v7 σ) := by
  intro n
  induction n with
  | zero => intro v0 v1 v2 v4 v5 v6 v7 σ; exact j_none
  | succ n ih => intro v0 v1 v2 v4 v5 v6 v7 σ; exact jb11_keep_151 N (L11_keep_151 N n) ih v0 v1 v2 v4 v5 v6 v7 σ
set_option maxRecDepth 20000 in
set_option maxHeartbeats 4000000 in
theorem jb11_keep_93 {Γ : jX} {tg : Int32 × rS} (N : Nat) (v0 : Nat) (v1 : Int32) (v2 : Int64) (v4 : Int32) (v5 : Int32) (v6 : Int32) (σ : rS) : J Γ rm11_keep eI cX11_keep RX11 8 (some .int) tg 0 0 93 [(0, aR 29 v0), (1, aI v1), (2, aL v2), (4, aI v4), (5, aI v5), (6, aI v6)] [] σ (B11_keep_93 N v0 v1 v2 v4 v5 v6 σ) := by
  unfold B11_keep_93
  refine j_iload (pc := 93) 5 dX11_keep_93 rfl ?_
  refine j_iconst (pc := 95) (v := (-1)) (by decide) dX11_keep_95 ?_
  refine j_icmpne (pc := 96) (tgt := 197) dX11_keep_96 rfl (fun _ => ?_) (fun _ => ?_)
  · refine j_sub [0, 1, 2, 4, 5] (lv' := [(0, aR 29 v0), (1, aI v1), (2, aL v2), (5, aI v5), (6, aI v6)]) rfl ?_
    exact jb11_keep_197 N  v0 v1 v2 v5 v6 σ
  · refine j_aload_n (pc := 99) 0 dX11_keep_99 rfl rfl ?_
    refine j_callVI (pc := 100) (As := []) (st := []) (fun l => c11_freeBody l N v0) cs_RX11_297 rfl rfl rfl rfl (Nat.le_of_ble_eq_true rfl) ⟨(Nat.le_of_ble_eq_true rfl), (Nat.le_of_ble_eq_true rfl)⟩ ⟨(Nat.le_of_ble_eq_true rfl), (Nat.le_of_ble_eq_true rfl)⟩ dX11_keep_100 (fun r1 σ2 => ?_)
    refine j_istore (pc := 103) (lv' := [(6, aI r1), (0, aR 29 v0), (1, aI v1), (2, aL v2), (4, aI v4), (5, aI v5)]) dX11_keep_103 (Nat.le_of_ble_eq_true rfl) rfl ?_
    refine j_aload_n (pc := 105) 1 dX11_keep_105 rfl rfl ?_
    refine j_getF (pc := 106) fd_29_21 tw_4_84 dX11_keep_106 ?_
    refine j_iload (pc := 109) 0 dX11_keep_109 rfl ?_
    refine j_aload_n (pc := 111) 1 dX11_keep_111 rfl rfl ?_
    refine j_getI (pc := 112) fd_29_25 tw_4_88 dX11_keep_112 ?_
    refine j_iast (pc := 115) rfl rfl rfl dX11_keep_115 (fun j3 => ?_)
    refine j_lets (fun σ4 => ?_)
    refine j_aload_n (pc := 116) 1 dX11_keep_116 rfl rfl ?_
    refine j_dup (pc := 117) dX11_keep_117 rfl ?_
    refine j_getI (pc := 118) fd_29_25 tw_4_88 dX11_keep_118 ?_
    refine j_iconst (pc := 121) (v := 1) (by decide) dX11_keep_121 ?_
    refine j_iadd (pc := 122) dX11_keep_122 ?_
    refine j_putI (pc := 123) fd_29_25 rfl rfl tw_4_88 dX11_keep_123 ?_
    refine j_lets (fun σ5 => ?_)
    refine j_aload_n (pc := 126) 1 dX11_keep_126 rfl rfl ?_
    refine j_getF (pc := 127) fd_29_22 tw_4_85 dX11_keep_127 ?_
    refine j_iload (pc := 130) 0 dX11_keep_130 rfl ?_
    refine j_aload_n (pc := 132) 1 dX11_keep_132 rfl rfl ?_
    refine j_getF (pc := 133) fd_29_15 tw_4_78 dX11_keep_133 ?_
    refine j_iload (pc := 136) 4 dX11_keep_136 rfl ?_
    refine j_iald (pc := 138) rfl rfl rfl dX11_keep_138 (fun j6 => ?_)
    refine j_iast (pc := 139) rfl rfl rfl dX11_keep_139 (fun j7 => ?_)
    refine j_lets (fun σ8 => ?_)
    refine j_aload_n (pc := 140) 1 dX11_keep_140 rfl rfl ?_
    refine j_getF (pc := 141) fd_29_23 tw_4_86 dX11_keep_141 ?_
    refine j_iload (pc := 144) 0 dX11_keep_144 rfl ?_
    refine j_iconst (pc := 146) (v := 0) (by decide) dX11_keep_146 ?_
    refine j_iast (pc := 147) rfl rfl rfl dX11_keep_147 (fun j9 => ?_)
    refine j_lets (fun σ10 => ?_)
    refine j_iconst (pc := 148) (v := 0) (by decide) dX11_keep_148 ?_
    refine j_istore (pc := 149) (lv' := [(7, aI 0), (6, aI r1), (0, aR 29 v0), (1, aI v1), (2, aL v2), (4, aI v4), (5, aI v5)]) dX11_keep_149 (Nat.le_of_ble_eq_true rfl) rfl ?_
    refine j_sub [2, 3, 4, 5, 6, 1, 0] (lv' := [(0, aR 29 v0), (1, aI v1), (2, aL v2), (4, aI v4), (5, aI v5), (6, aI r1), (7, aI 0)]) rfl ?_
    exact jl11_keep_151 N  N v0 v1 v2 v4 v5 r1 0 σ10
set_option maxRecDepth 20000 in
set_option maxHeartbeats 4000000 in
theorem jb11_keep_75 {Γ : jX} {tg : Int32 × rS} (N : Nat) (v0 : Nat) (v1 : Int32) (v2 : Int64) (v4 : Int32) (v5 : Int32) (v6 : Int32) (σ : rS) : J Γ rm11_keep eI cX11_keep RX11 8 (some .int) tg 0 0 75 [(0, aR 29 v0), (1, aI v1), (2, aL v2), (4, aI v4), (5, aI v5), (6, aI v6)] [] σ (B11_keep_75 N v0 v1 v2 v4 v5 v6 σ) := by
  unfold B11_keep_75
  refine j_iload (pc := 75) 5 dX11_keep_75 rfl ?_
  refine j_iconst (pc := 77) (v := (-1)) (by decide) dX11_keep_77 ?_
  refine j_icmpne (pc := 78) (tgt := 93) dX11_keep_78 rfl (fun _ => ?_) (fun _ => ?_)
  · exact jb11_keep_93 N  v0 v1 v2 v4 v5 v6 σ
  · refine j_aload_n (pc := 81) 0 dX11_keep_81 rfl rfl ?_
    refine j_callVI (pc := 82) (As := []) (st := []) (fun l => c11_freeBody l N v0) cs_RX11_297 rfl rfl rfl rfl (Nat.le_of_ble_eq_true rfl) ⟨(Nat.le_of_ble_eq_true rfl), (Nat.le_of_ble_eq_true rfl)⟩ ⟨(Nat.le_of_ble_eq_true rfl), (Nat.le_of_ble_eq_true rfl)⟩ dX11_keep_82 (fun r1 σ2 => ?_)
    refine j_bipush (pc := 85) (v := 30) (by decide) dX11_keep_85 ?_
    refine j_icmpne (pc := 87) (tgt := 93) dX11_keep_87 rfl (fun _ => ?_) (fun _ => ?_)
    · exact jb11_keep_93 N  v0 v1 v2 v4 v5 v6 σ2
    · refine j_bipush (pc := 90) (v := (-104)) (by decide) dX11_keep_90 ?_
      exact j_ireturn (pc := 92) rfl (Nat.le_of_ble_eq_true rfl) (Nat.le_of_ble_eq_true rfl) dX11_keep_92
set_option maxRecDepth 20000 in
set_option maxHeartbeats 4000000 in
theorem j11_keep {Γ : jX} {tg : Int32 × rS} (N : Nat) (v0 : Nat) (v1 : Int32) (v2 : Int64) (v4 : Int32) (σ : rS) : J Γ rm11_keep eI cX11_keep RX11 8 (some .int) tg 0 0 0 [(0, aR 29 v0), (1, aI v1), (2, aL v2), (4, aI v4)] [] σ (f11_keep N v0 v1 v2 v4 σ) := by
  unfold f11_keep
  refine j_aload_n (pc := 0) 0 dX11_keep_0 rfl rfl ?_
  refine j_iload_n (pc := 1) 1 dX11_keep_1 rfl rfl ?_
  refine j_callVZ (pc := 2) (As := [aI v1]) (st := []) (fun l => c11_isHouse l v0 v1) cs_RX11_287 rfl rfl rfl rfl (Nat.le_of_ble_eq_true rfl) ⟨(Nat.le_of_ble_eq_true rfl), (Nat.le_of_ble_eq_true rfl)⟩ ⟨(Nat.le_of_ble_eq_true rfl), (Nat.le_of_ble_eq_true rfl)⟩ dX11_keep_2 (fun r1 σ2 => ?_)
  refine j_ifeqB (pc := 5) (tgt := 17) dX11_keep_5 rfl (fun _ => ?_) (fun _ => ?_)
  · refine j_bipush (pc := 17) (v := (-101)) (by decide) dX11_keep_17 ?_
    exact j_ireturn (pc := 19) rfl (Nat.le_of_ble_eq_true rfl) (Nat.le_of_ble_eq_true rfl) dX11_keep_19
  · refine j_aload_n (pc := 8) 0 dX11_keep_8 rfl rfl ?_
    refine j_iload (pc := 9) 3 dX11_keep_9 rfl ?_
    refine j_callVZ (pc := 11) (As := [aI v4]) (st := []) (fun l => c11_isStream l v0 v4) cs_RX11_247 rfl rfl rfl rfl (Nat.le_of_ble_eq_true rfl) ⟨(Nat.le_of_ble_eq_true rfl), (Nat.le_of_ble_eq_true rfl)⟩ ⟨(Nat.le_of_ble_eq_true rfl), (Nat.le_of_ble_eq_true rfl)⟩ dX11_keep_11 (fun r3 σ4 => ?_)
    refine j_ifneB (pc := 14) (tgt := 20) dX11_keep_14 rfl (fun _ => ?_) (fun _ => ?_)
    · refine j_lload_n (pc := 20) 2 dX11_keep_20 rfl rfl ?_
      refine j_lconst (pc := 21) (v := 0) (by decide) dX11_keep_21 ?_
      refine j_lcmpge (pc := 22) (tgt := 29) dX11_keep_22 dX11_keep_23 rfl (fun _ => ?_) (fun _ => ?_)
      · refine j_aload_n (pc := 29) 0 dX11_keep_29 rfl rfl ?_
        refine j_getF (pc := 30) fd_29_17 tw_4_80 dX11_keep_30 ?_
        refine j_iload (pc := 33) 3 dX11_keep_33 rfl ?_
        refine j_zald (pc := 35) rfl rfl rfl dX11_keep_35 (fun j5 => ?_)
        refine j_ifne (pc := 36) (tgt := 42) dX11_keep_36 rfl (fun _ => ?_) (fun _ => ?_)
        · refine j_aload_n (pc := 42) 0 dX11_keep_42 rfl rfl ?_
          refine j_iload_n (pc := 43) 1 dX11_keep_43 rfl rfl ?_
          refine j_lload_n (pc := 44) 2 dX11_keep_44 rfl rfl ?_
          refine j_callVI (pc := 45) (As := [aI v1, aL v2]) (st := []) (fun l => c11_entry l N v0 v1 v2) cs_RX11_290 rfl rfl rfl rfl (Nat.le_of_ble_eq_true rfl) ⟨(Nat.le_of_ble_eq_true rfl), (Nat.le_of_ble_eq_true rfl)⟩ ⟨(Nat.le_of_ble_eq_true rfl), (Nat.le_of_ble_eq_true rfl)⟩ dX11_keep_45 (fun r6 σ7 => ?_)
          refine j_istore (pc := 48) (lv' := [(5, aI r6), (0, aR 29 v0), (1, aI v1), (2, aL v2), (4, aI v4)]) dX11_keep_48 (Nat.le_of_ble_eq_true rfl) rfl ?_
          refine j_aload_n (pc := 50) 1 dX11_keep_50 rfl rfl ?_
          refine j_iload (pc := 51) 4 dX11_keep_51 rfl ?_
          refine j_callVI (pc := 53) (As := [aI v4]) (st := []) (fun l => c11_likeBody l N v0 v4) cs_RX11_294 rfl rfl rfl rfl (Nat.le_of_ble_eq_true rfl) ⟨(Nat.le_of_ble_eq_true rfl), (Nat.le_of_ble_eq_true rfl)⟩ ⟨(Nat.le_of_ble_eq_true rfl), (Nat.le_of_ble_eq_true rfl)⟩ dX11_keep_53 (fun r8 σ9 => ?_)
          refine j_istore (pc := 56) (lv' := [(6, aI r8), (5, aI r6), (0, aR 29 v0), (1, aI v1), (2, aL v2), (4, aI v4)]) dX11_keep_56 (Nat.le_of_ble_eq_true rfl) rfl ?_
          refine j_iload (pc := 58) 1 dX11_keep_58 rfl ?_
          refine j_iconst (pc := 60) (v := (-1)) (by decide) dX11_keep_60 ?_
          refine j_icmpne (pc := 61) (tgt := 75) dX11_keep_61 rfl (fun _ => ?_) (fun _ => ?_)
          · refine j_sub [2, 3, 4, 5, 1, 0] (lv' := [(0, aR 29 v0), (1, aI v1), (2, aL v2), (4, aI v4), (5, aI r6), (6, aI r8)]) rfl ?_
            exact jb11_keep_75 N  v0 v1 v2 v4 r6 r8 σ9
          · refine j_aload_n (pc := 64) 2 dX11_keep_64 rfl rfl ?_
            refine j_getF (pc := 65) fd_29_27 tw_4_90 dX11_keep_65 ?_
            refine j_iload_n (pc := 68) 3 dX11_keep_68 rfl rfl ?_
            refine j_iald (pc := 69) rfl rfl rfl dX11_keep_69 (fun j10 => ?_)
            refine j_bipush (pc := 70) (v := 12) (by decide) dX11_keep_70 ?_
            refine j_icmpeq (pc := 72) (tgt := 90) dX11_keep_72 rfl (fun _ => ?_) (fun _ => ?_)
            · refine j_bipush (pc := 90) (v := (-104)) (by decide) dX11_keep_90 ?_
              exact j_ireturn (pc := 92) rfl (Nat.le_of_ble_eq_true rfl) (Nat.le_of_ble_eq_true rfl) dX11_keep_92
            · refine j_sub [2, 3, 4, 5, 1, 0] (lv' := [(0, aR 29 v0), (1, aI v1), (2, aL v2), (4, aI v4), (5, aI r6), (6, aI r8)]) rfl ?_
              exact jb11_keep_75 N  v0 v1 v2 v4 r6 r8 σ9
        · refine j_bipush (pc := 39) (v := (-103)) (by decide) dX11_keep_39 ?_
          exact j_ireturn (pc := 41) rfl (Nat.le_of_ble_eq_true rfl) (Nat.le_of_ble_eq_true rfl) dX11_keep_41
      · refine j_bipush (pc := 26) (v := (-102)) (by decide) dX11_keep_26 ?_
        exact j_ireturn (pc := 28) rfl (Nat.le_of_ble_eq_true rfl) (Nat.le_of_ble_eq_true rfl) dX11_keep_28
    · refine j_bipush (pc := 17) (v := (-101)) (by decide) dX11_keep_17 ?_
      exact j_ireturn (pc := 19) rfl (Nat.le_of_ble_eq_true rfl) (Nat.le_of_ble_eq_true rfl) dX11_keep_19
theorem c11_keep (l : Launch) (N : Nat) (v0 : Nat) (v1 : Int32) (v2 : Int64) (v4 : Int32) : Ctr l yX11_keep cX11_keep 8 (some .int) rm11_keep eI [aR 29 v0, aI v1, aL v2, aI v4] (f11_keep N v0 v1 v2 v4) := ctr_of (lv := [(0, aR 29 v0), (1, aI v1), (2, aL v2), (4, aI v4)]) (by decide +kernel) (fun _ => rfl) (fun _ => (Nat.le_of_ble_eq_true rfl)) (fun _ h => lvl_als h rfl) (fun _ σ _ => j11_keep N v0 v1 v2 v4 σ)
