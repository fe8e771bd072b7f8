/-- a call out of a constructor that leaves the world as it is -/
theorem w_callVI {Γ : jY} {dA : Nat → ClassId} {R : Room} {h0 : Nat} {po : va_W → Prop} {cc : ByteArray} {own : String} {nL : Nat} {kc ks : Nat} {pc : Nat} {lv : List (Nat × aV)} {st : List aV} {xs : va_W} {y : MethodName} {cb : ByteArray} {mL n index k b ci N : Nat} {rt : Option FieldType} {rm : Room} {As : List aV} {f : rS → Option (Int32 × rS)} {fs : List (Nat × Nat)} {T : u_T} {X : String} {r : Int32} {σ0 : rS} (hσ : Γ.2.2.2.2.2.2.2.2.2.2.1 = σ0) (hC0 : ∀ l, Ctr l y cb mL rt rm eI (aR k b :: As) f) (hf : f σ0 = some (r, σ0)) (hw : CaV own X index y cb mL rt n) (hk : lyO k = some (ci, fs)) (hcl : vwCl[ci]? = some (X, T, N)) (hn : As.length = n) (h8 : (st.map ac).sum ≤ 8) (hrm : rm.frames + 1 ≤ R.frames ∧ 8 + (mL + 11) + rm.locals ≤ R.locals) (hz : rm.cells = 0 ∧ rm.slots = 0) (hcs : kc ≤ R.cells ∧ ks ≤ R.slots) (d : decode cc pc = .ok (.invokevirtual index, 3)) (kk : JW Γ dA R h0 po cc own nL kc ks (pc + 3) lv (aI r :: st) xs) : JW Γ dA R h0 po cc own nL kc ks pc lv (As.reverse ++ aR k b :: st) xs := by
  obtain ⟨p, l, e, s, m, args, below, meth, c, D, σ, ad0⟩ := Γ
  intro C hin H locs ad ws ls hC hE hP hD hS hst hlv hL
  subst hσ
  have hst1 := (als_app.mp hst).1
  have hst2 := (als_app.mp hst).2
  have hPw : va_P D vwCl ws H := fun q e he => hP q e (by rw [List.getElem?_append_left (List.getElem?_eq_some_iff.mp he).1]; exact he)
  have hdw : dis ws := fun i j a c h1 h2 h3 => hD.1 i j a c (by rw [List.getElem?_append_left (List.getElem?_eq_some_iff.mp h1).1]; exact h1) (by rw [List.getElem?_append_left (List.getElem?_eq_some_iff.mp h2).1]; exact h2) h3
  have hRs : Rh D dA (rg σ ad H.size) σ ad H := ⟨hC.1, hC.2.1, fun k i hi => Or.inl ⟨k, i, hi, rfl⟩, ws, hPw, hdw, hC.2.2.1, hC.2.2.2⟩
  have hM := hC0 l D dA σ ad H.size (r, σ) hf ⟨hst2.1, als_rev hst1⟩
  have hb1 : b < gC σ k := al_of hst2.1
  obtain ⟨q, hq⟩ := hC.2.2.1 k b hb1
  have hq0 := hq
  rw [ent_obj hk] at hq
  obtain ⟨w1, w2, w3, w4, w5, w6, w7, w8, w9⟩ := id hw
  have hA : ∀ z, rg σ ad H.size z → ra σ ad0 s.heap.size h0 z := by
    intro z hz
    rcases hz with ⟨k, i, hi, rfl⟩ | hz
    · obtain ⟨q, hq⟩ := hC.2.2.1 k i hi
      exact hD.2 q (ad k i, _) (by rw [List.getElem?_append_left (List.getElem?_eq_some_iff.mp hq).1]; exact hq)
    · exact Or.inr (Or.inr (Nat.le_trans hS.1 hz))
  have hrun : va_Run p l e R s m args below meth c H locs kc ks rm.cells rm.slots (F0 m pc ls ((As.map (av ad)).reverse ++ .ref (ad k b) :: st.map (av ad))) (st.map (av ad)) (jQc D dA eI σ ad H.size (r, σ) (((aR k b) :: As).map (av ad)).toArray) (rg σ ad H.size) :=
    va_runV (b := ad k b) (As := As.map (av ad)) (nL := nL) (n := n) (C := X) (Ts := allW) ⟨C.1, C.2.1, C.2.2.1, C.2.2.2.1, C.2.2.2.2.1⟩ hM (cwV n C.2.2.2.2.1 (caV_good hw) rfl rfl rfl ⟨w6, w7, w8, w9⟩ hrm) ⟨jPc_blind, va_recv (kk_v0 C.2.2.2.2.2.1) hPw hcl hq, fun U hU hW => ⟨rfl, by rw [hU], by rw [hU]; exact hRs, kk_warm hW C.2.2.2.2.2.1⟩⟩ rfl (by rw [List.length_map]; exact hn) hL.1 rfl (lv_room (by rw [ac_sum]; exact h8)) d (by rw [hz.1, hz.2]; exact hcs)
  rw [List.map_append, List.map_reverse]
  intro T hT X'
  obtain ⟨v, st₀, t, T', L, h1, X2, hL2, e1, e2, ⟨⟨ad', hv, hR1, hE1, hal⟩, hzz, hkk⟩, stp⟩ := hrun T hT X'
  cases hv
  rw [h1] at hzz hkk
  obtain ⟨ws1, hC1, hP1, hD1⟩ := rh_cov hR1
  have hxs : ∀ (j : Nat) (z : Nat × va_E), xs[j]? = some z → z.1 < H.size ∧ ¬ rg σ ad H.size z.1 := by
    intro j z hj
    have hlt := (hP _ z (ws_get hj)).lt
    refine ⟨hlt, fun hz => ?_⟩
    rcases hz with ⟨a, i, hi, hz⟩ | hz
    · obtain ⟨q, hq⟩ := hC.2.2.1 a i hi
      have hl := (List.getElem?_eq_some_iff.mp hq).1
      have := hD.1 (ws.length + j) q z _ (ws_get hj) (by rw [List.getElem?_append_left hl]; exact hq) hz
      omega
    · omega
  have hP2 : va_P D vwCl (ws1 ++ xs) T'.heap := by
    rw [e1]
    exact va_P.app hP1 (fun j z hj => (hP _ z (ws_get hj)).kept (hkk z.1 (hxs j z hj).1 (hxs j z hj).2))
  have hD2 : va_D (ra σ ad0 s.heap.size h0) (ws1 ++ xs) := by
    refine va_D.app ⟨hD1.1, fun j z hj => ?_⟩ ⟨fun i j a c h1 h2 h3 => ?_, fun j z hj => hD.2 _ z (ws_get hj)⟩ (fun i j a c h1 h2 h3 => ?_)
    · exact hA _ (hD1.2 j z hj)
    · have := hD.1 (ws.length + i) (ws.length + j) a c (ws_get h1) (ws_get h2) h3
      omega
    · obtain ⟨a', i', hi', rfl⟩ := hC1.2.2.2 i a h1
      refine (hxs j c h2).2 ?_
      rw [← h3]
      exact Or.inl ⟨a', i', hi', by rw [(hE1 a' i' hi').2]⟩
  have hS2 : va_S (ra σ ad0 s.heap.size h0) s.heap T'.heap (locs ++ L) := ⟨Nat.le_trans hS.1 (by rw [e1]; exact hzz), fun q h1 h2 => by rw [e1, hkk q (Nat.lt_of_lt_of_le h1 hS.1) (fun z => h2 (hA q z))]; exact hS.2.1 q h1 h2, fun q hq => by
      rcases List.mem_append.mp hq with h | h
      · exact hS.2.2 q h
      · exact hA _ (hL2 q h)⟩
  obtain ⟨f1, f2⟩ := ex_als hE1 hst2.2
  obtain ⟨f3, f4⟩ := ex_lv hE1 hlv
  have key := kk C hin T'.heap (locs ++ L) ad' ws1 ls hC1 (ex_tr hE hE1) hP2 hD2 hS2 ⟨trivial, hst2.2⟩ hlv (by rw [f4]; exact hL)
  rw [List.map_cons, f2] at key
  obtain ⟨t2, a1, b1⟩ := key T' rfl (by rw [hz.1, hz.2] at X2; exact X2)
  exact ⟨t2, stp t2 a1, b1⟩
abbrev ri1 : Room := { frames := 2, cells := 3, slots := 1200, locals := 70 }
set_option maxRecDepth 20000 in
set_option maxHeartbeats 4000000 in
theorem i1 (l : Launch) (N : Nat) (r : Int32) (va : Nat) (vb : Nat) : CtI l yX1_init cX1_init 3 ri1 [aR 15 va, aR 15 vb] (.inr (1, [.int 0, .int 0, .null, .null, .null, .int 0, .int 0, .int 0])) (fun σ => f9_sum N va 0 (gI σ 15 va 1) σ = some (r, σ) ∧ 0 ≤ (gI σ 15 vb 1).toInt ∧ (gI σ 15 vb 1).toInt ≤ 400) (fun σ ad dA h0 xs => ∃ q1 : Nat, ∃ q2 : Nat, ∃ q3 : Nat, xs = [(h0, .inr (1, [.int (gI σ 15 va 1), .int r, .ref q1, .ref q2, .ref q3, .int 0, .int 0, .int 0])), (q1, .inl (dA 23, (gI σ 15 vb 1).toNatClampNeg, .inl (fun _ => 0))), (q2, .inl (dA 24, (gI σ 15 vb 1).toNatClampNeg, .inl (fun _ => 0))), (q3, .inl (dA 25, (gI σ 15 vb 1).toNatClampNeg, .inl (fun _ => 0)))]) := by
  refine cti_of (lv := fun h0 => [(0, rq h0), (1, aR 15 va), (2, aR 15 vb)]) (by decide +kernel) rfl (fun _ _ => rfl) (fun _ _ => (Nat.le_of_ble_eq_true rfl)) (fun _ _ h => lvl_als (avs := rq _ :: [aR 15 va, aR 15 vb]) ⟨trivial, h⟩ rfl) ?_
  intro p l e s m as below meth c D dA σ ad h0 hp hal
  refine w_aload_n (pc := 0) 0 dX1_init_0 rfl rfl ?_
  refine w_objInit (pc := 1) tw_3_189 dX1_init_1 (Nat.le_of_ble_eq_true rfl) (Nat.le_of_ble_eq_true rfl) ?_
  refine w_aload_n (pc := 4) 0 dX1_init_4 rfl rfl ?_
  refine w_aload_nR (pc := 5) 1 dX1_init_5 rfl rfl ?_
  refine w_getI (pc := 6) rfl fd_15_1 tw_2_138 dX1_init_6 ?_
  refine w_putF (pc := 9) (x := 0) (j := 0) (w := .int (gI σ 15 va 1)) rfl rfl rfl (by decide) uwX1 tyX1 tyX1_ok nmX1 (ty := .int) (by decide +kernel) (fun _ => rfl) rfl rfl (Nat.le_of_ble_eq_true rfl) tw_3_191 dX1_init_9 (xs' := [(h0, .inr (1, [.int (gI σ 15 va 1), .int 0, .null, .null, .null, .int 0, .int 0, .int 0]))]) rfl ?_
  refine w_aload_n (pc := 12) 0 dX1_init_12 rfl rfl ?_
  refine w_aload_nR (pc := 13) 1 dX1_init_13 rfl rfl ?_
  refine w_iconst (pc := 14) (v := 0) (by decide) dX1_init_14 ?_
  refine w_aload_nR (pc := 15) 1 dX1_init_15 rfl rfl ?_
  refine w_getI (pc := 16) rfl fd_15_1 tw_2_138 dX1_init_16 ?_
  refine w_callVI (pc := 19) rfl (As := [aI 0, aI (gI σ 15 va 1)]) (st := [rq h0]) (fun l => c9_sum l N va 0 (gI σ 15 va 1)) hp.1 cs_RX1_20 rfl rfl rfl (Nat.le_of_ble_eq_true rfl) ⟨(Nat.le_of_ble_eq_true rfl), (Nat.le_of_ble_eq_true rfl)⟩ ⟨rfl, rfl⟩ ⟨(Nat.le_of_ble_eq_true rfl), (Nat.le_of_ble_eq_true rfl)⟩ dX1_init_19 ?_
  refine w_putF (pc := 22) (x := 1) (j := 0) (w := .int r) rfl rfl rfl (by decide) uwX1 tyX1 tyX1_ok nmX1 (ty := .int) (by decide +kernel) (fun _ => rfl) rfl rfl (Nat.le_of_ble_eq_true rfl) tw_3_192 dX1_init_22 (xs' := [(h0, .inr (1, [.int (gI σ 15 va 1), .int r, .null, .null, .null, .int 0, .int 0, .int 0]))]) rfl ?_
  refine w_aload_n (pc := 25) 0 dX1_init_25 rfl rfl ?_
  refine w_aload_nR (pc := 26) 2 dX1_init_26 rfl rfl ?_
  refine w_getI (pc := 27) rfl fd_15_1 tw_2_138 dX1_init_27 ?_
  refine w_newa (pc := 30) (atype := .int) (kd := 23) (ty := .int) (N' := (gI σ 15 vb 1).toNatClampNeg) (a0 := .inl (fun _ => 0)) tw_1_152 rfl (fun _ => rfl) rfl (by decide) (fun _ _ h => h) (i32_nn hp.2.1) rfl (by have h9 := i32_le (b := 400) hp.2.2; show _ * _ ≤ 536870912; simp only [componentBytes]; omega) (Nat.le_of_ble_eq_true rfl) (by have h9 := i32_le (b := 400) hp.2.2; show _ ≤ 1200; omega) dX1_init_30 (fun q1 => ?_)
  refine w_eq (xs' := [(h0, .inr (1, [.int (gI σ 15 va 1), .int r, .null, .null, .null, .int 0, .int 0, .int 0])), (q1, .inl (dA 23, (gI σ 15 vb 1).toNatClampNeg, .inl (fun _ => 0)))]) rfl ?_
  refine w_putF (pc := 32) (x := 2) (j := 0) (w := .ref q1) rfl rfl rfl (by decide) uwX1 tyX1 tyX1_ok nmX1 (ty := (.array .int)) (by decide +kernel) (fun _ => rfl) rfl rfl (Nat.le_of_ble_eq_true rfl) tw_3_193 dX1_init_32 (xs' := [(h0, .inr (1, [.int (gI σ 15 va 1), .int r, .ref q1, .null, .null, .int 0, .int 0, .int 0])), (q1, .inl (dA 23, (gI σ 15 vb 1).toNatClampNeg, .inl (fun _ => 0)))]) rfl ?_
  refine w_aload_n (pc := 35) 0 dX1_init_35 rfl rfl ?_
  refine w_aload_nR (pc := 36) 2 dX1_init_36 rfl rfl ?_
  refine w_getI (pc := 37) rfl fd_15_1 tw_2_138 dX1_init_37 ?_
  refine w_newa (pc := 40) (atype := .int) (kd := 24) (ty := .int) (N' := (gI σ 15 vb 1).toNatClampNeg) (a0 := .inl (fun _ => 0)) tw_1_152 rfl (fun _ => rfl) rfl (by decide) (fun _ _ h => h) (i32_nn hp.2.1) rfl (by have h9 := i32_le (b := 400) hp.2.2; show _ * _ ≤ 536870912; simp only [componentBytes]; omega) (Nat.le_of_ble_eq_true rfl) (by have h9 := i32_le (b := 400) hp.2.2; show _ ≤ 1200; omega) dX1_init_40 (fun q2 => ?_)
  refine w_eq (xs' := [(h0, .inr (1, [.int (gI σ 15 va 1), .int r, .ref q1, .null, .null, .int 0, .int 0, .int 0])), (q1, .inl (dA 23, (gI σ 15 vb 1).toNatClampNeg, .inl (fun _ => 0))), (q2, .inl (dA 24, (gI σ 15 vb 1).toNatClampNeg, .inl (fun _ => 0)))]) rfl ?_
  refine w_putF (pc := 42) (x := 3) (j := 0) (w := .ref q2) rfl rfl rfl (by decide) uwX1 tyX1 tyX1_ok nmX1 (ty := (.array .int)) (by decide +kernel) (fun _ => rfl) rfl rfl (Nat.le_of_ble_eq_true rfl) tw_3_194 dX1_init_42 (xs' := [(h0, .inr (1, [.int (gI σ 15 va 1), .int r, .ref q1, .ref q2, .null, .int 0, .int 0, .int 0])), (q1, .inl (dA 23, (gI σ 15 vb 1).toNatClampNeg, .inl (fun _ => 0))), (q2, .inl (dA 24, (gI σ 15 vb 1).toNatClampNeg, .inl (fun _ => 0)))]) rfl ?_
  refine w_aload_n (pc := 45) 0 dX1_init_45 rfl rfl ?_
  refine w_aload_nR (pc := 46) 2 dX1_init_46 rfl rfl ?_
  refine w_getI (pc := 47) rfl fd_15_1 tw_2_138 dX1_init_47 ?_
  refine w_newa (pc := 50) (atype := .byte) (kd := 25) (ty := .byte) (N' := (gI σ 15 vb 1).toNatClampNeg) (a0 := .inl (fun _ => 0)) tw_1_88 rfl (fun _ => rfl) rfl (by decide) (fun _ _ h => h) (i32_nn hp.2.1) rfl (by have h9 := i32_le (b := 400) hp.2.2; show _ * _ ≤ 536870912; simp only [componentBytes]; omega) (Nat.le_of_ble_eq_true rfl) (by have h9 := i32_le (b := 400) hp.2.2; show _ ≤ 1200; omega) dX1_init_50 (fun q3 => ?_)
  refine w_eq (xs' := [(h0, .inr (1, [.int (gI σ 15 va 1), .int r, .ref q1, .ref q2, .null, .int 0, .int 0, .int 0])), (q1, .inl (dA 23, (gI σ 15 vb 1).toNatClampNeg, .inl (fun _ => 0))), (q2, .inl (dA 24, (gI σ 15 vb 1).toNatClampNeg, .inl (fun _ => 0))), (q3, .inl (dA 25, (gI σ 15 vb 1).toNatClampNeg, .inl (fun _ => 0)))]) rfl ?_
  refine w_putF (pc := 52) (x := 4) (j := 0) (w := .ref q3) rfl rfl rfl (by decide) uwX1 tyX1 tyX1_ok nmX1 (ty := (.array .byte)) (by decide +kernel) (fun _ => rfl) rfl rfl (Nat.le_of_ble_eq_true rfl) tw_3_195 dX1_init_52 (xs' := [(h0, .inr (1, [.int (gI σ 15 va 1), .int r, .ref q1, .ref q2, .ref q3, .int 0, .int 0, .int 0])), (q1, .inl (dA 23, (gI σ 15 vb 1).toNatClampNeg, .inl (fun _ => 0))), (q2, .inl (dA 24, (gI σ 15 vb 1).toNatClampNeg, .inl (fun _ => 0))), (q3, .inl (dA 25, (gI σ 15 vb 1).toNatClampNeg, .inl (fun _ => 0)))]) rfl ?_
  exact w_ret (pc := 55) (Nat.le_of_ble_eq_true rfl) (by have h9 := i32_le (b := 400) hp.2.2; show _ ≤ 1200; omega) ⟨q1, q2, q3, rfl⟩ dX1_init_55
