theorem i32_nn {n : Int32} (h : 0 ≤ n.toInt) : ¬ n < 0 := fun q => by
  have := Int32.lt_iff_toInt_lt.mp q
  simp at this
  omega
theorem i32_le {n : Int32} {b : Nat} (h : n.toInt ≤ b) : 0 + n.toNatClampNeg ≤ b := by
  have : n.toNatClampNeg = n.toInt.toNat := rfl
  omega
theorem dvX8 : ∀ j, j < 3 → defaultValue (tyX8 j) = vp_V [.null, .int 0, .int 0] j := by decide +kernel
theorem dvX5 : ∀ j, j < 8 → defaultValue (tyX5 j) = vp_V [.null, .int 0, .null, .null, .null, .int 0, .int 0, .int 0] j := by decide +kernel
theorem dvX6 : ∀ j, j < 3 → defaultValue (tyX6 j) = vp_V [.int 0, .int 0, .int 0] j := by decide +kernel
theorem dvX7 : ∀ j, j < 3 → defaultValue (tyX7 j) = vp_V [.int 0, .null, .int 0] j := by decide +kernel
theorem dvX9 : ∀ j, j < 4 → defaultValue (tyX9 j) = vp_V [.null, .int 0, .int 0, .int 0] j := by decide +kernel
theorem dvX3 : ∀ j, j < 3 → defaultValue (tyX3 j) = vp_V [.null, .null, .int 0] j := by decide +kernel
theorem dvX0 : ∀ j, j < 4 → defaultValue (tyX0 j) = vp_V [.null, .int 0, .int 0, .int 0] j := by decide +kernel
theorem dvX1 : ∀ j, j < 8 → defaultValue (tyX1 j) = vp_V [.int 0, .int 0, .null, .null, .null, .int 0, .int 0, .int 0] j := by decide +kernel
theorem dvX10 : ∀ j, j < 14 → defaultValue (tyX10 j) = vp_V [.null, .null, .null, .null, .null, .null, .null, .null, .int 0, .int 0, .int 0, .int 0, .int 0, .long 0] j := by decide +kernel
theorem dvX11 : ∀ j, j < 37 → defaultValue (tyX11 j) = vp_V [.int 0, .null, .long 0, .int 0, .null, .null, .null, .null, .null, .null, .int 0, .null, .int 0, .int 0, .null, .null, .null, .null, .int 0, .int 0, .long 0, .null, .null, .null, .null, .int 0, .int 0, .null, .null, .null, .int 0, .null, .null, .null, .null, .null, .null] j := by decide +kernel
abbrev ri7 : Room := { frames := 1, cells := 1, slots := 24, locals := 13 }
set_option maxRecDepth 20000 in
set_option maxHeartbeats 4000000 in
theorem i7 (l : Launch) (kd : Int32) (n : Int32) : CtI l yX7_init cX7_init 3 ri7 [aI kd, aI n] (.inr (5, [.int 0, .null, .int 0])) (fun _ => 0 ≤ n.toInt ∧ n.toInt ≤ 24) (fun σ ad dA h0 xs => ∃ q1 : Nat, xs = [(h0, .inr (5, [.int kd, .ref q1, .int 0])), (q1, .inl (dA 14, n.toNatClampNeg, .inr (.inl (fun _ => 0))))]) := by
  refine cti_of (lv := fun h0 => [(0, rq h0), (1, aI kd), (2, aI n)]) (by decide +kernel) rfl (fun _ _ => rfl) (fun _ _ => (Nat.le_of_ble_eq_true rfl)) (fun _ _ h => lvl_als (avs := rq _ :: [aI kd, aI n]) ⟨trivial, h⟩ rfl) ?_
  intro p l e s m as below meth c D dA σ ad h0 hp hal
  refine w_aload_n (pc := 0) 0 dX7_init_0 rfl rfl ?_
  refine w_objInit (pc := 1) tw_1_172 dX7_init_1 (Nat.le_of_ble_eq_true rfl) (Nat.le_of_ble_eq_true rfl) ?_
  refine w_aload_n (pc := 4) 0 dX7_init_4 rfl rfl ?_
  refine w_iload_n (pc := 5) 1 dX7_init_5 rfl rfl ?_
  refine w_putF (pc := 6) (x := 0) (j := 0) (w := .int kd) rfl rfl rfl (by decide) uwX7 tyX7 tyX7_ok nmX7 (ty := .int) (by decide +kernel) (fun _ => rfl) rfl rfl (Nat.le_of_ble_eq_true rfl) tw_1_173 dX7_init_6 (xs' := [(h0, .inr (5, [.int kd, .null, .int 0]))]) rfl ?_
  refine w_aload_n (pc := 9) 0 dX7_init_9 rfl rfl ?_
  refine w_iload_n (pc := 10) 2 dX7_init_10 rfl rfl ?_
  refine w_newa (pc := 11) (atype := .long) (kd := 14) (ty := .long) (N' := n.toNatClampNeg) (a0 := .inr (.inl (fun _ => 0))) tw_1_89 rfl (fun _ => rfl) rfl (by decide) (fun _ _ h => h) (i32_nn hp.1) rfl (by show n.toNatClampNeg * 8 ≤ 536870912; have := i32_le (b := 24) hp.2; omega) (Nat.le_of_ble_eq_true rfl) (by show 0 + n.toNatClampNeg ≤ 24; exact i32_le hp.2) dX7_init_11 (fun q1 => ?_)
  refine w_eq (xs' := [(h0, .inr (5, [.int kd, .null, .int 0])), (q1, .inl (dA 14, n.toNatClampNeg, .inr (.inl (fun _ => 0))))]) rfl ?_
  refine w_putF (pc := 13) (x := 1) (j := 0) (w := .ref q1) rfl rfl rfl (by decide) uwX7 tyX7 tyX7_ok nmX7 (ty := (.array .long)) (by decide +kernel) (fun _ => rfl) rfl rfl (Nat.le_of_ble_eq_true rfl) tw_1_175 dX7_init_13 (xs' := [(h0, .inr (5, [.int kd, .ref q1, .int 0])), (q1, .inl (dA 14, n.toNatClampNeg, .inr (.inl (fun _ => 0))))]) rfl ?_
  exact w_ret (pc := 16) (Nat.le_of_ble_eq_true rfl) (by show 0 + n.toNatClampNeg ≤ 24; exact i32_le hp.2) ⟨q1, rfl⟩ dX7_init_16
abbrev ri9 : Room := { frames := 1, cells := 1, slots := 400, locals := 13 }
set_option maxRecDepth 20000 in
set_option maxHeartbeats 4000000 in
theorem i9 (l : Launch) : CtI l yX9_init cX9_init 1 ri9 [] (.inr (7, [.null, .int 0, .int 0, .int 0])) (fun _ => True) (fun σ ad dA h0 xs => ∃ q1 : Nat, xs = [(h0, .inr (7, [.ref q1, .int 0, .int 0, .int 0])), (q1, .inl (dA 16, 400, .inl (fun _ => 0)))]) := by
  refine cti_of (lv := fun h0 => [(0, rq h0)]) (by decide +kernel) rfl (fun _ _ => rfl) (fun _ _ => (Nat.le_of_ble_eq_true rfl)) (fun _ _ h => lvl_als (avs := rq _ :: []) ⟨trivial, h⟩ rfl) ?_
  intro p l e s m as below meth c D dA σ ad h0 hp hal
  refine w_aload_n (pc := 0) 0 dX9_init_0 rfl rfl ?_
  refine w_objInit (pc := 1) tw_2_133 dX9_init_1 (Nat.le_of_ble_eq_true rfl) (Nat.le_of_ble_eq_true rfl) ?_
  refine w_aload_n (pc := 4) 0 dX9_init_4 rfl rfl ?_
  refine w_sipush (pc := 5) (v := 400) (by decide) dX9_init_5 ?_
  refine w_newa (pc := 8) (atype := .byte) (kd := 16) (ty := .byte) (N' := 400) (a0 := .inl (fun _ => 0)) tw_1_88 rfl (fun _ => rfl) rfl (by decide) (fun _ _ h => h) (by decide) (by decide) (Nat.le_of_ble_eq_true rfl) (Nat.le_of_ble_eq_true rfl) (Nat.le_of_ble_eq_true rfl) dX9_init_8 (fun q1 => ?_)
  refine w_eq (xs' := [(h0, .inr (7, [.null, .int 0, .int 0, .int 0])), (q1, .inl (dA 16, 400, .inl (fun _ => 0)))]) rfl ?_
  refine w_putF (pc := 10) (x := 0) (j := 0) (w := .ref q1) rfl rfl rfl (by decide) uwX9 tyX9 tyX9_ok nmX9 (ty := (.array .byte)) (by decide +kernel) (fun _ => rfl) rfl rfl (Nat.le_of_ble_eq_true rfl) tw_2_134 dX9_init_10 (xs' := [(h0, .inr (7, [.ref q1, .int 0, .int 0, .int 0])), (q1, .inl (dA 16, 400, .inl (fun _ => 0)))]) rfl ?_
  exact w_ret (pc := 13) (Nat.le_of_ble_eq_true rfl) (Nat.le_of_ble_eq_true rfl) ⟨q1, rfl⟩ dX9_init_13
abbrev ri0 : Room := { frames := 1, cells := 1, slots := 400, locals := 13 }
set_option maxRecDepth 20000 in
set_option maxHeartbeats 4000000 in
theorem i0 (l : Launch) : CtI l yX0_init cX0_init 1 ri0 [] (.inr (0, [.null, .int 0, .int 0, .int 0])) (fun _ => True) (fun σ ad dA h0 xs => ∃ q1 : Nat, xs = [(h0, .inr (0, [.ref q1, .int 0, .int 0, .int 0])), (q1, .inl (dA 21, 400, .inl (fun _ => 0)))]) := by
  refine cti_of (lv := fun h0 => [(0, rq h0)]) (by decide +kernel) rfl (fun _ _ => rfl) (fun _ _ => (Nat.le_of_ble_eq_true rfl)) (fun _ _ h => lvl_als (avs := rq _ :: []) ⟨trivial, h⟩ rfl) ?_
  intro p l e s m as below meth c D dA σ ad h0 hp hal
  refine w_aload_n (pc := 0) 0 dX0_init_0 rfl rfl ?_
  refine w_objInit (pc := 1) tw_3_125 dX0_init_1 (Nat.le_of_ble_eq_true rfl) (Nat.le_of_ble_eq_true rfl) ?_
  refine w_aload_n (pc := 4) 0 dX0_init_4 rfl rfl ?_
  refine w_sipush (pc := 5) (v := 400) (by decide) dX0_init_5 ?_
  refine w_newa (pc := 8) (atype := .byte) (kd := 21) (ty := .byte) (N' := 400) (a0 := .inl (fun _ => 0)) tw_1_88 rfl (fun _ => rfl) rfl (by decide) (fun _ _ h => h) (by decide) (by decide) (Nat.le_of_ble_eq_true rfl) (Nat.le_of_ble_eq_true rfl) (Nat.le_of_ble_eq_true rfl) dX0_init_8 (fun q1 => ?_)
  refine w_eq (xs' := [(h0, .inr (0, [.null, .int 0, .int 0, .int 0])), (q1, .inl (dA 21, 400, .inl (fun _ => 0)))]) rfl ?_
  refine w_putF (pc := 10) (x := 0) (j := 0) (w := .ref q1) rfl rfl rfl (by decide) uwX0 tyX0 tyX0_ok nmX0 (ty := (.array .byte)) (by decide +kernel) (fun _ => rfl) rfl rfl (Nat.le_of_ble_eq_true rfl) tw_3_126 dX0_init_10 (xs' := [(h0, .inr (0, [.ref q1, .int 0, .int 0, .int 0])), (q1, .inl (dA 21, 400, .inl (fun _ => 0)))]) rfl ?_
  exact w_ret (pc := 13) (Nat.le_of_ble_eq_true rfl) (Nat.le_of_ble_eq_true rfl) ⟨q1, rfl⟩ dX0_init_13
abbrev ri3 : Room := { frames := 1, cells := 2, slots := 24, locals := 13 }
set_option maxRecDepth 20000 in
set_option maxHeartbeats 4000000 in
theorem i3 (l : Launch) : CtI l yX3_init cX3_init 1 ri3 [] (.inr (2, [.null, .null, .int 0])) (fun _ => True) (fun σ ad dA h0 xs => ∃ q1 : Nat, ∃ q2 : Nat, xs = [(h0, .inr (2, [.ref q1, .ref q2, .int 0])), (q1, .inl (dA 18, 12, .inr (.inl (fun _ => 0)))), (q2, .inl (dA 19, 12, .inr (.inr (.inr (.inr (fun _ => none))))))]) := by
  refine cti_of (lv := fun h0 => [(0, rq h0)]) (by decide +kernel) rfl (fun _ _ => rfl) (fun _ _ => (Nat.le_of_ble_eq_true rfl)) (fun _ _ h => lvl_als (avs := rq _ :: []) ⟨trivial, h⟩ rfl) ?_
  intro p l e s m as below meth c D dA σ ad h0 hp hal
  refine w_aload_n (pc := 0) 0 dX3_init_0 rfl rfl ?_
  refine w_objInit (pc := 1) tw_3_85 dX3_init_1 (Nat.le_of_ble_eq_true rfl) (Nat.le_of_ble_eq_true rfl) ?_
  refine w_aload_n (pc := 4) 0 dX3_init_4 rfl rfl ?_
  refine w_bipush (pc := 5) (v := 12) (by decide) dX3_init_5 ?_
  refine w_newa (pc := 7) (atype := .long) (kd := 18) (ty := .long) (N' := 12) (a0 := .inr (.inl (fun _ => 0))) tw_1_89 rfl (fun _ => rfl) rfl (by decide) (fun _ _ h => h) (by decide) (by decide) (Nat.le_of_ble_eq_true rfl) (Nat.le_of_ble_eq_true rfl) (Nat.le_of_ble_eq_true rfl) dX3_init_7 (fun q1 => ?_)
  refine w_eq (xs' := [(h0, .inr (2, [.null, .null, .int 0])), (q1, .inl (dA 18, 12, .inr (.inl (fun _ => 0))))]) rfl ?_
  refine w_putF (pc := 9) (x := 0) (j := 0) (w := .ref q1) rfl rfl rfl (by decide) uwX3 tyX3 tyX3_ok nmX3 (ty := (.array .long)) (by decide +kernel) (fun _ => rfl) rfl rfl (Nat.le_of_ble_eq_true rfl) tw_3_87 dX3_init_9 (xs' := [(h0, .inr (2, [.ref q1, .null, .int 0])), (q1, .inl (dA 18, 12, .inr (.inl (fun _ => 0))))]) rfl ?_
  refine w_aload_n (pc := 12) 0 dX3_init_12 rfl rfl ?_
  refine w_bipush (pc := 13) (v := 12) (by decide) dX3_init_13 ?_
  refine w_newq (pc := 15) (kd := 19) (ob := RX0) (N' := 12) tw_3_86 (fun _ _ h => h.2.2.2.2.2.2.2.2.2.2.2.2.2.2) rfl (by decide) (by decide) (by decide) (Nat.le_of_ble_eq_true rfl) (Nat.le_of_ble_eq_true rfl) (Nat.le_of_ble_eq_true rfl) dX3_init_15 (fun q2 => ?_)
  refine w_eq (xs' := [(h0, .inr (2, [.ref q1, .null, .int 0])), (q1, .inl (dA 18, 12, .inr (.inl (fun _ => 0)))), (q2, .inl (dA 19, 12, .inr (.inr (.inr (.inr (fun _ => none))))))]) rfl ?_
  refine w_putF (pc := 18) (x := 1) (j := 0) (w := .ref q2) rfl rfl rfl (by decide) uwX3 tyX3 tyX3_ok nmX3 (ty := (.array (.object "PackDesk$Body"))) (by decide +kernel) (fun _ => rfl) rfl rfl (Nat.le_of_ble_eq_true rfl) tw_3_89 dX3_init_18 (xs' := [(h0, .inr (2, [.ref q1, .ref q2, .int 0])), (q1, .inl (dA 18, 12, .inr (.inl (fun _ => 0)))), (q2, .inl (dA 19, 12, .inr (.inr (.inr (.inr (fun _ => none))))))]) rfl ?_
  exact w_ret (pc := 21) (Nat.le_of_ble_eq_true rfl) (Nat.le_of_ble_eq_true rfl) ⟨q1, q2, rfl⟩ dX3_init_21
abbrev ri8 : Room := { frames := 1, cells := 1, slots := 30, locals := 13 }
set_option maxRecDepth 20000 in
set_option maxHeartbeats 4000000 in
theorem i8 (l : Launch) : CtI l yX8_init cX8_init 1 ri8 [] (.inr (6, [.null, .int 0, .int 0])) (fun _ => True) (fun σ ad dA h0 xs => ∃ q1 : Nat, xs = [(h0, .inr (6, [.ref q1, .int 0, .int 0])), (q1, .inl (dA 7, 30, .inr (.inr (.inr (.inr (fun _ => none))))))]) := by
  refine cti_of (lv := fun h0 => [(0, rq h0)]) (by decide +kernel) rfl (fun _ _ => rfl) (fun _ _ => (Nat.le_of_ble_eq_true rfl)) (fun _ _ h => lvl_als (avs := rq _ :: []) ⟨trivial, h⟩ rfl) ?_
  intro p l e s m as below meth c D dA σ ad h0 hp hal
  refine w_aload_n (pc := 0) 0 dX8_init_0 rfl rfl ?_
  refine w_objInit (pc := 1) tw_1_39 dX8_init_1 (Nat.le_of_ble_eq_true rfl) (Nat.le_of_ble_eq_true rfl) ?_
  refine w_aload_n (pc := 4) 0 dX8_init_4 rfl rfl ?_
  refine w_bipush (pc := 5) (v := 30) (by decide) dX8_init_5 ?_
  refine w_newq (pc := 7) (kd := 7) (ob := RX0) (N' := 30) tw_1_40 (fun _ _ h => h.2.2.2.2.2.2.2.2.2.2.2.2.2.2) rfl (by decide) (by decide) (by decide) (Nat.le_of_ble_eq_true rfl) (Nat.le_of_ble_eq_true rfl) (Nat.le_of_ble_eq_true rfl) dX8_init_7 (fun q1 => ?_)
  refine w_eq (xs' := [(h0, .inr (6, [.null, .int 0, .int 0])), (q1, .inl (dA 7, 30, .inr (.inr (.inr (.inr (fun _ => none))))))]) rfl ?_
  refine w_putF (pc := 10) (x := 0) (j := 0) (w := .ref q1) rfl rfl rfl (by decide) uwX8 tyX8 tyX8_ok nmX8 (ty := (.array (.object "PackDesk$Body"))) (by decide +kernel) (fun _ => rfl) rfl rfl (Nat.le_of_ble_eq_true rfl) tw_1_42 dX8_init_10 (xs' := [(h0, .inr (6, [.ref q1, .int 0, .int 0])), (q1, .inl (dA 7, 30, .inr (.inr (.inr (.inr (fun _ => none))))))]) rfl ?_
  exact w_ret (pc := 13) (Nat.le_of_ble_eq_true rfl) (Nat.le_of_ble_eq_true rfl) ⟨q1, rfl⟩ dX8_init_13
abbrev ri5 : Room := { frames := 1, cells := 3, slots := 312, locals := 13 }
set_option maxRecDepth 20000 in
set_option maxHeartbeats 4000000 in
theorem i5 (l : Launch) : CtI l yX5_init cX5_init 1 ri5 [] (.inr (3, [.null, .int 0, .null, .null, .null, .int 0, .int 0, .int 0])) (fun _ => True) (fun σ ad dA h0 xs => ∃ q1 : Nat, ∃ q2 : Nat, ∃ q3 : Nat, xs = [(h0, .inr (3, [.ref q1, .int 0, .ref q2, .ref q3, .null, .int 0, .int 0, .int 0])), (q1, .inl (dA 9, 264, .inl (fun _ => 0))), (q2, .inl (dA 10, 24, .inr (.inl (fun _ => 0)))), (q3, .inl (dA 11, 24, .inr (.inl (fun _ => 0))))]) := by
  refine cti_of (lv := fun h0 => [(0, rq h0)]) (by decide +kernel) rfl (fun _ _ => rfl) (fun _ _ => (Nat.le_of_ble_eq_true rfl)) (fun _ _ h => lvl_als (avs := rq _ :: []) ⟨trivial, h⟩ rfl) ?_
  intro p l e s m as below meth c D dA σ ad h0 hp hal
  refine w_aload_n (pc := 0) 0 dX5_init_0 rfl rfl ?_
  refine w_objInit (pc := 1) tw_1_59 dX5_init_1 (Nat.le_of_ble_eq_true rfl) (Nat.le_of_ble_eq_true rfl) ?_
  refine w_aload_n (pc := 4) 0 dX5_init_4 rfl rfl ?_
  refine w_sipush (pc := 5) (v := 264) (by decide) dX5_init_5 ?_
  refine w_newa (pc := 8) (atype := .byte) (kd := 9) (ty := .byte) (N' := 264) (a0 := .inl (fun _ => 0)) tw_1_88 rfl (fun _ => rfl) rfl (by decide) (fun _ _ h => h) (by decide) (by decide) (Nat.le_of_ble_eq_true rfl) (Nat.le_of_ble_eq_true rfl) (Nat.le_of_ble_eq_true rfl) dX5_init_8 (fun q1 => ?_)
  refine w_eq (xs' := [(h0, .inr (3, [.null, .int 0, .null, .null, .null, .int 0, .int 0, .int 0])), (q1, .inl (dA 9, 264, .inl (fun _ => 0)))]) rfl ?_
  refine w_putF (pc := 10) (x := 0) (j := 0) (w := .ref q1) rfl rfl rfl (by decide) uwX5 tyX5 tyX5_ok nmX5 (ty := (.array .byte)) (by decide +kernel) (fun _ => rfl) rfl rfl (Nat.le_of_ble_eq_true rfl) tw_1_60 dX5_init_10 (xs' := [(h0, .inr (3, [.ref q1, .int 0, .null, .null, .null, .int 0, .int 0, .int 0])), (q1, .inl (dA 9, 264, .inl (fun _ => 0)))]) rfl ?_
  refine w_aload_n (pc := 13) 0 dX5_init_13 rfl rfl ?_
  refine w_bipush (pc := 14) (v := 24) (by decide) dX5_init_14 ?_
  refine w_newa (pc := 16) (atype := .long) (kd := 10) (ty := .long) (N' := 24) (a0 := .inr (.inl (fun _ => 0))) tw_1_89 rfl (fun _ => rfl) rfl (by decide) (fun _ _ h => h) (by decide) (by decide) (Nat.le_of_ble_eq_true rfl) (Nat.le_of_ble_eq_true rfl) (Nat.le_of_ble_eq_true rfl) dX5_init_16 (fun q2 => ?_)
  refine w_eq (xs' := [(h0, .inr (3, [.ref q1, .int 0, .null, .null, .null, .int 0, .int 0, .int 0])), (q1, .inl (dA 9, 264, .inl (fun _ => 0))), (q2, .inl (dA 10, 24, .inr (.inl (fun _ => 0))))]) rfl ?_
  refine w_putF (pc := 18) (x := 2) (j := 0) (w := .ref q2) rfl rfl rfl (by decide) uwX5 tyX5 tyX5_ok nmX5 (ty := (.array .long)) (by decide +kernel) (fun _ => rfl) rfl rfl (Nat.le_of_ble_eq_true rfl) tw_1_64 dX5_init_18 (xs' := [(h0, .inr (3, [.ref q1, .int 0, .ref q2, .null, .null, .int 0, .int 0, .int 0])), (q1, .inl (dA 9, 264, .inl (fun _ => 0))), (q2, .inl (dA 10, 24, .inr (.inl (fun _ => 0))))]) rfl ?_
  refine w_aload_n (pc := 21) 0 dX5_init_21 rfl rfl ?_
  refine w_bipush (pc := 22) (v := 24) (by decide) dX5_init_22 ?_
  refine w_newa (pc := 24) (atype := .long) (kd := 11) (ty := .long) (N' := 24) (a0 := .inr (.inl (fun _ => 0))) tw_1_89 rfl (fun _ => rfl) rfl (by decide) (fun _ _ h => h) (by decide) (by decide) (Nat.le_of_ble_eq_true rfl) (Nat.le_of_ble_eq_true rfl) (Nat.le_of_ble_eq_true rfl) dX5_init_24 (fun q3 => ?_)
  refine w_eq (xs' := [(h0, .inr (3, [.ref q1, .int 0, .ref q2, .null, .null, .int 0, .int 0, .int 0])), (q1, .inl (dA 9, 264, .inl (fun _ => 0))), (q2, .inl (dA 10, 24, .inr (.inl (fun _ => 0)))), (q3, .inl (dA 11, 24, .inr (.inl (fun _ => 0))))]) rfl ?_
  refine w_putF (pc := 26) (x := 3) (j := 0) (w := .ref q3) rfl rfl rfl (by decide) uwX5 tyX5 tyX5_ok nmX5 (ty := (.array .long)) (by decide +kernel) (fun _ => rfl) rfl rfl (Nat.le_of_ble_eq_true rfl) tw_1_66 dX5_init_26 (xs' := [(h0, .inr (3, [.ref q1, .int 0, .ref q2, .ref q3, .null, .int 0, .int 0, .int 0])), (q1, .inl (dA 9, 264, .inl (fun _ => 0))), (q2, .inl (dA 10, 24, .inr (.inl (fun _ => 0)))), (q3, .inl (dA 11, 24, .inr (.inl (fun _ => 0))))]) rfl ?_
  exact w_ret (pc := 29) (Nat.le_of_ble_eq_true rfl) (Nat.le_of_ble_eq_true rfl) ⟨q1, q2, q3, rfl⟩ dX5_init_29
abbrev ri6 : Room := { frames := 1, cells := 0, slots := 0, locals := 13 }
set_option maxRecDepth 20000 in
set_option maxHeartbeats 4000000 in
theorem i6 (l : Launch) : CtI l yX6_init cX6_init 1 ri6 [] (.inr (4, [.int 0, .int 0, .int 0])) (fun _ => True) (fun σ ad dA h0 xs => xs = [(h0, .inr (4, [.int 0, .int 0, .int 0]))]) := by
  refine cti_of (lv := fun h0 => [(0, rq h0)]) (by decide +kernel) rfl (fun _ _ => rfl) (fun _ _ => (Nat.le_of_ble_eq_true rfl)) (fun _ _ h => lvl_als (avs := rq _ :: []) ⟨trivial, h⟩ rfl) ?_
  intro p l e s m as below meth c D dA σ ad h0 hp hal
  refine w_aload_n (pc := 0) 0 dX6_init_0 rfl rfl ?_
  refine w_objInit (pc := 1) tw_1_95 dX6_init_1 (Nat.le_of_ble_eq_true rfl) (Nat.le_of_ble_eq_true rfl) ?_
  exact w_ret (pc := 4) (Nat.le_of_ble_eq_true rfl) (Nat.le_of_ble_eq_true rfl) rfl dX6_init_4
