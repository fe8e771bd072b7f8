theorem arr_prim {args : Array Value} {s : State} {ty : FieldType} (ho : ∀ (U : State) (cA : ClassId), U.vm.findClass ("[" ++ ty.toString) = some cA → va_RA U cA ty) (h : (Cond.arrayClass ty).before args s = true) : ∃ cA : ClassId, ArrOfT s cA ty ∧ va_RA s cA ty := by
  obtain ⟨c, k, comp, h1, h2, h3⟩ := Cond.arrayClass_spec h
  exact ⟨c, fun n z => ⟨fun k h => (by cases h), k, h2, comp, h3⟩, ho s c h1⟩
theorem arr_obj {args : Array Value} {s : State} {ob : String} (h : (Cond.arrayOver (.object ob)).before args s = true) : ∃ cA : ClassId, ArrOfT s cA (.object ob) ∧ va_RA s cA (.object ob) := by
  obtain ⟨comp, c, k, h1, h2, h3, h4, h5⟩ := Cond.arrayOver_spec h
  exact ⟨c, fun n z => ⟨fun k h => (by cases h), k, h3, comp, h4⟩, ⟨k, comp, h3, h4, h1, h5⟩⟩
set_option maxRecDepth 20000 in
set_option maxHeartbeats 4000000 in
theorem kk_start {args : Array Value} {s : State} (hts : ∀ w ∈ lw_tbl, w.before args s = true) : ∃ D dA, KK D dA s := by
  have hta : ∀ w ∈ allW, w.before args s = true := fun w h => hts w (allW_tbl w h)
  obtain ⟨c0, i0, hk0⟩ := u_known (C := RX0) (T := TX0) (N := 4) (n := 4) hta uwX0 (hta _ tw_3_121)
  obtain ⟨c1, i1, hk1⟩ := u_known (C := RX1) (T := TX1) (N := 8) (n := 8) hta uwX1 (hta _ tw_3_185)
  obtain ⟨c2, i2, hk2⟩ := u_known (C := RX3) (T := TX3) (N := 3) (n := 3) hta uwX3 (hta _ tw_3_81)
  obtain ⟨c3, i3, hk3⟩ := u_known (C := RX5) (T := TX5) (N := 8) (n := 8) hta uwX5 (hta _ tw_1_55)
  obtain ⟨c4, i4, hk4⟩ := u_known (C := RX6) (T := TX6) (N := 3) (n := 3) hta uwX6 (hta _ tw_1_91)
  obtain ⟨c5, i5, hk5⟩ := u_known (C := RX7) (T := TX7) (N := 3) (n := 3) hta uwX7 (hta _ tw_1_168)
  obtain ⟨c6, i6, hk6⟩ := u_known (C := RX8) (T := TX8) (N := 3) (n := 3) hta uwX8 (hta _ tw_1_35)
  obtain ⟨c7, i7, hk7⟩ := u_known (C := RX9) (T := TX9) (N := 4) (n := 4) hta uwX9 (hta _ tw_2_129)
  obtain ⟨c8, i8, hk8⟩ := u_known (C := RX10) (T := TX10) (N := 14) (n := 14) hta uwX10 (hta _ tw_1_19)
  obtain ⟨c9, i9, hk9⟩ := u_known (C := RX11) (T := TX11) (N := 37) (n := 37) hta uwX11 (hta _ tw_4_58)
  obtain ⟨aInt, haInt⟩ := arr_prim (ty := .int) (fun _ _ h => h) (hta _ tw_1_152)
  obtain ⟨aByte, haByte⟩ := arr_prim (ty := .byte) (fun _ _ h => h) (hta _ tw_1_88)
  obtain ⟨aBool, haBool⟩ := arr_prim (ty := .boolean) (fun _ _ h => h) (hta _ tw_4_175)
  obtain ⟨aLong, haLong⟩ := arr_prim (ty := .long) (fun _ _ h => h) (hta _ tw_1_89)
  obtain ⟨ob0, hob0⟩ := arr_obj (ob := "PackDesk$Row") (hts _ (tw_in1 _ (List.mem_of_getElem? (i := 27) rfl)))
  obtain ⟨ob1, hob1⟩ := arr_obj (ob := "PackDesk$Stream") (hts _ (tw_in1 _ (List.mem_of_getElem? (i := 29) rfl)))
  obtain ⟨ob2, hob2⟩ := arr_obj (ob := "PackDesk$House") (hts _ (tw_in1 _ (List.mem_of_getElem? (i := 31) rfl)))
  obtain ⟨ob3, hob3⟩ := arr_obj (ob := "PackDesk$Delta") (hts _ (tw_in1 _ (List.mem_of_getElem? (i := 33) rfl)))
  obtain ⟨ob4, hob4⟩ := arr_obj (ob := "PackDesk$Body") (hts _ (tw_in1 _ (List.mem_of_getElem? (i := 41) rfl)))
  refine ⟨(fun k => if k = 0 then c0 else if k = 1 then c1 else if k = 2 then c2 else if k = 3 then c3 else if k = 4 then c4 else if k = 5 then c5 else if k = 6 then c6 else if k = 7 then c7 else if k = 8 then c8 else c9, fun k => if k = 0 then i0 else if k = 1 then i1 else if k = 2 then i2 else if k = 3 then i3 else if k = 4 then i4 else if k = 5 then i5 else if k = 6 then i6 else if k = 7 then i7 else if k = 8 then i8 else i9), fun k => if k = 1 then ob0 else if k = 2 then ob1 else if k = 3 then ob2 else if k = 4 then ob3 else if k = 5 then aInt else if k = 7 then ob4 else if k = 9 then aByte else if k = 10 then aLong else if k = 11 then aLong else if k = 14 then aLong else if k = 16 then aByte else if k = 18 then aLong else if k = 19 then ob4 else if k = 21 then aByte else if k = 23 then aInt else if k = 24 then aInt else if k = 25 then aByte else if k = 31 then aInt else if k = 34 then aInt else if k = 35 then aInt else if k = 36 then aBool else if k = 37 then aLong else if k = 38 then aLong else if k = 39 then aLong else if k = 41 then aInt else if k = 44 then aInt else if k = 45 then aInt else if k = 46 then aInt else if k = 47 then aBool else if k = 51 then aInt else if k = 52 then aInt else if k = 53 then aInt else if k = 54 then aInt else if k = 57 then aInt else if k = 58 then aLong else if k = 59 then aInt else if k = 61 then aInt else if k = 62 then aInt else if k = 63 then aInt else if k = 64 then aInt else if k = 65 then aInt else if k = 66 then aInt else aInt, fun c q hq => ?_, fun k hk => ?_, va_Nw.of rfl (hts _ (tw_in1 _ (List.mem_of_getElem? (i := 36) rfl))), va_Nw.of rfl (hts _ (tw_in1 _ (List.mem_of_getElem? (i := 56) rfl))), va_Nw.of rfl (hts _ (tw_in1 _ (List.mem_of_getElem? (i := 92) rfl))), va_Nw.of rfl (hts _ (tw_in2 _ (List.mem_of_getElem? (i := 130) rfl))), va_Nw.of rfl (hts _ (tw_in3 _ (List.mem_of_getElem? (i := 35) rfl))), va_Nw.of rfl (hts _ (tw_in3 _ (List.mem_of_getElem? (i := 36) rfl))), va_Nw.of rfl (hts _ (tw_in3 _ (List.mem_of_getElem? (i := 82) rfl))), va_Nw.of rfl (hts _ (tw_in3 _ (List.mem_of_getElem? (i := 122) rfl))), va_AO.of (hts _ (tw_in1 _ (List.mem_of_getElem? (i := 27) rfl))), va_AO.of (hts _ (tw_in1 _ (List.mem_of_getElem? (i := 29) rfl))), va_AO.of (hts _ (tw_in1 _ (List.mem_of_getElem? (i := 31) rfl))), va_AO.of (hts _ (tw_in1 _ (List.mem_of_getElem? (i := 33) rfl))), va_AO.of (hts _ (tw_in1 _ (List.mem_of_getElem? (i := 41) rfl)))⟩
  · match c, hq with
    | 0, hq => cases hq; exact hk0
    | 1, hq => cases hq; exact hk1
    | 2, hq => cases hq; exact hk2
    | 3, hq => cases hq; exact hk3
    | 4, hq => cases hq; exact hk4
    | 5, hq => cases hq; exact hk5
    | 6, hq => cases hq; exact hk6
    | 7, hq => cases hq; exact hk7
    | 8, hq => cases hq; exact hk8
    | 9, hq => cases hq; exact hk9
    | c + 10, hq => simp [vwCl] at hq
  · match k, hk with
    | 0, h => exact absurd h (by decide)
    | 1, _ => exact hob0
    | 2, _ => exact hob1
    | 3, _ => exact hob2
    | 4, _ => exact hob3
    | 5, _ => exact haInt
    | 6, h => exact absurd h (by decide)
    | 7, _ => exact hob4
    | 8, h => exact absurd h (by decide)
    | 9, _ => exact haByte
    | 10, _ => exact haLong
    | 11, _ => exact haLong
    | 12, h => exact absurd h (by decide)
    | 13, h => exact absurd h (by decide)
    | 14, _ => exact haLong
    | 15, h => exact absurd h (by decide)
    | 16, _ => exact haByte
    | 17, h => exact absurd h (by decide)
    | 18, _ => exact haLong
    | 19, _ => exact hob4
    | 20, h => exact absurd h (by decide)
    | 21, _ => exact haByte
    | 22, h => exact absurd h (by decide)
    | 23, _ => exact haInt
    | 24, _ => exact haInt
    | 25, _ => exact haByte
    | 26, h => exact absurd h (by decide)
    | 27, h => exact absurd h (by decide)
    | 28, h => exact absurd h (by decide)
    | 29, h => exact absurd h (by decide)
    | 30, h => exact absurd h (by decide)
    | 31, _ => exact haInt
    | 32, h => exact absurd h (by decide)
    | 33, h => exact absurd h (by decide)
    | 34, _ => exact haInt
    | 35, _ => exact haInt
    | 36, _ => exact haBool
    | 37, _ => exact haLong
    | 38, _ => exact haLong
    | 39, _ => exact haLong
    | 40, h => exact absurd h (by decide)
    | 41, _ => exact haInt
    | 42, h => exact absurd h (by decide)
    | 43, h => exact absurd h (by decide)
    | 44, _ => exact haInt
    | 45, _ => exact haInt
    | 46, _ => exact haInt
    | 47, _ => exact haBool
    | 48, h => exact absurd h (by decide)
    | 49, h => exact absurd h (by decide)
    | 50, h => exact absurd h (by decide)
    | 51, _ => exact haInt
    | 52, _ => exact haInt
    | 53, _ => exact haInt
    | 54, _ => exact haInt
    | 55, h => exact absurd h (by decide)
    | 56, h => exact absurd h (by decide)
    | 57, _ => exact haInt
    | 58, _ => exact haLong
    | 59, _ => exact haInt
    | 60, h => exact absurd h (by decide)
    | 61, _ => exact haInt
    | 62, _ => exact haInt
    | 63, _ => exact haInt
    | 64, _ => exact haInt
    | 65, _ => exact haInt
    | 66, _ => exact haInt
    | k + 67, h => exact absurd h (by show ¬ (9 < 9); decide)
theorem ci_RL_9 : CaI RL 9 yX10_init cX10_init 1 0 := ⟨Or.inl tw_1_20, tw_1_21, tw_1_1, tw_1_22, rfl, by decide +kernel, by decide +kernel, by decide +kernel⟩
theorem ci_RL_12 : CaI RL 12 yX11_init cX11_init 2 0 := ⟨Or.inl tw_4_59, tw_4_60, tw_1_5, tw_4_61, rfl, by decide +kernel, by decide +kernel, by decide +kernel⟩
set_option maxRecDepth 20000 in
set_option maxHeartbeats 4000000 in
/-- THE LAW, from its entry, where the equivalences hold -/
theorem whole_open {N : Nat} {Inv : Nat → rS → rS → Prop} (hE : EQS N Inv) (hM : ∀ t σ τ, Inv t σ τ → Inv (t + 1) σ τ) (hI0 : Inv 0 sX0 sM0) {p : Program} {e : Env} {s : State} {m : MethodId} {below : List Frame} {meth : Method} {c : Code} (l : Launch) {b L : Nat} {xs : Nat → Int32} (hLL : L ≤ 384) (C0 : lw_At p s m meth c b L xs) : W p l e room_1 s m #[Value.ref b] below meth c s.heap [] 0 0 (lw_Z below #[Value.ref b] s) (entryFrame m ([Value.ref b] : List Value).toArray 4) := by
  obtain ⟨hx, hb, hr, hml, hown, hts, hX, hbl, hlocks, hgv⟩ := C0
  obtain ⟨D, dA, hK⟩ := kk_start hts
  have hta : ∀ w ∈ allW, w.before #[Value.ref b] s = true := fun w h => hts w (allW_tbl w h)
  have hb : c.code = cL_law := hb
  have hown : s.vm.findClass RL = some m.cls := hown
  have hAn : ∀ q : Nat, s.heap.size ≤ q → (fun q : Nat => s.heap.size ≤ q) q := fun _ h => h
  have hS : va_S (fun q : Nat => s.heap.size ≤ q) s.heap s.heap [] := va_S.rf
  have hP : va_P D vwCl [] s.heap := fun k q h => by simp at h
  have hD : va_D (fun q : Nat => s.heap.size ≤ q) [] := ⟨fun i j p q h => by simp at h, fun k q h => by simp at h⟩
  have hl := lv_entry ([.ref b]) (n := 4) (Nat.le_of_ble_eq_true rfl)
  rw [lg_entry_eq]
  generalize (lg_sl ([.ref b]) ++ List.replicate (4 - (lg_sl ([.ref b])).length) Slot.unset).toArray = ls at hl ⊢
  have hl : lv_has ls 4 [(0, .ref b)] := hl
  -- the class's object
  refine va_new (ci := 8) (fs := [.null, .null, .null, .null, .null, .null, .null, .null, .int 0, .int 0, .int 0, .int 0, .int 0, .long 0]) (C := RX10) (T := TX10) (N := 14) hx hb hta uwX10 tyX10 tyX10_ok hown (hta _ tw_1_18) (hta _ tw_1_19) (hta _ tw_1_1) (kk_v0 hK) hP hD hS hAn rfl dvX10 (Nat.le_of_ble_eq_true rfl) (Nat.le_of_ble_eq_true rfl) dL_law_0 (fun q H1 hP1 hD1 hS1 => ?_)
  refine lv_dup hx hb dL_law_3 rfl ?_
  have hra : ∀ z, ra e0 (fun _ _ => 0) H1.size q z → s.heap.size ≤ z := by
    intro z hz
    rcases hz with rfl | ⟨k, i, hi, -⟩ | hz
    · exact hD1.2 0 _ rfl
    · exact absurd hi (Nat.not_lt_zero i)
    · exact Nat.le_trans hS1.1 hz
  refine rh_callI (runI (kc := 0 + 1) (ks := 0 + 14) (As := []) (b := q) (rest := [.ref q]) (nL := 4) hx hb hml hown hta hK hl.1 (i10 l D dA e0 (fun _ _ => 0) H1.size q trivial trivial) ci_RL_9 jPi_blind (fun U hU hW => ⟨rfl, by rw [hU], ⟨[], e0_cov, by rw [hU]; exact hP1, hD1.1⟩, kk_warm hW hK⟩) rfl (Nat.le_of_ble_eq_true rfl) ⟨(Nat.le_of_ble_eq_true rfl), (Nat.le_of_ble_eq_true rfl)⟩ ⟨(Nat.le_of_ble_eq_true rfl), (Nat.le_of_ble_eq_true rfl)⟩ dL_law_4) hS1 hra (fun H2 locs2 ad2 ws2 xs2 g1 g2 g3 g4 g5 _ hS2 => ?_)
  have hn := e0_nil g1
  subst hn
  obtain ⟨ad, hR, hadq⟩ := first_X (D := D) (dA := dA) (A := fun q : Nat => s.heap.size ≤ q) g3 ⟨g4.1, fun k z hz => hra _ (g4.2 k z hz)⟩ g5
  refine lv_astore_n (lv' := [(1, .ref q), (0, .ref b)]) hx hb dL_law_7 rfl hl (by decide) rfl (fun ls hl => ?_)
  -- the reference's object
  have hS2' : va_S (fun q : Nat => s.heap.size ≤ q) s.heap H2 locs2 := hS2
  obtain ⟨wsR, hcR, hPR, hDR⟩ := rh_cov hR
  refine va_new (ci := 9) (fs := [.int 0, .null, .long 0, .int 0, .null, .null, .null, .null, .null, .null, .int 0, .null, .int 0, .int 0, .null, .null, .null, .null, .int 0, .int 0, .long 0, .null, .null, .null, .null, .int 0, .int 0, .null, .null, .null, .int 0, .null, .null, .null, .null, .null, .null]) (C := RX11) (T := TX11) (N := 37) hx hb hta uwX11 tyX11 tyX11_ok hown (hta _ tw_4_57) (hta _ tw_4_58) (hta _ tw_1_5) (kk_v0 hK) hPR hDR hS2' hAn rfl dvX11 (Nat.le_of_ble_eq_true rfl) (Nat.le_of_ble_eq_true rfl) dL_law_8 (fun q9 H3 hP3 hD3 hS3 => ?_)
  refine lv_dup hx hb dL_law_11 rfl ?_
  have hPq : va_P D vwCl ([] ++ [(q9, .inr (9, [.int 0, .null, .long 0, .int 0, .null, .null, .null, .null, .null, .null, .int 0, .null, .int 0, .int 0, .null, .null, .null, .null, .int 0, .int 0, .long 0, .null, .null, .null, .null, .int 0, .int 0, .null, .null, .null, .int 0, .null, .null, .null, .null, .null, .null]))]) H3 := by
    intro j z hj
    refine hP3 (wsR.length + j) z ?_
    rw [List.getElem?_append_right (Nat.le_add_right _ _), Nat.add_sub_cancel_left]
    exact hj
  have hdq : dis ([] ++ [(q9, (.inr (9, [.int 0, .null, .long 0, .int 0, .null, .null, .null, .null, .null, .null, .int 0, .null, .int 0, .int 0, .null, .null, .null, .null, .int 0, .int 0, .long 0, .null, .null, .null, .null, .int 0, .int 0, .null, .null, .null, .int 0, .null, .null, .null, .null, .null, .null]) : va_E))]) := by
    intro i j a c h1 h2 _
    have g1 := (List.getElem?_eq_some_iff.mp h1).1
    have g2 := (List.getElem?_eq_some_iff.mp h2).1
    simp at g1 g2
    omega
  have hqz : (wsR ++ [(q9, .inr (9, [.int 0, .null, .long 0, .int 0, .null, .null, .null, .null, .null, .null, .int 0, .null, .int 0, .int 0, .null, .null, .null, .null, .int 0, .int 0, .long 0, .null, .null, .null, .null, .int 0, .int 0, .null, .null, .null, .int 0, .null, .null, .null, .null, .null, .null]))])[wsR.length]? = some (q9, (.inr (9, [.int 0, .null, .long 0, .int 0, .null, .null, .null, .null, .null, .null, .int 0, .null, .int 0, .int 0, .null, .null, .null, .null, .int 0, .int 0, .long 0, .null, .null, .null, .null, .int 0, .int 0, .null, .null, .null, .int 0, .null, .null, .null, .null, .null, .null]) : va_E)) := by
    rw [List.getElem?_append_right (Nat.le_refl _)]
    simp
  have hra3 : ∀ z, ra e0 (fun _ _ => 0) H3.size q9 z → s.heap.size ≤ z := by
    intro z hz
    rcases hz with rfl | ⟨k, i, hi, -⟩ | hz
    · exact hD3.2 wsR.length _ hqz
    · exact absurd hi (Nat.not_lt_zero i)
    · exact Nat.le_trans hS3.1 hz
  have hR3 : Rh D dA (fun q : Nat => s.heap.size ≤ q) sX0 ad H3 := ⟨hcR.1, hcR.2.1, hR.2.2.1, wsR, fun k z hz => hP3 k z (by rw [List.getElem?_append_left (List.getElem?_eq_some_iff.mp hz).1]; exact hz), hDR.1, hcR.2.2.1, hcR.2.2.2⟩
  have hnot : ∀ k i, i < gC sX0 k → ad k i < H3.size ∧ ¬ ra e0 (fun _ _ => 0) H3.size q9 (ad k i) := by
    intro k i hi
    have hlt := rh_lt hR3 hi
    refine ⟨hlt, fun hz => ?_⟩
    rcases hz with hz | ⟨k, i, hi, -⟩ | hz
    · obtain ⟨j, hj⟩ := hcR.2.2.1 k i hi
      have hl := (List.getElem?_eq_some_iff.mp hj).1
      have := hD3.1 j wsR.length _ _ (by rw [List.getElem?_append_left hl]; exact hj) hqz hz
      omega
    · exact absurd hi (Nat.not_lt_zero i)
    · omega
  refine rh_callI (runI (kc := 0 + 1 + ri10.cells + 1) (ks := 0 + 14 + ri10.slots + 37) (As := []) (b := q9) (rest := [.ref q9]) (nL := 4) hx hb hml hown hta hK hl.1 (i11 l D dA e0 (fun _ _ => 0) H3.size q9 trivial trivial) ci_RL_12 jPi_blind (fun U hU hW => ⟨rfl, by rw [hU], ⟨[], e0_cov, by rw [hU]; exact hPq, hdq⟩, kk_warm hW hK⟩) rfl (Nat.le_of_ble_eq_true rfl) ⟨(Nat.le_of_ble_eq_true rfl), (Nat.le_of_ble_eq_true rfl)⟩ ⟨(Nat.le_of_ble_eq_true rfl), (Nat.le_of_ble_eq_true rfl)⟩ dL_law_12) hS3 hra3 (fun H4 locs4 ad4 ws4 xs4 f1 f2 f3 f4 f5 f6 hS4 => ?_)
  have hn4 := e0_nil f1
  subst hn4
  obtain ⟨bd, hT0, hbdq⟩ := first_M (D := D) (dA := dA) (A := ra e0 (fun _ _ => 0) H3.size q9) f3 f4 f5
  have hTr : ∀ k i, i < gC sM0 k → ra e0 (fun _ _ => 0) H3.size q9 (bd k i) := hT0.2.2.1
  have hT : Rh D dA (fun q : Nat => s.heap.size ≤ q) sM0 bd H4 := rh_to hT0 (fun k i hi => hra3 _ (hTr k i hi))
  have hR4 : Rh D dA (fun q : Nat => s.heap.size ≤ q) sX0 ad H4 := rh_kept hR3 (fun k i hi => f6 _ (hnot k i hi).1 (hnot k i hi).2)
  have hap : Apt sX0 ad sM0 bd := fun k i k' i' hi hi' he => (hnot k i hi).2 (by rw [he]; exact hTr k' i' hi')
  refine lv_astore_n (lv' := [(2, .ref q9), (1, .ref q), (0, .ref b)]) hx hb dL_law_15 rfl hl (by decide) rfl (fun ls hl => ?_)
  refine lv_iconst (v := 0) hx hb dL_law_16 (by decide) ?_
  refine lv_istore_n (lv' := [(3, .int 0), (2, .ref q9), (1, .ref q), (0, .ref b)]) hx hb dL_law_17 rfl hl (by decide) rfl (fun ls hl => ?_)
  refine W.widen (k := 100 + 62 * 0) (n := 50000 + 12524 * 0) (Nat.le_of_ble_eq_true rfl) (Nat.le_of_ble_eq_true rfl) ?_
  exact lw_loop hE hM hr hlocks hLL 65 0 sX0 sM0 rfl (by omega) hI0 ⟨hx, hb, hml, hown, hta, hK, hX, hbl, hLL⟩ H4 locs4 ad bd ls hR4 hT hap (by decide) (by decide) hS4 (by rw [hadq, hbdq]; exact lv_sub hl [3, 2, 1, 0] rfl)
