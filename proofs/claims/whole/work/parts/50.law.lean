/-! ===== the law: two worlds apart ===== -/
abbrev lX : Type := Program × Launch × Env × State × MethodId × List Frame × Method × Code × va_G × (Nat → ClassId) × Nat
/-- kinds below 29: the class's; 98: the script -/
def cv (ad bd : Nat → Nat → Nat) (b : Nat) : Nat → Nat → Nat := fun k i => if k < 29 then ad k i else if k < 90 then bd k i else b
def Apt (σ : rS) (ad : Nat → Nat → Nat) (τ : rS) (bd : Nat → Nat → Nat) : Prop := ∀ k i k' i', i < gC σ k → i' < gC τ k' → ad k i ≠ bd k' i'
def lC (Γ : lX) (sc : Nat → Int32) (L : Nat) : Prop := match Γ with
  | (p, _, _, s, m, _, _, c, D, dA, b) => p.tables.exec = Jvm.exec ∧ c.code = cL_law ∧ c.maxLocals = 4 ∧ s.vm.findClass RL = some m.cls ∧ (∀ w ∈ allW, w.before #[Value.ref b] s = true) ∧ KK D dA s ∧ va_X b L sc s s.heap ∧ b < s.heap.size ∧ L ≤ 384
def JL (Γ : lX) (sc : Nat → Int32) (L : Nat) (Q : State → Prop) (kc ks pc : Nat) (x : Int32) (st : List aV) (σ τ : rS) : Prop := match Γ with
  | (p, l, e, s, m, below, meth, c, D, dA, b) => lC (p, l, e, s, m, below, meth, c, D, dA, b) sc L → ∀ (H : Heap) (locs : List Loc) (ad bd : Nat → Nat → Nat) (ls : Array Slot), Rh D dA (fun q => s.heap.size ≤ q) σ ad H → Rh D dA (fun q => s.heap.size ≤ q) τ bd H → Apt σ ad τ bd → 0 < gC σ 0 → 0 < gC τ 29 → va_S (fun q => s.heap.size ≤ q) s.heap H locs → lv_has ls 4 [(0, .ref b), (1, .ref (ad 0 0)), (2, .ref (bd 29 0)), (3, .int x)] → W p l e room_1 s m #[Value.ref b] below meth c H locs kc ks Q (F0 m pc ls (st.map (av (cv ad bd b))))
theorem rh_kept {D : va_G} {dA : Nat → ClassId} {A : Nat → Prop} {σ : rS} {ad : Nat → Nat → Nat} {H H1 : Heap} (h : Rh D dA A σ ad H) (hk : ∀ k i, i < gC σ k → H1[ad k i]? = H[ad k i]?) : Rh D dA A σ ad H1 := by
  obtain ⟨h1, h2, h3, ws, hP, hD, hc, hx⟩ := h
  refine ⟨h1, h2, h3, ws, fun q e he => (hP q e he).kept ?_, hD, hc, hx⟩
  obtain ⟨k, i, hi, rfl⟩ := hx q e he
  exact hk k i hi
theorem rh_lt {D : va_G} {dA : Nat → ClassId} {A : Nat → Prop} {σ : rS} {ad : Nat → Nat → Nat} {H : Heap} (h : Rh D dA A σ ad H) {k i : Nat} (hi : i < gC σ k) : ad k i < H.size := by
  obtain ⟨h1, h2, h3, ws, hP, hD, hc, hx⟩ := h
  obtain ⟨q, hq⟩ := hc k i hi
  exact (hP q _ hq).lt
/-- a call in one world: the other stays, and they stay apart -/
theorem two_call {α : Type} {ea : α → Option aV} {p : Program} {l : Launch} {e : Env} {R : Room} {s : State} {m : MethodId} {args : Array Value} {below : List Frame} {meth : Method} {c : Code} {H H0 : Heap} {locs : List Loc} {cells slots mc ms pc : Nat} {Q : State → Prop} {ls : Array Slot} {rest st0 : List Value} {a : Array Value} {D : va_G} {dA : Nat → ClassId} {σ τ : rS} {ad bd : Nat → Nat → Nat} {tg : α × rS} (hR : Rh D dA (fun q => H0.size ≤ q) σ ad H) (hT : Rh D dA (fun q => H0.size ≤ q) τ bd H) (hap : Apt σ ad τ bd) (hr : va_Run p l e R s m args below meth c H locs cells slots mc ms (F0 m pc ls st0) rest (jQc D dA ea σ ad H.size tg a) (rg σ ad H.size)) (hS : va_S (fun q => H0.size ≤ q) H0 H locs)
    (kk : ∀ (H1 : Heap) (locs1 : List Loc) (ad' : Nat → Nat → Nat), Rh D dA (fun q => H0.size ≤ q) tg.2 ad' H1 → Rh D dA (fun q => H0.size ≤ q) τ bd H1 → Apt tg.2 ad' τ bd → Ex σ ad tg.2 ad' → va_S (fun q => H0.size ≤ q) H0 H1 locs1 → W p l e R s m args below meth c H1 locs1 (cells + mc) (slots + ms) Q (F0 m (pc + 3) ls (((ea tg.1).map (av ad')).toList ++ rest))) : W p l e R s m args below meth c H locs cells slots Q (F0 m pc ls st0) := by
  have hA : ∀ q, rg σ ad H.size q → H0.size ≤ q := by
    intro q hq
    rcases hq with ⟨k, i, hi, rfl⟩ | hq
    · exact hR.2.2.1 k i hi
    · exact Nat.le_trans hS.1 hq
  intro T hTT X
  obtain ⟨v, st₀, t, T', Lc, h0, X', hL, e1, e2, ⟨⟨ad', hv, hR1, hE1, hal⟩, hz, hk⟩, stp⟩ := hr T hTT X
  cases hv
  rw [h0] at hz hk
  have hnot : ∀ k i, i < gC τ k → bd k i < H.size ∧ ¬ rg σ ad H.size (bd k i) := by
    intro k i hi
    have hl := rh_lt hT hi
    refine ⟨hl, fun hz => ?_⟩
    rcases hz with ⟨k', i', hi', hz⟩ | hz
    · exact hap k' i' k i hi' hi hz.symm
    · omega
  obtain ⟨t2, a1, b1⟩ := kk T'.heap (locs ++ Lc) ad' (by rw [e1]; exact rh_to hR1 (fun k i hi => hA _ (hR1.2.2.1 k i hi))) (by rw [e1]; exact rh_kept hT (fun k i hi => hk _ (hnot k i hi).1 (hnot k i hi).2)) (fun k i k' i' hi hi' he => (hnot k' i' hi').2 (by rw [← he]; exact hR1.2.2.1 k i hi)) hE1
    ⟨Nat.le_trans hS.1 (by rw [e1]; exact hz), fun q h1 h2 => by rw [e1, hk q (Nat.lt_of_lt_of_le h1 hS.1) (fun z => h2 (hA q z))]; exact hS.2.1 q h1 h2, fun q hq => by
      rcases List.mem_append.mp hq with h | h
      · exact hS.2.2 q h
      · exact hA _ (hL q h)⟩ T' rfl X'
  exact ⟨t2, stp t2 a1, b1⟩
section JLS
variable {Γ : lX} {sc : Nat → Int32} {L : Nat} {Q : State → Prop} {kc ks pc : Nat} {x : Int32} {st : List aV} {σ τ : rS}
theorem l_al1 (d : decode cL_law pc = .ok (.aload_n 1, 1)) (k : JL Γ sc L Q kc ks (pc + 1) x (aR 0 0 :: st) σ τ) : JL Γ sc L Q kc ks pc x st σ τ := by
  obtain ⟨p, l, e, s, m, below, meth, c, D, dA, b⟩ := Γ
  intro C H locs ad bd ls hR hT hap h1 h2 hS hL
  exact lv_aload_n C.1 C.2.1 d rfl (lv_at hL 1 rfl) (k C H locs ad bd ls hR hT hap h1 h2 hS hL)
theorem l_al2 (d : decode cL_law pc = .ok (.aload_n 2, 1)) (k : JL Γ sc L Q kc ks (pc + 1) x (aR 29 0 :: st) σ τ) : JL Γ sc L Q kc ks pc x st σ τ := by
  obtain ⟨p, l, e, s, m, below, meth, c, D, dA, b⟩ := Γ
  intro C H locs ad bd ls hR hT hap h1 h2 hS hL
  exact lv_aload_n C.1 C.2.1 d rfl (lv_at hL 2 rfl) (k C H locs ad bd ls hR hT hap h1 h2 hS hL)
/-- an int of the script, by its place behind the call's head -/
theorem l_arg {i z : Nat} {n : Int} (d0 : decode cL_law pc = .ok (.aload_n 0, 1)) (d1 : decode cL_law (pc + 1) = .ok (.iload_n 3, 1)) (d2 : decode cL_law (pc + 2) = .ok (.iconst n, 1)) (d3 : decode cL_law (pc + 3) = .ok (.iadd, 1)) (d4 : decode cL_law (pc + 4) = .ok (.iaload, 1)) (hn : Int32.ofInt n = nI z) (hx : x = nI i) (hi : i + z < L) (k : JL Γ sc L Q kc ks (pc + 5) x (aI (sc (i + z)) :: st) σ τ) : JL Γ sc L Q kc ks pc x st σ τ := by
  obtain ⟨p, l, e, s, m, below, meth, c, D, dA, b⟩ := Γ
  intro C H locs ad bd ls hR hT hap h1 h2 hS hL
  refine lv_aload_n C.1 C.2.1 d0 rfl (lv_at hL 0 rfl) ?_
  refine lv_iload_n C.1 C.2.1 d1 rfl (lv_at hL 3 rfl) ?_
  refine lv_iconst C.1 C.2.1 d2 hn ?_
  refine lv_iadd C.1 C.2.1 d3 ?_
  have hlt : i + z < 2 ^ 31 := by have := C.2.2.2.2.2.2.2.2; omega
  rw [hx, nI_add]
  refine va_sld C.1 C.2.1 C.2.2.2.2.2.2.1 C.2.2.2.2.2.2.2.1 (Nat.not_le.mpr C.2.2.2.2.2.2.2.1) hS (vp_in_nI hi (by have := C.2.2.2.2.2.2.2.2; omega)) d4 ?_
  rw [nI_clamp hlt]
  exact k C H locs ad bd ls hR hT hap h1 h2 hS hL
theorem l_i2l {y : Int32} (d : decode cL_law pc = .ok (.i2l, 1)) (k : JL Γ sc L Q kc ks (pc + 1) x (aL y.toInt64 :: st) σ τ) : JL Γ sc L Q kc ks pc x (aI y :: st) σ τ := by
  obtain ⟨p, l, e, s, m, below, meth, c, D, dA, b⟩ := Γ
  intro C H locs ad bd ls hR hT hap h1 h2 hS hL
  exact lv_i2l C.1 C.2.1 d rfl (k C H locs ad bd ls hR hT hap h1 h2 hS hL)
theorem l_land {y z : Int64} (d : decode cL_law pc = .ok (.land, 1)) (k : JL Γ sc L Q kc ks (pc + 1) x (aL (y &&& z) :: st) σ τ) : JL Γ sc L Q kc ks pc x (aL z :: aL y :: st) σ τ := by
  obtain ⟨p, l, e, s, m, below, meth, c, D, dA, b⟩ := Γ
  intro C H locs ad bd ls hR hT hap h1 h2 hS hL
  exact lv_land C.1 C.2.1 d (k C H locs ad bd ls hR hT hap h1 h2 hS hL)
theorem l_lor {y z : Int64} (d : decode cL_law pc = .ok (.lor, 1)) (k : JL Γ sc L Q kc ks (pc + 1) x (aL (y ||| z) :: st) σ τ) : JL Γ sc L Q kc ks pc x (aL z :: aL y :: st) σ τ := by
  obtain ⟨p, l, e, s, m, below, meth, c, D, dA, b⟩ := Γ
  intro C H locs ad bd ls hR hT hap h1 h2 hS hL
  exact lv_lor C.1 C.2.1 d (k C H locs ad bd ls hR hT hap h1 h2 hS hL)
theorem l_lshl {y : Int64} {z : Int32} (d : decode cL_law pc = .ok (.lshl, 1)) (k : JL Γ sc L Q kc ks (pc + 1) x (aL (y <<< (z.toInt64 &&& 63)) :: st) σ τ) : JL Γ sc L Q kc ks pc x (aI z :: aL y :: st) σ τ := by
  obtain ⟨p, l, e, s, m, below, meth, c, D, dA, b⟩ := Γ
  intro C H locs ad bd ls hR hT hap h1 h2 hS hL
  exact lv_lshl C.1 C.2.1 d rfl (k C H locs ad bd ls hR hT hap h1 h2 hS hL)
theorem l_iand {y z : Int32} (d : decode cL_law pc = .ok (.iand, 1)) (k : JL Γ sc L Q kc ks (pc + 1) x (aI (y &&& z) :: st) σ τ) : JL Γ sc L Q kc ks pc x (aI z :: aI y :: st) σ τ := by
  obtain ⟨p, l, e, s, m, below, meth, c, D, dA, b⟩ := Γ
  intro C H locs ad bd ls hR hT hap h1 h2 hS hL
  exact lv_iand C.1 C.2.1 d (k C H locs ad bd ls hR hT hap h1 h2 hS hL)
theorem l_isub {y z : Int32} (d : decode cL_law pc = .ok (.isub, 1)) (k : JL Γ sc L Q kc ks (pc + 1) x (aI (y - z) :: st) σ τ) : JL Γ sc L Q kc ks pc x (aI z :: aI y :: st) σ τ := by
  obtain ⟨p, l, e, s, m, below, meth, c, D, dA, b⟩ := Γ
  intro C H locs ad bd ls hR hT hap h1 h2 hS hL
  exact lv_isub C.1 C.2.1 d (k C H locs ad bd ls hR hT hap h1 h2 hS hL)
theorem l_bipush {n : Int} {v : Int32} (hv : (Int8.ofInt n).toInt32 = v) (d : decode cL_law pc = .ok (.bipush n, 2)) (k : JL Γ sc L Q kc ks (pc + 2) x (aI v :: st) σ τ) : JL Γ sc L Q kc ks pc x (st) σ τ := by
  obtain ⟨p, l, e, s, m, below, meth, c, D, dA, b⟩ := Γ
  intro C H locs ad bd ls hR hT hap h1 h2 hS hL
  exact lv_bipush C.1 C.2.1 d hv (k C H locs ad bd ls hR hT hap h1 h2 hS hL)
theorem l_ldc2 {index : Nat} {v : Int64} (hc : Cond.constantLong RL index v ∈ allW) (d : decode cL_law pc = .ok (.ldc2_w index, 3)) (k : JL Γ sc L Q kc ks (pc + 3) x (aL v :: st) σ τ) : JL Γ sc L Q kc ks pc x (st) σ τ := by
  obtain ⟨p, l, e, s, m, below, meth, c, D, dA, b⟩ := Γ
  intro C H locs ad bd ls hR hT hap h1 h2 hS hL
  exact lv_ldc2 C.1 C.2.1 C.2.2.2.1 (C.2.2.2.2.1 _ hc) d (k C H locs ad bd ls hR hT hap h1 h2 hS hL)
theorem l_callXI {y : MethodName} {cb : ByteArray} {mL n index : Nat} {rt : Option FieldType} {rm : Room} {As : List aV} {Vs Ws : List Value} {f : rS → Option (Int32 × rS)} {r : Int32} {σ' : rS} (hC : ∀ l, Ctr l y cb mL rt rm eI (aR 0 0 :: As) f) (hf : f σ = some (r, σ')) (hw : CaV RL RX10 index y cb mL rt n) (hn : As.length = n) (hA : ∀ ad, As.map (av ad) = Vs) (hals : ∀ σ, als σ As) (hW : ∀ ad, st.map (av ad) = Ws) (h8 : (st.map ac).sum ≤ 8) (hrm : rm.frames + 1 ≤ room_1.frames ∧ 8 + (mL + 11) + rm.locals ≤ room_1.locals) (hcs : kc + rm.cells ≤ 600000 ∧ ks + rm.slots ≤ room_1.slots) (d : decode cL_law pc = .ok (.invokevirtual index, 3)) (kk : JL Γ sc L Q (kc + rm.cells) (ks + rm.slots) (pc + 3) x (aI r :: st) σ' τ) : JL Γ sc L Q kc ks pc x (As.reverse ++ aR 0 0 :: st) σ τ := by
  obtain ⟨p, l, e, s, m, below, meth, c, D, dA, b⟩ := Γ
  intro C H locs ad bd ls hR hT hap h1 h2 hS hL
  have h0 : 0 < gC σ 0 := h1
  have hRw := hR
  have hM := hC l D dA σ ad H.size (r, σ') hf ⟨al_mk h0, hals _⟩
  have hRs : Rh D dA (rg σ ad H.size) σ ad H := rh_to hRw (fun k i hi => Or.inl ⟨k, i, hi, rfl⟩)
  obtain ⟨ws, q, hP, hD, hc, hq⟩ := rh_at hRw h0
  rw [ent_obj (k := 0) rfl] at hq
  obtain ⟨w1, w2, w3, w4, w5, w6, w7, w8, w9⟩ := id hw
  have hrun : va_Run p l e room_1 s m #[Value.ref b] below meth c H locs kc ks rm.cells rm.slots (F0 m pc ls ((As.map (av ad)).reverse ++ .ref (ad 0 0) :: st.map (av ad))) (st.map (av ad)) (jQc D dA eI σ ad H.size (r, σ') ((aR 0 0 :: As).map (av ad)).toArray) (rg σ ad H.size) :=
    va_runV (b := ad 0 0) (As := As.map (av ad)) (nL := 4) (n := n) (C := RX10) (Ts := allW) ⟨C.1, C.2.1, C.2.2.1, C.2.2.2.1, C.2.2.2.2.1⟩ hM (cwV n C.2.2.2.2.1 (caV_good hw) rfl rfl rfl ⟨w6, w7, w8, w9⟩ hrm) ⟨jPc_blind, va_recv (kk_v0 C.2.2.2.2.2.1) hP (ci := 8) rfl hq, fun U hU hW => ⟨rfl, by rw [hU], by rw [hU]; exact hRs, kk_warm hW C.2.2.2.2.2.1⟩⟩ rfl (by rw [List.length_map]; exact hn) hL.1 rfl (lv_room (by rw [ac_sum]; exact h8)) d hcs
  have e1 : (As.reverse ++ aR 0 0 :: st).map (av (cv ad bd b)) = (As.map (av ad)).reverse ++ .ref (ad 0 0) :: st.map (av ad) := by
    rw [List.map_append, List.map_reverse, hA, hA, List.map_cons, hW, hW]
    rfl
  rw [e1]
  refine two_call hR hT hap hrun hS (fun H1 locs1 ad1 hR1 hT1 hap1 hE1 hS1 => ?_)
  have key := kk C H1 locs1 ad1 bd ls hR1 hT1 hap1 (hE1 0 0 h1).1 h2 hS1 (by rw [(hE1 0 0 h1).2]; exact hL)
  have e2 : ∀ ad', ((eI r).map (av ad')).toList ++ st.map (av ad) = (aI r :: st).map (av (cv ad1 bd b)) := fun ad' => by
    rw [List.map_cons, hW, hW]
    rfl
  show W p l e room_1 s m #[Value.ref b] below meth c H1 locs1 (kc + rm.cells) (ks + rm.slots) Q (F0 m (pc + 3) ls (((eI r).map (av ad1)).toList ++ st.map (av ad)))
  rw [e2]
  exact key
theorem l_callXL {y : MethodName} {cb : ByteArray} {mL n index : Nat} {rt : Option FieldType} {rm : Room} {As : List aV} {Vs Ws : List Value} {f : rS → Option (Int64 × rS)} {r : Int64} {σ' : rS} (hC : ∀ l, Ctr l y cb mL rt rm eL (aR 0 0 :: As) f) (hf : f σ = some (r, σ')) (hw : CaV RL RX10 index y cb mL rt n) (hn : As.length = n) (hA : ∀ ad, As.map (av ad) = Vs) (hals : ∀ σ, als σ As) (hW : ∀ ad, st.map (av ad) = Ws) (h8 : (st.map ac).sum ≤ 8) (hrm : rm.frames + 1 ≤ room_1.frames ∧ 8 + (mL + 11) + rm.locals ≤ room_1.locals) (hcs : kc + rm.cells ≤ 600000 ∧ ks + rm.slots ≤ room_1.slots) (d : decode cL_law pc = .ok (.invokevirtual index, 3)) (kk : JL Γ sc L Q (kc + rm.cells) (ks + rm.slots) (pc + 3) x (aL r :: st) σ' τ) : JL Γ sc L Q kc ks pc x (As.reverse ++ aR 0 0 :: st) σ τ := by
  obtain ⟨p, l, e, s, m, below, meth, c, D, dA, b⟩ := Γ
  intro C H locs ad bd ls hR hT hap h1 h2 hS hL
  have h0 : 0 < gC σ 0 := h1
  have hRw := hR
  have hM := hC l D dA σ ad H.size (r, σ') hf ⟨al_mk h0, hals _⟩
  have hRs : Rh D dA (rg σ ad H.size) σ ad H := rh_to hRw (fun k i hi => Or.inl ⟨k, i, hi, rfl⟩)
  obtain ⟨ws, q, hP, hD, hc, hq⟩ := rh_at hRw h0
  rw [ent_obj (k := 0) rfl] at hq
  obtain ⟨w1, w2, w3, w4, w5, w6, w7, w8, w9⟩ := id hw
  have hrun : va_Run p l e room_1 s m #[Value.ref b] below meth c H locs kc ks rm.cells rm.slots (F0 m pc ls ((As.map (av ad)).reverse ++ .ref (ad 0 0) :: st.map (av ad))) (st.map (av ad)) (jQc D dA eL σ ad H.size (r, σ') ((aR 0 0 :: As).map (av ad)).toArray) (rg σ ad H.size) :=
    va_runV (b := ad 0 0) (As := As.map (av ad)) (nL := 4) (n := n) (C := RX10) (Ts := allW) ⟨C.1, C.2.1, C.2.2.1, C.2.2.2.1, C.2.2.2.2.1⟩ hM (cwV n C.2.2.2.2.1 (caV_good hw) rfl rfl rfl ⟨w6, w7, w8, w9⟩ hrm) ⟨jPc_blind, va_recv (kk_v0 C.2.2.2.2.2.1) hP (ci := 8) rfl hq, fun U hU hW => ⟨rfl, by rw [hU], by rw [hU]; exact hRs, kk_warm hW C.2.2.2.2.2.1⟩⟩ rfl (by rw [List.length_map]; exact hn) hL.1 rfl (lv_room (by rw [ac_sum]; exact h8)) d hcs
  have e1 : (As.reverse ++ aR 0 0 :: st).map (av (cv ad bd b)) = (As.map (av ad)).reverse ++ .ref (ad 0 0) :: st.map (av ad) := by
    rw [List.map_append, List.map_reverse, hA, hA, List.map_cons, hW, hW]
    rfl
  rw [e1]
  refine two_call hR hT hap hrun hS (fun H1 locs1 ad1 hR1 hT1 hap1 hE1 hS1 => ?_)
  have key := kk C H1 locs1 ad1 bd ls hR1 hT1 hap1 (hE1 0 0 h1).1 h2 hS1 (by rw [(hE1 0 0 h1).2]; exact hL)
  have e2 : ∀ ad', ((eL r).map (av ad')).toList ++ st.map (av ad) = (aL r :: st).map (av (cv ad1 bd b)) := fun ad' => by
    rw [List.map_cons, hW, hW]
    rfl
  show W p l e room_1 s m #[Value.ref b] below meth c H1 locs1 (kc + rm.cells) (ks + rm.slots) Q (F0 m (pc + 3) ls (((eL r).map (av ad1)).toList ++ st.map (av ad)))
  rw [e2]
  exact key
theorem l_callMI {y : MethodName} {cb : ByteArray} {mL n index : Nat} {rt : Option FieldType} {rm : Room} {As : List aV} {Vs Ws : List Value} {f : rS → Option (Int32 × rS)} {r : Int32} {τ' : rS} (hC : ∀ l, Ctr l y cb mL rt rm eI (aR 29 0 :: As) f) (hf : f τ = some (r, τ')) (hw : CaV RL RX11 index y cb mL rt n) (hn : As.length = n) (hA : ∀ ad, As.map (av ad) = Vs) (hals : ∀ σ, als σ As) (hW : ∀ ad, st.map (av ad) = Ws) (h8 : (st.map ac).sum ≤ 8) (hrm : rm.frames + 1 ≤ room_1.frames ∧ 8 + (mL + 11) + rm.locals ≤ room_1.locals) (hcs : kc + rm.cells ≤ 600000 ∧ ks + rm.slots ≤ room_1.slots) (d : decode cL_law pc = .ok (.invokevirtual index, 3)) (kk : JL Γ sc L Q (kc + rm.cells) (ks + rm.slots) (pc + 3) x (aI r :: st) σ τ') : JL Γ sc L Q kc ks pc x (As.reverse ++ aR 29 0 :: st) σ τ := by
  obtain ⟨p, l, e, s, m, below, meth, c, D, dA, b⟩ := Γ
  intro C H locs ad bd ls hR hT hap h1 h2 hS hL
  have h0 : 0 < gC τ 29 := h2
  have hRw := hT
  have hM := hC l D dA τ bd H.size (r, τ') hf ⟨al_mk h0, hals _⟩
  have hRs : Rh D dA (rg τ bd H.size) τ bd H := rh_to hRw (fun k i hi => Or.inl ⟨k, i, hi, rfl⟩)
  obtain ⟨ws, q, hP, hD, hc, hq⟩ := rh_at hRw h0
  rw [ent_obj (k := 29) rfl] at hq
  obtain ⟨w1, w2, w3, w4, w5, w6, w7, w8, w9⟩ := id hw
  have hrun : va_Run p l e room_1 s m #[Value.ref b] below meth c H locs kc ks rm.cells rm.slots (F0 m pc ls ((As.map (av bd)).reverse ++ .ref (bd 29 0) :: st.map (av bd))) (st.map (av bd)) (jQc D dA eI τ bd H.size (r, τ') ((aR 29 0 :: As).map (av bd)).toArray) (rg τ bd H.size) :=
    va_runV (b := bd 29 0) (As := As.map (av bd)) (nL := 4) (n := n) (C := RX11) (Ts := allW) ⟨C.1, C.2.1, C.2.2.1, C.2.2.2.1, C.2.2.2.2.1⟩ hM (cwV n C.2.2.2.2.1 (caV_good hw) rfl rfl rfl ⟨w6, w7, w8, w9⟩ hrm) ⟨jPc_blind, va_recv (kk_v0 C.2.2.2.2.2.1) hP (ci := 9) rfl hq, fun U hU hW => ⟨rfl, by rw [hU], by rw [hU]; exact hRs, kk_warm hW C.2.2.2.2.2.1⟩⟩ rfl (by rw [List.length_map]; exact hn) hL.1 rfl (lv_room (by rw [ac_sum]; exact h8)) d hcs
  have e1 : (As.reverse ++ aR 29 0 :: st).map (av (cv ad bd b)) = (As.map (av bd)).reverse ++ .ref (bd 29 0) :: st.map (av bd) := by
    rw [List.map_append, List.map_reverse, hA, hA, List.map_cons, hW, hW]
    rfl
  rw [e1]
  refine two_call hT hR (fun k i k' i' hi hi' he => hap k' i' k i hi' hi he.symm) hrun hS (fun H1 locs1 ad1 hR1 hT1 hap1 hE1 hS1 => ?_)
  have key := kk C H1 locs1 ad ad1 ls hT1 hR1 (fun k i k' i' hi hi' he => hap1 k' i' k i hi' hi he.symm) h1 (hE1 29 0 h2).1 hS1 (by rw [(hE1 29 0 h2).2]; exact hL)
  have e2 : ∀ ad', ((eI r).map (av ad')).toList ++ st.map (av bd) = (aI r :: st).map (av (cv ad ad1 b)) := fun ad' => by
    rw [List.map_cons, hW, hW]
    rfl
  show W p l e room_1 s m #[Value.ref b] below meth c H1 locs1 (kc + rm.cells) (ks + rm.slots) Q (F0 m (pc + 3) ls (((eI r).map (av ad1)).toList ++ st.map (av bd)))
  rw [e2]
  exact key
theorem l_callML {y : MethodName} {cb : ByteArray} {mL n index : Nat} {rt : Option FieldType} {rm : Room} {As : List aV} {Vs Ws : List Value} {f : rS → Option (Int64 × rS)} {r : Int64} {τ' : rS} (hC : ∀ l, Ctr l y cb mL rt rm eL (aR 29 0 :: As) f) (hf : f τ = some (r, τ')) (hw : CaV RL RX11 index y cb mL rt n) (hn : As.length = n) (hA : ∀ ad, As.map (av ad) = Vs) (hals : ∀ σ, als σ As) (hW : ∀ ad, st.map (av ad) = Ws) (h8 : (st.map ac).sum ≤ 8) (hrm : rm.frames + 1 ≤ room_1.frames ∧ 8 + (mL + 11) + rm.locals ≤ room_1.locals) (hcs : kc + rm.cells ≤ 600000 ∧ ks + rm.slots ≤ room_1.slots) (d : decode cL_law pc = .ok (.invokevirtual index, 3)) (kk : JL Γ sc L Q (kc + rm.cells) (ks + rm.slots) (pc + 3) x (aL r :: st) σ τ') : JL Γ sc L Q kc ks pc x (As.reverse ++ aR 29 0 :: st) σ τ := by
  obtain ⟨p, l, e, s, m, below, meth, c, D, dA, b⟩ := Γ
  intro C H locs ad bd ls hR hT hap h1 h2 hS hL
  have h0 : 0 < gC τ 29 := h2
  have hRw := hT
  have hM := hC l D dA τ bd H.size (r, τ') hf ⟨al_mk h0, hals _⟩
  have hRs : Rh D dA (rg τ bd H.size) τ bd H := rh_to hRw (fun k i hi => Or.inl ⟨k, i, hi, rfl⟩)
  obtain ⟨ws, q, hP, hD, hc, hq⟩ := rh_at hRw h0
  rw [ent_obj (k := 29) rfl] at hq
  obtain ⟨w1, w2, w3, w4, w5, w6, w7, w8, w9⟩ := id hw
  have hrun : va_Run p l e room_1 s m #[Value.ref b] below meth c H locs kc ks rm.cells rm.slots (F0 m pc ls ((As.map (av bd)).reverse ++ .ref (bd 29 0) :: st.map (av bd))) (st.map (av bd)) (jQc D dA eL τ bd H.size (r, τ') ((aR 29 0 :: As).map (av bd)).toArray) (rg τ bd H.size) :=
    va_runV (b := bd 29 0) (As := As.map (av bd)) (nL := 4) (n := n) (C := RX11) (Ts := allW) ⟨C.1, C.2.1, C.2.2.1, C.2.2.2.1, C.2.2.2.2.1⟩ hM (cwV n C.2.2.2.2.1 (caV_good hw) rfl rfl rfl ⟨w6, w7, w8, w9⟩ hrm) ⟨jPc_blind, va_recv (kk_v0 C.2.2.2.2.2.1) hP (ci := 9) rfl hq, fun U hU hW => ⟨rfl, by rw [hU], by rw [hU]; exact hRs, kk_warm hW C.2.2.2.2.2.1⟩⟩ rfl (by rw [List.length_map]; exact hn) hL.1 rfl (lv_room (by rw [ac_sum]; exact h8)) d hcs
  have e1 : (As.reverse ++ aR 29 0 :: st).map (av (cv ad bd b)) = (As.map (av bd)).reverse ++ .ref (bd 29 0) :: st.map (av bd) := by
    rw [List.map_append, List.map_reverse, hA, hA, List.map_cons, hW, hW]
    rfl
  rw [e1]
  refine two_call hT hR (fun k i k' i' hi hi' he => hap k' i' k i hi' hi he.symm) hrun hS (fun H1 locs1 ad1 hR1 hT1 hap1 hE1 hS1 => ?_)
  have key := kk C H1 locs1 ad ad1 ls hT1 hR1 (fun k i k' i' hi hi' he => hap1 k' i' k i hi' hi he.symm) h1 (hE1 29 0 h2).1 hS1 (by rw [(hE1 29 0 h2).2]; exact hL)
  have e2 : ∀ ad', ((eL r).map (av ad')).toList ++ st.map (av bd) = (aL r :: st).map (av (cv ad ad1 b)) := fun ad' => by
    rw [List.map_cons, hW, hW]
    rfl
  show W p l e room_1 s m #[Value.ref b] below meth c H1 locs1 (kc + rm.cells) (ks + rm.slots) Q (F0 m (pc + 3) ls (((eL r).map (av ad1)).toList ++ st.map (av bd)))
  rw [e2]
  exact key
theorem l_wide {kc2 ks2 : Nat} (h1 : kc ≤ kc2) (h2 : ks ≤ ks2) (k : JL Γ sc L Q kc2 ks2 pc x st σ τ) : JL Γ sc L Q kc ks pc x st σ τ := by
  obtain ⟨p, l, e, s, m, below, meth, c, D, dA, b⟩ := Γ
  intro C H locs ad bd ls hR hT hap g1 g2 hS hL
  exact W.widen h1 h2 (k C H locs ad bd ls hR hT hap g1 g2 hS hL)
theorem l_cmpeq {y z : Int32} {off : Int} {tgt : Nat} (d : decode cL_law pc = .ok (.if_icmp .eq off, 3)) (ht : (pc : Int) + off = (tgt : Int)) (h : y = z) (k : JL Γ sc L Q kc ks tgt x st σ τ) : JL Γ sc L Q kc ks pc x (aI z :: aI y :: st) σ τ := by
  obtain ⟨p, l, e, s, m, below, meth, c, D, dA, b⟩ := Γ
  intro C H locs ad bd ls hR hT hap h1 h2 hS hL
  exact lv_icmp_eq C.1 C.2.1 d ht (fun _ => k C H locs ad bd ls hR hT hap h1 h2 hS hL) (fun q => absurd h q)
theorem l_lcmpeq {y z : Int64} {off : Int} {tgt : Nat} (d : decode cL_law pc = .ok (.lcmp, 1)) (d2 : decode cL_law (pc + 1) = .ok (.ifCond .eq off, 3)) (ht : ((pc + 1 : Nat) : Int) + off = (tgt : Int)) (h : y = z) (k : JL Γ sc L Q kc ks tgt x st σ τ) : JL Γ sc L Q kc ks pc x (aL z :: aL y :: st) σ τ := by
  obtain ⟨p, l, e, s, m, below, meth, c, D, dA, b⟩ := Γ
  intro C H locs ad bd ls hR hT hap h1 h2 hS hL
  exact W.lcmp C.1 C.2.1 d (lv_if_eq C.1 C.2.1 d2 ht (fun _ => k C H locs ad bd ls hR hT hap h1 h2 hS hL) (fun q => absurd ((lg_cmp_eq y z).mpr h) q))
/-- behind a call: the next one -/
theorem l_next {i : Nat} (d : decode cL_law 1516 = .ok (.iinc 3 6, 3)) (d2 : decode cL_law 1519 = .ok (.goto (-1501), 3)) (hx : x = nI i) (k : JL Γ sc L Q kc ks 18 (nI (i + 6)) [] σ τ) : JL Γ sc L Q kc ks 1516 x [] σ τ := by
  obtain ⟨p, l, e, s, m, below, meth, c, D, dA, b⟩ := Γ
  intro C H locs ad bd ls hR hT hap h1 h2 hS hL
  refine lv_iinc (v := nI (i + 6)) (lv' := [(3, .int (nI (i + 6))), (0, .ref b), (1, .ref (ad 0 0)), (2, .ref (bd 29 0))]) C.1 C.2.1 d hL (k := 3) rfl (by rw [hx, show Int32.ofInt 6 = nI 6 by decide, nI_add]) (by decide) rfl (fun ls2 hL2 => ?_)
  refine lv_goto (tgt := 18) C.1 C.2.1 d2 (by decide) ?_
  exact k C H locs ad bd ls2 hR hT hap h1 h2 hS (lv_sub hL2 [1, 2, 3, 0] rfl)
end JLS
