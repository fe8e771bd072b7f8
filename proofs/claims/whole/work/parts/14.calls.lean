section JE
variable {Γ : jX} {R : Room} {cc : ByteArray} {own : String} {nL : Nat} {ret : Option FieldType} {kc ks : Nat} {pc : Nat} {lv lv' : List (Nat × aV)} {st : List aV} {σ : rS}
theorem j_ireturn {x : Int32} {tg : Int32 × rS} (hr : ret = some .int) (h1 : kc ≤ R.cells) (h2 : ks ≤ R.slots) (d : decode cc pc = .ok (.ireturn, 1)) : J Γ R eI cc own nL ret tg kc ks pc lv [aI x] σ (some (x, σ)) := by
  obtain ⟨p, l, e, s, m, args, below, meth, c, D, dA, σ0, ad0⟩ := Γ
  intro C hres H locs ad ls hR hE hS hst hlv hL
  cases hres
  refine W.widen h1 h2 ?_
  exact W.iret (v := x) C.1 C.2.1 (C.2.2.2.2.2.2.2.trans hr) (fun t ht hW => ⟨⟨ad, rfl, by rw [ht]; exact hR, hE, fun v hv => by cases hv; exact trivial⟩, hS.F ht⟩) hS.2.2 d (hlocks := C.2.2.2.2.2.2.1)
theorem j_zret1 {tg : Bool × rS} (hr : ret = some .boolean) (h1 : kc ≤ R.cells) (h2 : ks ≤ R.slots) (d : decode cc pc = .ok (.ireturn, 1)) : J Γ R eZ cc own nL ret tg kc ks pc lv [aI 1] σ (some (true, σ)) := by
  obtain ⟨p, l, e, s, m, args, below, meth, c, D, dA, σ0, ad0⟩ := Γ
  intro C hres H locs ad ls hR hE hS hst hlv hL
  cases hres
  refine W.widen h1 h2 ?_
  exact W.zret (v := 1) (ty := .boolean) C.1 C.2.1 (C.2.2.2.2.2.2.2.trans hr) rfl (fun t ht hW => ⟨⟨ad, rfl, by rw [ht]; exact hR, hE, fun v hv => by cases hv; exact trivial⟩, hS.F ht⟩) hS.2.2 d (hlocks := C.2.2.2.2.2.2.1)
theorem j_zret0 {tg : Bool × rS} (hr : ret = some .boolean) (h1 : kc ≤ R.cells) (h2 : ks ≤ R.slots) (d : decode cc pc = .ok (.ireturn, 1)) : J Γ R eZ cc own nL ret tg kc ks pc lv [aI 0] σ (some (false, σ)) := by
  obtain ⟨p, l, e, s, m, args, below, meth, c, D, dA, σ0, ad0⟩ := Γ
  intro C hres H locs ad ls hR hE hS hst hlv hL
  cases hres
  refine W.widen h1 h2 ?_
  exact W.zret (v := 0) (ty := .boolean) C.1 C.2.1 (C.2.2.2.2.2.2.2.trans hr) rfl (fun t ht hW => ⟨⟨ad, rfl, by rw [ht]; exact hR, hE, fun v hv => by cases hv; exact trivial⟩, hS.F ht⟩) hS.2.2 d (hlocks := C.2.2.2.2.2.2.1)
theorem j_zretB {b : Bool} {tg : Bool × rS} (hr : ret = some .boolean) (h1 : kc ≤ R.cells) (h2 : ks ≤ R.slots) (d : decode cc pc = .ok (.ireturn, 1)) : J Γ R eZ cc own nL ret tg kc ks pc lv [aI (bi b)] σ (some (b, σ)) := by
  obtain ⟨p, l, e, s, m, args, below, meth, c, D, dA, σ0, ad0⟩ := Γ
  intro C hres H locs ad ls hR hE hS hst hlv hL
  cases hres
  refine W.widen h1 h2 ?_
  exact W.zret (v := bi b) (ty := .boolean) C.1 C.2.1 (C.2.2.2.2.2.2.2.trans hr) (by cases b <;> rfl) (fun t ht hW => ⟨⟨ad, rfl, by rw [ht]; exact hR, hE, fun v hv => by cases hv; exact trivial⟩, hS.F ht⟩) hS.2.2 d (hlocks := C.2.2.2.2.2.2.1)
theorem j_lreturn {x : Int64} {tg : Int64 × rS} (hr : ret = some .long) (h1 : kc ≤ R.cells) (h2 : ks ≤ R.slots) (d : decode cc pc = .ok (.lreturn, 1)) : J Γ R eL cc own nL ret tg kc ks pc lv [aL x] σ (some (x, σ)) := by
  obtain ⟨p, l, e, s, m, args, below, meth, c, D, dA, σ0, ad0⟩ := Γ
  intro C hres H locs ad ls hR hE hS hst hlv hL
  cases hres
  refine W.widen h1 h2 ?_
  exact W.lret (v := x) C.1 C.2.1 (C.2.2.2.2.2.2.2.trans hr) (fun t ht hW => ⟨⟨ad, rfl, by rw [ht]; exact hR, hE, fun v hv => by cases hv; exact trivial⟩, hS.F ht⟩) hS.2.2 d (hlocks := C.2.2.2.2.2.2.1)
theorem j_dreturn {x : UInt64} {tg : UInt64 × rS} (hr : ret = some .double) (h1 : kc ≤ R.cells) (h2 : ks ≤ R.slots) (d : decode cc pc = .ok (.dreturn, 1)) : J Γ R eD cc own nL ret tg kc ks pc lv [aD x] σ (some (x, σ)) := by
  obtain ⟨p, l, e, s, m, args, below, meth, c, D, dA, σ0, ad0⟩ := Γ
  intro C hres H locs ad ls hR hE hS hst hlv hL
  cases hres
  refine W.widen h1 h2 ?_
  exact W.dret (v := x) C.1 C.2.1 (C.2.2.2.2.2.2.2.trans hr) (fun t ht hW => ⟨⟨ad, rfl, by rw [ht]; exact hR, hE, fun v hv => by cases hv; exact trivial⟩, hS.F ht⟩) hS.2.2 d (hlocks := C.2.2.2.2.2.2.1)
theorem j_return {tg : Unit × rS} (hr : ret = none) (h1 : kc ≤ R.cells) (h2 : ks ≤ R.slots) (d : decode cc pc = .ok (.return_, 1)) : J Γ R eV cc own nL ret tg kc ks pc lv [] σ (some ((), σ)) := by
  obtain ⟨p, l, e, s, m, args, below, meth, c, D, dA, σ0, ad0⟩ := Γ
  intro C hres H locs ad ls hR hE hS hst hlv hL
  cases hres
  refine W.widen h1 h2 ?_
  exact W.vret C.1 C.2.1 (C.2.2.2.2.2.2.2.trans hr) (fun t ht hW => ⟨⟨ad, rfl, by rw [ht]; exact hR, hE, fun v hv => by cases hv⟩, hS.F ht⟩) hS.2.2 d (hlocks := C.2.2.2.2.2.2.1)
theorem j_areturn {t : Nat} {x : Option Nat} {ob : String} {tg : Option Nat × rS} (hr : ret = some (.object ob)) (h1 : kc ≤ R.cells) (h2 : ks ≤ R.slots) (d : decode cc pc = .ok (.areturn, 1)) : J Γ R (eR t) cc own nL ret tg kc ks pc lv [aO t x] σ (some (x, σ)) := by
  obtain ⟨p, l, e, s, m, args, below, meth, c, D, dA, σ0, ad0⟩ := Γ
  intro C hres H locs ad ls hR hE hS hst hlv hL
  cases hres
  refine W.widen h1 h2 ?_
  exact W.aret (v := va_rf (x.map (ad t))) C.1 C.2.1 (C.2.2.2.2.2.2.2.trans hr) (Or.inl ⟨ob, rfl⟩) (by cases x with | none => exact Or.inl rfl | some j => exact Or.inr ⟨_, rfl⟩) (fun t ht hW => ⟨⟨ad, rfl, by rw [ht]; exact hR, hE, fun v hv => by cases hv; exact hst.1⟩, hS.F ht⟩) hS.2.2 d (hlocks := C.2.2.2.2.2.2.1)
end JE
/-- the words of a call: instance, static, a nest mate's static -/
def CaV (own C : String) (index : Nat) (y : MethodName) (cb : ByteArray) (mL : Nat) (rt : Option FieldType) (n : Nat) : Prop := Cond.methodLink own index y ∈ allW ∧ Cond.instanceMethod y ∈ allW ∧ Cond.selects C y y ∈ allW ∧ Cond.initialized C ∈ allW ∧ Cond.code y cb mL rt ∈ allW ∧ y.cls = C ∧ y.cls ≠ "java/lang/invoke/MethodHandle" ∧ y.cls ≠ "java/lang/invoke/VarHandle" ∧ (parseMethodDescriptor y.desc).map (fun d => d.parameters.length) = some n
def CaS (own : String) (index : Nat) (y : MethodName) (cb : ByteArray) (mL : Nat) (rt : Option FieldType) (n : Nat) : Prop := Cond.methodLink own index y ∈ allW ∧ Cond.static y ∈ allW ∧ Cond.initialized y.cls ∈ allW ∧ Cond.code y cb mL rt ∈ allW ∧ y.cls ≠ "java/lang/invoke/MethodHandle" ∧ y.cls ≠ "java/lang/invoke/VarHandle" ∧ (parseMethodDescriptor y.desc).map (fun d => d.parameters.length) = some n
theorem goodIn_all {ws : List Cond} (h : ∀ w ∈ ws, w ∈ allW) : GoodIn allW ws := fun w hw => ⟨h w hw, allW_good (h w hw)⟩
theorem caV_good {own C : String} {index mL n : Nat} {y : MethodName} {cb : ByteArray} {rt : Option FieldType} (h : CaV own C index y cb mL rt n) : GoodIn allW (wsV own index C y (Cond.code y cb mL rt :: allW)) := by
  obtain ⟨h1, h2, h3, h4, h5, -⟩ := h
  refine goodIn_all (fun w hw => ?_)
  rcases List.mem_append.mp hw with q | q
  · simp only [List.mem_cons, List.not_mem_nil, or_false] at q
    rcases q with rfl | rfl | rfl | rfl <;> assumption
  · rcases List.mem_cons.mp q with rfl | q
    · exact h5
    · exact q
theorem caS_good {own : String} {index mL n : Nat} {y : MethodName} {cb : ByteArray} {rt : Option FieldType} (h : CaS own index y cb mL rt n) : GoodIn allW (va_wsS own index y (Cond.code y cb mL rt :: allW)) := by
  obtain ⟨h1, h2, h3, h4, -⟩ := h
  refine goodIn_all (fun w hw => ?_)
  rcases List.mem_append.mp hw with q | q
  · simp only [List.mem_cons, List.not_mem_nil, or_false] at q
    rcases q with rfl | rfl | rfl <;> assumption
  · rcases List.mem_cons.mp q with rfl | q
    · exact h4
    · exact q
/-- the start of a contract doesn't look at the frames -/
theorem jPc_blind {D : va_G} {dA : Nat → ClassId} {σ : rS} {ad : Nat → Nat → Nat} {sz : Nat} {avs : List aV} : FrameBlind (jPc D dA σ ad sz avs) := by
  intro a U g mk q
  obtain ⟨q0, q1, q2, q3⟩ := q
  exact ⟨q0, q1, q2, kk_same rfl q3⟩
theorem rg_sub {σ0 σ : rS} {ad0 ad : Nat → Nat → Nat} {D : va_G} {dA : Nat → ClassId} {sz : Nat} {H0 H : Heap} {locs : List Loc} (hsz : H0.size = sz) (hR : Rh D dA (rg σ0 ad0 sz) σ ad H) (hS : va_S (rg σ0 ad0 sz) H0 H locs) : ∀ q, rg σ ad H.size q → rg σ0 ad0 sz q := by
  intro q h
  rcases h with ⟨k, i, hi, rfl⟩ | h
  · exact hR.2.2.1 k i hi
  · exact Or.inr (by have := hS.1; omega)
theorem rh_to {D : va_G} {dA : Nat → ClassId} {A B : Nat → Prop} {σ : rS} {ad : Nat → Nat → Nat} {H : Heap} (h : Rh D dA A σ ad H) (hw : ∀ k i, i < gC σ k → B (ad k i)) : Rh D dA B σ ad H := ⟨h.1, h.2.1, hw, h.2.2.2⟩
theorem als_app {σ : rS} : ∀ {a b : List aV}, als σ (a ++ b) ↔ als σ a ∧ als σ b
  | [], b => ⟨fun h => ⟨trivial, h⟩, fun h => h.2⟩
  | v :: r, b => ⟨fun h => ⟨⟨h.1, (als_app.mp h.2).1⟩, (als_app.mp h.2).2⟩, fun h => ⟨h.1.1, als_app.mpr ⟨h.1.2, h.2⟩⟩⟩
theorem als_rev {σ : rS} : ∀ {a : List aV}, als σ a.reverse → als σ a
  | [], _ => trivial
  | v :: r, h => by
    rw [List.reverse_cons] at h
    exact ⟨(als_app.mp h).2.1, als_rev (als_app.mp h).1⟩
theorem ac_sum (ad : Nat → Nat → Nat) (st : List aV) : ((st.map (av ad)).map fun v => v.category).sum = (st.map ac).sum := by
  rw [List.map_map]
  congr 1
  apply List.map_congr_left
  intro v _
  exact av_ac ad v
section JK
variable {ρ α : Type} {Γ : jX} {R : Room} {er : ρ → Option aV} {cc : ByteArray} {own : String} {nL : Nat} {ret : Option FieldType} {tg : ρ × rS} {kc ks : Nat} {pc : Nat} {lv lv' : List (Nat × aV)} {st : List aV} {σ : rS} {res : Option (ρ × rS)}
variable {y : MethodName} {cb : ByteArray} {mL n index : Nat} {rt : Option FieldType} {rm : Room} {ea : α → Option aV} {As : List aV} {f : rS → Option (α × rS)} {F : α → rS → Option (ρ × rS)} {stk : List aV}
theorem rh_call {p : Program} {l : Launch} {e : Env} {s : State} {m : MethodId} {args : Array Value} {below : List Frame} {meth : Method} {c : Code} {H H0 : Heap} {locs : List Loc} {cells slots mc ms sz : Nat} {Q : State → Prop} {ls : Array Slot} {rest st0 : List Value} {a : Array Value} {A0 : Nat → Prop} {D : va_G} {dA : Nat → ClassId} {ad : Nat → Nat → Nat} {tg' : α × rS} (hr : va_Run p l e R s m args below meth c H locs cells slots mc ms (F0 m pc ls st0) rest (jQc D dA ea σ ad sz tg' a) (rg σ ad sz)) (hS : va_S A0 H0 H locs) (hA : ∀ q, rg σ ad sz q → A0 q)
    (kk : ∀ (H1 : Heap) (locs1 : List Loc) (ad' : Nat → Nat → Nat), Rh D dA (rg σ ad sz) tg'.2 ad' H1 → Ex σ ad tg'.2 ad' → (∀ v, ea tg'.1 = some v → al tg'.2 v) → va_S A0 H0 H1 locs1 → W p l e R s m args below meth c H1 locs1 (cells + mc) (slots + ms) Q (F0 m (pc + 3) ls (((ea tg'.1).map (av ad')).toList ++ rest))) : W p l e R s m args below meth c H locs cells slots Q (F0 m pc ls st0) := by
  intro T hT X
  obtain ⟨v, st₀, t, T', L, h0, X', hL, e1, e2, ⟨⟨ad', hv, hR1, hE1, hal⟩, hz, hk⟩, stp⟩ := hr T hT X
  cases hv
  rw [h0] at hz hk
  obtain ⟨t2, a1, b1⟩ := kk T'.heap (locs ++ L) ad' (by rw [e1]; exact hR1) hE1 hal
    ⟨Nat.le_trans hS.1 (by rw [e1]; exact hz), fun q h1 h2 => by rw [e1, hk q (Nat.lt_of_lt_of_le h1 hS.1) (fun z => h2 (hA q z))]; exact hS.2.1 q h1 h2, fun q hq => by
      rcases List.mem_append.mp hq with h | h
      · exact hS.2.2 q h
      · exact hA _ (hL q h)⟩ T' rfl X'
  exact ⟨t2, stp t2 a1, b1⟩
theorem j_callG {hx : Prop} (hC : ∀ l, Ctr l y cb mL rt rm ea As f) (hal : als σ stk → als σ As ∧ als σ st)
    (hrun : ∀ {p : Program} {l : Launch} {e : Env} {s : State} {m : MethodId} {args : Array Value} {below : List Frame} {meth : Method} {c : Code} {H : Heap} {locs : List Loc} {ls : Array Slot} (D : va_G) (dA : Nat → ClassId) (ad : Nat → Nat → Nat) (tg' : α × rS) (A : Nat → Prop), p.tables.exec = Jvm.exec → c.code = cc → c.maxLocals = nL → s.vm.findClass own = some m.cls → (∀ w ∈ allW, w.before args s = true) → KK D dA s → ls.size = nL → Rh D dA A σ ad H → als σ stk → Met l y (Cond.code y cb mL rt :: allW) rm (jPc D dA σ ad H.size As) (jQc D dA ea σ ad H.size tg') rm.cells rm.slots (rg σ ad H.size) → (∀ U : State, U.heap = H → s.WarmedH U.vm → jPc D dA σ ad H.size As (As.map (av ad)).toArray U) →
      va_Run p l e R s m args below meth c H locs kc ks rm.cells rm.slots (F0 m pc ls (stk.map (av ad))) (st.map (av ad)) (jQc D dA ea σ ad H.size tg' (As.map (av ad)).toArray) (rg σ ad H.size))
    (kk : ∀ r σ', J Γ R er cc own nL ret tg (kc + rm.cells) (ks + rm.slots) (pc + 3) lv ((ea r).toList ++ st) σ' (F r σ')) : J Γ R er cc own nL ret tg kc ks pc lv stk σ (obind (f σ) F) := by
  obtain ⟨p, l, e, s, m, args, below, meth, c, D, dA, σ0, ad0⟩ := Γ
  intro C hres H locs ad ls hR hE hS hst hlv hL
  cases hf : f σ with
  | none => rw [hf] at hres; cases hres
  | some q =>
    rw [hf] at hres
    have hres : F q.1 q.2 = some tg := hres
    obtain ⟨ha1, ha2⟩ := hal hst
    have hM := hC l D dA σ ad H.size q hf ha1
    have hRs : Rh D dA (rg σ ad H.size) σ ad H := rh_to hR (fun k i hi => Or.inl ⟨k, i, hi, rfl⟩)
    refine rh_call (hrun D dA ad q _ C.1 C.2.1 C.2.2.1 C.2.2.2.1 C.2.2.2.2.1 C.2.2.2.2.2.1 hL.1 hR hst hM (fun U hU hW => ⟨rfl, by rw [hU], by rw [hU]; exact hRs, kk_warm hW C.2.2.2.2.2.1⟩)) hS (rg_sub rfl hR hS) (fun H1 locs1 ad' hR1 hE1 hal1 hS1 => ?_)
    obtain ⟨e1, e2⟩ := ex_als hE1 ha2
    obtain ⟨e3, e4⟩ := ex_lv hE1 hlv
    have hst2 : als q.2 ((ea q.1).toList ++ st) := als_app.mpr ⟨by
      cases hv : ea q.1 with
      | none => trivial
      | some v => exact ⟨hal1 v hv, trivial⟩, e1⟩
    have key := kk q.1 q.2 C hres H1 locs1 ad' ls (rh_to hR1 (fun k i hi => rg_sub rfl hR hS _ (hR1.2.2.1 k i hi))) (ex_tr hE hE1) hS1 hst2 e3 (by rw [e4]; exact hL)
    rw [List.map_append, e2] at key
    have e5 : ((ea q.1).toList.map (av ad')) = ((ea q.1).map (av ad')).toList := by cases ea q.1 <;> rfl
    rw [e5] at key
    exact key
theorem j_callV0 {k b ci N : Nat} {fs : List (Nat × Nat)} {T : u_T} {X : String} (hC : ∀ l, Ctr l y cb mL rt rm ea (aR k b :: As) f) (hw : CaV own X index y cb mL rt n) (hk : lyO k = some (ci, fs)) (hcl : vwCl[ci]? = some (X, T, N)) (hn : As.length = n) (hs : stk = As.reverse ++ aR k b :: st) (h8 : (st.map ac).sum ≤ 8) (hrm : rm.frames + 1 ≤ R.frames ∧ 8 + (mL + 11) + rm.locals ≤ R.locals) (hcs : kc + rm.cells ≤ R.cells ∧ ks + rm.slots ≤ R.slots) (d : decode cc pc = .ok (.invokevirtual index, 3))
    (kk : ∀ r σ', J Γ R er cc own nL ret tg (kc + rm.cells) (ks + rm.slots) (pc + 3) lv ((ea r).toList ++ st) σ' (F r σ')) : J Γ R er cc own nL ret tg kc ks pc lv stk σ (obind (f σ) F) := by
  refine j_callG (hx := True) hC (fun h => ?_) ?_ kk
  · subst hs
    exact ⟨⟨(als_app.mp h).2.1, als_rev (als_app.mp h).1⟩, (als_app.mp h).2.2⟩
  · intro p l e s m args below meth c H locs ls D dA ad tg' A hx hb hml hown hts hK hls hR hst hM hPc
    have hb1 : b < gC σ k := by
      subst hs
      exact al_of (als_app.mp hst).2.1
    obtain ⟨ws, q, hP, hD, hc, hq⟩ := rh_at hR hb1
    rw [ent_obj hk] at hq
    obtain ⟨w1, w2, w3, w4, w5, w6, w7, w8, w9⟩ := id hw
    refine va_runV (b := ad k b) (As := As.map (av ad)) (nL := nL) (n := n) (C := X) (Ts := allW) ⟨hx, hb, hml, hown, hts⟩ hM (cwV n hts (caV_good hw) rfl rfl rfl ⟨w6, w7, w8, w9⟩ hrm) ⟨jPc_blind, va_recv (kk_v0 hK) hP hcl hq, hPc⟩ rfl (by rw [List.length_map]; exact hn) hls ?_ ?_ d hcs
    · show stk.map (av ad) = _
      rw [hs, List.map_append, List.map_reverse]
      rfl
    · refine lv_room ?_
      rw [ac_sum]
      exact h8
theorem j_callS0 (hC : ∀ l, Ctr l y cb mL rt rm ea As f) (hw : CaS own index y cb mL rt n) (hn : As.length = n) (hs : stk = As.reverse ++ st) (h8 : (st.map ac).sum ≤ 8) (hrm : rm.frames + 1 ≤ R.frames ∧ 8 + (mL + 11) + rm.locals ≤ R.locals) (hcs : kc + rm.cells ≤ R.cells ∧ ks + rm.slots ≤ R.slots) (d : decode cc pc = .ok (.invokestatic index, 3))
    (kk : ∀ r σ', J Γ R er cc own nL ret tg (kc + rm.cells) (ks + rm.slots) (pc + 3) lv ((ea r).toList ++ st) σ' (F r σ')) : J Γ R er cc own nL ret tg kc ks pc lv stk σ (obind (f σ) F) := by
  refine j_callG (hx := True) hC (fun h => ?_) ?_ kk
  · subst hs
    exact ⟨als_rev (als_app.mp h).1, (als_app.mp h).2⟩
  · intro p l e s m args below meth c H locs ls D dA ad tg' A hx hb hml hown hts hK hls hR hst hM hPc
    obtain ⟨w1, w2, w3, w4, w5, w6, w7⟩ := id hw
    refine va_runS (As := As.map (av ad)) (nL := nL) (n := n) (Ts := allW) ⟨hx, hb, hml, hown, hts⟩ hM (va_cwS n hts (caS_good hw) rfl rfl rfl ⟨w5, w6, w7⟩ hrm) ⟨jPc_blind, hPc⟩ rfl (by rw [List.length_map]; exact hn) hls ?_ ?_ d hcs
    · show stk.map (av ad) = _
      rw [hs, List.map_append, List.map_reverse]
    · refine lv_room ?_
      rw [ac_sum]
      exact h8
/-- a nest mate's private static method -/
theorem j_callN0 {host : String} (hC : ∀ l, Ctr l y cb mL rt rm ea As f) (hN : ∀ D dA U, KK D dA U → va_Nw (.methodLinkNest own index y host) U) (w2 : Cond.static y ∈ allW) (w3 : Cond.initialized y.cls ∈ allW) (w4 : Cond.code y cb mL rt ∈ allW) (w5 : y.cls ≠ "java/lang/invoke/MethodHandle" ∧ y.cls ≠ "java/lang/invoke/VarHandle" ∧ (parseMethodDescriptor y.desc).map (fun d => d.parameters.length) = some n) (hn : As.length = n) (hs : stk = As.reverse ++ st) (h8 : (st.map ac).sum ≤ 8) (hrm : rm.frames + 1 ≤ R.frames ∧ 8 + (mL + 11) + rm.locals ≤ R.locals) (hcs : kc + rm.cells ≤ R.cells ∧ ks + rm.slots ≤ R.slots) (d : decode cc pc = .ok (.invokestatic index, 3))
    (kk : ∀ r σ', J Γ R er cc own nL ret tg (kc + rm.cells) (ks + rm.slots) (pc + 3) lv ((ea r).toList ++ st) σ' (F r σ')) : J Γ R er cc own nL ret tg kc ks pc lv stk σ (obind (f σ) F) := by
  refine j_callG (hx := True) hC (fun h => ?_) ?_ kk
  · subst hs
    exact ⟨als_rev (als_app.mp h).1, (als_app.mp h).2⟩
  · intro p l e s m args below meth c H locs ls D dA ad tg' A hx hb hml hown hts hK hls hR hst hM hPc
    have hG : GoodIn allW (Cond.code y cb mL rt :: allW) := goodIn_all (fun w hw => by
      rcases List.mem_cons.mp hw with rfl | q
      · exact w4
      · exact q)
    refine va_runSN (As := As.map (av ad)) (nL := nL) (n := n) (Ts := allW) (host := host) ⟨hx, hb, hml, hown, hts⟩ hM ⟨va_cnB n hts hG rfl rfl rfl (hN D dA s hK) (hts _ w3) w5 hrm, hts _ w2, trivial⟩ ⟨jPc_blind, hPc⟩ rfl (by rw [List.length_map]; exact hn) hls ?_ ?_ d hcs
    · show stk.map (av ad) = _
      rw [hs, List.map_append, List.map_reverse]
    · refine lv_room ?_
      rw [ac_sum]
      exact h8
end JK
section JT
variable {ρ : Type} {Γ : jX} {R : Room} {er : ρ → Option aV} {cc : ByteArray} {own : String} {nL : Nat} {ret : Option FieldType} {tg : ρ × rS} {kc ks : Nat} {pc : Nat} {lv lv' : List (Nat × aV)} {st : List aV} {σ : rS} {y : MethodName} {cb : ByteArray} {mL n index : Nat} {rt : Option FieldType} {rm : Room} {As : List aV} {stk : List aV}
theorem j_callVI {f : rS → Option (Int32 × rS)} {F : Int32 → rS → Option (ρ × rS)} {k b ci N : Nat} {fs : List (Nat × Nat)} {T : u_T} {X : String} (hC : ∀ l, Ctr l y cb mL rt rm eI (aR k b :: As) f) (hw : CaV own X index y cb mL rt n) (hk : lyO k = some (ci, fs)) (hcl : vwCl[ci]? = some (X, T, N)) (hn : As.length = n) (hs : stk = As.reverse ++ aR k b :: st) (h8 : (st.map ac).sum ≤ 8) (hrm : rm.frames + 1 ≤ R.frames ∧ 8 + (mL + 11) + rm.locals ≤ R.locals) (hcs : kc + rm.cells ≤ R.cells ∧ ks + rm.slots ≤ R.slots) (d : decode cc pc = .ok (.invokevirtual index, 3)) (kk : ∀ r σ', J Γ R er cc own nL ret tg (kc + rm.cells) (ks + rm.slots) (pc + 3) lv (aI r :: st) σ' (F r σ')) : J Γ R er cc own nL ret tg kc ks pc lv stk σ (obind (f σ) F) := j_callV0 hC hw hk hcl hn hs h8 hrm hcs d kk
theorem j_callSI {f : rS → Option (Int32 × rS)} {F : Int32 → rS → Option (ρ × rS)} (hC : ∀ l, Ctr l y cb mL rt rm eI As f) (hw : CaS own index y cb mL rt n) (hn : As.length = n) (hs : stk = As.reverse ++ st) (h8 : (st.map ac).sum ≤ 8) (hrm : rm.frames + 1 ≤ R.frames ∧ 8 + (mL + 11) + rm.locals ≤ R.locals) (hcs : kc + rm.cells ≤ R.cells ∧ ks + rm.slots ≤ R.slots) (d : decode cc pc = .ok (.invokestatic index, 3)) (kk : ∀ r σ', J Γ R er cc own nL ret tg (kc + rm.cells) (ks + rm.slots) (pc + 3) lv (aI r :: st) σ' (F r σ')) : J Γ R er cc own nL ret tg kc ks pc lv stk σ (obind (f σ) F) := j_callS0 hC hw hn hs h8 hrm hcs d kk
theorem j_callVL {f : rS → Option (Int64 × rS)} {F : Int64 → rS → Option (ρ × rS)} {k b ci N : Nat} {fs : List (Nat × Nat)} {T : u_T} {X : String} (hC : ∀ l, Ctr l y cb mL rt rm eL (aR k b :: As) f) (hw : CaV own X index y cb mL rt n) (hk : lyO k = some (ci, fs)) (hcl : vwCl[ci]? = some (X, T, N)) (hn : As.length = n) (hs : stk = As.reverse ++ aR k b :: st) (h8 : (st.map ac).sum ≤ 8) (hrm : rm.frames + 1 ≤ R.frames ∧ 8 + (mL + 11) + rm.locals ≤ R.locals) (hcs : kc + rm.cells ≤ R.cells ∧ ks + rm.slots ≤ R.slots) (d : decode cc pc = .ok (.invokevirtual index, 3)) (kk : ∀ r σ', J Γ R er cc own nL ret tg (kc + rm.cells) (ks + rm.slots) (pc + 3) lv (aL r :: st) σ' (F r σ')) : J Γ R er cc own nL ret tg kc ks pc lv stk σ (obind (f σ) F) := j_callV0 hC hw hk hcl hn hs h8 hrm hcs d kk
theorem j_callSL {f : rS → Option (Int64 × rS)} {F : Int64 → rS → Option (ρ × rS)} (hC : ∀ l, Ctr l y cb mL rt rm eL As f) (hw : CaS own index y cb mL rt n) (hn : As.length = n) (hs : stk = As.reverse ++ st) (h8 : (st.map ac).sum ≤ 8) (hrm : rm.frames + 1 ≤ R.frames ∧ 8 + (mL + 11) + rm.locals ≤ R.locals) (hcs : kc + rm.cells ≤ R.cells ∧ ks + rm.slots ≤ R.slots) (d : decode cc pc = .ok (.invokestatic index, 3)) (kk : ∀ r σ', J Γ R er cc own nL ret tg (kc + rm.cells) (ks + rm.slots) (pc + 3) lv (aL r :: st) σ' (F r σ')) : J Γ R er cc own nL ret tg kc ks pc lv stk σ (obind (f σ) F) := j_callS0 hC hw hn hs h8 hrm hcs d kk
theorem j_callVD {f : rS → Option (UInt64 × rS)} {F : UInt64 → rS → Option (ρ × rS)} {k b ci N : Nat} {fs : List (Nat × Nat)} {T : u_T} {X : String} (hC : ∀ l, Ctr l y cb mL rt rm eD (aR k b :: As) f) (hw : CaV own X index y cb mL rt n) (hk : lyO k = some (ci, fs)) (hcl : vwCl[ci]? = some (X, T, N)) (hn : As.length = n) (hs : stk = As.reverse ++ aR k b :: st) (h8 : (st.map ac).sum ≤ 8) (hrm : rm.frames + 1 ≤ R.frames ∧ 8 + (mL + 11) + rm.locals ≤ R.locals) (hcs : kc + rm.cells ≤ R.cells ∧ ks + rm.slots ≤ R.slots) (d : decode cc pc = .ok (.invokevirtual index, 3)) (kk : ∀ r σ', J Γ R er cc own nL ret tg (kc + rm.cells) (ks + rm.slots) (pc + 3) lv (aD r :: st) σ' (F r σ')) : J Γ R er cc own nL ret tg kc ks pc lv stk σ (obind (f σ) F) := j_callV0 hC hw hk hcl hn hs h8 hrm hcs d kk
theorem j_callSD {f : rS → Option (UInt64 × rS)} {F : UInt64 → rS → Option (ρ × rS)} (hC : ∀ l, Ctr l y cb mL rt rm eD As f) (hw : CaS own index y cb mL rt n) (hn : As.length = n) (hs : stk = As.reverse ++ st) (h8 : (st.map ac).sum ≤ 8) (hrm : rm.frames + 1 ≤ R.frames ∧ 8 + (mL + 11) + rm.locals ≤ R.locals) (hcs : kc + rm.cells ≤ R.cells ∧ ks + rm.slots ≤ R.slots) (d : decode cc pc = .ok (.invokestatic index, 3)) (kk : ∀ r σ', J Γ R er cc own nL ret tg (kc + rm.cells) (ks + rm.slots) (pc + 3) lv (aD r :: st) σ' (F r σ')) : J Γ R er cc own nL ret tg kc ks pc lv stk σ (obind (f σ) F) := j_callS0 hC hw hn hs h8 hrm hcs d kk
theorem j_callVZ {f : rS → Option (Bool × rS)} {F : Bool → rS → Option (ρ × rS)} {k b ci N : Nat} {fs : List (Nat × Nat)} {T : u_T} {X : String} (hC : ∀ l, Ctr l y cb mL rt rm eZ (aR k b :: As) f) (hw : CaV own X index y cb mL rt n) (hk : lyO k = some (ci, fs)) (hcl : vwCl[ci]? = some (X, T, N)) (hn : As.length = n) (hs : stk = As.reverse ++ aR k b :: st) (h8 : (st.map ac).sum ≤ 8) (hrm : rm.frames + 1 ≤ R.frames ∧ 8 + (mL + 11) + rm.locals ≤ R.locals) (hcs : kc + rm.cells ≤ R.cells ∧ ks + rm.slots ≤ R.slots) (d : decode cc pc = .ok (.invokevirtual index, 3)) (kk : ∀ r σ', J Γ R er cc own nL ret tg (kc + rm.cells) (ks + rm.slots) (pc + 3) lv (aI (bi r) :: st) σ' (F r σ')) : J Γ R er cc own nL ret tg kc ks pc lv stk σ (obind (f σ) F) := j_callV0 hC hw hk hcl hn hs h8 hrm hcs d kk
theorem j_callSZ {f : rS → Option (Bool × rS)} {F : Bool → rS → Option (ρ × rS)} (hC : ∀ l, Ctr l y cb mL rt rm eZ As f) (hw : CaS own index y cb mL rt n) (hn : As.length = n) (hs : stk = As.reverse ++ st) (h8 : (st.map ac).sum ≤ 8) (hrm : rm.frames + 1 ≤ R.frames ∧ 8 + (mL + 11) + rm.locals ≤ R.locals) (hcs : kc + rm.cells ≤ R.cells ∧ ks + rm.slots ≤ R.slots) (d : decode cc pc = .ok (.invokestatic index, 3)) (kk : ∀ r σ', J Γ R er cc own nL ret tg (kc + rm.cells) (ks + rm.slots) (pc + 3) lv (aI (bi r) :: st) σ' (F r σ')) : J Γ R er cc own nL ret tg kc ks pc lv stk σ (obind (f σ) F) := j_callS0 hC hw hn hs h8 hrm hcs d kk
theorem j_callNZ {f : rS → Option (Bool × rS)} {F : Bool → rS → Option (ρ × rS)} {host : String} (hC : ∀ l, Ctr l y cb mL rt rm eZ As f) (hN : ∀ D dA U, KK D dA U → va_Nw (.methodLinkNest own index y host) U) (w2 : Cond.static y ∈ allW) (w3 : Cond.initialized y.cls ∈ allW) (w4 : Cond.code y cb mL rt ∈ allW) (w5 : y.cls ≠ "java/lang/invoke/MethodHandle" ∧ y.cls ≠ "java/lang/invoke/VarHandle" ∧ (parseMethodDescriptor y.desc).map (fun d => d.parameters.length) = some n) (hn : As.length = n) (hs : stk = As.reverse ++ st) (h8 : (st.map ac).sum ≤ 8) (hrm : rm.frames + 1 ≤ R.frames ∧ 8 + (mL + 11) + rm.locals ≤ R.locals) (hcs : kc + rm.cells ≤ R.cells ∧ ks + rm.slots ≤ R.slots) (d : decode cc pc = .ok (.invokestatic index, 3)) (kk : ∀ r σ', J Γ R er cc own nL ret tg (kc + rm.cells) (ks + rm.slots) (pc + 3) lv (aI (bi r) :: st) σ' (F r σ')) : J Γ R er cc own nL ret tg kc ks pc lv stk σ (obind (f σ) F) := j_callN0 hC hN w2 w3 w4 w5 hn hs h8 hrm hcs d kk
theorem j_callVV {f : rS → Option (Unit × rS)} {F : Unit → rS → Option (ρ × rS)} {k b ci N : Nat} {fs : List (Nat × Nat)} {T : u_T} {X : String} (hC : ∀ l, Ctr l y cb mL rt rm eV (aR k b :: As) f) (hw : CaV own X index y cb mL rt n) (hk : lyO k = some (ci, fs)) (hcl : vwCl[ci]? = some (X, T, N)) (hn : As.length = n) (hs : stk = As.reverse ++ aR k b :: st) (h8 : (st.map ac).sum ≤ 8) (hrm : rm.frames + 1 ≤ R.frames ∧ 8 + (mL + 11) + rm.locals ≤ R.locals) (hcs : kc + rm.cells ≤ R.cells ∧ ks + rm.slots ≤ R.slots) (d : decode cc pc = .ok (.invokevirtual index, 3)) (kk : ∀ r σ', J Γ R er cc own nL ret tg (kc + rm.cells) (ks + rm.slots) (pc + 3) lv (st) σ' (F r σ')) : J Γ R er cc own nL ret tg kc ks pc lv stk σ (obind (f σ) F) := j_callV0 hC hw hk hcl hn hs h8 hrm hcs d kk
theorem j_callSV {f : rS → Option (Unit × rS)} {F : Unit → rS → Option (ρ × rS)} (hC : ∀ l, Ctr l y cb mL rt rm eV As f) (hw : CaS own index y cb mL rt n) (hn : As.length = n) (hs : stk = As.reverse ++ st) (h8 : (st.map ac).sum ≤ 8) (hrm : rm.frames + 1 ≤ R.frames ∧ 8 + (mL + 11) + rm.locals ≤ R.locals) (hcs : kc + rm.cells ≤ R.cells ∧ ks + rm.slots ≤ R.slots) (d : decode cc pc = .ok (.invokestatic index, 3)) (kk : ∀ r σ', J Γ R er cc own nL ret tg (kc + rm.cells) (ks + rm.slots) (pc + 3) lv (st) σ' (F r σ')) : J Γ R er cc own nL ret tg kc ks pc lv stk σ (obind (f σ) F) := j_callS0 hC hw hn hs h8 hrm hcs d kk
theorem j_callVR {t : Nat} {f : rS → Option (Option Nat × rS)} {F : Option Nat → rS → Option (ρ × rS)} {k b ci N : Nat} {fs : List (Nat × Nat)} {T : u_T} {X : String} (hC : ∀ l, Ctr l y cb mL rt rm (eR t) (aR k b :: As) f) (hw : CaV own X index y cb mL rt n) (hk : lyO k = some (ci, fs)) (hcl : vwCl[ci]? = some (X, T, N)) (hn : As.length = n) (hs : stk = As.reverse ++ aR k b :: st) (h8 : (st.map ac).sum ≤ 8) (hrm : rm.frames + 1 ≤ R.frames ∧ 8 + (mL + 11) + rm.locals ≤ R.locals) (hcs : kc + rm.cells ≤ R.cells ∧ ks + rm.slots ≤ R.slots) (d : decode cc pc = .ok (.invokevirtual index, 3)) (kk : ∀ r σ', J Γ R er cc own nL ret tg (kc + rm.cells) (ks + rm.slots) (pc + 3) lv (aO t r :: st) σ' (F r σ')) : J Γ R er cc own nL ret tg kc ks pc lv stk σ (obind (f σ) F) := j_callV0 hC hw hk hcl hn hs h8 hrm hcs d kk
theorem j_callSR {t : Nat} {f : rS → Option (Option Nat × rS)} {F : Option Nat → rS → Option (ρ × rS)} (hC : ∀ l, Ctr l y cb mL rt rm (eR t) As f) (hw : CaS own index y cb mL rt n) (hn : As.length = n) (hs : stk = As.reverse ++ st) (h8 : (st.map ac).sum ≤ 8) (hrm : rm.frames + 1 ≤ R.frames ∧ 8 + (mL + 11) + rm.locals ≤ R.locals) (hcs : kc + rm.cells ≤ R.cells ∧ ks + rm.slots ≤ R.slots) (d : decode cc pc = .ok (.invokestatic index, 3)) (kk : ∀ r σ', J Γ R er cc own nL ret tg (kc + rm.cells) (ks + rm.slots) (pc + 3) lv (aO t r :: st) σ' (F r σ')) : J Γ R er cc own nL ret tg kc ks pc lv stk σ (obind (f σ) F) := j_callS0 hC hw hn hs h8 hrm hcs d kk
end JT
theorem met_ofF {l : Launch} {y : MethodName} {ws ws' : List Cond} {rm : Room} {Pc : Array Value → State → Prop} {Qc : Array Value → State → Outcome → State → Prop} {mc ms : Nat} {free : Addr → Prop} {cc : ByteArray} {maxL : Nat} {ret : Option FieldType}
    (hy : plainFor y = true) (hw : ws = Cond.code y cc maxL ret :: ws')
    (body : ∀ p e s m args below meth c s₁, BodyLoose p l y (headSpec ws rm) cc maxL ret e s m args below meth c s₁ → c.maxLocals = maxL → Pc args s →
      W p l e (headSpec ws rm).room s m args below meth c s.heap [] 0 0 (MQ below Qc args s mc ms free) (entryFrame m args maxL)) : Met l y ws rm Pc Qc mc ms free := by
  refine MetFree.of_bodySF (code := cc) (maxLocals := maxL) (ret := ret) hy ?_ ?_
  · intro args s m h hn
    obtain ⟨meth, c, h1, h2, h3, h4, h5, h6, -, -⟩ := Cond.code_spec hn (atoms_spec (ws := ws) h _ (by rw [hw]; exact List.mem_cons_self))
    exact ⟨meth, c, h1, h2, h3, h4, h5, h6⟩
  · intro p e s m args below meth c s₁ B hml hP _
    have hh0 : s₁.heap = s.heap := by rw [B.state]; rfl
    obtain ⟨t, a1, o, b1, b2, b3⟩ := body p e s m args below meth c s₁ B hml hP s₁ hh0 (Stand.of_body B)
    exact ⟨t, o, a1, b1, b2, ⟨b3.1, b3.2⟩⟩
/-- a contract out of the judgement at the entry -/
theorem ctr_of {ρ : Type} {l : Launch} {y : MethodName} {cb : ByteArray} {mL : Nat} {rt : Option FieldType} {rm : Room} {er : ρ → Option aV} {avs : List aV} {f : rS → Option (ρ × rS)} {lv : List (Nat × aV)} (hy : plainFor y = true) (hlv : ∀ ad, lv_args 0 (avs.map (av ad)) = lm ad lv) (hsz : ∀ ad, (lg_sl (avs.map (av ad))).length ≤ mL) (hal : ∀ σ, als σ avs → lvl σ lv) (h : ∀ Γ σ tg, J Γ rm er cb y.cls mL rt tg 0 0 0 lv [] σ (f σ)) : Ctr l y cb mL rt rm er avs f := by
  intro D dA σ ad sz tg hf ha
  refine met_ofF (cc := cb) (maxL := mL) (ret := rt) hy rfl ?_
  intro p e s m args below meth c s₁ B hml hv
  obtain ⟨rfl, rfl, hR, hK⟩ := hv
  have hts0 := atoms_spec (ws := Cond.code y cb mL rt :: allW) B.pre
  have hts : ∀ w ∈ allW, w.before (avs.map (av ad)).toArray s = true := fun w hw => hts0 w (List.mem_cons_of_mem _ hw)
  have hl := lv_entry (avs.map (av ad)) (hsz ad)
  rw [lg_entry_eq]
  rw [hlv ad] at hl
  exact h (p, l, e, s, m, _, below, meth, c, D, dA, σ, ad) σ tg ⟨B.exec, B.bytes, hml, findClass_of_methodNamed B.named, hts, hK, B.notSynchronized, B.returns⟩ hf s.heap [] ad _ hR ex_rf va_S.rf trivial (hal σ ha) hl
