/-! ===== constructors: raw cells beside a world ===== -/
/-- no two cells at one address -/
def dis (ws : va_W) : Prop := ∀ (i j : Nat) (p q : Nat × va_E), ws[i]? = some p → ws[j]? = some q → p.1 = q.1 → i = j
/-- ws are just the world's cells -/
def Cov (dA : Nat → ClassId) (σ : rS) (ad : Nat → Nat → Nat) (ws : va_W) : Prop :=
  (∀ k i k' i', i < gC σ k → i' < gC σ k' → ad k i = ad k' i' → k = k' ∧ i = i') ∧ RfOk σ ∧ (∀ k i, i < gC σ k → ∃ q : Nat, ws[q]? = some (ad k i, ent dA σ ad k i)) ∧ ∀ (q : Nat) (e : Nat × va_E), ws[q]? = some e → ∃ k i, i < gC σ k ∧ e = (ad k i, ent dA σ ad k i)
def ra (σ : rS) (ad : Nat → Nat → Nat) (sz h0 : Nat) : Nat → Prop := fun q => q = h0 ∨ rg σ ad sz q
def jPi (D : va_G) (dA : Nat → ClassId) (σ : rS) (ad : Nat → Nat → Nat) (sz h0 : Nat) (b : va_E) (args : List Value) : Array Value → State → Prop := fun v U => v = args.toArray ∧ U.heap.size = sz ∧ (∃ ws : va_W, Cov dA σ ad ws ∧ va_P D vwCl (ws ++ [(h0, b)]) U.heap ∧ dis (ws ++ [(h0, b)])) ∧ KK D dA U
def jQi (D : va_G) (dA : Nat → ClassId) (σ : rS) (ad : Nat → Nat → Nat) (sz h0 : Nat) (po : va_W → Prop) : Array Value → State → Outcome → State → Prop := fun _ st oc t =>
  (oc = .returned none ∧ ∃ (ad' : Nat → Nat → Nat) (ws xs : va_W), Cov dA σ ad' ws ∧ Ex σ ad σ ad' ∧ va_P D vwCl (ws ++ xs) t.heap ∧ va_D (ra σ ad sz h0) (ws ++ xs) ∧ po xs) ∧ va_F (ra σ ad sz h0) st t
def CtI (l : Launch) (y : MethodName) (cb : ByteArray) (mL : Nat) (rm : Room) (args : List aV) (b : va_E) (P : rS → Prop) (po : rS → (Nat → Nat → Nat) → (Nat → ClassId) → Nat → va_W → Prop) : Prop :=
  ∀ (D : va_G) (dA : Nat → ClassId) (σ : rS) (ad : Nat → Nat → Nat) (sz h0 : Nat), P σ → als σ args → Met l y (Cond.code y cb mL none :: allW) rm (jPi D dA σ ad sz h0 b (.ref h0 :: args.map (av ad))) (jQi D dA σ ad sz h0 (po σ ad dA h0)) rm.cells rm.slots (ra σ ad sz h0)
abbrev jY : Type := Program × Launch × Env × State × MethodId × Array Value × List Frame × Method × Code × va_G × rS × (Nat → Nat → Nat)
def JW (Γ : jY) (dA : Nat → ClassId) (R : Room) (h0 : Nat) (po : va_W → Prop) (cc : ByteArray) (own : String) (nL : Nat) (kc ks : Nat) (pc : Nat) (lv : List (Nat × aV)) (st : List aV) (xs : va_W) : Prop := match Γ with
  | (p, l, e, s, m, args, below, meth, c, D, σ, ad0) => jC (p, l, e, s, m, args, below, meth, c, D, dA, σ, ad0) cc own nL none → meth.name = "<init>" → ∀ (H : Heap) (locs : List Loc) (ad : Nat → Nat → Nat) (ws : va_W) (ls : Array Slot), Cov dA σ ad ws → Ex σ ad0 σ ad → va_P D vwCl (ws ++ xs) H → va_D (ra σ ad0 s.heap.size h0) (ws ++ xs) → va_S (ra σ ad0 s.heap.size h0) s.heap H locs → als σ st → lvl σ lv → lv_has ls nL (lm ad lv) → W p l e R s m args below meth c H locs kc ks (MQ below (jQi D dA σ ad0 s.heap.size h0 po) args s R.cells R.slots (ra σ ad0 s.heap.size h0)) (F0 m pc ls (st.map (av ad)))
theorem ws_get {ws xs : va_W} {j : Nat} {e : Nat × va_E} (h : xs[j]? = some e) : (ws ++ xs)[ws.length + j]? = some e := by
  rw [List.getElem?_append_right (Nat.le_add_right _ _), Nat.add_sub_cancel_left]
  exact h
theorem ws_set (ws xs : va_W) (j : Nat) (e : Nat × va_E) : (ws ++ xs).set (ws.length + j) e = ws ++ xs.set j e := by
  rw [List.set_append_right _ _ (Nat.le_add_right _ _), Nat.add_sub_cancel_left]
abbrev rq (q : Nat) : aV := .inl (.ref q)
theorem oiw : Cond.code objectInit ⟨#[0xb1]⟩ 1 none ∈ allW := tw_1_25
section JW1
variable {Γ : jY} {dA : Nat → ClassId} {R : Room} {h0 : Nat} {po : va_W → Prop} {cc : ByteArray} {own : String} {nL : Nat} {kc ks : Nat} {pc : Nat} {lv lv' : List (Nat × aV)} {st : List aV} {xs xs' : va_W}
theorem w_aload_n {q : Fin 4} {i a : Nat} (b : Nat) (d : decode cc pc = .ok (.aload_n q, 1)) (hi : (q : Nat) = i) (h : lv[b]? = some (i, rq a)) (k : JW Γ dA R h0 po cc own nL kc ks (pc + 1) lv (rq a :: st) xs) : JW Γ dA R h0 po cc own nL kc ks pc lv st xs := by
  obtain ⟨p, l, e, s, m, args, below, meth, c, D, σ, ad0⟩ := Γ
  intro C hin H locs ad ws ls hC hE hP hD hS hst hlv hL
  exact lv_aload_n C.1 C.2.1 d hi (lv_at hL b (lm_get h)) (k C hin H locs ad ws ls hC hE hP hD hS ⟨trivial, hst⟩ hlv hL)
theorem w_aload_nR {q : Fin 4} {i t a : Nat} (b : Nat) (d : decode cc pc = .ok (.aload_n q, 1)) (hi : (q : Nat) = i) (h : lv[b]? = some (i, aR t a)) (k : JW Γ dA R h0 po cc own nL kc ks (pc + 1) lv (aR t a :: st) xs) : JW Γ dA R h0 po cc own nL kc ks pc lv st xs := by
  obtain ⟨p, l, e, s, m, args, below, meth, c, D, σ, ad0⟩ := Γ
  intro C hin H locs ad ws ls hC hE hP hD hS hst hlv hL
  exact lv_aload_n C.1 C.2.1 d hi (lv_at hL b (lm_get h)) (k C hin H locs ad ws ls hC hE hP hD hS ⟨lvl_at hlv h, hst⟩ hlv hL)
theorem w_iload_n {q : Fin 4} {i : Nat} {x : Int32} (b : Nat) (d : decode cc pc = .ok (.iload_n q, 1)) (hi : (q : Nat) = i) (h : lv[b]? = some (i, aI x)) (k : JW Γ dA R h0 po cc own nL kc ks (pc + 1) lv (aI x :: st) xs) : JW Γ dA R h0 po cc own nL kc ks pc lv st xs := by
  obtain ⟨p, l, e, s, m, args, below, meth, c, D, σ, ad0⟩ := Γ
  intro C hin H locs ad ws ls hC hE hP hD hS hst hlv hL
  exact lv_iload_n C.1 C.2.1 d hi (lv_at hL b (lm_get h)) (k C hin H locs ad ws ls hC hE hP hD hS ⟨trivial, hst⟩ hlv hL)
theorem w_iconst {n : Int} {v : Int32} (hv : Int32.ofInt n = v) (d : decode cc pc = .ok (.iconst n, 1)) (k : JW Γ dA R h0 po cc own nL kc ks (pc + 1) lv (aI v :: st) xs) : JW Γ dA R h0 po cc own nL kc ks pc lv st xs := by
  obtain ⟨p, l, e, s, m, args, below, meth, c, D, σ, ad0⟩ := Γ
  intro C hin H locs ad ws ls hC hE hP hD hS hst hlv hL
  exact lv_iconst C.1 C.2.1 d hv (k C hin H locs ad ws ls hC hE hP hD hS ⟨trivial, hst⟩ hlv hL)
theorem w_bipush {n : Int} {v : Int32} (hv : (Int8.ofInt n).toInt32 = v) (d : decode cc pc = .ok (.bipush n, 2)) (k : JW Γ dA R h0 po cc own nL kc ks (pc + 2) lv (aI v :: st) xs) : JW Γ dA R h0 po cc own nL kc ks pc lv st xs := by
  obtain ⟨p, l, e, s, m, args, below, meth, c, D, σ, ad0⟩ := Γ
  intro C hin H locs ad ws ls hC hE hP hD hS hst hlv hL
  exact lv_bipush C.1 C.2.1 d hv (k C hin H locs ad ws ls hC hE hP hD hS ⟨trivial, hst⟩ hlv hL)
theorem w_sipush {n : Int} {v : Int32} (hv : (Int16.ofInt n).toInt32 = v) (d : decode cc pc = .ok (.sipush n, 3)) (k : JW Γ dA R h0 po cc own nL kc ks (pc + 3) lv (aI v :: st) xs) : JW Γ dA R h0 po cc own nL kc ks pc lv st xs := by
  obtain ⟨p, l, e, s, m, args, below, meth, c, D, σ, ad0⟩ := Γ
  intro C hin H locs ad ws ls hC hE hP hD hS hst hlv hL
  exact lv_sipush C.1 C.2.1 d hv (k C hin H locs ad ws ls hC hE hP hD hS ⟨trivial, hst⟩ hlv hL)
theorem w_dup {v : aV} (d : decode cc pc = .ok (.dup, 1)) (hv : ac v = 1) (k : JW Γ dA R h0 po cc own nL kc ks (pc + 1) lv (v :: v :: st) xs) : JW Γ dA R h0 po cc own nL kc ks pc lv (v :: st) xs := by
  obtain ⟨p, l, e, s, m, args, below, meth, c, D, σ, ad0⟩ := Γ
  intro C hin H locs ad ws ls hC hE hP hD hS hst hlv hL
  exact lv_dup C.1 C.2.1 d ((av_ac ad v).trans hv) (k C hin H locs ad ws ls hC hE hP hD hS ⟨hst.1, hst.1, hst.2⟩ hlv hL)
theorem w_objInit {a idx : Nat} (w1 : Cond.methodLink own idx objectInit ∈ allW) (d : decode cc pc = .ok (.invokespecial idx, 3)) (h1 : 1 ≤ R.frames) (h2 : (st.map ac).sum + 12 ≤ R.locals) (k : JW Γ dA R h0 po cc own nL kc ks (pc + 3) lv st xs) : JW Γ dA R h0 po cc own nL kc ks pc lv (rq a :: st) xs := by
  obtain ⟨p, l, e, s, m, args, below, meth, c, D, σ, ad0⟩ := Γ
  intro C hin H locs ad ws ls hC hE hP hD hS hst hlv hL
  refine W.objInit C.1 C.2.1 C.2.2.2.1 (C.2.2.2.2.1 _ w1) (C.2.2.2.2.1 _ tw_1_24) (C.2.2.2.2.1 _ oiw) rfl (by rw [C.2.2.1]; exact hL.1) rfl d h1 ?_ ?_
  · show 2 * 0 + ((st.map (av ad)).map fun v => v.category).sum + 12 ≤ R.locals
    rw [ac_sum]
    omega
  · exact k C hin H locs ad ws ls hC hE hP hD hS hst.2 hlv hL
/-- a final field of a raw cell -/
theorem w_putF {j a ci N index x : Nat} {fs : List Value} {v : aV} {X : String} {T : u_T} {nm ds : String} {ty : FieldType} {w : Value} (hj : xs[j]? = some (a, .inr (ci, fs))) (hci : vwCl[ci]? = some (X, T, N)) (hT : T x = (own, nm, ds, true)) (hx : x < N) (hu : ∀ w ∈ u_ws X T N, w ∈ allW) (ty0 : Nat → FieldType) (hty : ∀ k, k < N → parseFieldDescriptor (T k).2.2.1 = some (ty0 k)) (hnm : ∀ a, a < N → ∀ b, b < N → a ≠ b → (T a).2.1 ≠ (T b).2.1) (hps : parseFieldDescriptor ds = some ty) (hw : ∀ ad, av ad v = w) (hn : narrow ty w = w) (hf : fits ty w = true) (hl : x < fs.length) (wl : Cond.fieldLink own index own nm ds ∈ allW) (d : decode cc pc = .ok (.putfield index, 3)) (hxs : xs.set j (a, .inr (ci, fs.set x w)) = xs') (k : JW Γ dA R h0 po cc own nL kc ks (pc + 3) lv st xs') : JW Γ dA R h0 po cc own nL kc ks pc lv (v :: rq a :: st) xs := by
  obtain ⟨p, l, e, s, m, args, below, meth, c, D, σ, ad0⟩ := Γ
  intro C hin H locs ad ws ls hC hE hP hD hS hst hlv hL
  subst hxs
  show W p l e R s m args below meth c H locs kc ks _ (F0 m pc ls (av ad v :: .ref a :: st.map (av ad)))
  rw [hw ad]
  refine va_putF (D := D) (ci := ci) (v := w) (ty := ty) (C := X) (T := T) (N := N) C.1 C.2.1 C.2.2.2.2.1 hu ty0 hty hnm C.2.2.2.1 (kk_v0 C.2.2.2.2.2.1) hP hD hS (ws.length + j) (ws_get hj) hci x hx (by rw [hT]; exact C.2.2.2.2.1 _ wl) (fun _ h9 => by rw [hT] at h9 ⊢; exact h9) (by rw [hT]) hin (by rw [hT]) (by rw [hT]; exact hps) hn hf hl d (fun H1 locs1 hP1 hD1 hS1 => ?_)
  rw [ws_set] at hP1 hD1
  exact k C hin H1 locs1 ad ws ls hC hE hP1 hD1 hS1 hst.2.2 hlv hL
theorem w_newa {atype : ArrayType} {ty : FieldType} {n : Int32} {N' kd : Nat} {a0 : (Nat → Int32) ⊕ (Nat → Int64) ⊕ (Nat → UInt32) ⊕ (Nat → UInt64) ⊕ (Nat → Option Nat)} (wa : Cond.arrayClass (newarray.typeOf atype) ∈ allW) (hty : newarray.typeOf atype = ty) (ha : ∀ cA : ClassId, vp_cell cA (N', a0) = arrV cA N' (fun _ => defaultValue ty)) (hk : lyT kd = ty) (hk2 : (lyA kd).1 < 9) (ho : ∀ (U : State) (cA : ClassId), va_RA U cA ty → U.vm.findClass ("[" ++ ty.toString) = some cA) (hn : ¬ n < 0) (hN : n.toNatClampNeg = N') (hb : N' * componentBytes ty ≤ 536870912) (hc : kc + 1 ≤ R.cells) (hs : ks + N' ≤ R.slots) (d : decode cc pc = .ok (.newarray atype, 2)) (k : ∀ (q : Nat), JW Γ dA R h0 po cc own nL (kc + 1) (ks + N') (pc + 2) lv (rq q :: st) (xs ++ [(q, .inl (dA kd, N', a0))])) : JW Γ dA R h0 po cc own nL kc ks pc lv (aI n :: st) xs := by
  obtain ⟨p, l, e, s, m, args, below, meth, c, D, σ, ad0⟩ := Γ
  intro C hin H locs ad ws ls hC hE hP hD hS hst hlv hL
  have hRA := (C.2.2.2.2.2.1.2.1 kd hk2).2
  rw [hk] at hRA
  refine va_newa C.1 C.2.1 (C.2.2.2.2.1 _ wa) hty (kk_v0 C.2.2.2.2.2.1) hP hD hS (fun q hq => Or.inr (Or.inr hq)) ha hn hN hb hc hs d (fun q cA H1 hK1 hP1 hD1 hS1 => ?_)
  have e1 := ho _ _ (hK1.2 0 (cA, ty) rfl).2
  have e2 : cA = dA kd := Option.some.inj (e1.symm.trans (ho _ _ hRA))
  subst e2
  rw [List.append_assoc] at hP1 hD1
  exact k q C hin H1 locs ad ws ls hC hE hP1 hD1 hS1 ⟨trivial, hst.2⟩ hlv hL
theorem w_newq {ob : String} {index : Nat} {n : Int32} {N' kd : Nat} (wc : Cond.classLink own index ob ∈ allW) (hao : ∀ (D : va_G) (U : State), KK D dA U → va_AO ob U) (hk : lyT kd = .object ob) (hk2 : (lyA kd).1 < 9) (hn : ¬ n < 0) (hN : n.toNatClampNeg = N') (hb : N' * 4 ≤ 536870912) (hc : kc + 1 ≤ R.cells) (hs : ks + N' ≤ R.slots) (d : decode cc pc = .ok (.anewarray index, 3)) (k : ∀ (q : Nat), JW Γ dA R h0 po cc own nL (kc + 1) (ks + N') (pc + 3) lv (rq q :: st) (xs ++ [(q, .inl (dA kd, N', .inr (.inr (.inr (.inr (fun _ => none))))))])) : JW Γ dA R h0 po cc own nL kc ks pc lv (aI n :: st) xs := by
  obtain ⟨p, l, e, s, m, args, below, meth, c, D, σ, ad0⟩ := Γ
  intro C hin H locs ad ws ls hC hE hP hD hS hst hlv hL
  have hRA := (C.2.2.2.2.2.1.2.1 kd hk2).2
  rw [hk] at hRA
  refine va_newq C.1 C.2.1 C.2.2.2.1 (C.2.2.2.2.1 _ wc) (hao D s C.2.2.2.2.2.1) (kk_v0 C.2.2.2.2.2.1) hP hD hS (fun q hq => Or.inr (Or.inr hq)) hn hN hb hc hs d (fun q cA H1 hK1 hP1 hD1 hS1 => ?_)
  obtain ⟨_, _, _, _, _, e1⟩ := (hK1.2 0 (cA, .object ob) rfl).2
  obtain ⟨_, _, _, _, _, e3⟩ := hRA
  have e2 : cA = dA kd := Option.some.inj (e1.symm.trans e3)
  subst e2
  rw [List.append_assoc] at hP1 hD1
  exact k q C hin H1 locs ad ws ls hC hE hP1 hD1 hS1 ⟨trivial, hst.2⟩ hlv hL
theorem w_new {index ci N : Nat} {X : String} {T : u_T} {fs : List Value} (wc : Cond.classLink own index X ∈ allW) (wi : Cond.instantiable X N ∈ allW) (wn : Cond.initialized X ∈ allW) (hu : ∀ w ∈ u_ws X T N, w ∈ allW) (ty0 : Nat → FieldType) (hty : ∀ k, k < N → parseFieldDescriptor (T k).2.2.1 = some (ty0 k)) (hci : vwCl[ci]? = some (X, T, N)) (hfs : ∀ j, j < N → defaultValue (ty0 j) = vp_V fs j) (hc : kc + 1 ≤ R.cells) (hs : ks + N ≤ R.slots) (d : decode cc pc = .ok (.new index, 3)) (k : ∀ (q : Nat), JW Γ dA R h0 po cc own nL (kc + 1) (ks + N) (pc + 3) lv (rq q :: st) (xs ++ [(q, .inr (ci, fs))])) : JW Γ dA R h0 po cc own nL kc ks pc lv st xs := by
  obtain ⟨p, l, e, s, m, args, below, meth, c, D, σ, ad0⟩ := Γ
  intro C hin H locs ad ws ls hC hE hP hD hS hst hlv hL
  refine va_new (ci := ci) (fs := fs) (C := X) (T := T) (N := N) C.1 C.2.1 C.2.2.2.2.1 hu ty0 hty C.2.2.2.1 (C.2.2.2.2.1 _ wc) (C.2.2.2.2.1 _ wi) (C.2.2.2.2.1 _ wn) (kk_v0 C.2.2.2.2.2.1) hP hD hS (fun q hq => Or.inr (Or.inr hq)) hci hfs hc hs d (fun q H1 hP1 hD1 hS1 => ?_)
  rw [List.append_assoc] at hP1 hD1
  exact k q C hin H1 locs ad ws ls hC hE hP1 hD1 hS1 ⟨trivial, hst⟩ hlv hL
/-- a reference out of a raw cell's field -/
theorem w_getF {j a b ci N index x : Nat} {fs : List Value} {X : String} {T : u_T} {ref nm ds : String} {fin : Bool} (hj : xs[j]? = some (a, .inr (ci, fs))) (hci : vwCl[ci]? = some (X, T, N)) (hT : T x = (ref, nm, ds, fin)) (hx : x < N) (hu : ∀ w ∈ u_ws X T N, w ∈ allW) (hv : fs[x]? = some (.ref b)) (wl : Cond.fieldLink own index ref nm ds ∈ allW) (d : decode cc pc = .ok (.getfield index, 3)) (k : JW Γ dA R h0 po cc own nL kc ks (pc + 3) lv (rq b :: st) xs) : JW Γ dA R h0 po cc own nL kc ks pc lv (rq a :: st) xs := by
  obtain ⟨p, l, e, s, m, args, below, meth, c, D, σ, ad0⟩ := Γ
  intro C hin H locs ad ws ls hC hE hP hD hS hst hlv hL
  refine va_get (D := D) (ci := ci) (v := .ref b) (C := X) (T := T) (N := N) C.1 C.2.1 C.2.2.2.2.1 hu C.2.2.2.1 (kk_v0 C.2.2.2.2.2.1) hP (ws.length + j) (ws_get hj) hci x hx (by rw [hT]; exact C.2.2.2.2.1 _ wl) (fun _ h9 => by rw [hT] at h9 ⊢; exact h9) hv d ?_
  exact k C hin H locs ad ws ls hC hE hP hD hS ⟨trivial, hst.2⟩ hlv hL
/-- an int out of a cell of the world -/
theorem w_getI {i x t N index k0 : Nat} {X : String} {T : u_T} {ref nm ds : String} {fin : Bool} {ty : FieldType} {σ : rS} (hσ : Γ.2.2.2.2.2.2.2.2.2.2.1 = σ) (f : FD k0 x 0 t X T N ref nm ds fin ty) (hl : Cond.fieldLink own index ref nm ds ∈ allW) (d : decode cc pc = .ok (.getfield index, 3)) (k : JW Γ dA R h0 po cc own nL kc ks (pc + 3) lv (aI (gI σ k0 i x) :: st) xs) : JW Γ dA R h0 po cc own nL kc ks pc lv (aR k0 i :: st) xs := by
  obtain ⟨p, l, e, s, m, args, below, meth, c, D, σ, ad0⟩ := Γ
  intro C hin H locs ad ws ls hC hE hP hD hS hst hlv hL
  subst hσ
  obtain ⟨⟨ci, fs, h1, h2, h3, h4⟩, hT, hu, -⟩ := f
  have hi : i < gC σ k0 := al_of hst.1
  obtain ⟨q, hq⟩ := hC.2.2.1 k0 i hi
  rw [ent_obj h1] at hq
  have hq2 : (ws ++ xs)[q]? = some (ad k0 i, .inr (ci, fvs σ ad k0 i 0 fs)) := by
    rw [List.getElem?_append_left (List.getElem?_eq_some_iff.mp hq).1]
    exact hq
  have hN : x < N := by rw [← h4]; exact (List.getElem?_eq_some_iff.mp h2).1
  refine va_get (D := D) (ci := ci) (C := X) (T := T) (N := N) (v := fv σ ad k0 i x (0, t)) C.1 C.2.1 C.2.2.2.2.1 hu C.2.2.2.1 (kk_v0 C.2.2.2.2.2.1) hP q hq2 h3 x hN (by rw [hT]; exact C.2.2.2.2.1 _ hl) (fun _ h9 => by rw [hT] at h9 ⊢; exact h9) (by rw [fvs_get, h2, Nat.zero_add]; rfl) d ?_
  exact k C hin H locs ad ws ls hC hE hP hD hS ⟨trivial, hst.2⟩ hlv hL
theorem w_ret (h1 : kc ≤ R.cells) (h2 : ks ≤ R.slots) (hpo : po xs) (d : decode cc pc = .ok (.return_, 1)) : JW Γ dA R h0 po cc own nL kc ks pc lv [] xs := by
  obtain ⟨p, l, e, s, m, args, below, meth, c, D, σ, ad0⟩ := Γ
  intro C hin H locs ad ws ls hC hE hP hD hS hst hlv hL
  refine W.widen h1 h2 ?_
  exact W.vret C.1 C.2.1 C.2.2.2.2.2.2.2 (fun t ht hW => ⟨⟨rfl, ad, ws, xs, hC, hE, by rw [ht]; exact hP, hD, hpo⟩, hS.F ht⟩) hS.2.2 d (hlocks := C.2.2.2.2.2.2.1)
theorem w_sub (ks' : List Nat) (hl : ks'.filterMap (fun k => lv[k]?) = lv') (k : JW Γ dA R h0 po cc own nL kc ks pc lv' st xs) : JW Γ dA R h0 po cc own nL kc ks pc lv st xs := by
  obtain ⟨p, l, e, s, m, args, below, meth, c, D, σ, ad0⟩ := Γ
  intro C hin H locs ad ws ls hC hE hP hD hS hst hlv hL
  subst hl
  exact k C hin H locs ad ws ls hC hE hP hD hS hst (lvl_pick hlv ks') (lv_sub hL ks' (lm_pick ks'))
theorem w_eq (h : xs = xs') (k : JW Γ dA R h0 po cc own nL kc ks pc lv st xs') : JW Γ dA R h0 po cc own nL kc ks pc lv st xs := by rw [h]; exact k
end JW1
theorem cti_of {l : Launch} {y : MethodName} {cb : ByteArray} {mL : Nat} {rm : Room} {args : List aV} {b : va_E} {P : rS → Prop} {po : rS → (Nat → Nat → Nat) → (Nat → ClassId) → Nat → va_W → Prop} {lv : Nat → List (Nat × aV)} (hy : plainFor y = true) (hyi : y.name = "<init>") (hlv : ∀ ad h0, lv_args 0 (.ref h0 :: args.map (av ad)) = lm ad (lv h0)) (hsz : ∀ ad h0, (lg_sl (.ref h0 :: args.map (av ad))).length ≤ mL) (hal : ∀ σ h0, als σ args → lvl σ (lv h0)) (h : ∀ (p : Program) (l : Launch) (e : Env) (s : State) (m : MethodId) (as : Array Value) (below : List Frame) (meth : Method) (c : Code) (D : va_G) (dA : Nat → ClassId) (σ : rS) (ad : Nat → Nat → Nat) (h0 : Nat), P σ → als σ args → JW (p, l, e, s, m, as, below, meth, c, D, σ, ad) dA rm h0 (po σ ad dA h0) cb y.cls mL 0 0 0 (lv h0) [] [(h0, b)]) : CtI l y cb mL rm args b P po := by
  intro D dA σ ad sz h0 hPσ ha
  refine met_ofF (cc := cb) (maxL := mL) (ret := none) hy rfl ?_
  intro p e s m as below meth c s₁ B hml hv
  obtain ⟨rfl, rfl, ⟨ws, hC, hP, hD⟩, hK⟩ := hv
  have hts0 := atoms_spec (ws := Cond.code y cb mL none :: allW) B.pre
  have hts : ∀ w ∈ allW, w.before _ s = true := fun w hw => hts0 w (List.mem_cons_of_mem _ hw)
  have hl := lv_entry (.ref h0 :: args.map (av ad)) (hsz ad h0)
  rw [lg_entry_eq]
  rw [hlv ad h0] at hl
  have hin : meth.name = "<init>" := ((name_of_methodNamed B.named B.method).1).trans hyi
  refine h p l e s m _ below meth c D dA σ ad h0 hPσ ha ⟨B.exec, B.bytes, hml, findClass_of_methodNamed B.named, hts, hK, B.notSynchronized, B.returns⟩ hin s.heap [] ad ws _ hC ex_rf hP ⟨hD, fun k q hk => ?_⟩ va_S.rf trivial (hal σ h0 ha) hl
  by_cases hkl : k < ws.length
  · rw [List.getElem?_append_left hkl] at hk
    obtain ⟨a, b, hb, rfl⟩ := hC.2.2.2 k q hk
    exact Or.inr (Or.inl ⟨a, b, hb, rfl⟩)
  · rw [List.getElem?_append_right (Nat.le_of_not_lt hkl)] at hk
    have hz := (List.getElem?_eq_some_iff.mp hk).1
    have : k - ws.length = 0 := by simpa using hz
    rw [this] at hk
    cases hk
    exact Or.inl rfl
