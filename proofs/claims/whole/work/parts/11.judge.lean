/-! ===== abstract values: a value, or a reference of a kind (none: null) ===== -/
abbrev aV : Type := Value ⊕ (Nat × Option Nat)
abbrev aI (x : Int32) : aV := .inl (.int x)
abbrev aL (x : Int64) : aV := .inl (.long x)
abbrev aF (x : UInt32) : aV := .inl (.float x)
abbrev aD (x : UInt64) : aV := .inl (.double x)
abbrev aO (k : Nat) (o : Option Nat) : aV := .inr (k, o)
abbrev aR (k i : Nat) : aV := .inr (k, some i)
def av (ad : Nat → Nat → Nat) : aV → Value
  | .inl v => v
  | .inr q => va_rf (q.2.map (ad q.1))
def ac : aV → Nat
  | .inl v => v.category
  | .inr _ => 1
theorem av_ac (ad : Nat → Nat → Nat) (v : aV) : (av ad v).category = ac v := by
  match v with
  | .inl v => rfl
  | .inr (k, none) => rfl
  | .inr (k, some i) => rfl
/-- it leads to a cell that is there -/
def al (σ : rS) : aV → Prop
  | .inl _ => True
  | .inr q => ∀ i, q.2 = some i → i < gC σ q.1
def als (σ : rS) : List aV → Prop
  | [] => True
  | v :: r => al σ v ∧ als σ r
theorem al_of {σ : rS} {k i : Nat} (h : al σ (aR k i)) : i < gC σ k := h i rfl
theorem al_mk {σ : rS} {k i : Nat} (h : i < gC σ k) : al σ (aR k i) := fun j hj => by cases hj; exact h
theorem al_nul {σ : rS} {k : Nat} : al σ (aO k none) := fun j hj => by cases hj
def bi (b : Bool) : Int32 := if b then 1 else 0
/-- lists of locals -/
def lm (ad : Nat → Nat → Nat) (lv : List (Nat × aV)) : List (Nat × Value) := lv.map fun q => (q.1, av ad q.2)
theorem lm_get {ad : Nat → Nat → Nat} {lv : List (Nat × aV)} {k i : Nat} {v : aV} (h : lv[k]? = some (i, v)) : (lm ad lv)[k]? = some (i, av ad v) := by
  unfold lm
  rw [List.getElem?_map, h]
  rfl
theorem lm_pick {ad : Nat → Nat → Nat} {lv : List (Nat × aV)} (ks : List Nat) : lv_pick (lm ad lv) ks = lm ad (ks.filterMap (fun k => lv[k]?)) := by
  unfold lv_pick lm
  induction ks with
  | nil => rfl
  | cons k r ih =>
    rw [List.filterMap_cons, List.filterMap_cons, List.getElem?_map, ih]
    cases lv[k]? with
    | none => rfl
    | some q => rfl
/-- storing one word, storing two -/
def l1 (lv : List (Nat × aV)) (i : Nat) (v : aV) : List (Nat × aV) := (i, v) :: lv.filter (fun q => !(q.1 == i) && !(q.1 + 1 == i && ac q.2 == 2))
def l2 (lv : List (Nat × aV)) (i : Nat) (v : aV) : List (Nat × aV) := (i, v) :: lv.filter (fun q => !(q.1 == i) && (!(q.1 == i + 1) && !(q.1 + 1 == i && ac q.2 == 2)))
theorem lm_l1 {ad : Nat → Nat → Nat} {lv : List (Nat × aV)} {i : Nat} {v : aV} : (i, av ad v) :: (lm ad lv).filter (fun q => !(q.1 == i) && !(q.1 + 1 == i && q.2.category == 2)) = lm ad (l1 lv i v) := by
  unfold lm l1
  rw [List.map_cons, List.filter_map]
  congr 2
  apply List.filter_congr
  intro q _
  simp only [Function.comp, av_ac]
theorem lm_l2 {ad : Nat → Nat → Nat} {lv : List (Nat × aV)} {i : Nat} {v : aV} : (i, av ad v) :: (lm ad lv).filter (fun q => !(q.1 == i) && (!(q.1 == i + 1) && !(q.1 + 1 == i && q.2.category == 2))) = lm ad (l2 lv i v) := by
  unfold lm l2
  rw [List.map_cons, List.filter_map]
  congr 2
  apply List.filter_congr
  intro q _
  simp only [Function.comp, av_ac]
def lvl (σ : rS) (lv : List (Nat × aV)) : Prop := ∀ q ∈ lv, al σ q.2
theorem lvl_l1 {σ : rS} {lv : List (Nat × aV)} {i : Nat} {v : aV} (h : lvl σ lv) (hv : al σ v) : lvl σ (l1 lv i v) := by
  intro q hq
  rcases List.mem_cons.mp hq with e | e
  · rw [e]; exact hv
  · exact h q ((List.mem_filter.mp e).1)
theorem lvl_l2 {σ : rS} {lv : List (Nat × aV)} {i : Nat} {v : aV} (h : lvl σ lv) (hv : al σ v) : lvl σ (l2 lv i v) := by
  intro q hq
  rcases List.mem_cons.mp hq with e | e
  · rw [e]; exact hv
  · exact h q ((List.mem_filter.mp e).1)
theorem lvl_at {σ : rS} {lv : List (Nat × aV)} {k i : Nat} {v : aV} (h : lvl σ lv) (hk : lv[k]? = some (i, v)) : al σ v := h _ (List.mem_of_getElem? hk)
theorem lvl_pick {σ : rS} {lv : List (Nat × aV)} (h : lvl σ lv) (ks : List Nat) : lvl σ (ks.filterMap (fun k => lv[k]?)) := by
  intro q hq
  obtain ⟨k, -, hk⟩ := List.mem_filterMap.mp hq
  exact h q (List.mem_of_getElem? hk)
/-! ===== the world ===== -/
/-- the world's cells, and those that come from a size on -/
def rg (σ : rS) (ad : Nat → Nat → Nat) (sz : Nat) : Nat → Prop := fun q => (∃ k i, i < gC σ k ∧ q = ad k i) ∨ sz ≤ q
def Rh (D : va_G) (dA : Nat → ClassId) (A : Nat → Prop) (σ : rS) (ad : Nat → Nat → Nat) (H : Heap) : Prop :=
  (∀ k i k' i', i < gC σ k → i' < gC σ k' → ad k i = ad k' i' → k = k' ∧ i = i') ∧ RfOk σ ∧ (∀ k i, i < gC σ k → A (ad k i)) ∧
  ∃ ws : va_W, va_P D vwCl ws H ∧ (∀ (i j : Nat) (p q : Nat × va_E), ws[i]? = some p → ws[j]? = some q → p.1 = q.1 → i = j) ∧ (∀ k i, i < gC σ k → ∃ q : Nat, ws[q]? = some (ad k i, ent dA σ ad k i)) ∧ ∀ (q : Nat) (e : Nat × va_E), ws[q]? = some e → ∃ k i, i < gC σ k ∧ e = (ad k i, ent dA σ ad k i)
/-- the later world has the earlier one's cells where they were -/
def Ex (σ0 : rS) (ad0 : Nat → Nat → Nat) (σ : rS) (ad : Nat → Nat → Nat) : Prop := ∀ k i, i < gC σ0 k → i < gC σ k ∧ ad k i = ad0 k i
theorem ex_rf {σ : rS} {ad : Nat → Nat → Nat} : Ex σ ad σ ad := fun _ _ h => ⟨h, rfl⟩
theorem ex_tr {σ0 σ1 σ2 : rS} {a0 a1 a2 : Nat → Nat → Nat} (h : Ex σ0 a0 σ1 a1) (h2 : Ex σ1 a1 σ2 a2) : Ex σ0 a0 σ2 a2 := fun k i hi => ⟨(h2 k i (h k i hi).1).1, (h2 k i (h k i hi).1).2.trans (h k i hi).2⟩
theorem ex_al {σ σ2 : rS} {a a2 : Nat → Nat → Nat} (h : Ex σ a σ2 a2) {v : aV} (hv : al σ v) : al σ2 v := by
  match v, hv with
  | .inl _, _ => trivial
  | .inr (k, o), hv => exact fun i hi => (h k i (hv i hi)).1
theorem ex_av {σ σ2 : rS} {a a2 : Nat → Nat → Nat} (h : Ex σ a σ2 a2) {v : aV} (hv : al σ v) : av a2 v = av a v := by
  match v, hv with
  | .inl _, _ => rfl
  | .inr (k, none), _ => rfl
  | .inr (k, some i), hv =>
    show Value.ref (a2 k i) = Value.ref (a k i)
    rw [(h k i (hv i rfl)).2]
theorem ex_als {σ σ2 : rS} {a a2 : Nat → Nat → Nat} (h : Ex σ a σ2 a2) : ∀ {st : List aV}, als σ st → als σ2 st ∧ st.map (av a2) = st.map (av a)
  | [], _ => ⟨trivial, rfl⟩
  | v :: r, hv => by
    obtain ⟨q1, q2⟩ := ex_als h hv.2
    exact ⟨⟨ex_al h hv.1, q1⟩, by simp only [List.map_cons, q2, ex_av h hv.1]⟩
theorem ex_lv {σ σ2 : rS} {a a2 : Nat → Nat → Nat} (h : Ex σ a σ2 a2) {lv : List (Nat × aV)} (hv : lvl σ lv) : lvl σ2 lv ∧ lm a2 lv = lm a lv := by
  refine ⟨fun q hq => ex_al h (hv q hq), ?_⟩
  unfold lm
  apply List.map_congr_left
  intro q hq
  rw [ex_av h (hv q hq)]
/-- what the tables say -/
def KK (D : va_G) (dA : Nat → ClassId) (U : State) : Prop := (∀ (c : Nat) (q : vw_C), vwCl[c]? = some q → u_Kn U q.1 q.2.1 q.2.2 (D.1 c) (D.2 c)) ∧ (∀ k, (lyA k).1 < 9 → ArrOfT U (dA k) (lyT k) ∧ va_RA U (dA k) (lyT k)) ∧ va_Nw (.methodLinkNest RX10 35 yX8_init "PackDesk") U ∧ va_Nw (.methodLinkNest RX10 42 yX5_init "PackDesk") U ∧ va_Nw (.methodLinkNest RX10 49 yX6_init "PackDesk") U ∧ va_Nw (.methodLinkNest RX10 314 yX9_init "PackDesk") U ∧ va_Nw (.methodLinkNest RX6 30 yX10_isCoder "PackDesk") U ∧ va_Nw (.methodLinkNest RX6 34 yX10_isKind "PackDesk") U ∧ va_Nw (.methodLinkNest RX10 202 yX3_init "PackDesk") U ∧ va_Nw (.methodLinkNest RX8 35 yX0_init "PackDesk") U ∧ va_AO "PackDesk$Row" U ∧ va_AO "PackDesk$Stream" U ∧ va_AO "PackDesk$House" U ∧ va_AO "PackDesk$Delta" U ∧ va_AO "PackDesk$Body" U
theorem kk_va {D : va_G} {dA : Nat → ClassId} {U : State} (h : KK D dA U) (k : Nat) (hk : (lyA k).1 < 9) : va_K D vwCl [(dA k, lyT k)] U := ⟨h.1, fun j q hj => by
  cases j with
  | zero => cases hj; exact h.2.1 k hk
  | succ j => simp at hj⟩
theorem kk_v0 {D : va_G} {dA : Nat → ClassId} {U : State} (h : KK D dA U) : va_K D vwCl [] U := ⟨h.1, fun j q hj => by simp at hj⟩
theorem kk_warm {D : va_G} {dA : Nat → ClassId} {s U : State} (hW : s.WarmedH U.vm) (h : KK D dA s) : KK D dA U := by
  obtain ⟨h1, h2, n0, n1, n2, n3, n4, n5, n6, n7, a0, a1, a2, a3, a4⟩ := h
  exact ⟨fun c q hq => u_Kn_moved hW.alike (h1 c q hq), fun k hk => ⟨arrOfT_moved hW.alike (h2 k hk).1, (h2 k hk).2.moved hW.alike⟩, va_Nw.warmM hW n0, va_Nw.warmM hW n1, va_Nw.warmM hW n2, va_Nw.warmM hW n3, va_Nw.warmM hW n4, va_Nw.warmM hW n5, va_Nw.warmM hW n6, va_Nw.warmM hW n7, va_AO.moved hW.alike a0, va_AO.moved hW.alike a1, va_AO.moved hW.alike a2, va_AO.moved hW.alike a3, va_AO.moved hW.alike a4⟩
theorem kk_same {D : va_G} {dA : Nat → ClassId} {s U : State} (e : s.vm = U.vm) (h : KK D dA s) : KK D dA U := by
  obtain ⟨h1, h2, n0, n1, n2, n3, n4, n5, n6, n7, a0, a1, a2, a3, a4⟩ := h
  have ha : s.vm.Alike U.vm := by rw [e]; exact Vm.Alike.refl _
  exact ⟨fun c q hq => u_Kn_moved ha (h1 c q hq), fun k hk => ⟨arrOfT_moved ha (h2 k hk).1, (h2 k hk).2.moved ha⟩, va_Nw.same rfl e n0, va_Nw.same rfl e n1, va_Nw.same rfl e n2, va_Nw.same rfl e n3, va_Nw.same rfl e n4, va_Nw.same rfl e n5, va_Nw.same rfl e n6, va_Nw.same rfl e n7, va_AO.moved ha a0, va_AO.moved ha a1, va_AO.moved ha a2, va_AO.moved ha a3, va_AO.moved ha a4⟩
/-! ===== contracts ===== -/
def eI (x : Int32) : Option aV := some (aI x)
def eL (x : Int64) : Option aV := some (aL x)
def eF (x : UInt32) : Option aV := some (aF x)
def eD (x : UInt64) : Option aV := some (aD x)
def eZ (b : Bool) : Option aV := some (aI (bi b))
def eV (_ : Unit) : Option aV := none
def eR (k : Nat) (r : Option Nat) : Option aV := some (aO k r)
def jPc (D : va_G) (dA : Nat → ClassId) (σ : rS) (ad : Nat → Nat → Nat) (sz : Nat) (avs : List aV) : Array Value → State → Prop := fun v U => v = (avs.map (av ad)).toArray ∧ U.heap.size = sz ∧ Rh D dA (rg σ ad sz) σ ad U.heap ∧ KK D dA U
def jQc {ρ : Type} (D : va_G) (dA : Nat → ClassId) (er : ρ → Option aV) (σ : rS) (ad : Nat → Nat → Nat) (sz : Nat) (tg : ρ × rS) : Array Value → State → Outcome → State → Prop := fun _ st oc t =>
  (∃ ad', oc = .returned ((er tg.1).map (av ad')) ∧ Rh D dA (rg σ ad sz) tg.2 ad' t.heap ∧ Ex σ ad tg.2 ad' ∧ ∀ v, er tg.1 = some v → al tg.2 v) ∧ va_F (rg σ ad sz) st t
/-- where the function f comes to an end, the method does, with its answer and its world -/
def Ctr {ρ : Type} (l : Launch) (y : MethodName) (cb : ByteArray) (mL : Nat) (rt : Option FieldType) (rm : Room) (er : ρ → Option aV) (avs : List aV) (f : rS → Option (ρ × rS)) : Prop :=
  ∀ (D : va_G) (dA : Nat → ClassId) (σ : rS) (ad : Nat → Nat → Nat) (sz : Nat) (tg : ρ × rS), f σ = some tg → als σ avs → Met l y (Cond.code y cb mL rt :: allW) rm (jPc D dA σ ad sz avs) (jQc D dA er σ ad sz tg) rm.cells rm.slots (rg σ ad sz)
/-! ===== the judgement ===== -/
abbrev jX : Type := Program × Launch × Env × State × MethodId × Array Value × List Frame × Method × Code × va_G × (Nat → ClassId) × rS × (Nat → Nat → Nat)
def jC (Γ : jX) (cc : ByteArray) (own : String) (nL : Nat) (ret : Option FieldType) : Prop := match Γ with
  | (p, _, _, s, m, args, _, meth, c, D, dA, _, _) => p.tables.exec = Jvm.exec ∧ c.code = cc ∧ c.maxLocals = nL ∧ s.vm.findClass own = some m.cls ∧ (∀ w ∈ allW, w.before args s = true) ∧ KK D dA s ∧ meth.locks = false ∧ meth.sig.returnType = ret
def J {ρ : Type} (Γ : jX) (R : Room) (er : ρ → Option aV) (cc : ByteArray) (own : String) (nL : Nat) (ret : Option FieldType) (tg : ρ × rS) (kc ks : Nat) (pc : Nat) (lv : List (Nat × aV)) (st : List aV) (σ : rS) (res : Option (ρ × rS)) : Prop := match Γ with
  | (p, l, e, s, m, args, below, meth, c, D, dA, σ0, ad0) => jC (p, l, e, s, m, args, below, meth, c, D, dA, σ0, ad0) cc own nL ret → res = some tg → ∀ (H : Heap) (locs : List Loc) (ad : Nat → Nat → Nat) (ls : Array Slot), Rh D dA (rg σ0 ad0 s.heap.size) σ ad H → Ex σ0 ad0 σ ad → va_S (rg σ0 ad0 s.heap.size) s.heap H locs → als σ st → lvl σ lv → lv_has ls nL (lm ad lv) → W p l e R s m args below meth c H locs kc ks (MQ below (jQc D dA er σ0 ad0 s.heap.size tg) args s R.cells R.slots (rg σ0 ad0 s.heap.size)) (F0 m pc ls (st.map (av ad)))
section JR
variable {ρ : Type} {Γ : jX} {R : Room} {er : ρ → Option aV} {cc : ByteArray} {own : String} {nL : Nat} {ret : Option FieldType} {tg : ρ × rS} {kc ks : Nat} {pc : Nat} {lv lv' : List (Nat × aV)} {st : List aV} {σ : rS} {res : Option (ρ × rS)}
theorem j_none : J Γ R er cc own nL ret tg kc ks pc lv st σ none := by
  obtain ⟨p, l, e, s, m, args, below, meth, c, D, dA, σ0, ad0⟩ := Γ
  intro C hres
  cases hres
theorem j_eq {res2 : Option (ρ × rS)} (h : res = res2) (k : J Γ R er cc own nL ret tg kc ks pc lv st σ res2) : J Γ R er cc own nL ret tg kc ks pc lv st σ res := by rw [h]; exact k
/-- fewer locals, in any order -/
theorem j_sub (ks' : List Nat) (hl : ks'.filterMap (fun k => lv[k]?) = lv') (k : J Γ R er cc own nL ret tg kc ks pc lv' st σ res) : J Γ R er cc own nL ret tg kc ks pc lv st σ res := by
  obtain ⟨p, l, e, s, m, args, below, meth, c, D, dA, σ0, ad0⟩ := Γ
  intro C hres H locs ad ls hR hE hS hst hlv hL
  subst hl
  exact k C hres H locs ad ls hR hE hS hst (lvl_pick hlv ks') (lv_sub hL ks' (lm_pick ks'))
theorem j_wide {kc2 ks2 : Nat} (h1 : kc ≤ kc2) (h2 : ks ≤ ks2) (k : J Γ R er cc own nL ret tg kc2 ks2 pc lv st σ res) : J Γ R er cc own nL ret tg kc ks pc lv st σ res := by
  obtain ⟨p, l, e, s, m, args, below, meth, c, D, dA, σ0, ad0⟩ := Γ
  intro C hres H locs ad ls hR hE hS hst hlv hL
  exact W.widen h1 h2 (k C hres H locs ad ls hR hE hS hst hlv hL)
/-- an instruction that changes the stack alone -/
theorem j_pure {pc2 : Nat} {st2 : List aV} (ha : als σ st → als σ st2) (hw : ∀ {p : Program} {l : Launch} {e : Env} {s : State} {m : MethodId} {args : Array Value} {below : List Frame} {meth : Method} {c : Code} {H : Heap} {locs : List Loc} {Q : State → Prop} {ls : Array Slot} (ad : Nat → Nat → Nat), p.tables.exec = Jvm.exec → c.code = cc → W p l e R s m args below meth c H locs kc ks Q (F0 m pc2 ls (st2.map (av ad))) → W p l e R s m args below meth c H locs kc ks Q (F0 m pc ls (st.map (av ad)))) (k : J Γ R er cc own nL ret tg kc ks pc2 lv st2 σ res) : J Γ R er cc own nL ret tg kc ks pc lv st σ res := by
  obtain ⟨p, l, e, s, m, args, below, meth, c, D, dA, σ0, ad0⟩ := Γ
  intro C hres H locs ad ls hR hE hS hst hlv hL
  exact hw ad C.1 C.2.1 (k C hres H locs ad ls hR hE hS (ha hst) hlv hL)
theorem j_iadd {x y : Int32} (d : decode cc pc = .ok (.iadd, 1)) (k : J Γ R er cc own nL ret tg kc ks (pc + 1) lv (aI (x + y) :: st) σ res) : J Γ R er cc own nL ret tg kc ks pc lv (aI y :: aI x :: st) σ res := j_pure (st := aI y :: aI x :: st) (st2 := aI (x + y) :: st) (fun hst => ⟨trivial, hst.2.2⟩) (fun ad hx hb k => lv_iadd hx hb d k) k
theorem j_ladd {x y : Int64} (d : decode cc pc = .ok (.ladd, 1)) (k : J Γ R er cc own nL ret tg kc ks (pc + 1) lv (aL (x + y) :: st) σ res) : J Γ R er cc own nL ret tg kc ks pc lv (aL y :: aL x :: st) σ res := j_pure (st := aL y :: aL x :: st) (st2 := aL (x + y) :: st) (fun hst => ⟨trivial, hst.2.2⟩) (fun ad hx hb k => lv_ladd hx hb d k) k
theorem j_isub {x y : Int32} (d : decode cc pc = .ok (.isub, 1)) (k : J Γ R er cc own nL ret tg kc ks (pc + 1) lv (aI (x - y) :: st) σ res) : J Γ R er cc own nL ret tg kc ks pc lv (aI y :: aI x :: st) σ res := j_pure (st := aI y :: aI x :: st) (st2 := aI (x - y) :: st) (fun hst => ⟨trivial, hst.2.2⟩) (fun ad hx hb k => lv_isub hx hb d k) k
theorem j_lsub {x y : Int64} (d : decode cc pc = .ok (.lsub, 1)) (k : J Γ R er cc own nL ret tg kc ks (pc + 1) lv (aL (x - y) :: st) σ res) : J Γ R er cc own nL ret tg kc ks pc lv (aL y :: aL x :: st) σ res := j_pure (st := aL y :: aL x :: st) (st2 := aL (x - y) :: st) (fun hst => ⟨trivial, hst.2.2⟩) (fun ad hx hb k => lv_lsub hx hb d k) k
theorem j_imul {x y : Int32} (d : decode cc pc = .ok (.imul, 1)) (k : J Γ R er cc own nL ret tg kc ks (pc + 1) lv (aI (x * y) :: st) σ res) : J Γ R er cc own nL ret tg kc ks pc lv (aI y :: aI x :: st) σ res := j_pure (st := aI y :: aI x :: st) (st2 := aI (x * y) :: st) (fun hst => ⟨trivial, hst.2.2⟩) (fun ad hx hb k => lv_imul hx hb d k) k
theorem j_lmul {x y : Int64} (d : decode cc pc = .ok (.lmul, 1)) (k : J Γ R er cc own nL ret tg kc ks (pc + 1) lv (aL (x * y) :: st) σ res) : J Γ R er cc own nL ret tg kc ks pc lv (aL y :: aL x :: st) σ res := j_pure (st := aL y :: aL x :: st) (st2 := aL (x * y) :: st) (fun hst => ⟨trivial, hst.2.2⟩) (fun ad hx hb k => lv_lmul hx hb d k) k
theorem j_iand {x y : Int32} (d : decode cc pc = .ok (.iand, 1)) (k : J Γ R er cc own nL ret tg kc ks (pc + 1) lv (aI (x &&& y) :: st) σ res) : J Γ R er cc own nL ret tg kc ks pc lv (aI y :: aI x :: st) σ res := j_pure (st := aI y :: aI x :: st) (st2 := aI (x &&& y) :: st) (fun hst => ⟨trivial, hst.2.2⟩) (fun ad hx hb k => lv_iand hx hb d k) k
theorem j_land {x y : Int64} (d : decode cc pc = .ok (.land, 1)) (k : J Γ R er cc own nL ret tg kc ks (pc + 1) lv (aL (x &&& y) :: st) σ res) : J Γ R er cc own nL ret tg kc ks pc lv (aL y :: aL x :: st) σ res := j_pure (st := aL y :: aL x :: st) (st2 := aL (x &&& y) :: st) (fun hst => ⟨trivial, hst.2.2⟩) (fun ad hx hb k => lv_land hx hb d k) k
theorem j_ior {x y : Int32} (d : decode cc pc = .ok (.ior, 1)) (k : J Γ R er cc own nL ret tg kc ks (pc + 1) lv (aI (x ||| y) :: st) σ res) : J Γ R er cc own nL ret tg kc ks pc lv (aI y :: aI x :: st) σ res := j_pure (st := aI y :: aI x :: st) (st2 := aI (x ||| y) :: st) (fun hst => ⟨trivial, hst.2.2⟩) (fun ad hx hb k => lv_ior hx hb d k) k
theorem j_lor {x y : Int64} (d : decode cc pc = .ok (.lor, 1)) (k : J Γ R er cc own nL ret tg kc ks (pc + 1) lv (aL (x ||| y) :: st) σ res) : J Γ R er cc own nL ret tg kc ks pc lv (aL y :: aL x :: st) σ res := j_pure (st := aL y :: aL x :: st) (st2 := aL (x ||| y) :: st) (fun hst => ⟨trivial, hst.2.2⟩) (fun ad hx hb k => lv_lor hx hb d k) k
theorem j_ixor {x y : Int32} (d : decode cc pc = .ok (.ixor, 1)) (k : J Γ R er cc own nL ret tg kc ks (pc + 1) lv (aI (x ^^^ y) :: st) σ res) : J Γ R er cc own nL ret tg kc ks pc lv (aI y :: aI x :: st) σ res := j_pure (st := aI y :: aI x :: st) (st2 := aI (x ^^^ y) :: st) (fun hst => ⟨trivial, hst.2.2⟩) (fun ad hx hb k => lv_ixor hx hb d k) k
theorem j_lxor {x y : Int64} (d : decode cc pc = .ok (.lxor, 1)) (k : J Γ R er cc own nL ret tg kc ks (pc + 1) lv (aL (x ^^^ y) :: st) σ res) : J Γ R er cc own nL ret tg kc ks pc lv (aL y :: aL x :: st) σ res := j_pure (st := aL y :: aL x :: st) (st2 := aL (x ^^^ y) :: st) (fun hst => ⟨trivial, hst.2.2⟩) (fun ad hx hb k => lv_lxor hx hb d k) k
theorem j_ishl {x y : Int32} (d : decode cc pc = .ok (.ishl, 1)) (k : J Γ R er cc own nL ret tg kc ks (pc + 1) lv (aI (x <<< (y &&& 31)) :: st) σ res) : J Γ R er cc own nL ret tg kc ks pc lv (aI y :: aI x :: st) σ res := j_pure (st := aI y :: aI x :: st) (st2 := aI (x <<< (y &&& 31)) :: st) (fun hst => ⟨trivial, hst.2.2⟩) (fun ad hx hb k => lv_ishl hx hb d k) k
theorem j_ishr {x y : Int32} (d : decode cc pc = .ok (.ishr, 1)) (k : J Γ R er cc own nL ret tg kc ks (pc + 1) lv (aI (x >>> (y &&& 31)) :: st) σ res) : J Γ R er cc own nL ret tg kc ks pc lv (aI y :: aI x :: st) σ res := j_pure (st := aI y :: aI x :: st) (st2 := aI (x >>> (y &&& 31)) :: st) (fun hst => ⟨trivial, hst.2.2⟩) (fun ad hx hb k => lv_ishr hx hb d k) k
theorem j_lshl {x : Int64} {y : Int32} (d : decode cc pc = .ok (.lshl, 1)) (k : J Γ R er cc own nL ret tg kc ks (pc + 1) lv (aL (x <<< (y.toInt64 &&& 63)) :: st) σ res) : J Γ R er cc own nL ret tg kc ks pc lv (aI y :: aL x :: st) σ res := j_pure (st := aI y :: aL x :: st) (st2 := aL (x <<< (y.toInt64 &&& 63)) :: st) (fun hst => ⟨trivial, hst.2.2⟩) (fun ad hx hb k => lv_lshl hx hb d rfl k) k
theorem j_lshr {x : Int64} {y : Int32} (d : decode cc pc = .ok (.lshr, 1)) (k : J Γ R er cc own nL ret tg kc ks (pc + 1) lv (aL (x >>> (y.toInt64 &&& 63)) :: st) σ res) : J Γ R er cc own nL ret tg kc ks pc lv (aI y :: aL x :: st) σ res := j_pure (st := aI y :: aL x :: st) (st2 := aL (x >>> (y.toInt64 &&& 63)) :: st) (fun hst => ⟨trivial, hst.2.2⟩) (fun ad hx hb k => lv_lshr hx hb d rfl k) k
theorem j_lushr {x : Int64} {y : Int32} (d : decode cc pc = .ok (.lushr, 1)) (k : J Γ R er cc own nL ret tg kc ks (pc + 1) lv (aL (x.toUInt64 >>> (y.toInt64.toUInt64 &&& Int64.toUInt64 63)).toInt64 :: st) σ res) : J Γ R er cc own nL ret tg kc ks pc lv (aI y :: aL x :: st) σ res := j_pure (st := aI y :: aL x :: st) (st2 := aL (x.toUInt64 >>> (y.toInt64.toUInt64 &&& Int64.toUInt64 63)).toInt64 :: st) (fun hst => ⟨trivial, hst.2.2⟩) (fun ad hx hb k => lv_lushr hx hb d rfl k) k
theorem j_ineg {x : Int32} (d : decode cc pc = .ok (.ineg, 1)) (k : J Γ R er cc own nL ret tg kc ks (pc + 1) lv (aI (-x) :: st) σ res) : J Γ R er cc own nL ret tg kc ks pc lv (aI x :: st) σ res := j_pure (st := aI x :: st) (st2 := aI (-x) :: st) (fun hst => ⟨trivial, hst.2⟩) (fun ad hx hb k => lv_ineg hx hb d k) k
theorem j_lneg {x : Int64} (d : decode cc pc = .ok (.lneg, 1)) (k : J Γ R er cc own nL ret tg kc ks (pc + 1) lv (aL (-x) :: st) σ res) : J Γ R er cc own nL ret tg kc ks pc lv (aL x :: st) σ res := j_pure (st := aL x :: st) (st2 := aL (-x) :: st) (fun hst => ⟨trivial, hst.2⟩) (fun ad hx hb k => lv_lneg hx hb d k) k
theorem j_i2l {x : Int32} (d : decode cc pc = .ok (.i2l, 1)) (k : J Γ R er cc own nL ret tg kc ks (pc + 1) lv (aL x.toInt64 :: st) σ res) : J Γ R er cc own nL ret tg kc ks pc lv (aI x :: st) σ res := j_pure (st := aI x :: st) (st2 := aL x.toInt64 :: st) (fun hst => ⟨trivial, hst.2⟩) (fun ad hx hb k => lv_i2l hx hb d rfl k) k
theorem j_l2i {x : Int64} (d : decode cc pc = .ok (.l2i, 1)) (k : J Γ R er cc own nL ret tg kc ks (pc + 1) lv (aI x.toInt32 :: st) σ res) : J Γ R er cc own nL ret tg kc ks pc lv (aL x :: st) σ res := j_pure (st := aL x :: st) (st2 := aI x.toInt32 :: st) (fun hst => ⟨trivial, hst.2⟩) (fun ad hx hb k => lv_l2i hx hb d rfl k) k
theorem j_i2b {x : Int32} (d : decode cc pc = .ok (.i2b, 1)) (k : J Γ R er cc own nL ret tg kc ks (pc + 1) lv (aI x.toInt8.toInt32 :: st) σ res) : J Γ R er cc own nL ret tg kc ks pc lv (aI x :: st) σ res := j_pure (st := aI x :: st) (st2 := aI x.toInt8.toInt32 :: st) (fun hst => ⟨trivial, hst.2⟩) (fun ad hx hb k => lv_i2b hx hb d rfl k) k
theorem j_i2s {x : Int32} (d : decode cc pc = .ok (.i2s, 1)) (k : J Γ R er cc own nL ret tg kc ks (pc + 1) lv (aI x.toInt16.toInt32 :: st) σ res) : J Γ R er cc own nL ret tg kc ks pc lv (aI x :: st) σ res := j_pure (st := aI x :: st) (st2 := aI x.toInt16.toInt32 :: st) (fun hst => ⟨trivial, hst.2⟩) (fun ad hx hb k => lv_i2s hx hb d rfl k) k
theorem j_i2c {x : Int32} (d : decode cc pc = .ok (.i2c, 1)) (k : J Γ R er cc own nL ret tg kc ks (pc + 1) lv (aI (x.toUInt32 % 65536).toInt32 :: st) σ res) : J Γ R er cc own nL ret tg kc ks pc lv (aI x :: st) σ res := j_pure (st := aI x :: st) (st2 := aI (x.toUInt32 % 65536).toInt32 :: st) (fun hst => ⟨trivial, hst.2⟩) (fun ad hx hb k => lv_i2c hx hb d rfl k) k
theorem j_iconst {n : Int} {v : Int32} (hv : Int32.ofInt n = v) (d : decode cc pc = .ok (.iconst n, 1)) (k : J Γ R er cc own nL ret tg kc ks (pc + 1) lv (aI v :: st) σ res) : J Γ R er cc own nL ret tg kc ks pc lv (st) σ res := j_pure (st := st) (st2 := aI v :: st) (fun hst => ⟨trivial, hst⟩) (fun ad hx hb k => lv_iconst hx hb d hv k) k
theorem j_bipush {n : Int} {v : Int32} (hv : (Int8.ofInt n).toInt32 = v) (d : decode cc pc = .ok (.bipush n, 2)) (k : J Γ R er cc own nL ret tg kc ks (pc + 2) lv (aI v :: st) σ res) : J Γ R er cc own nL ret tg kc ks pc lv (st) σ res := j_pure (st := st) (st2 := aI v :: st) (fun hst => ⟨trivial, hst⟩) (fun ad hx hb k => lv_bipush hx hb d hv k) k
theorem j_sipush {n : Int} {v : Int32} (hv : (Int16.ofInt n).toInt32 = v) (d : decode cc pc = .ok (.sipush n, 3)) (k : J Γ R er cc own nL ret tg kc ks (pc + 3) lv (aI v :: st) σ res) : J Γ R er cc own nL ret tg kc ks pc lv (st) σ res := j_pure (st := st) (st2 := aI v :: st) (fun hst => ⟨trivial, hst⟩) (fun ad hx hb k => lv_sipush hx hb d hv k) k
theorem j_lconst {n : Fin 2} {v : Int64} (hv : Int64.ofNat (n : Nat) = v) (d : decode cc pc = .ok (.lconst n, 1)) (k : J Γ R er cc own nL ret tg kc ks (pc + 1) lv (aL v :: st) σ res) : J Γ R er cc own nL ret tg kc ks pc lv (st) σ res := j_pure (st := st) (st2 := aL v :: st) (fun hst => ⟨trivial, hst⟩) (fun ad hx hb k => lv_lconst hx hb d hv k) k
theorem j_dcmp {x y : UInt64} {op : CmpOp} (d : decode cc pc = .ok (.dcmp op, 1)) (k : J Γ R er cc own nL ret tg kc ks (pc + 1) lv (aI (Op.cmpValue (FP.dcmp x y) op) :: st) σ res) : J Γ R er cc own nL ret tg kc ks pc lv (aD y :: aD x :: st) σ res := j_pure (st := aD y :: aD x :: st) (st2 := aI (Op.cmpValue (FP.dcmp x y) op) :: st) (fun hst => ⟨trivial, hst.2.2⟩) (fun ad hx hb k => lv_dcmp hx hb d k) k
theorem j_d2l {x : UInt64} (d : decode cc pc = .ok (.d2l, 1)) (k : J Γ R er cc own nL ret tg kc ks (pc + 1) lv (aL (FP.d2l x) :: st) σ res) : J Γ R er cc own nL ret tg kc ks pc lv (aD x :: st) σ res := j_pure (st := aD x :: st) (st2 := aL (FP.d2l x) :: st) (fun hst => ⟨trivial, hst.2⟩) (fun ad hx hb k => lv_d2l hx hb d k) k
theorem j_l2d {x : Int64} (d : decode cc pc = .ok (.l2d, 1)) (k : J Γ R er cc own nL ret tg kc ks (pc + 1) lv (aD (FP.l2d x) :: st) σ res) : J Γ R er cc own nL ret tg kc ks pc lv (aL x :: st) σ res := j_pure (st := aL x :: st) (st2 := aD (FP.l2d x) :: st) (fun hst => ⟨trivial, hst.2⟩) (fun ad hx hb k => lv_l2d hx hb d k) k
theorem j_lcmp {x y : Int64} (d : decode cc pc = .ok (.lcmp, 1)) (k : J Γ R er cc own nL ret tg kc ks (pc + 1) lv (aI (lg_cmp x y) :: st) σ res) : J Γ R er cc own nL ret tg kc ks pc lv (aL y :: aL x :: st) σ res := j_pure (st := aL y :: aL x :: st) (st2 := aI (lg_cmp x y) :: st) (fun hst => ⟨trivial, hst.2.2⟩) (fun ad hx hb k => W.lcmp hx hb d k) k
end JR
