/-! ===== what the functions are made of ===== -/
def ock {α : Type} (c : Prop) [Decidable c] (A : Option α) : Option α := if c then A else none
def obind {α β : Type} (x : Option (α × rS)) (F : α → rS → Option β) : Option β := match x with
  | none => none
  | some q => F q.1 q.2
def onul {α : Type} (x : Option Nat) (A : Option α) (B : Nat → Option α) : Option α := match x with
  | none => A
  | some i => B i
/-- an index into n positions -/
def idx {α : Type} (i : Int32) (n : Nat) (F : Nat → Option α) : Option α := if 0 ≤ i.toInt ∧ i.toInt < n then F i.toInt.toNat else none
def olet {α β : Type} (x : α) (F : α → β) : β := F x
section JL
variable {ρ : Type} {Γ : jX} {R : Room} {er : ρ → Option aV} {cc : ByteArray} {own : String} {nL : Nat} {ret : Option FieldType} {tg : ρ × rS} {kc ks : Nat} {pc : Nat} {lv lv' : List (Nat × aV)} {st : List aV} {σ : rS} {res : Option (ρ × rS)}
theorem j_iload_n {q : Fin 4} {i : Nat} {x : Int32} (a : Nat) (d : decode cc pc = .ok (.iload_n q, 1)) (hi : (q : Nat) = i) (h : lv[a]? = some (i, aI x)) (k : J Γ R er cc own nL ret tg kc ks (pc + 1) lv (aI x :: st) σ res) : J Γ R er cc own nL ret tg kc ks pc lv st σ res := by
  obtain ⟨p, l, e, s, m, args, below, meth, c, D, dA, σ0, ad0⟩ := Γ
  intro C hres H locs ad ls hR hE hS hst hlv hL
  exact lv_iload_n C.1 C.2.1 d hi (lv_at hL a (lm_get h)) (k C hres H locs ad ls hR hE hS ⟨trivial, hst⟩ hlv hL)
theorem j_iload {i : Nat} {x : Int32} (a : Nat) (d : decode cc pc = .ok (.iload i, 2)) (h : lv[a]? = some (i, aI x)) (k : J Γ R er cc own nL ret tg kc ks (pc + 2) lv (aI x :: st) σ res) : J Γ R er cc own nL ret tg kc ks pc lv st σ res := by
  obtain ⟨p, l, e, s, m, args, below, meth, c, D, dA, σ0, ad0⟩ := Γ
  intro C hres H locs ad ls hR hE hS hst hlv hL
  exact lv_iload C.1 C.2.1 d (lv_at hL a (lm_get h)) (k C hres H locs ad ls hR hE hS ⟨trivial, hst⟩ hlv hL)
theorem j_istore_n {q : Fin 4} {i : Nat} {x : Int32} (d : decode cc pc = .ok (.istore_n q, 1)) (hi : (q : Nat) = i) (hn : i < nL) (hl : l1 lv i (aI x) = lv') (k : J Γ R er cc own nL ret tg kc ks (pc + 1) lv' st σ res) : J Γ R er cc own nL ret tg kc ks pc lv (aI x :: st) σ res := by
  obtain ⟨p, l, e, s, m, args, below, meth, c, D, dA, σ0, ad0⟩ := Γ
  intro C hres H locs ad ls hR hE hS hst hlv hL
  subst hl
  exact lv_istore_n C.1 C.2.1 d hi hL hn (lm_l1 (v := aI x)) (fun ls2 hL2 => k C hres H locs ad ls2 hR hE hS hst.2 (lvl_l1 hlv trivial) hL2)
theorem j_istore {i : Nat} {x : Int32} (d : decode cc pc = .ok (.istore i, 2)) (hn : i < nL) (hl : l1 lv i (aI x) = lv') (k : J Γ R er cc own nL ret tg kc ks (pc + 2) lv' st σ res) : J Γ R er cc own nL ret tg kc ks pc lv (aI x :: st) σ res := by
  obtain ⟨p, l, e, s, m, args, below, meth, c, D, dA, σ0, ad0⟩ := Γ
  intro C hres H locs ad ls hR hE hS hst hlv hL
  subst hl
  exact lv_istore C.1 C.2.1 d hL hn (lm_l1 (v := aI x)) (fun ls2 hL2 => k C hres H locs ad ls2 hR hE hS hst.2 (lvl_l1 hlv trivial) hL2)
theorem j_lload_n {q : Fin 4} {i : Nat} {x : Int64} (a : Nat) (d : decode cc pc = .ok (.lload_n q, 1)) (hi : (q : Nat) = i) (h : lv[a]? = some (i, aL x)) (k : J Γ R er cc own nL ret tg kc ks (pc + 1) lv (aL x :: st) σ res) : J Γ R er cc own nL ret tg kc ks pc lv st σ res := by
  obtain ⟨p, l, e, s, m, args, below, meth, c, D, dA, σ0, ad0⟩ := Γ
  intro C hres H locs ad ls hR hE hS hst hlv hL
  exact lv_lload_n C.1 C.2.1 d hi (lv_at hL a (lm_get h)) (k C hres H locs ad ls hR hE hS ⟨trivial, hst⟩ hlv hL)
theorem j_lload {i : Nat} {x : Int64} (a : Nat) (d : decode cc pc = .ok (.lload i, 2)) (h : lv[a]? = some (i, aL x)) (k : J Γ R er cc own nL ret tg kc ks (pc + 2) lv (aL x :: st) σ res) : J Γ R er cc own nL ret tg kc ks pc lv st σ res := by
  obtain ⟨p, l, e, s, m, args, below, meth, c, D, dA, σ0, ad0⟩ := Γ
  intro C hres H locs ad ls hR hE hS hst hlv hL
  exact lv_lload C.1 C.2.1 d (lv_at hL a (lm_get h)) (k C hres H locs ad ls hR hE hS ⟨trivial, hst⟩ hlv hL)
theorem j_lstore_n {q : Fin 4} {i : Nat} {x : Int64} (d : decode cc pc = .ok (.lstore_n q, 1)) (hi : (q : Nat) = i) (hn : i + 1 < nL) (hl : l2 lv i (aL x) = lv') (k : J Γ R er cc own nL ret tg kc ks (pc + 1) lv' st σ res) : J Γ R er cc own nL ret tg kc ks pc lv (aL x :: st) σ res := by
  obtain ⟨p, l, e, s, m, args, below, meth, c, D, dA, σ0, ad0⟩ := Γ
  intro C hres H locs ad ls hR hE hS hst hlv hL
  subst hl
  exact lv_lstore_n C.1 C.2.1 d hi hL hn (lm_l2 (v := aL x)) (fun ls2 hL2 => k C hres H locs ad ls2 hR hE hS hst.2 (lvl_l2 hlv trivial) hL2)
theorem j_lstore {i : Nat} {x : Int64} (d : decode cc pc = .ok (.lstore i, 2)) (hn : i + 1 < nL) (hl : l2 lv i (aL x) = lv') (k : J Γ R er cc own nL ret tg kc ks (pc + 2) lv' st σ res) : J Γ R er cc own nL ret tg kc ks pc lv (aL x :: st) σ res := by
  obtain ⟨p, l, e, s, m, args, below, meth, c, D, dA, σ0, ad0⟩ := Γ
  intro C hres H locs ad ls hR hE hS hst hlv hL
  subst hl
  exact lv_lstore C.1 C.2.1 d hL hn (lm_l2 (v := aL x)) (fun ls2 hL2 => k C hres H locs ad ls2 hR hE hS hst.2 (lvl_l2 hlv trivial) hL2)
theorem j_dload_n {q : Fin 4} {i : Nat} {x : UInt64} (a : Nat) (d : decode cc pc = .ok (.dload_n q, 1)) (hi : (q : Nat) = i) (h : lv[a]? = some (i, aD x)) (k : J Γ R er cc own nL ret tg kc ks (pc + 1) lv (aD x :: st) σ res) : J Γ R er cc own nL ret tg kc ks pc lv st σ res := by
  obtain ⟨p, l, e, s, m, args, below, meth, c, D, dA, σ0, ad0⟩ := Γ
  intro C hres H locs ad ls hR hE hS hst hlv hL
  exact lv_dload_n C.1 C.2.1 d hi (lv_at hL a (lm_get h)) (k C hres H locs ad ls hR hE hS ⟨trivial, hst⟩ hlv hL)
theorem j_dload {i : Nat} {x : UInt64} (a : Nat) (d : decode cc pc = .ok (.dload i, 2)) (h : lv[a]? = some (i, aD x)) (k : J Γ R er cc own nL ret tg kc ks (pc + 2) lv (aD x :: st) σ res) : J Γ R er cc own nL ret tg kc ks pc lv st σ res := by
  obtain ⟨p, l, e, s, m, args, below, meth, c, D, dA, σ0, ad0⟩ := Γ
  intro C hres H locs ad ls hR hE hS hst hlv hL
  exact lv_dload C.1 C.2.1 d (lv_at hL a (lm_get h)) (k C hres H locs ad ls hR hE hS ⟨trivial, hst⟩ hlv hL)
theorem j_dstore_n {q : Fin 4} {i : Nat} {x : UInt64} (d : decode cc pc = .ok (.dstore_n q, 1)) (hi : (q : Nat) = i) (hn : i + 1 < nL) (hl : l2 lv i (aD x) = lv') (k : J Γ R er cc own nL ret tg kc ks (pc + 1) lv' st σ res) : J Γ R er cc own nL ret tg kc ks pc lv (aD x :: st) σ res := by
  obtain ⟨p, l, e, s, m, args, below, meth, c, D, dA, σ0, ad0⟩ := Γ
  intro C hres H locs ad ls hR hE hS hst hlv hL
  subst hl
  exact lv_dstore_n C.1 C.2.1 d hi hL hn (lm_l2 (v := aD x)) (fun ls2 hL2 => k C hres H locs ad ls2 hR hE hS hst.2 (lvl_l2 hlv trivial) hL2)
theorem j_dstore {i : Nat} {x : UInt64} (d : decode cc pc = .ok (.dstore i, 2)) (hn : i + 1 < nL) (hl : l2 lv i (aD x) = lv') (k : J Γ R er cc own nL ret tg kc ks (pc + 2) lv' st σ res) : J Γ R er cc own nL ret tg kc ks pc lv (aD x :: st) σ res := by
  obtain ⟨p, l, e, s, m, args, below, meth, c, D, dA, σ0, ad0⟩ := Γ
  intro C hres H locs ad ls hR hE hS hst hlv hL
  subst hl
  exact lv_dstore C.1 C.2.1 d hL hn (lm_l2 (v := aD x)) (fun ls2 hL2 => k C hres H locs ad ls2 hR hE hS hst.2 (lvl_l2 hlv trivial) hL2)
theorem j_aload_n {q : Fin 4} {i t : Nat} {x : Option Nat} (a : Nat) (d : decode cc pc = .ok (.aload_n q, 1)) (hi : (q : Nat) = i) (h : lv[a]? = some (i, aO t x)) (k : J Γ R er cc own nL ret tg kc ks (pc + 1) lv (aO t x :: st) σ res) : J Γ R er cc own nL ret tg kc ks pc lv st σ res := by
  obtain ⟨p, l, e, s, m, args, below, meth, c, D, dA, σ0, ad0⟩ := Γ
  intro C hres H locs ad ls hR hE hS hst hlv hL
  have hk := k C hres H locs ad ls hR hE hS ⟨lvl_at hlv h, hst⟩ hlv hL
  have hg := lv_at hL a (lm_get h)
  cases x with
  | none => exact lv_aload_nN C.1 C.2.1 d hi hg hk
  | some j => exact lv_aload_n C.1 C.2.1 d hi hg hk
theorem j_aload {i t : Nat} {x : Option Nat} (a : Nat) (d : decode cc pc = .ok (.aload i, 2)) (h : lv[a]? = some (i, aO t x)) (k : J Γ R er cc own nL ret tg kc ks (pc + 2) lv (aO t x :: st) σ res) : J Γ R er cc own nL ret tg kc ks pc lv st σ res := by
  obtain ⟨p, l, e, s, m, args, below, meth, c, D, dA, σ0, ad0⟩ := Γ
  intro C hres H locs ad ls hR hE hS hst hlv hL
  have hk := k C hres H locs ad ls hR hE hS ⟨lvl_at hlv h, hst⟩ hlv hL
  have hg := lv_at hL a (lm_get h)
  cases x with
  | none => exact lv_aloadN C.1 C.2.1 d hg hk
  | some j => exact lv_aload C.1 C.2.1 d hg hk
theorem j_astore_n {q : Fin 4} {i t : Nat} {x : Option Nat} (d : decode cc pc = .ok (.astore_n q, 1)) (hi : (q : Nat) = i) (hn : i < nL) (hl : l1 lv i (aO t x) = lv') (k : J Γ R er cc own nL ret tg kc ks (pc + 1) lv' st σ res) : J Γ R er cc own nL ret tg kc ks pc lv (aO t x :: st) σ res := by
  obtain ⟨p, l, e, s, m, args, below, meth, c, D, dA, σ0, ad0⟩ := Γ
  intro C hres H locs ad ls hR hE hS hst hlv hL
  subst hl
  have hk := fun ls2 hL2 => k C hres H locs ad ls2 hR hE hS hst.2 (lvl_l1 hlv hst.1) hL2
  cases x with
  | none => exact lv_astore_nN C.1 C.2.1 d hi hL hn (lm_l1 (v := aO t none)) hk
  | some j => exact lv_astore_n C.1 C.2.1 d hi hL hn (lm_l1 (v := aR t j)) hk
theorem j_astore {i t : Nat} {x : Option Nat} (d : decode cc pc = .ok (.astore i, 2)) (hn : i < nL) (hl : l1 lv i (aO t x) = lv') (k : J Γ R er cc own nL ret tg kc ks (pc + 2) lv' st σ res) : J Γ R er cc own nL ret tg kc ks pc lv (aO t x :: st) σ res := by
  obtain ⟨p, l, e, s, m, args, below, meth, c, D, dA, σ0, ad0⟩ := Γ
  intro C hres H locs ad ls hR hE hS hst hlv hL
  subst hl
  have hk := fun ls2 hL2 => k C hres H locs ad ls2 hR hE hS hst.2 (lvl_l1 hlv hst.1) hL2
  cases x with
  | none => exact lv_astoreN C.1 C.2.1 d hL hn (lm_l1 (v := aO t none)) hk
  | some j => exact lv_astore C.1 C.2.1 d hL hn (lm_l1 (v := aR t j)) hk
theorem j_iinc {i : Nat} {n : Int} {x w : Int32} (a : Nat) (d : decode cc pc = .ok (.iinc i n, 3)) (h : lv[a]? = some (i, aI x)) (hw : Int32.ofInt n = w) (hn : i < nL) (hl : l1 lv i (aI (x + w)) = lv') (k : J Γ R er cc own nL ret tg kc ks (pc + 3) lv' st σ res) : J Γ R er cc own nL ret tg kc ks pc lv st σ res := by
  obtain ⟨p, l, e, s, m, args, below, meth, c, D, dA, σ0, ad0⟩ := Γ
  intro C hres H locs ad ls hR hE hS hst hlv hL
  subst hl
  exact lv_iinc C.1 C.2.1 d hL (lm_get h) (by rw [hw]) hn (lm_l1 (v := aI (x + w))) (fun ls2 hL2 => k C hres H locs ad ls2 hR hE hS hst (lvl_l1 hlv trivial) hL2)
theorem j_null (t : Nat) (d : decode cc pc = .ok (.aconst_null, 1)) (k : J Γ R er cc own nL ret tg kc ks (pc + 1) lv (aO t none :: st) σ res) : J Γ R er cc own nL ret tg kc ks pc lv st σ res := by
  obtain ⟨p, l, e, s, m, args, below, meth, c, D, dA, σ0, ad0⟩ := Γ
  intro C hres H locs ad ls hR hE hS hst hlv hL
  exact lv_null C.1 C.2.1 d (k C hres H locs ad ls hR hE hS ⟨al_nul, hst⟩ hlv hL)
theorem j_dup {v : aV} (d : decode cc pc = .ok (.dup, 1)) (hv : ac v = 1) (k : J Γ R er cc own nL ret tg kc ks (pc + 1) lv (v :: v :: st) σ res) : J Γ R er cc own nL ret tg kc ks pc lv (v :: st) σ res := j_pure (st := v :: st) (st2 := v :: v :: st) (fun hst => ⟨hst.1, hst.1, hst.2⟩) (fun ad hx hb k => lv_dup hx hb d ((av_ac ad v).trans hv) k) k
theorem j_dup2 {v w : aV} (d : decode cc pc = .ok (.dup2, 1)) (hv : ac v = 1) (hw : ac w = 1) (k : J Γ R er cc own nL ret tg kc ks (pc + 1) lv (v :: w :: v :: w :: st) σ res) : J Γ R er cc own nL ret tg kc ks pc lv (v :: w :: st) σ res := j_pure (st := v :: w :: st) (st2 := v :: w :: v :: w :: st) (fun hst => ⟨hst.1, hst.2.1, hst.1, hst.2.1, hst.2.2⟩) (fun ad hx hb k => lv_dup2_11 hx hb d ((av_ac ad v).trans hv) ((av_ac ad w).trans hw) k) k
theorem j_pop {v : aV} (d : decode cc pc = .ok (.pop, 1)) (hv : ac v = 1) (k : J Γ R er cc own nL ret tg kc ks (pc + 1) lv st σ res) : J Γ R er cc own nL ret tg kc ks pc lv (v :: st) σ res := j_pure (st := v :: st) (st2 := st) (fun hst => hst.2) (fun ad hx hb k => lv_pop hx hb d ((av_ac ad v).trans hv) k) k
theorem j_goto {off : Int} {tgt : Nat} (d : decode cc pc = .ok (.goto off, 3)) (ht : (pc : Int) + off = (tgt : Int)) (k : J Γ R er cc own nL ret tg kc ks tgt lv st σ res) : J Γ R er cc own nL ret tg kc ks pc lv st σ res := j_pure id (fun ad hx hb k => lv_goto hx hb d ht k) k
theorem j_ldc2 {index : Nat} {v : Int64} (hc : Cond.constantLong own index v ∈ allW) (d : decode cc pc = .ok (.ldc2_w index, 3)) (k : J Γ R er cc own nL ret tg kc ks (pc + 3) lv (aL v :: st) σ res) : J Γ R er cc own nL ret tg kc ks pc lv st σ res := by
  obtain ⟨p, l, e, s, m, args, below, meth, c, D, dA, σ0, ad0⟩ := Γ
  intro C hres H locs ad ls hR hE hS hst hlv hL
  exact lv_ldc2 C.1 C.2.1 C.2.2.2.1 (C.2.2.2.2.1 _ hc) d (k C hres H locs ad ls hR hE hS ⟨trivial, hst⟩ hlv hL)
theorem j_ldc2d {index : Nat} {v : UInt64} (hc : Cond.constantDouble own index v ∈ allW) (d : decode cc pc = .ok (.ldc2_w index, 3)) (k : J Γ R er cc own nL ret tg kc ks (pc + 3) lv (aD v :: st) σ res) : J Γ R er cc own nL ret tg kc ks pc lv st σ res := by
  obtain ⟨p, l, e, s, m, args, below, meth, c, D, dA, σ0, ad0⟩ := Γ
  intro C hres H locs ad ls hR hE hS hst hlv hL
  exact lv_ldc2d C.1 C.2.1 C.2.2.2.1 (C.2.2.2.2.1 _ hc) d (k C hres H locs ad ls hR hE hS ⟨trivial, hst⟩ hlv hL)
theorem j_ldc {index : Nat} {v : Int32} (hc : Cond.constant own index v ∈ allW) (d : decode cc pc = .ok (.ldc index, 2)) (k : J Γ R er cc own nL ret tg kc ks (pc + 2) lv (aI v :: st) σ res) : J Γ R er cc own nL ret tg kc ks pc lv st σ res := by
  obtain ⟨p, l, e, s, m, args, below, meth, c, D, dA, σ0, ad0⟩ := Γ
  intro C hres H locs ad ls hR hE hS hst hlv hL
  exact lv_ldc C.1 C.2.1 C.2.2.2.1 (C.2.2.2.2.1 _ hc) d (k C hres H locs ad ls hR hE hS ⟨trivial, hst⟩ hlv hL)
theorem j_dconst0 (d : decode cc pc = .ok (.dconst 0, 1)) (k : J Γ R er cc own nL ret tg kc ks (pc + 1) lv (aD 0 :: st) σ res) : J Γ R er cc own nL ret tg kc ks pc lv st σ res := j_pure (st2 := aD 0 :: st) (fun hst => ⟨trivial, hst⟩) (fun ad hx hb k => lv_dconst0 hx hb d k) k
theorem j_dconst1 (d : decode cc pc = .ok (.dconst 1, 1)) (k : J Γ R er cc own nL ret tg kc ks (pc + 1) lv (aD 0x3ff0000000000000 :: st) σ res) : J Γ R er cc own nL ret tg kc ks pc lv st σ res := j_pure (st2 := aD 0x3ff0000000000000 :: st) (fun hst => ⟨trivial, hst⟩) (fun ad hx hb k => lv_dconst1 hx hb d k) k
theorem j_ifeq {x : Int32} {off : Int} {tgt : Nat} {A B : Option (ρ × rS)} (d : decode cc pc = .ok (.ifCond .eq off, 3)) (ht : (pc : Int) + off = (tgt : Int)) (kt : x = 0 → J Γ R er cc own nL ret tg kc ks tgt lv st σ A) (kf : ¬ x = 0 → J Γ R er cc own nL ret tg kc ks (pc + 3) lv st σ B) : J Γ R er cc own nL ret tg kc ks pc lv (aI x :: st) σ (if x = 0 then A else B) := by
  obtain ⟨p, l, e, s, m, args, below, meth, c, D, dA, σ0, ad0⟩ := Γ
  intro C hres H locs ad ls hR hE hS hst hlv hL
  refine lv_if_eq C.1 C.2.1 d ht (fun h => ?_) (fun h => ?_)
  · rw [if_pos h] at hres
    exact kt h C hres H locs ad ls hR hE hS hst.2 hlv hL
  · rw [if_neg h] at hres
    exact kf h C hres H locs ad ls hR hE hS hst.2 hlv hL
theorem j_ifne {x : Int32} {off : Int} {tgt : Nat} {A B : Option (ρ × rS)} (d : decode cc pc = .ok (.ifCond .ne off, 3)) (ht : (pc : Int) + off = (tgt : Int)) (kt : ¬ x = 0 → J Γ R er cc own nL ret tg kc ks tgt lv st σ A) (kf : x = 0 → J Γ R er cc own nL ret tg kc ks (pc + 3) lv st σ B) : J Γ R er cc own nL ret tg kc ks pc lv (aI x :: st) σ (if x = 0 then B else A) := by
  obtain ⟨p, l, e, s, m, args, below, meth, c, D, dA, σ0, ad0⟩ := Γ
  intro C hres H locs ad ls hR hE hS hst hlv hL
  refine lv_if_ne C.1 C.2.1 d ht (fun h => ?_) (fun h => ?_)
  · rw [if_neg h] at hres
    exact kt h C hres H locs ad ls hR hE hS hst.2 hlv hL
  · rw [if_pos h] at hres
    exact kf h C hres H locs ad ls hR hE hS hst.2 hlv hL
theorem j_iflt {x : Int32} {off : Int} {tgt : Nat} {A B : Option (ρ × rS)} (d : decode cc pc = .ok (.ifCond .lt off, 3)) (ht : (pc : Int) + off = (tgt : Int)) (kt : x < 0 → J Γ R er cc own nL ret tg kc ks tgt lv st σ A) (kf : ¬ x < 0 → J Γ R er cc own nL ret tg kc ks (pc + 3) lv st σ B) : J Γ R er cc own nL ret tg kc ks pc lv (aI x :: st) σ (if x < 0 then A else B) := by
  obtain ⟨p, l, e, s, m, args, below, meth, c, D, dA, σ0, ad0⟩ := Γ
  intro C hres H locs ad ls hR hE hS hst hlv hL
  refine lv_if_lt C.1 C.2.1 d ht (fun h => ?_) (fun h => ?_)
  · rw [if_pos h] at hres
    exact kt h C hres H locs ad ls hR hE hS hst.2 hlv hL
  · rw [if_neg h] at hres
    exact kf h C hres H locs ad ls hR hE hS hst.2 hlv hL
theorem j_ifge {x : Int32} {off : Int} {tgt : Nat} {A B : Option (ρ × rS)} (d : decode cc pc = .ok (.ifCond .ge off, 3)) (ht : (pc : Int) + off = (tgt : Int)) (kt : 0 ≤ x → J Γ R er cc own nL ret tg kc ks tgt lv st σ A) (kf : ¬ 0 ≤ x → J Γ R er cc own nL ret tg kc ks (pc + 3) lv st σ B) : J Γ R er cc own nL ret tg kc ks pc lv (aI x :: st) σ (if 0 ≤ x then A else B) := by
  obtain ⟨p, l, e, s, m, args, below, meth, c, D, dA, σ0, ad0⟩ := Γ
  intro C hres H locs ad ls hR hE hS hst hlv hL
  refine lv_if_ge C.1 C.2.1 d ht (fun h => ?_) (fun h => ?_)
  · rw [if_pos h] at hres
    exact kt h C hres H locs ad ls hR hE hS hst.2 hlv hL
  · rw [if_neg h] at hres
    exact kf h C hres H locs ad ls hR hE hS hst.2 hlv hL
theorem j_ifgt {x : Int32} {off : Int} {tgt : Nat} {A B : Option (ρ × rS)} (d : decode cc pc = .ok (.ifCond .gt off, 3)) (ht : (pc : Int) + off = (tgt : Int)) (kt : 0 < x → J Γ R er cc own nL ret tg kc ks tgt lv st σ A) (kf : ¬ 0 < x → J Γ R er cc own nL ret tg kc ks (pc + 3) lv st σ B) : J Γ R er cc own nL ret tg kc ks pc lv (aI x :: st) σ (if 0 < x then A else B) := by
  obtain ⟨p, l, e, s, m, args, below, meth, c, D, dA, σ0, ad0⟩ := Γ
  intro C hres H locs ad ls hR hE hS hst hlv hL
  refine lv_if_gt C.1 C.2.1 d ht (fun h => ?_) (fun h => ?_)
  · rw [if_pos h] at hres
    exact kt h C hres H locs ad ls hR hE hS hst.2 hlv hL
  · rw [if_neg h] at hres
    exact kf h C hres H locs ad ls hR hE hS hst.2 hlv hL
theorem j_ifle {x : Int32} {off : Int} {tgt : Nat} {A B : Option (ρ × rS)} (d : decode cc pc = .ok (.ifCond .le off, 3)) (ht : (pc : Int) + off = (tgt : Int)) (kt : x ≤ 0 → J Γ R er cc own nL ret tg kc ks tgt lv st σ A) (kf : ¬ x ≤ 0 → J Γ R er cc own nL ret tg kc ks (pc + 3) lv st σ B) : J Γ R er cc own nL ret tg kc ks pc lv (aI x :: st) σ (if x ≤ 0 then A else B) := by
  obtain ⟨p, l, e, s, m, args, below, meth, c, D, dA, σ0, ad0⟩ := Γ
  intro C hres H locs ad ls hR hE hS hst hlv hL
  refine lv_if_le C.1 C.2.1 d ht (fun h => ?_) (fun h => ?_)
  · rw [if_pos h] at hres
    exact kt h C hres H locs ad ls hR hE hS hst.2 hlv hL
  · rw [if_neg h] at hres
    exact kf h C hres H locs ad ls hR hE hS hst.2 hlv hL
theorem j_icmpeq {x y : Int32} {off : Int} {tgt : Nat} {A B : Option (ρ × rS)} (d : decode cc pc = .ok (.if_icmp .eq off, 3)) (ht : (pc : Int) + off = (tgt : Int)) (kt : x = y → J Γ R er cc own nL ret tg kc ks tgt lv st σ A) (kf : ¬ x = y → J Γ R er cc own nL ret tg kc ks (pc + 3) lv st σ B) : J Γ R er cc own nL ret tg kc ks pc lv (aI y :: aI x :: st) σ (if x = y then A else B) := by
  obtain ⟨p, l, e, s, m, args, below, meth, c, D, dA, σ0, ad0⟩ := Γ
  intro C hres H locs ad ls hR hE hS hst hlv hL
  refine lv_icmp_eq C.1 C.2.1 d ht (fun h => ?_) (fun h => ?_)
  · rw [if_pos h] at hres
    exact kt h C hres H locs ad ls hR hE hS hst.2.2 hlv hL
  · rw [if_neg h] at hres
    exact kf h C hres H locs ad ls hR hE hS hst.2.2 hlv hL
/-- lcmp and a branch -/
theorem j_lcmpeq {x y : Int64} {off : Int} {tgt : Nat} {A B : Option (ρ × rS)} (d : decode cc pc = .ok (.lcmp, 1)) (d2 : decode cc (pc + 1) = .ok (.ifCond .eq off, 3)) (ht : ((pc + 1 : Nat) : Int) + off = (tgt : Int)) (kt : x = y → J Γ R er cc own nL ret tg kc ks tgt lv st σ A) (kf : ¬ x = y → J Γ R er cc own nL ret tg kc ks (pc + 4) lv st σ B) : J Γ R er cc own nL ret tg kc ks pc lv (aL y :: aL x :: st) σ (if x = y then A else B) := by
  refine j_eq (res2 := if lg_cmp x y = 0 then A else B) (by simp only [lg_cmp_eq]) ?_
  exact j_lcmp d (j_ifeq d2 ht (fun h => kt ((lg_cmp_eq x y).mp h)) (fun h => kf (fun q => h ((lg_cmp_eq x y).mpr q))))
theorem j_icmpne {x y : Int32} {off : Int} {tgt : Nat} {A B : Option (ρ × rS)} (d : decode cc pc = .ok (.if_icmp .ne off, 3)) (ht : (pc : Int) + off = (tgt : Int)) (kt : ¬ x = y → J Γ R er cc own nL ret tg kc ks tgt lv st σ A) (kf : x = y → J Γ R er cc own nL ret tg kc ks (pc + 3) lv st σ B) : J Γ R er cc own nL ret tg kc ks pc lv (aI y :: aI x :: st) σ (if x = y then B else A) := by
  obtain ⟨p, l, e, s, m, args, below, meth, c, D, dA, σ0, ad0⟩ := Γ
  intro C hres H locs ad ls hR hE hS hst hlv hL
  refine lv_icmp_ne C.1 C.2.1 d ht (fun h => ?_) (fun h => ?_)
  · rw [if_neg h] at hres
    exact kt h C hres H locs ad ls hR hE hS hst.2.2 hlv hL
  · rw [if_pos h] at hres
    exact kf h C hres H locs ad ls hR hE hS hst.2.2 hlv hL
/-- lcmp and a branch -/
theorem j_lcmpne {x y : Int64} {off : Int} {tgt : Nat} {A B : Option (ρ × rS)} (d : decode cc pc = .ok (.lcmp, 1)) (d2 : decode cc (pc + 1) = .ok (.ifCond .ne off, 3)) (ht : ((pc + 1 : Nat) : Int) + off = (tgt : Int)) (kt : ¬ x = y → J Γ R er cc own nL ret tg kc ks tgt lv st σ A) (kf : x = y → J Γ R er cc own nL ret tg kc ks (pc + 4) lv st σ B) : J Γ R er cc own nL ret tg kc ks pc lv (aL y :: aL x :: st) σ (if x = y then B else A) := by
  refine j_eq (res2 := if lg_cmp x y = 0 then B else A) (by simp only [lg_cmp_eq]) ?_
  exact j_lcmp d (j_ifne d2 ht (fun h => kt (fun q => h ((lg_cmp_eq x y).mpr q))) (fun h => kf ((lg_cmp_eq x y).mp h)))
theorem j_icmplt {x y : Int32} {off : Int} {tgt : Nat} {A B : Option (ρ × rS)} (d : decode cc pc = .ok (.if_icmp .lt off, 3)) (ht : (pc : Int) + off = (tgt : Int)) (kt : x < y → J Γ R er cc own nL ret tg kc ks tgt lv st σ A) (kf : ¬ x < y → J Γ R er cc own nL ret tg kc ks (pc + 3) lv st σ B) : J Γ R er cc own nL ret tg kc ks pc lv (aI y :: aI x :: st) σ (if x < y then A else B) := by
  obtain ⟨p, l, e, s, m, args, below, meth, c, D, dA, σ0, ad0⟩ := Γ
  intro C hres H locs ad ls hR hE hS hst hlv hL
  refine lv_icmp_lt C.1 C.2.1 d ht (fun h => ?_) (fun h => ?_)
  · rw [if_pos h] at hres
    exact kt h C hres H locs ad ls hR hE hS hst.2.2 hlv hL
  · rw [if_neg h] at hres
    exact kf h C hres H locs ad ls hR hE hS hst.2.2 hlv hL
/-- lcmp and a branch -/
theorem j_lcmplt {x y : Int64} {off : Int} {tgt : Nat} {A B : Option (ρ × rS)} (d : decode cc pc = .ok (.lcmp, 1)) (d2 : decode cc (pc + 1) = .ok (.ifCond .lt off, 3)) (ht : ((pc + 1 : Nat) : Int) + off = (tgt : Int)) (kt : x < y → J Γ R er cc own nL ret tg kc ks tgt lv st σ A) (kf : ¬ x < y → J Γ R er cc own nL ret tg kc ks (pc + 4) lv st σ B) : J Γ R er cc own nL ret tg kc ks pc lv (aL y :: aL x :: st) σ (if x < y then A else B) := by
  refine j_eq (res2 := if lg_cmp x y < 0 then A else B) (by simp only [lg_cmp_lt]) ?_
  exact j_lcmp d (j_iflt d2 ht (fun h => kt ((lg_cmp_lt x y).mp h)) (fun h => kf (fun q => h ((lg_cmp_lt x y).mpr q))))
theorem j_icmpge {x y : Int32} {off : Int} {tgt : Nat} {A B : Option (ρ × rS)} (d : decode cc pc = .ok (.if_icmp .ge off, 3)) (ht : (pc : Int) + off = (tgt : Int)) (kt : y ≤ x → J Γ R er cc own nL ret tg kc ks tgt lv st σ A) (kf : ¬ y ≤ x → J Γ R er cc own nL ret tg kc ks (pc + 3) lv st σ B) : J Γ R er cc own nL ret tg kc ks pc lv (aI y :: aI x :: st) σ (if y ≤ x then A else B) := by
  obtain ⟨p, l, e, s, m, args, below, meth, c, D, dA, σ0, ad0⟩ := Γ
  intro C hres H locs ad ls hR hE hS hst hlv hL
  refine lv_icmp_ge C.1 C.2.1 d ht (fun h => ?_) (fun h => ?_)
  · rw [if_pos h] at hres
    exact kt h C hres H locs ad ls hR hE hS hst.2.2 hlv hL
  · rw [if_neg h] at hres
    exact kf h C hres H locs ad ls hR hE hS hst.2.2 hlv hL
/-- lcmp and a branch -/
theorem j_lcmpge {x y : Int64} {off : Int} {tgt : Nat} {A B : Option (ρ × rS)} (d : decode cc pc = .ok (.lcmp, 1)) (d2 : decode cc (pc + 1) = .ok (.ifCond .ge off, 3)) (ht : ((pc + 1 : Nat) : Int) + off = (tgt : Int)) (kt : y ≤ x → J Γ R er cc own nL ret tg kc ks tgt lv st σ A) (kf : ¬ y ≤ x → J Γ R er cc own nL ret tg kc ks (pc + 4) lv st σ B) : J Γ R er cc own nL ret tg kc ks pc lv (aL y :: aL x :: st) σ (if y ≤ x then A else B) := by
  refine j_eq (res2 := if 0 ≤ lg_cmp x y then A else B) (by simp only [lg_cmp_ge]) ?_
  exact j_lcmp d (j_ifge d2 ht (fun h => kt ((lg_cmp_ge x y).mp h)) (fun h => kf (fun q => h ((lg_cmp_ge x y).mpr q))))
theorem j_icmpgt {x y : Int32} {off : Int} {tgt : Nat} {A B : Option (ρ × rS)} (d : decode cc pc = .ok (.if_icmp .gt off, 3)) (ht : (pc : Int) + off = (tgt : Int)) (kt : y < x → J Γ R er cc own nL ret tg kc ks tgt lv st σ A) (kf : ¬ y < x → J Γ R er cc own nL ret tg kc ks (pc + 3) lv st σ B) : J Γ R er cc own nL ret tg kc ks pc lv (aI y :: aI x :: st) σ (if y < x then A else B) := by
  obtain ⟨p, l, e, s, m, args, below, meth, c, D, dA, σ0, ad0⟩ := Γ
  intro C hres H locs ad ls hR hE hS hst hlv hL
  refine lv_icmp_gt C.1 C.2.1 d ht (fun h => ?_) (fun h => ?_)
  · rw [if_pos h] at hres
    exact kt h C hres H locs ad ls hR hE hS hst.2.2 hlv hL
  · rw [if_neg h] at hres
    exact kf h C hres H locs ad ls hR hE hS hst.2.2 hlv hL
/-- lcmp and a branch -/
theorem j_lcmpgt {x y : Int64} {off : Int} {tgt : Nat} {A B : Option (ρ × rS)} (d : decode cc pc = .ok (.lcmp, 1)) (d2 : decode cc (pc + 1) = .ok (.ifCond .gt off, 3)) (ht : ((pc + 1 : Nat) : Int) + off = (tgt : Int)) (kt : y < x → J Γ R er cc own nL ret tg kc ks tgt lv st σ A) (kf : ¬ y < x → J Γ R er cc own nL ret tg kc ks (pc + 4) lv st σ B) : J Γ R er cc own nL ret tg kc ks pc lv (aL y :: aL x :: st) σ (if y < x then A else B) := by
  refine j_eq (res2 := if 0 < lg_cmp x y then A else B) (by simp only [lg_cmp_gt]) ?_
  exact j_lcmp d (j_ifgt d2 ht (fun h => kt ((lg_cmp_gt x y).mp h)) (fun h => kf (fun q => h ((lg_cmp_gt x y).mpr q))))
theorem j_icmple {x y : Int32} {off : Int} {tgt : Nat} {A B : Option (ρ × rS)} (d : decode cc pc = .ok (.if_icmp .le off, 3)) (ht : (pc : Int) + off = (tgt : Int)) (kt : x ≤ y → J Γ R er cc own nL ret tg kc ks tgt lv st σ A) (kf : ¬ x ≤ y → J Γ R er cc own nL ret tg kc ks (pc + 3) lv st σ B) : J Γ R er cc own nL ret tg kc ks pc lv (aI y :: aI x :: st) σ (if x ≤ y then A else B) := by
  obtain ⟨p, l, e, s, m, args, below, meth, c, D, dA, σ0, ad0⟩ := Γ
  intro C hres H locs ad ls hR hE hS hst hlv hL
  refine lv_icmp_le C.1 C.2.1 d ht (fun h => ?_) (fun h => ?_)
  · rw [if_pos h] at hres
    exact kt h C hres H locs ad ls hR hE hS hst.2.2 hlv hL
  · rw [if_neg h] at hres
    exact kf h C hres H locs ad ls hR hE hS hst.2.2 hlv hL
/-- lcmp and a branch -/
theorem j_lcmple {x y : Int64} {off : Int} {tgt : Nat} {A B : Option (ρ × rS)} (d : decode cc pc = .ok (.lcmp, 1)) (d2 : decode cc (pc + 1) = .ok (.ifCond .le off, 3)) (ht : ((pc + 1 : Nat) : Int) + off = (tgt : Int)) (kt : x ≤ y → J Γ R er cc own nL ret tg kc ks tgt lv st σ A) (kf : ¬ x ≤ y → J Γ R er cc own nL ret tg kc ks (pc + 4) lv st σ B) : J Γ R er cc own nL ret tg kc ks pc lv (aL y :: aL x :: st) σ (if x ≤ y then A else B) := by
  refine j_eq (res2 := if lg_cmp x y ≤ 0 then A else B) (by simp only [lg_cmp_le]) ?_
  exact j_lcmp d (j_ifle d2 ht (fun h => kt ((lg_cmp_le x y).mp h)) (fun h => kf (fun q => h ((lg_cmp_le x y).mpr q))))
theorem j_ifeqB {b : Bool} {off : Int} {tgt : Nat} {A B : Option (ρ × rS)} (d : decode cc pc = .ok (.ifCond .eq off, 3)) (ht : (pc : Int) + off = (tgt : Int)) (kt : b = false → J Γ R er cc own nL ret tg kc ks tgt lv st σ A) (kf : b = true → J Γ R er cc own nL ret tg kc ks (pc + 3) lv st σ B) : J Γ R er cc own nL ret tg kc ks pc lv (aI (bi b) :: st) σ (if b = true then B else A) := by
  cases b with
  | false => exact j_eq (res2 := if bi false = 0 then A else B) rfl (j_ifeq d ht (fun _ => kt rfl) (fun h => absurd rfl h))
  | true => exact j_eq (res2 := if bi true = 0 then A else B) rfl (j_ifeq d ht (fun h => absurd h (by decide)) (fun _ => kf rfl))
theorem j_ifneB {b : Bool} {off : Int} {tgt : Nat} {A B : Option (ρ × rS)} (d : decode cc pc = .ok (.ifCond .ne off, 3)) (ht : (pc : Int) + off = (tgt : Int)) (kt : b = true → J Γ R er cc own nL ret tg kc ks tgt lv st σ A) (kf : b = false → J Γ R er cc own nL ret tg kc ks (pc + 3) lv st σ B) : J Γ R er cc own nL ret tg kc ks pc lv (aI (bi b) :: st) σ (if b = true then A else B) := by
  cases b with
  | false => exact j_eq (res2 := if bi false = 0 then B else A) rfl (j_ifne d ht (fun h => absurd rfl h) (fun _ => kf rfl))
  | true => exact j_eq (res2 := if bi true = 0 then B else A) rfl (j_ifne d ht (fun _ => kt rfl) (fun h => absurd h (by decide)))
theorem j_ifnull {t : Nat} {x : Option Nat} {off : Int} {tgt : Nat} {A : Option (ρ × rS)} {B : Nat → Option (ρ × rS)} (d : decode cc pc = .ok (.ifnull off, 3)) (ht : (pc : Int) + off = (tgt : Int)) (kt : x = none → J Γ R er cc own nL ret tg kc ks tgt lv st σ A) (kf : ∀ i, x = some i → J Γ R er cc own nL ret tg kc ks (pc + 3) lv st σ (B i)) : J Γ R er cc own nL ret tg kc ks pc lv (aO t x :: st) σ (onul x A B) := by
  obtain ⟨p, l, e, s, m, args, below, meth, c, D, dA, σ0, ad0⟩ := Γ
  intro C hres H locs ad ls hR hE hS hst hlv hL
  cases x with
  | none => exact lv_ifnullN C.1 C.2.1 d ht (kt rfl C hres H locs ad ls hR hE hS hst.2 hlv hL)
  | some i => exact lv_ifnull C.1 C.2.1 d (kf i rfl C hres H locs ad ls hR hE hS hst.2 hlv hL)
theorem j_ifnonnull {t : Nat} {x : Option Nat} {off : Int} {tgt : Nat} {A : Option (ρ × rS)} {B : Nat → Option (ρ × rS)} (d : decode cc pc = .ok (.ifnonnull off, 3)) (ht : (pc : Int) + off = (tgt : Int)) (kf : x = none → J Γ R er cc own nL ret tg kc ks (pc + 3) lv st σ A) (kt : ∀ i, x = some i → J Γ R er cc own nL ret tg kc ks tgt lv st σ (B i)) : J Γ R er cc own nL ret tg kc ks pc lv (aO t x :: st) σ (onul x A B) := by
  obtain ⟨p, l, e, s, m, args, below, meth, c, D, dA, σ0, ad0⟩ := Γ
  intro C hres H locs ad ls hR hE hS hst hlv hL
  cases x with
  | none => exact lv_ifnonnullN C.1 C.2.1 d (kf rfl C hres H locs ad ls hR hE hS hst.2 hlv hL)
  | some i => exact lv_ifnonnull C.1 C.2.1 d ht (kt i rfl C hres H locs ad ls hR hE hS hst.2 hlv hL)
/-- a reference that must be there -/
theorem j_must {x : Option Nat} {B : Nat → Option (ρ × rS)} (k : ∀ i, x = some i → J Γ R er cc own nL ret tg kc ks pc lv st σ (B i)) : J Γ R er cc own nL ret tg kc ks pc lv st σ (onul x none B) := by
  cases x with
  | none => exact j_none
  | some i => exact k i rfl
theorem j_ock {P : Prop} {iP : Decidable P} {A : Option (ρ × rS)} (k : P → J Γ R er cc own nL ret tg kc ks pc lv st σ A) : J Γ R er cc own nL ret tg kc ks pc lv st σ (@ock _ P iP A) := by
  unfold ock
  by_cases h : P
  · rw [if_pos h]; exact k h
  · rw [if_neg h]; exact j_none
theorem j_idx {i : Int32} {n : Nat} {F : Nat → Option (ρ × rS)} (k : ∀ j : Nat, i.toInt.toNat = j → vp_in i n → J Γ R er cc own nL ret tg kc ks pc lv st σ (F j)) : J Γ R er cc own nL ret tg kc ks pc lv st σ (idx i n F) := by
  unfold idx
  by_cases h : 0 ≤ i.toInt ∧ i.toInt < n
  · rw [if_pos h]; exact k _ rfl (vp_in_iff.mpr h)
  · rw [if_neg h]; exact j_none
theorem j_let {α : Type} {v : α} {F : α → Option (ρ × rS)} (k : J Γ R er cc own nL ret tg kc ks pc lv st σ (F v)) : J Γ R er cc own nL ret tg kc ks pc lv st σ (olet v F) := k
theorem j_lookup {dflt : Int} {ps : Array (Int × Int)} {len : Nat} {x : Int32} {off : Int} {tgt : Nat} (d : decode cc pc = .ok (.lookupswitch dflt ps, len)) (hp : (ps.toList.zip (ps.toList.drop 1)).all (fun (a, next) => a.1 < next.1) = true) (ho : Op.lookupswitch.offset ps.toList dflt x.toInt = off) (ht : (pc : Int) + off = (tgt : Int)) (k : J Γ R er cc own nL ret tg kc ks tgt lv st σ res) : J Γ R er cc own nL ret tg kc ks pc lv (aI x :: st) σ res := by
  obtain ⟨p, l, e, s, m, args, below, meth, c, D, dA, σ0, ad0⟩ := Γ
  intro C hres H locs ad ls hR hE hS hst hlv hL
  exact lv_lookup C.1 C.2.1 d hp ho ht (k C hres H locs ad ls hR hE hS hst.2 hlv hL)
theorem j_tableOut {dflt lo hi : Int} {offs : Array Int} {len : Nat} {x : Int32} {tgt : Nat} (d : decode cc pc = .ok (.tableswitch dflt lo hi offs, len)) (h : x.toInt < lo ∨ hi < x.toInt) (ht : (pc : Int) + dflt = (tgt : Int)) (k : J Γ R er cc own nL ret tg kc ks tgt lv st σ res) : J Γ R er cc own nL ret tg kc ks pc lv (aI x :: st) σ res := by
  obtain ⟨p, l, e, s, m, args, below, meth, c, D, dA, σ0, ad0⟩ := Γ
  intro C hres H locs ad ls hR hE hS hst hlv hL
  exact lv_tableOut C.1 C.2.1 d h ht (k C hres H locs ad ls hR hE hS hst.2 hlv hL)
theorem j_tableIn {dflt lo hi : Int} {offs : Array Int} {len : Nat} {x : Int32} {off : Int} {tgt : Nat} (d : decode cc pc = .ok (.tableswitch dflt lo hi offs, len)) (h1 : ¬ x.toInt < lo) (h2 : ¬ hi < x.toInt) (ho : offs[(x.toInt - lo).toNat]? = some off) (ht : (pc : Int) + off = (tgt : Int)) (k : J Γ R er cc own nL ret tg kc ks tgt lv st σ res) : J Γ R er cc own nL ret tg kc ks pc lv (aI x :: st) σ res := by
  obtain ⟨p, l, e, s, m, args, below, meth, c, D, dA, σ0, ad0⟩ := Γ
  intro C hres H locs ad ls hR hE hS hst hlv hL
  exact lv_tableIn C.1 C.2.1 d h1 h2 ho ht (k C hres H locs ad ls hR hE hS hst.2 hlv hL)
theorem j_dsub {x y : UInt64} (d : decode cc pc = .ok (.dsub, 1)) (hn : vf_n64 (FP.dsub x y)) (k : J Γ R er cc own nL ret tg kc ks (pc + 1) lv (aD (FP.dsub x y) :: st) σ res) : J Γ R er cc own nL ret tg kc ks pc lv (aD y :: aD x :: st) σ res := j_pure (st := aD y :: aD x :: st) (st2 := aD (FP.dsub x y) :: st) (fun hst => ⟨trivial, hst.2.2⟩) (fun ad hx hb k => lv_dsub hx hb d hn k) k
theorem j_drem {x y : UInt64} (d : decode cc pc = .ok (.drem, 1)) (hn : vf_n64 (FP.drem x y)) (k : J Γ R er cc own nL ret tg kc ks (pc + 1) lv (aD (FP.drem x y) :: st) σ res) : J Γ R er cc own nL ret tg kc ks pc lv (aD y :: aD x :: st) σ res := j_pure (st := aD y :: aD x :: st) (st2 := aD (FP.drem x y) :: st) (fun hst => ⟨trivial, hst.2.2⟩) (fun ad hx hb k => lv_drem hx hb d hn k) k
theorem j_frem {x y : UInt32} (d : decode cc pc = .ok (.frem, 1)) (hn : vf_n32 (FP.frem x y)) (k : J Γ R er cc own nL ret tg kc ks (pc + 1) lv (aF (FP.frem x y) :: st) σ res) : J Γ R er cc own nL ret tg kc ks pc lv (aF y :: aF x :: st) σ res := j_pure (st := aF y :: aF x :: st) (st2 := aF (FP.frem x y) :: st) (fun hst => ⟨trivial, hst.2.2⟩) (fun ad hx hb k => lv_frem hx hb d hn k) k
theorem j_f2d {x : UInt32} (d : decode cc pc = .ok (.f2d, 1)) (hn : vf_n64 (FP.f2d x)) (k : J Γ R er cc own nL ret tg kc ks (pc + 1) lv (aD (FP.f2d x) :: st) σ res) : J Γ R er cc own nL ret tg kc ks pc lv (aF x :: st) σ res := j_pure (st := aF x :: st) (st2 := aD (FP.f2d x) :: st) (fun hst => ⟨trivial, hst.2⟩) (fun ad hx hb k => lv_f2d hx hb d hn k) k
theorem j_d2f {x : UInt64} (d : decode cc pc = .ok (.d2f, 1)) (hn : vf_n32 (FP.d2f x)) (k : J Γ R er cc own nL ret tg kc ks (pc + 1) lv (aF (FP.d2f x) :: st) σ res) : J Γ R er cc own nL ret tg kc ks pc lv (aD x :: st) σ res := j_pure (st := aD x :: st) (st2 := aF (FP.d2f x) :: st) (fun hst => ⟨trivial, hst.2⟩) (fun ad hx hb k => lv_d2f hx hb d hn k) k
end JL
