theorem lvl_als {σ : rS} : ∀ {lv : List (Nat × aV)} {avs : List aV}, als σ avs → lv.map Prod.snd = avs → lvl σ lv
  | [], _, _, _ => fun q hq => by cases hq
  | (i, v) :: r, avs, h, e => by
    subst e
    intro q hq
    rcases List.mem_cons.mp hq with rfl | hq
    · exact h.1
    · exact lvl_als (lv := r) h.2 rfl q hq
def nn64 (x : UInt64) : Bool := decide (x &&& 0x7fffffffffffffff ≤ 0x7ff0000000000000)
def nn32 (x : UInt32) : Bool := decide (x &&& 0x7fffffff ≤ 0x7f800000)
theorem nn64_ok {x : UInt64} (h : nn64 x = true) : vf_n64 x := (of_decide_eq_true h : x &&& 0x7fffffffffffffff ≤ 0x7ff0000000000000)
theorem nn32_ok {x : UInt32} (h : nn32 x = true) : vf_n32 x := (of_decide_eq_true h : x &&& 0x7fffffff ≤ 0x7f800000)
def okF (x : Int32) : Bool := !(vn_sni2f x)
def okD (x : Int64) : Bool := !(vn_snl2d x)
/-- the places of a copy are there -/
def okcp (σ : rS) (k i k' i' : Nat) (sp dp n : Int32) : Bool := decide (0 ≤ sp.toInt) && (decide (0 ≤ dp.toInt) && (decide (0 ≤ n.toInt) && (decide (sp.toNatClampNeg + n.toNatClampNeg ≤ gN σ k i) && decide (dp.toNatClampNeg + n.toNatClampNeg ≤ gN σ k' i'))))
def okcb (σ : rS) (k i k' i' : Nat) (sp dp n : Int32) : Bool := okcp σ k i k' i' sp dp n && (List.range n.toNatClampNeg).all (fun j => fits .byte (.int (gI σ k i (sp.toNatClampNeg + j))))
theorem okcp_spec {σ : rS} {k i k' i' : Nat} {sp dp n : Int32} (h : okcp σ k i k' i' sp dp n = true) : ¬ sp < 0 ∧ ¬ dp < 0 ∧ ¬ n < 0 ∧ sp.toNatClampNeg + n.toNatClampNeg ≤ gN σ k i ∧ dp.toNatClampNeg + n.toNatClampNeg ≤ gN σ k' i' := by
  unfold okcp at h
  simp only [Bool.and_eq_true, decide_eq_true_eq] at h
  obtain ⟨h1, h2, h3, h4, h5⟩ := h
  have nn : ∀ z : Int32, 0 ≤ z.toInt → ¬ z < 0 := fun z hz q => by
    have := Int32.lt_iff_toInt_lt.mp q
    simp at this
    omega
  exact ⟨nn _ h1, nn _ h2, nn _ h3, h4, h5⟩
theorem va_cpy_map {α β : Type} (g : α → β) (f h : Nat → α) (sp dp n : Nat) : (fun x => g (va_cpy f h sp dp n x)) = va_cpy (fun x => g (f x)) (fun x => g (h x)) sp dp n := by
  funext x
  unfold va_cpy
  split <;> rfl
section JM
variable {ρ : Type} {Γ : jX} {R : Room} {er : ρ → Option aV} {cc : ByteArray} {own : String} {nL : Nat} {ret : Option FieldType} {tg : ρ × rS} {kc ks : Nat} {pc : Nat} {lv lv' : List (Nat × aV)} {st : List aV} {σ : rS} {res : Option (ρ × rS)}
theorem j_leti {x : Int32} {F : Int32 → Option (ρ × rS)} (k : ∀ y : Int32, J Γ R er cc own nL ret tg kc ks pc lv (aI y :: st) σ (F y)) : J Γ R er cc own nL ret tg kc ks pc lv (aI x :: st) σ (olet x F) := k x
theorem j_letl {x : Int64} {F : Int64 → Option (ρ × rS)} (k : ∀ y : Int64, J Γ R er cc own nL ret tg kc ks pc lv (aL y :: st) σ (F y)) : J Γ R er cc own nL ret tg kc ks pc lv (aL x :: st) σ (olet x F) := k x
theorem j_letd {x : UInt64} {F : UInt64 → Option (ρ × rS)} (k : ∀ y : UInt64, J Γ R er cc own nL ret tg kc ks pc lv (aD y :: st) σ (F y)) : J Γ R er cc own nL ret tg kc ks pc lv (aD x :: st) σ (olet x F) := k x
theorem j_letf {x : UInt32} {F : UInt32 → Option (ρ × rS)} (k : ∀ y : UInt32, J Γ R er cc own nL ret tg kc ks pc lv (aF y :: st) σ (F y)) : J Γ R er cc own nL ret tg kc ks pc lv (aF x :: st) σ (olet x F) := k x
theorem j_lets {F : rS → Option (ρ × rS)} (k : ∀ τ : rS, J Γ R er cc own nL ret tg kc ks pc lv st τ (F τ)) : J Γ R er cc own nL ret tg kc ks pc lv st σ (olet σ F) := k σ
theorem j_case {x : Int32} (z : Int32) {A B : Option (ρ × rS)} (k1 : x = z → J Γ R er cc own nL ret tg kc ks pc lv st σ A) (k2 : ¬ x = z → J Γ R er cc own nL ret tg kc ks pc lv st σ B) : J Γ R er cc own nL ret tg kc ks pc lv st σ (if x = z then A else B) := by
  by_cases h : x = z
  · rw [if_pos h]; exact k1 h
  · rw [if_neg h]; exact k2 h
theorem j_lrem {x y : Int64} (d : decode cc pc = .ok (.lrem, 1)) (hn : ¬ y = 0) (k : J Γ R er cc own nL ret tg kc ks (pc + 1) lv (aL (x - x / y * y) :: st) σ res) : J Γ R er cc own nL ret tg kc ks pc lv (aL y :: aL x :: st) σ res := j_pure (st := aL y :: aL x :: st) (st2 := aL (x - x / y * y) :: st) (fun hst => ⟨trivial, hst.2.2⟩) (fun ad hx hb k => lv_lrem hx hb d hn k) k
theorem j_fcmp {x y : UInt32} {op : CmpOp} (d : decode cc pc = .ok (.fcmp op, 1)) (k : J Γ R er cc own nL ret tg kc ks (pc + 1) lv (aI (Op.cmpValue (FP.fcmp x y) op) :: st) σ res) : J Γ R er cc own nL ret tg kc ks pc lv (aF y :: aF x :: st) σ res := j_pure (st := aF y :: aF x :: st) (st2 := aI (Op.cmpValue (FP.fcmp x y) op) :: st) (fun hst => ⟨trivial, hst.2.2⟩) (fun ad hx hb k => lv_fcmp hx hb d k) k
theorem j_fload_n {q : Fin 4} {i : Nat} {x : UInt32} (a : Nat) (d : decode cc pc = .ok (.fload_n q, 1)) (hi : (q : Nat) = i) (h : lv[a]? = some (i, aF x)) (k : J Γ R er cc own nL ret tg kc ks (pc + 1) lv (aF x :: st) σ res) : J Γ R er cc own nL ret tg kc ks pc lv st σ res := by
  obtain ⟨p, l, e, s, m, args, below, meth, c, D, dA, σ0, ad0⟩ := Γ
  intro C hres H locs ad ls hR hE hS hst hlv hL
  exact lv_fload_n C.1 C.2.1 d hi (lv_at hL a (lm_get h)) (k C hres H locs ad ls hR hE hS ⟨trivial, hst⟩ hlv hL)
variable {k i x t N index : Nat} {X : String} {T : u_T} {ref nm ds : String} {fin : Bool} {ty : FieldType}
theorem j_getR {G : Option Nat → Option (ρ × rS)} (f : FD k x 2 t X T N ref nm ds fin ty) (hl : Cond.fieldLink own index ref nm ds ∈ allW) (d : decode cc pc = .ok (.getfield index, 3)) (kk : ∀ q, J Γ R er cc own nL ret tg kc ks (pc + 3) lv (aO t q :: st) σ (G q)) : J Γ R er cc own nL ret tg kc ks pc lv (aR k i :: st) σ (olet (gR σ k i x) G) := j_getR0 f hl d (kk (gR σ k i x))
theorem j_aald {n : Int32} {G : Nat → Option Nat → Option (ρ × rS)} {ob : String} (h0 : lyO k = none) (h1 : lyA k = (4, t)) (h2 : lyT k = .object ob) (d : decode cc pc = .ok (.aaload, 1)) (kk : ∀ (j : Nat) (q : Option Nat), J Γ R er cc own nL ret tg kc ks (pc + 1) lv (aO t q :: st) σ (G j q)) : J Γ R er cc own nL ret tg kc ks pc lv (aI n :: aR k i :: st) σ (idx n (gN σ k i) (fun j => olet (gR σ k i j) (G j))) := j_aald0 (F := fun j => olet (gR σ k i j) (G j)) h0 h1 h2 d (fun j => kk j (gR σ k i j))
theorem j_aast {n : Int32} {v : Option Nat} {F : Nat → Option (ρ × rS)} {ci : Nat} {fs : List (Nat × Nat)} (h0 : lyO k = none) (h1 : lyA k = (4, t)) (h2 : lyT k = .object X) (h3 : lyO t = some (ci, fs)) (h4 : vwCl[ci]? = some (X, T, N)) (d : decode cc pc = .ok (.aastore, 1)) (kk : ∀ j : Nat, J Γ R er cc own nL ret tg kc ks (pc + 1) lv st (sR σ k i j v) (F j)) : J Γ R er cc own nL ret tg kc ks pc lv (aO t v :: aI n :: aR k i :: st) σ (idx n (gN σ k i) F) := by
  refine j_idx (fun j hj hv => ?_)
  have kk := kk j
  subst hj
  obtain ⟨p, l, e, s, m, args, below, meth, c, D, dA, σ0, ad0⟩ := Γ
  intro C hres H locs ad ls hR hE hS hst hlv hL
  have hi : i < gC σ k := al_of hst.2.2.1
  obtain ⟨ws, q, hP, hD, hc, hq⟩ := rh_at hR hi
  have hq' := hq
  rw [ent_arr h0] at hq
  unfold enA at hq
  rw [h1] at hq
  have hK : va_K D vwCl [(dA k, lyT k)] s := kk_va C.2.2.2.2.2.1 k (by rw [h1]; exact Nat.lt_of_sub_pos (by decide : 0 < 9 - 4))
  have hf : (fun x => (gR (sR σ k i n.toInt.toNat v) k i x).map (ad t)) = va_up (fun x => (gR σ k i x).map (ad t)) n.toNatClampNeg (v.map (ad t)) := by
    funext y
    rw [gR_sR]
    by_cases hy : y = n.toNatClampNeg
    · subst hy
      rw [if_pos ⟨rfl, rfl, rfl⟩]
      simp [va_up]
    · rw [if_neg (fun h => hy h.2.2)]; simp [va_up, hy]
  have fin : ∀ (H1 : Heap) (locs1 : List Loc), va_P D vwCl (ws.set q (ad k i, .inl (dA k, gN σ k i, .inr (.inr (.inr (.inr (va_up (fun x => (gR σ k i x).map (ad t)) n.toNatClampNeg (v.map (ad t))))))))) H1 → va_D (rg σ0 ad0 s.heap.size) (ws.set q (ad k i, .inl (dA k, gN σ k i, .inr (.inr (.inr (.inr (va_up (fun x => (gR σ k i x).map (ad t)) n.toNatClampNeg (v.map (ad t))))))))) → va_S (rg σ0 ad0 s.heap.size) s.heap H1 locs1 → W p l e R s m args below meth c H1 locs1 kc ks (MQ below (jQc D dA er σ0 ad0 s.heap.size tg) args s R.cells R.slots (rg σ0 ad0 s.heap.size)) (F0 m (pc + 1) ls (st.map (av ad))) := by
    intro H1 locs1 hP1 hD1 hS1
    have hR1 : Rh D dA (rg σ0 ad0 s.heap.size) (sR σ k i n.toInt.toNat v) ad H1 := rh_set hR hi hc hq' (fun _ => rfl) (rf_sR hR.2.1 (fun j hj => by rw [show tk k n.toInt.toNat = t by unfold tk; rw [h0, h1]]; exact hst.1 j hj)) (fun a b h => ent_sR h) ((ent_arr h0).trans (by
      unfold enA
      rw [h1]
      show Sum.inl (dA k, gN σ k i, Sum.inr (Sum.inr (Sum.inr (Sum.inr (fun x => (gR (sR σ k i n.toInt.toNat v) k i x).map (ad t)))))) = Sum.inl (dA k, gN σ k i, Sum.inr (Sum.inr (Sum.inr (Sum.inr (va_up (fun x => (gR σ k i x).map (ad t)) n.toNatClampNeg (v.map (ad t)))))))
      rw [hf])) hP1 hD1
    exact kk C hres H1 locs1 ad ls hR1 (fun a b h => hE a b h) hS1 (als_C (σ := σ) (τ := sR σ k i n.toInt.toNat v) (fun t => Nat.le_refl (gC σ t)) hst.2.2.2) (lvl_C (σ := σ) (τ := sR σ k i n.toInt.toNat v) (fun t => Nat.le_refl (gC σ t)) hlv) hL
  cases v with
  | none => exact va_astqN (C := X) C.1 C.2.1 hK hP hD hS q 0 hq (by rw [h2]; rfl) hv d fin
  | some b =>
    have hb : b < gC σ t := hst.1 b rfl
    obtain ⟨qb, hqb⟩ := hc.1 t b hb
    rw [ent_obj h3] at hqb
    exact va_astq (r := (X, T, N)) C.1 C.2.1 hK hP hD hS q 0 qb ci hq (by rw [h2]; rfl) hqb h4 hv d fin
theorem j_copyL {k2 i2 : Nat} {sp dp n : Int32} (w1 : Cond.methodLink own index arraycopyName ∈ allW) (g0 : lyO k = none) (g1 : lyA k = (3, 0)) (g2 : lyT k = .long) (h0 : lyO k2 = none) (h1 : lyA k2 = (3, 0)) (h2 : lyT k2 = .long) (hn : okcp σ k i k2 i2 sp dp n = true) (hf : 1 ≤ R.frames) (hlo : (st.map ac).sum + 18 ≤ R.locals) (d : decode cc pc = .ok (.invokestatic index, 3)) (kk : J Γ R er cc own nL ret tg kc ks (pc + 3) lv st (sLr σ k2 i2 (va_cpy (gL σ k i) (gL σ k2 i2) sp.toNatClampNeg dp.toNatClampNeg n.toNatClampNeg)) res) : J Γ R er cc own nL ret tg kc ks pc lv (aI n :: aI dp :: aR k2 i2 :: aI sp :: aR k i :: st) σ res := by
  obtain ⟨p, l, e, s, m, args, below, meth, c, D, dA, σ0, ad0⟩ := Γ
  intro C hres H locs ad ls hR hE hS hst hlv hL
  obtain ⟨c1, c2, c3, c4, c5⟩ := okcp_spec hn
  have hi : i < gC σ k := al_of hst.2.2.2.2.1
  have hi2 : i2 < gC σ k2 := al_of hst.2.2.1
  obtain ⟨ws, q, hP, hD, hc, hq⟩ := rh_at hR hi2
  have hq' := hq
  obtain ⟨qa, hqa⟩ := hc.1 k i hi
  rw [ent_arr h0] at hq
  rw [ent_arr g0] at hqa
  unfold enA at hq hqa
  rw [h1] at hq
  rw [g1] at hqa
  have hK : va_K D vwCl ([(dA k, lyT k)] ++ [(dA k2, lyT k2)]) s := (kk_va C.2.2.2.2.2.1 k (by rw [g1]; decide)).app (kk_va C.2.2.2.2.2.1 k2 (by rw [h1]; decide))
  refine va_copyl C.1 C.2.1 (by rw [C.2.2.1]; exact hL.1.symm) C.2.2.2.1 (C.2.2.2.2.1 _ w1) (C.2.2.2.2.1 _ tw_2_1) (C.2.2.2.2.1 _ tw_2_0) (C.2.2.2.2.1 _ tw_1_9) hK hP hD hS qa q 0 1 hqa hq (ty := .long) (by rw [g2]; rfl) (by rw [h2]; rfl) rfl c1 c2 c3 c4 c5 (fun j hj => rfl) hf (by rw [ac_sum]; exact hlo) d (fun H1 locs1 hP1 hD1 hS1 => ?_)
  have hR1 : Rh D dA (rg σ0 ad0 s.heap.size) (sLr σ k2 i2 (va_cpy (gL σ k i) (gL σ k2 i2) sp.toNatClampNeg dp.toNatClampNeg n.toNatClampNeg)) ad H1 := rh_set hR hi2 hc hq' (fun _ => rfl) hR.2.1 (fun a b h => ent_sLr h) ((ent_arr h0).trans (by
    unfold enA
    rw [h1]
    have hf : (fun x => gL (sLr σ k2 i2 (va_cpy (gL σ k i) (gL σ k2 i2) sp.toNatClampNeg dp.toNatClampNeg n.toNatClampNeg)) k2 i2 x) = va_cpy (fun x => gL σ k i x) (fun x => gL σ k2 i2 x) sp.toNatClampNeg dp.toNatClampNeg n.toNatClampNeg := by
      funext y
      rw [gL_sLr, if_pos ⟨rfl, rfl⟩]
    show Sum.inl (dA k2, gN σ k2 i2, Sum.inr (Sum.inl (fun x => gL (sLr σ k2 i2 (va_cpy (gL σ k i) (gL σ k2 i2) sp.toNatClampNeg dp.toNatClampNeg n.toNatClampNeg)) k2 i2 x))) = Sum.inl (dA k2, gN σ k2 i2, Sum.inr (Sum.inl (va_cpy (fun x => gL σ k i x) (fun x => gL σ k2 i2 x) sp.toNatClampNeg dp.toNatClampNeg n.toNatClampNeg)))
    rw [hf])) hP1 hD1
  exact kk C hres H1 locs1 ad ls hR1 (fun a b h => hE a b h) hS1 (als_C (σ := σ) (τ := sLr σ k2 i2 (va_cpy (gL σ k i) (gL σ k2 i2) sp.toNatClampNeg dp.toNatClampNeg n.toNatClampNeg)) (fun t => Nat.le_refl (gC σ t)) hst.2.2.2.2.2) (lvl_C (σ := σ) (τ := sLr σ k2 i2 (va_cpy (gL σ k i) (gL σ k2 i2) sp.toNatClampNeg dp.toNatClampNeg n.toNatClampNeg)) (fun t => Nat.le_refl (gC σ t)) hlv) hL
theorem j_copyB {k2 i2 : Nat} {sp dp n : Int32} (w1 : Cond.methodLink own index arraycopyName ∈ allW) (g0 : lyO k = none) (g1 : lyA k = (1, 0)) (g2 : lyT k = .byte) (h0 : lyO k2 = none) (h1 : lyA k2 = (1, 0)) (h2 : lyT k2 = .byte) (hn : okcb σ k i k2 i2 sp dp n = true) (hf : 1 ≤ R.frames) (hlo : (st.map ac).sum + 18 ≤ R.locals) (d : decode cc pc = .ok (.invokestatic index, 3)) (kk : J Γ R er cc own nL ret tg kc ks (pc + 3) lv st (sIr σ k2 i2 (va_cpy (gI σ k i) (gI σ k2 i2) sp.toNatClampNeg dp.toNatClampNeg n.toNatClampNeg)) res) : J Γ R er cc own nL ret tg kc ks pc lv (aI n :: aI dp :: aR k2 i2 :: aI sp :: aR k i :: st) σ res := by
  unfold okcb at hn
  obtain ⟨hn1, hn2⟩ := (Bool.and_eq_true _ _).mp hn
  obtain ⟨p, l, e, s, m, args, below, meth, c, D, dA, σ0, ad0⟩ := Γ
  intro C hres H locs ad ls hR hE hS hst hlv hL
  obtain ⟨c1, c2, c3, c4, c5⟩ := okcp_spec hn1
  have hi : i < gC σ k := al_of hst.2.2.2.2.1
  have hi2 : i2 < gC σ k2 := al_of hst.2.2.1
  obtain ⟨ws, q, hP, hD, hc, hq⟩ := rh_at hR hi2
  have hq' := hq
  obtain ⟨qa, hqa⟩ := hc.1 k i hi
  rw [ent_arr h0] at hq
  rw [ent_arr g0] at hqa
  unfold enA at hq hqa
  rw [h1] at hq
  rw [g1] at hqa
  have hK : va_K D vwCl ([(dA k, lyT k)] ++ [(dA k2, lyT k2)]) s := (kk_va C.2.2.2.2.2.1 k (by rw [g1]; decide)).app (kk_va C.2.2.2.2.2.1 k2 (by rw [h1]; decide))
  refine va_copyi C.1 C.2.1 (by rw [C.2.2.1]; exact hL.1.symm) C.2.2.2.1 (C.2.2.2.2.1 _ w1) (C.2.2.2.2.1 _ tw_2_1) (C.2.2.2.2.1 _ tw_2_0) (C.2.2.2.2.1 _ tw_1_9) hK hP hD hS qa q 0 1 hqa hq (ty := .byte) (by rw [g2]; rfl) (by rw [h2]; rfl) rfl c1 c2 c3 c4 c5 (fun j hj => List.all_eq_true.mp hn2 j (List.mem_range.mpr hj)) hf (by rw [ac_sum]; exact hlo) d (fun H1 locs1 hP1 hD1 hS1 => ?_)
  have hR1 : Rh D dA (rg σ0 ad0 s.heap.size) (sIr σ k2 i2 (va_cpy (gI σ k i) (gI σ k2 i2) sp.toNatClampNeg dp.toNatClampNeg n.toNatClampNeg)) ad H1 := rh_set hR hi2 hc hq' (fun _ => rfl) hR.2.1 (fun a b h => ent_sIr h) ((ent_arr h0).trans (by
    unfold enA
    rw [h1]
    have hf : (fun x => gI (sIr σ k2 i2 (va_cpy (gI σ k i) (gI σ k2 i2) sp.toNatClampNeg dp.toNatClampNeg n.toNatClampNeg)) k2 i2 x) = va_cpy (fun x => gI σ k i x) (fun x => gI σ k2 i2 x) sp.toNatClampNeg dp.toNatClampNeg n.toNatClampNeg := by
      funext y
      rw [gI_sIr, if_pos ⟨rfl, rfl⟩]
    show Sum.inl (dA k2, gN σ k2 i2, Sum.inl (fun x => gI (sIr σ k2 i2 (va_cpy (gI σ k i) (gI σ k2 i2) sp.toNatClampNeg dp.toNatClampNeg n.toNatClampNeg)) k2 i2 x)) = Sum.inl (dA k2, gN σ k2 i2, Sum.inl (va_cpy (fun x => gI σ k i x) (fun x => gI σ k2 i2 x) sp.toNatClampNeg dp.toNatClampNeg n.toNatClampNeg))
    rw [hf])) hP1 hD1
  exact kk C hres H1 locs1 ad ls hR1 (fun a b h => hE a b h) hS1 (als_C (σ := σ) (τ := sIr σ k2 i2 (va_cpy (gI σ k i) (gI σ k2 i2) sp.toNatClampNeg dp.toNatClampNeg n.toNatClampNeg)) (fun t => Nat.le_refl (gC σ t)) hst.2.2.2.2.2) (lvl_C (σ := σ) (τ := sIr σ k2 i2 (va_cpy (gI σ k i) (gI σ k2 i2) sp.toNatClampNeg dp.toNatClampNeg n.toNatClampNeg)) (fun t => Nat.le_refl (gC σ t)) hlv) hL
theorem j_ni2f {b : Int32} (w1 : Cond.methodLink own index ⟨"java/lang/Float", "intBitsToFloat", "(I)F"⟩ ∈ allW) (hn : okF b = true) (hf : 1 ≤ R.frames) (hlo : (st.map ac).sum + 15 ≤ R.locals) (hz : 0 ≤ 0) (d : decode cc pc = .ok (.invokestatic index, 3)) (kk : J Γ R er cc own nL ret tg kc ks (pc + 3) lv (aF b.toUInt32 :: st) σ res) : J Γ R er cc own nL ret tg kc ks pc lv (aI b :: st) σ res := by
  obtain ⟨p, l, e, s, m, args, below, meth, c, D, dA, σ0, ad0⟩ := Γ
  intro C hres H locs ad ls hR hE hS hst hlv hL
  exact vn_i2f C.1 C.2.1 (by rw [C.2.2.1]; exact hL.1.symm) C.2.2.2.1 (C.2.2.2.2.1 _ w1) (C.2.2.2.2.1 _ tw_5_8) (C.2.2.2.2.1 _ tw_5_7) (C.2.2.2.2.1 _ tw_1_11) (by unfold okF at hn; simpa using hn) hf (by rw [ac_sum]; exact hlo) d (kk C hres H locs ad ls hR hE hS ⟨trivial, hst.2⟩ hlv hL)
theorem j_nl2d {b : Int64} (w1 : Cond.methodLink own index ⟨"java/lang/Double", "longBitsToDouble", "(J)D"⟩ ∈ allW) (hn : okD b = true) (hf : 1 ≤ R.frames) (hlo : (st.map ac).sum + 15 ≤ R.locals) (hz : 0 ≤ 0) (d : decode cc pc = .ok (.invokestatic index, 3)) (kk : J Γ R er cc own nL ret tg kc ks (pc + 3) lv (aD b.toUInt64 :: st) σ res) : J Γ R er cc own nL ret tg kc ks pc lv (aL b :: st) σ res := by
  obtain ⟨p, l, e, s, m, args, below, meth, c, D, dA, σ0, ad0⟩ := Γ
  intro C hres H locs ad ls hR hE hS hst hlv hL
  exact vn_l2d C.1 C.2.1 (by rw [C.2.2.1]; exact hL.1.symm) C.2.2.2.1 (C.2.2.2.2.1 _ w1) (C.2.2.2.2.1 _ tw_5_11) (C.2.2.2.2.1 _ tw_5_10) (C.2.2.2.2.1 _ tw_1_12) (by unfold okD at hn; simpa using hn) hf (by rw [ac_sum]; exact hlo) d (kk C hres H locs ad ls hR hE hS ⟨trivial, hst.2⟩ hlv hL)
theorem j_nf2i {b : UInt32} (w1 : Cond.methodLink own index ⟨"java/lang/Float", "floatToRawIntBits", "(F)I"⟩ ∈ allW) (hf : 1 ≤ R.frames) (hlo : (st.map ac).sum + 15 ≤ R.locals) (hz : 0 ≤ 0) (d : decode cc pc = .ok (.invokestatic index, 3)) (kk : J Γ R er cc own nL ret tg kc ks (pc + 3) lv (aI b.toInt32 :: st) σ res) : J Γ R er cc own nL ret tg kc ks pc lv (aF b :: st) σ res := by
  obtain ⟨p, l, e, s, m, args, below, meth, c, D, dA, σ0, ad0⟩ := Γ
  intro C hres H locs ad ls hR hE hS hst hlv hL
  exact vn_f2i C.1 C.2.1 (by rw [C.2.2.1]; exact hL.1.symm) C.2.2.2.1 (C.2.2.2.2.1 _ w1) (C.2.2.2.2.1 _ tw_5_40) (C.2.2.2.2.1 _ tw_5_39) (C.2.2.2.2.1 _ tw_1_11) hf (by rw [ac_sum]; exact hlo) d (kk C hres H locs ad ls hR hE hS ⟨trivial, hst.2⟩ hlv hL)
theorem j_nd2l {b : UInt64} (w1 : Cond.methodLink own index ⟨"java/lang/Double", "doubleToRawLongBits", "(D)J"⟩ ∈ allW) (hf : 1 ≤ R.frames) (hlo : (st.map ac).sum + 15 ≤ R.locals) (hz : 0 ≤ 0) (d : decode cc pc = .ok (.invokestatic index, 3)) (kk : J Γ R er cc own nL ret tg kc ks (pc + 3) lv (aL b.toInt64 :: st) σ res) : J Γ R er cc own nL ret tg kc ks pc lv (aD b :: st) σ res := by
  obtain ⟨p, l, e, s, m, args, below, meth, c, D, dA, σ0, ad0⟩ := Γ
  intro C hres H locs ad ls hR hE hS hst hlv hL
  exact vn_d2l C.1 C.2.1 (by rw [C.2.2.1]; exact hL.1.symm) C.2.2.2.1 (C.2.2.2.2.1 _ w1) (C.2.2.2.2.1 _ tw_5_50) (C.2.2.2.2.1 _ tw_5_49) (C.2.2.2.2.1 _ tw_1_12) hf (by rw [ac_sum]; exact hlo) d (kk C hres H locs ad ls hR hE hS ⟨trivial, hst.2⟩ hlv hL)
end JM
