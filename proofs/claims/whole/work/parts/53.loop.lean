def R_law : String := "PackDeskLaw"
def lw_P (b : Addr) (xs : List Int32) (args : Array Value) (s : State) : Prop := args = #[.ref b] ∧ s.IntsAt b xs ∧ xs.length ≤ 384 ∧ (Jvm.Cond.and given_1 narrow_1).before args s = true
/-- what a walk over the start with the record d0 says of its end, said of the start itself -/
theorem lw_closed {s t : State} {o : Outcome} {d0 : Drawn} {L : List Loc} {k n : Nat} (hd0 : s.drawn.sameBut d0 lw_cs) (hv : ∃ v, o = .returned v) (hW : (s.setDrawn d0).WarmedH t.vm) (hs : (s.setDrawn d0).sameButNew ({ t with vm := s.vm } : State) L k n) : State.butDraws s t lw_cs (fun t1 => Framed s o t1 L k n) := by
  have h2 : t.drawn = d0 := congrArg State.drawn hs.1
  refine ⟨⟨hv, hW, State.sameButNew.setDrawn hs s.drawn⟩, ?_, by decide⟩
  rw [h2]
  exact hd0
def lw_Q (_ : Array Value) (s : State) (o : Outcome) (t : State) : Prop := o = .returned (some (.int 1)) ∧ State.butDraws s t lw_cs (fun t1 => Framed s o t1 [] 600000 room_1.slots)
def lw_Z (below : List Frame) (a : Array Value) (s : State) : State → Prop := fun t => ∃ o, t.status = .running ∧ Ended t below o ∧ lw_Q a s o t
/-- the law's own end, with 1 on the stack, nothing written that was there before, its room as the claim has it; d0: the record of draws at this point (at the entry s.drawn: begin with 'refine W.base ?_' and 'have hd0 := Drawn.sameBut.refl s.drawn lw_cs') -/
theorem lw_ret {p : Program} {l : Launch} {e : Env} {s : State} {m : MethodId} {below : List Frame} {meth : Method} {c : Code} {b : Nat} {d0 : Drawn} (hd0 : s.drawn.sameBut d0 lw_cs) (hx : p.tables.exec = Jvm.exec) (hb : c.code = code) (hr : meth.sig.returnType = ret) (hlocks : meth.locks = false) {pc : Nat} {H : Heap} {ls : Array Slot} (hdg : decode code pc = .ok (.ireturn, 1)) : W p l e room_1 (s.setDrawn d0) m #[Value.ref b] below meth c H [] 600000 room_1.slots (lw_Z below #[Value.ref b] s) (F0 m pc ls [.int 1]) := by
  intro T hT X
  obtain ⟨fs, hret, hrun, hended, hW, hframe⟩ := X.leave (v := some (.int 1)) (hlocks := hlocks) (fun h => by rw [hr] at h; cases h)
  have hmeth' : T.vm.method? m = some meth := X.method'
  refine ⟨T.setFrames fs, ?_, .returned (some (.int 1)), hrun, hended, rfl, lw_closed hd0 ⟨_, rfl⟩ hW hframe⟩
  jvm_step X.here [X.here.top, hx, hb, hdg, hmeth', hr, ret, narrow_b1]
  (try refine ⟨rfl, ?_⟩); (try refine ⟨rfl, ?_⟩)
  first | (intro acts; rw [hret _ acts rfl rfl rfl]) | rw [hret _ _ rfl rfl rfl]
  exact Steps.refl _
/-- what holds at the law's entry: the machine, the code, the tables' words (any of lw_tbl by 'hts w (by decide +kernel)'), the script of L ints xs at the cell b, what the Statement gives of the start (any of its parts by flat_of_before) -/
def lw_At (p : Program) (s : State) (m : MethodId) (meth : Method) (c : Code) (b L : Nat) (xs : Nat → Int32) : Prop :=
  p.tables.exec = Jvm.exec ∧ c.code = code ∧ meth.sig.returnType = ret ∧ c.maxLocals = 4 ∧ s.vm.findClass R_law = some m.cls ∧ (∀ w ∈ lw_tbl, w.before #[Value.ref b] s = true) ∧ va_X b L xs s s.heap ∧ b < s.heap.size ∧ meth.locks = false ∧ (Jvm.Cond.and given_1 narrow_1).before #[Value.ref b] s = true

def EQS (N : Nat) (Inv : Nat → rS → rS → Prop) : Prop := EQ_row N Inv ∧ EQ_lose N Inv ∧ EQ_kind N Inv ∧ EQ_length N Inv ∧ EQ_put N Inv ∧ EQ_get N Inv ∧ EQ_copy N Inv ∧ EQ_compare N Inv ∧ EQ_shape N Inv ∧ EQ_rest N Inv ∧ EQ_most N Inv ∧ EQ_seen N Inv ∧ EQ_stream N Inv ∧ EQ_write N Inv ∧ EQ_cost N Inv ∧ EQ_best N Inv ∧ EQ_add N Inv ∧ EQ_end N Inv ∧ EQ_about N Inv ∧ EQ_at N Inv ∧ EQ_harm N Inv ∧ EQ_seek N Inv ∧ EQ_read N Inv ∧ EQ_pieces N Inv ∧ EQ_house N Inv ∧ EQ_keep N Inv ∧ EQ_find N Inv ∧ EQ_drop N Inv ∧ EQ_list N Inv ∧ EQ_take N Inv ∧ EQ_uses N Inv ∧ EQ_delta N Inv ∧ EQ_act N Inv ∧ EQ_apply N Inv ∧ EQ_finding N Inv ∧ EQ_findings N Inv ∧ EQ_count N Inv ∧ EQ_digest N Inv
section LT
variable {Γ : lX} {sc : Nat → Int32} {L : Nat} {Q : State → Prop} {kc ks pc : Nat} {x : Int32} {st : List aV} {σ τ : rS}
theorem l_tabIn {dflt lo hi : Int} {offs : Array Int} {len : Nat} {y : Int32} {off : Int} {tgt : Nat} (d : decode cL_law pc = .ok (.tableswitch dflt lo hi offs, len)) (g1 : ¬ y.toInt < lo) (g2 : ¬ hi < y.toInt) (ho : offs[(y.toInt - lo).toNat]? = some off) (ht : (pc : Int) + off = (tgt : Int)) (k : JL Γ sc L Q kc ks tgt x st σ τ) : JL Γ sc L Q kc ks pc x (aI y :: st) σ τ := by
  obtain ⟨p, l, e, s, m, below, meth, c, D, dA, b⟩ := Γ
  intro C H locs ad bd ls hR hT hap h1 h2 hS hL
  exact lv_tableIn C.1 C.2.1 d g1 g2 ho ht (k C H locs ad bd ls hR hT hap h1 h2 hS hL)
theorem l_tabOut {dflt lo hi : Int} {offs : Array Int} {len : Nat} {y : Int32} {tgt : Nat} (d : decode cL_law pc = .ok (.tableswitch dflt lo hi offs, len)) (g1 : y.toInt < lo ∨ hi < y.toInt) (ht : (pc : Int) + dflt = (tgt : Int)) (k : JL Γ sc L Q kc ks tgt x st σ τ) : JL Γ sc L Q kc ks pc x (aI y :: st) σ τ := by
  obtain ⟨p, l, e, s, m, below, meth, c, D, dA, b⟩ := Γ
  intro C H locs ad bd ls hR hT hap h1 h2 hS hL
  exact lv_tableOut C.1 C.2.1 d g1 ht (k C H locs ad bd ls hR hT hap h1 h2 hS hL)
end LT
set_option maxRecDepth 20000 in
set_option maxHeartbeats 4000000 in
theorem lw_switch {N t : Nat} {Inv : Nat → rS → rS → Prop} (hE : EQS N Inv) {Γ : lX} {sc : Nat → Int32} {L : Nat} {Q : State → Prop} {kc ks i : Nat} {x y : Int32} {σ τ : rS} (hx : x = nI i) (hi : i + 6 ≤ L) (hkc : kc + 62 ≤ 600000) (hks : ks + 12524 ≤ room_1.slots) (ht : t < 100) (hI : Inv t σ τ) (hmono : Inv (t + 1) σ τ) (hk : ∀ σ τ, Inv (t + 1) σ τ → JL Γ sc L Q (kc + 62) (ks + 12524) 1516 x [] σ τ) : JL Γ sc L Q kc ks 33 x [aI y] σ τ := by
  by_cases z0 : y = 0
  · refine l_tabIn (off := 167) (tgt := 200) dL_law_33 (by rw [z0]; decide) (by rw [z0]; decide) (by rw [z0]; rfl) rfl ?_
    exact lw_c0 hE.1 hx hi hkc hks ht hI hk
  by_cases z1 : y = 1
  · refine l_tabIn (off := 200) (tgt := 233) dL_law_33 (by rw [z1]; decide) (by rw [z1]; decide) (by rw [z1]; rfl) rfl ?_
    exact lw_c1 hE.2.1 hx hi hkc hks ht hI hk
  by_cases z2 : y = 2
  · refine l_tabIn (off := 223) (tgt := 256) dL_law_33 (by rw [z2]; decide) (by rw [z2]; decide) (by rw [z2]; rfl) rfl ?_
    exact lw_c2 hE.2.2.1 hx hi hkc hks ht hI hk
  by_cases z3 : y = 3
  · refine l_tabIn (off := 246) (tgt := 279) dL_law_33 (by rw [z3]; decide) (by rw [z3]; decide) (by rw [z3]; rfl) rfl ?_
    exact lw_c3 hE.2.2.2.1 hx hi hkc hks ht hI hk
  by_cases z4 : y = 4
  · refine l_tabIn (off := 269) (tgt := 302) dL_law_33 (by rw [z4]; decide) (by rw [z4]; decide) (by rw [z4]; rfl) rfl ?_
    exact lw_c4 hE.2.2.2.2.1 hx hi hkc hks ht hI hk
  by_cases z5 : y = 5
  · refine l_tabIn (off := 342) (tgt := 375) dL_law_33 (by rw [z5]; decide) (by rw [z5]; decide) (by rw [z5]; rfl) rfl ?_
    exact lw_c5 hE.2.2.2.2.2.1 hx hi hkc hks ht hI hk
  by_cases z6 : y = 6
  · refine l_tabIn (off := 375) (tgt := 408) dL_law_33 (by rw [z6]; decide) (by rw [z6]; decide) (by rw [z6]; rfl) rfl ?_
    exact lw_c6 hE.2.2.2.2.2.2.1 hx hi hkc hks ht hI hk
  by_cases z7 : y = 7
  · refine l_tabIn (off := 438) (tgt := 471) dL_law_33 (by rw [z7]; decide) (by rw [z7]; decide) (by rw [z7]; rfl) rfl ?_
    exact lw_c7 hE.2.2.2.2.2.2.2.1 hx hi hkc hks ht hI hk
  by_cases z8 : y = 8
  · refine l_tabIn (off := 481) (tgt := 514) dL_law_33 (by rw [z8]; decide) (by rw [z8]; decide) (by rw [z8]; rfl) rfl ?_
    exact lw_c8 hE.2.2.2.2.2.2.2.2.1 hx hi hkc hks ht hI hk
  by_cases z9 : y = 9
  · refine l_tabIn (off := 524) (tgt := 557) dL_law_33 (by rw [z9]; decide) (by rw [z9]; decide) (by rw [z9]; rfl) rfl ?_
    exact lw_c9 hE.2.2.2.2.2.2.2.2.2.1 hx hi hkc hks ht hI hk
  by_cases z10 : y = 10
  · refine l_tabIn (off := 567) (tgt := 600) dL_law_33 (by rw [z10]; decide) (by rw [z10]; decide) (by rw [z10]; rfl) rfl ?_
    exact lw_c10 hE.2.2.2.2.2.2.2.2.2.2.1 hx hi hkc hks ht hI hk
  by_cases z11 : y = 11
  · refine l_tabIn (off := 600) (tgt := 633) dL_law_33 (by rw [z11]; decide) (by rw [z11]; decide) (by rw [z11]; rfl) rfl ?_
    exact lw_c11 hE.2.2.2.2.2.2.2.2.2.2.2.1 hx hi hkc hks ht hI hk
  by_cases z12 : y = 12
  · refine l_tabIn (off := 614) (tgt := 647) dL_law_33 (by rw [z12]; decide) (by rw [z12]; decide) (by rw [z12]; rfl) rfl ?_
    exact lw_c12 hE.2.2.2.2.2.2.2.2.2.2.2.2.1 hx hi hkc hks ht hI hk
  by_cases z13 : y = 13
  · refine l_tabIn (off := 627) (tgt := 660) dL_law_33 (by rw [z13]; decide) (by rw [z13]; decide) (by rw [z13]; rfl) rfl ?_
    exact lw_c13 hE.2.2.2.2.2.2.2.2.2.2.2.2.2.1 hx hi hkc hks ht hI hk
  by_cases z14 : y = 14
  · refine l_tabIn (off := 670) (tgt := 703) dL_law_33 (by rw [z14]; decide) (by rw [z14]; decide) (by rw [z14]; rfl) rfl ?_
    exact lw_c14 hE.2.2.2.2.2.2.2.2.2.2.2.2.2.2.1 hx hi hkc hks ht hI hk
  by_cases z15 : y = 15
  · refine l_tabIn (off := 703) (tgt := 736) dL_law_33 (by rw [z15]; decide) (by rw [z15]; decide) (by rw [z15]; rfl) rfl ?_
    exact lw_c15 hE.2.2.2.2.2.2.2.2.2.2.2.2.2.2.2.1 hx hi hkc hks ht hI hk
  by_cases z16 : y = 16
  · refine l_tabIn (off := 726) (tgt := 759) dL_law_33 (by rw [z16]; decide) (by rw [z16]; decide) (by rw [z16]; rfl) rfl ?_
    exact lw_c16 hE.2.2.2.2.2.2.2.2.2.2.2.2.2.2.2.2.1 hx hi hkc hks ht hI hk
  by_cases z17 : y = 17
  · refine l_tabIn (off := 759) (tgt := 792) dL_law_33 (by rw [z17]; decide) (by rw [z17]; decide) (by rw [z17]; rfl) rfl ?_
    exact lw_c17 hE.2.2.2.2.2.2.2.2.2.2.2.2.2.2.2.2.2.1 hx hi hkc hks ht hI hk
  by_cases z18 : y = 18
  · refine l_tabIn (off := 782) (tgt := 815) dL_law_33 (by rw [z18]; decide) (by rw [z18]; decide) (by rw [z18]; rfl) rfl ?_
    exact lw_c18 hE.2.2.2.2.2.2.2.2.2.2.2.2.2.2.2.2.2.2.1 hx hi hkc hks ht hI hk
  by_cases z19 : y = 19
  · refine l_tabIn (off := 815) (tgt := 848) dL_law_33 (by rw [z19]; decide) (by rw [z19]; decide) (by rw [z19]; rfl) rfl ?_
    exact lw_c19 hE.2.2.2.2.2.2.2.2.2.2.2.2.2.2.2.2.2.2.2.1 hx hi hkc hks ht hI hk
  by_cases z20 : y = 20
  · refine l_tabIn (off := 848) (tgt := 881) dL_law_33 (by rw [z20]; decide) (by rw [z20]; decide) (by rw [z20]; rfl) rfl ?_
    exact lw_c20 hE.2.2.2.2.2.2.2.2.2.2.2.2.2.2.2.2.2.2.2.2.1 hx hi hkc hks ht hI hk
  by_cases z21 : y = 21
  · refine l_tabIn (off := 891) (tgt := 924) dL_law_33 (by rw [z21]; decide) (by rw [z21]; decide) (by rw [z21]; rfl) rfl ?_
    exact lw_c21 hE.2.2.2.2.2.2.2.2.2.2.2.2.2.2.2.2.2.2.2.2.2.1 hx hi hkc hks ht hI hk
  by_cases z22 : y = 22
  · refine l_tabIn (off := 924) (tgt := 957) dL_law_33 (by rw [z22]; decide) (by rw [z22]; decide) (by rw [z22]; rfl) rfl ?_
    exact lw_c22 hE.2.2.2.2.2.2.2.2.2.2.2.2.2.2.2.2.2.2.2.2.2.2.1 hx hi hkc hks ht hI hk
  by_cases z23 : y = 23
  · refine l_tabIn (off := 947) (tgt := 980) dL_law_33 (by rw [z23]; decide) (by rw [z23]; decide) (by rw [z23]; rfl) rfl ?_
    exact lw_c23 hE.2.2.2.2.2.2.2.2.2.2.2.2.2.2.2.2.2.2.2.2.2.2.2.1 hx hi hkc hks ht hI hk
  by_cases z24 : y = 24
  · refine l_tabIn (off := 970) (tgt := 1003) dL_law_33 (by rw [z24]; decide) (by rw [z24]; decide) (by rw [z24]; rfl) rfl ?_
    exact lw_c24 hE.2.2.2.2.2.2.2.2.2.2.2.2.2.2.2.2.2.2.2.2.2.2.2.2.1 hx hi hkc hks ht hI hk
  by_cases z25 : y = 25
  · refine l_tabIn (off := 983) (tgt := 1016) dL_law_33 (by rw [z25]; decide) (by rw [z25]; decide) (by rw [z25]; rfl) rfl ?_
    exact lw_c25 hE.2.2.2.2.2.2.2.2.2.2.2.2.2.2.2.2.2.2.2.2.2.2.2.2.2.1 hx hi hkc hks ht hI hk
  by_cases z26 : y = 26
  · refine l_tabIn (off := 1056) (tgt := 1089) dL_law_33 (by rw [z26]; decide) (by rw [z26]; decide) (by rw [z26]; rfl) rfl ?_
    exact lw_c26 hE.2.2.2.2.2.2.2.2.2.2.2.2.2.2.2.2.2.2.2.2.2.2.2.2.2.2.1 hx hi hkc hks ht hI hk
  by_cases z27 : y = 27
  · refine l_tabIn (off := 1119) (tgt := 1152) dL_law_33 (by rw [z27]; decide) (by rw [z27]; decide) (by rw [z27]; rfl) rfl ?_
    exact lw_c27 hE.2.2.2.2.2.2.2.2.2.2.2.2.2.2.2.2.2.2.2.2.2.2.2.2.2.2.2.1 hx hi hkc hks ht hI hk
  by_cases z28 : y = 28
  · refine l_tabIn (off := 1182) (tgt := 1215) dL_law_33 (by rw [z28]; decide) (by rw [z28]; decide) (by rw [z28]; rfl) rfl ?_
    exact lw_c28 hE.2.2.2.2.2.2.2.2.2.2.2.2.2.2.2.2.2.2.2.2.2.2.2.2.2.2.2.2.1 hx hi hkc hks ht hI hk
  by_cases z29 : y = 29
  · refine l_tabIn (off := 1215) (tgt := 1248) dL_law_33 (by rw [z29]; decide) (by rw [z29]; decide) (by rw [z29]; rfl) rfl ?_
    exact lw_c29 hE.2.2.2.2.2.2.2.2.2.2.2.2.2.2.2.2.2.2.2.2.2.2.2.2.2.2.2.2.2.1 hx hi hkc hks ht hI hk
  by_cases z30 : y = 30
  · refine l_tabIn (off := 1278) (tgt := 1311) dL_law_33 (by rw [z30]; decide) (by rw [z30]; decide) (by rw [z30]; rfl) rfl ?_
    exact lw_c30 hE.2.2.2.2.2.2.2.2.2.2.2.2.2.2.2.2.2.2.2.2.2.2.2.2.2.2.2.2.2.2.1 hx hi hkc hks ht hI hk
  by_cases z31 : y = 31
  · refine l_tabIn (off := 1301) (tgt := 1334) dL_law_33 (by rw [z31]; decide) (by rw [z31]; decide) (by rw [z31]; rfl) rfl ?_
    exact lw_c31 hE.2.2.2.2.2.2.2.2.2.2.2.2.2.2.2.2.2.2.2.2.2.2.2.2.2.2.2.2.2.2.2.1 hx hi hkc hks ht hI hk
  by_cases z32 : y = 32
  · refine l_tabIn (off := 1334) (tgt := 1367) dL_law_33 (by rw [z32]; decide) (by rw [z32]; decide) (by rw [z32]; rfl) rfl ?_
    exact lw_c32 hE.2.2.2.2.2.2.2.2.2.2.2.2.2.2.2.2.2.2.2.2.2.2.2.2.2.2.2.2.2.2.2.2.1 hx hi hkc hks ht hI hk
  by_cases z33 : y = 33
  · refine l_tabIn (off := 1377) (tgt := 1410) dL_law_33 (by rw [z33]; decide) (by rw [z33]; decide) (by rw [z33]; rfl) rfl ?_
    exact lw_c33 hE.2.2.2.2.2.2.2.2.2.2.2.2.2.2.2.2.2.2.2.2.2.2.2.2.2.2.2.2.2.2.2.2.2.1 hx hi hkc hks ht hI hk
  by_cases z34 : y = 34
  · refine l_tabIn (off := 1410) (tgt := 1443) dL_law_33 (by rw [z34]; decide) (by rw [z34]; decide) (by rw [z34]; rfl) rfl ?_
    exact lw_c34 hE.2.2.2.2.2.2.2.2.2.2.2.2.2.2.2.2.2.2.2.2.2.2.2.2.2.2.2.2.2.2.2.2.2.2.1 hx hi hkc hks ht hI hk
  by_cases z35 : y = 35
  · refine l_tabIn (off := 1423) (tgt := 1456) dL_law_33 (by rw [z35]; decide) (by rw [z35]; decide) (by rw [z35]; rfl) rfl ?_
    exact lw_c35 hE.2.2.2.2.2.2.2.2.2.2.2.2.2.2.2.2.2.2.2.2.2.2.2.2.2.2.2.2.2.2.2.2.2.2.2.1 hx hi hkc hks ht hI hk
  by_cases z36 : y = 36
  · refine l_tabIn (off := 1446) (tgt := 1479) dL_law_33 (by rw [z36]; decide) (by rw [z36]; decide) (by rw [z36]; rfl) rfl ?_
    exact lw_c36 hE.2.2.2.2.2.2.2.2.2.2.2.2.2.2.2.2.2.2.2.2.2.2.2.2.2.2.2.2.2.2.2.2.2.2.2.2.1 hx hi hkc hks ht hI hk
  by_cases z37 : y = 37
  · refine l_tabIn (off := 1469) (tgt := 1502) dL_law_33 (by rw [z37]; decide) (by rw [z37]; decide) (by rw [z37]; rfl) rfl ?_
    exact lw_c37 hE.2.2.2.2.2.2.2.2.2.2.2.2.2.2.2.2.2.2.2.2.2.2.2.2.2.2.2.2.2.2.2.2.2.2.2.2.2 hx hi hkc hks ht hI hk
  have g0 := lv_neT z0 (show (0 : Int32).toInt = 0 by decide)
  have g1 := lv_neT z1 (show (1 : Int32).toInt = 1 by decide)
  have g2 := lv_neT z2 (show (2 : Int32).toInt = 2 by decide)
  have g3 := lv_neT z3 (show (3 : Int32).toInt = 3 by decide)
  have g4 := lv_neT z4 (show (4 : Int32).toInt = 4 by decide)
  have g5 := lv_neT z5 (show (5 : Int32).toInt = 5 by decide)
  have g6 := lv_neT z6 (show (6 : Int32).toInt = 6 by decide)
  have g7 := lv_neT z7 (show (7 : Int32).toInt = 7 by decide)
  have g8 := lv_neT z8 (show (8 : Int32).toInt = 8 by decide)
  have g9 := lv_neT z9 (show (9 : Int32).toInt = 9 by decide)
  have g10 := lv_neT z10 (show (10 : Int32).toInt = 10 by decide)
  have g11 := lv_neT z11 (show (11 : Int32).toInt = 11 by decide)
  have g12 := lv_neT z12 (show (12 : Int32).toInt = 12 by decide)
  have g13 := lv_neT z13 (show (13 : Int32).toInt = 13 by decide)
  have g14 := lv_neT z14 (show (14 : Int32).toInt = 14 by decide)
  have g15 := lv_neT z15 (show (15 : Int32).toInt = 15 by decide)
  have g16 := lv_neT z16 (show (16 : Int32).toInt = 16 by decide)
  have g17 := lv_neT z17 (show (17 : Int32).toInt = 17 by decide)
  have g18 := lv_neT z18 (show (18 : Int32).toInt = 18 by decide)
  have g19 := lv_neT z19 (show (19 : Int32).toInt = 19 by decide)
  have g20 := lv_neT z20 (show (20 : Int32).toInt = 20 by decide)
  have g21 := lv_neT z21 (show (21 : Int32).toInt = 21 by decide)
  have g22 := lv_neT z22 (show (22 : Int32).toInt = 22 by decide)
  have g23 := lv_neT z23 (show (23 : Int32).toInt = 23 by decide)
  have g24 := lv_neT z24 (show (24 : Int32).toInt = 24 by decide)
  have g25 := lv_neT z25 (show (25 : Int32).toInt = 25 by decide)
  have g26 := lv_neT z26 (show (26 : Int32).toInt = 26 by decide)
  have g27 := lv_neT z27 (show (27 : Int32).toInt = 27 by decide)
  have g28 := lv_neT z28 (show (28 : Int32).toInt = 28 by decide)
  have g29 := lv_neT z29 (show (29 : Int32).toInt = 29 by decide)
  have g30 := lv_neT z30 (show (30 : Int32).toInt = 30 by decide)
  have g31 := lv_neT z31 (show (31 : Int32).toInt = 31 by decide)
  have g32 := lv_neT z32 (show (32 : Int32).toInt = 32 by decide)
  have g33 := lv_neT z33 (show (33 : Int32).toInt = 33 by decide)
  have g34 := lv_neT z34 (show (34 : Int32).toInt = 34 by decide)
  have g35 := lv_neT z35 (show (35 : Int32).toInt = 35 by decide)
  have g36 := lv_neT z36 (show (36 : Int32).toInt = 36 by decide)
  have g37 := lv_neT z37 (show (37 : Int32).toInt = 37 by decide)
  refine l_tabOut (tgt := 1516) dL_law_33 (by omega) rfl ?_
  exact l_wide (kc2 := kc + 62) (ks2 := ks + 12524) (by omega) (by omega) (hk σ τ hmono)
set_option maxRecDepth 20000 in
set_option maxHeartbeats 4000000 in
theorem lw_loop {N : Nat} {Inv : Nat → rS → rS → Prop} (hE : EQS N Inv) (hM : ∀ t σ τ, Inv t σ τ → Inv (t + 1) σ τ) {p : Program} {l : Launch} {e : Env} {s : State} {m : MethodId} {below : List Frame} {meth : Method} {c : Code} {D : va_G} {dA : Nat → ClassId} {b L : Nat} {sc : Nat → Int32} (hr : meth.sig.returnType = Jvm.Pilot.@@N@@.ret) (hlocks : meth.locks = false) (hLL : L ≤ 384) :
    ∀ (n t : Nat) (σ τ : rS), t + n = 65 → 6 * t ≤ L + 5 → Inv t σ τ → JL (p, l, e, s, m, below, meth, c, D, dA, b) sc L (lw_Z below #[Value.ref b] s) (100 + 62 * t) (50000 + 12524 * t) 18 (nI (6 * t)) [] σ τ := by
  intro n
  induction n with
  | zero => intro t σ τ h1 h2; omega
  | succ n ih =>
    intro t σ τ h1 h2 hI C H locs ad bd ls hR hT hap g1 g2 hS hL
    have hroom : 7000000 ≤ room_1.slots := by decide
    have hbA : ¬ (fun q : Nat => s.heap.size ≤ q) b := Nat.not_le.mpr C.2.2.2.2.2.2.2.1
    refine lv_iload_n C.1 C.2.1 dL_law_18 rfl (lv_at hL 3 rfl) ?_
    refine lv_aload_n C.1 C.2.1 dL_law_19 rfl (lv_at hL 0 rfl) ?_
    refine va_slen C.1 C.2.1 C.2.2.2.2.2.2.1 C.2.2.2.2.2.2.2.1 hbA hS dL_law_20 ?_
    refine lv_bipush (v := nI 6) C.1 C.2.1 dL_law_21 (by decide) ?_
    refine lv_isub C.1 C.2.1 dL_law_23 ?_
    have hsub : (nI L - nI 6).toInt = (L : Int) - 6 := pk_sub_toInt (by omega) (by omega)
    have hti : (nI (6 * t)).toInt = ((6 * t : Nat) : Int) := nI_toInt (by omega)
    refine lv_icmp_gt (tgt := 1522) C.1 C.2.1 dL_law_24 (by decide) (fun hc => ?_) (fun hc => ?_)
    · refine lv_iconst (v := 1) C.1 C.2.1 dL_law_1522 (by decide) ?_
      refine va_forget (fun q hq => hS.2.2 q hq) ?_
      refine W.widen (k := 600000) (n := room_1.slots) (by omega) (by omega) ?_
      exact W.base (lw_ret (Drawn.sameBut.refl s.drawn lw_cs) C.1 C.2.1 hr hlocks dL_law_1523)
    · have hin : 6 * t + 6 ≤ L := by
        rcases Nat.lt_or_ge L (6 * t + 6) with q | q
        · refine absurd ?_ hc
          show nI L - nI 6 < nI (6 * t)
          rw [Int32.lt_iff_toInt_lt, hsub, hti]
          omega
        · exact q
      refine lv_aload_n C.1 C.2.1 dL_law_27 rfl (lv_at hL 0 rfl) ?_
      refine lv_iload_n C.1 C.2.1 dL_law_28 rfl (lv_at hL 3 rfl) ?_
      refine va_sld C.1 C.2.1 C.2.2.2.2.2.2.1 C.2.2.2.2.2.2.2.1 hbA hS (vp_in_nI (by omega) (by omega)) dL_law_29 ?_
      refine lv_bipush (v := 63) C.1 C.2.1 dL_law_30 (by decide) ?_
      refine lv_iand C.1 C.2.1 dL_law_32 ?_
      refine lw_switch (Γ := (p, l, e, s, m, below, meth, c, D, dA, b)) (sc := sc) (L := L) (Q := lw_Z below #[Value.ref b] s) (i := 6 * t) hE rfl hin (by omega) (by omega) (by omega) hI (hM t σ τ hI) (fun σ' τ' hI' => ?_) C H locs ad bd ls hR hT hap g1 g2 hS hL
      refine l_next (i := 6 * t) dL_law_1516 dL_law_1519 rfl ?_
      have := ih (t + 1) σ' τ' (by omega) (by omega) hI'
      rw [show 100 + 62 * (t + 1) = 100 + 62 * t + 62 by omega, show 50000 + 12524 * (t + 1) = 50000 + 12524 * t + 12524 by omega, show 6 * (t + 1) = 6 * t + 6 by omega] at this
      exact this
