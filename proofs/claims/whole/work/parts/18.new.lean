theorem rh_adopt {D : va_G} {dA : Nat → ClassId} {A : Nat → Prop} {σ τ : rS} {ad bd : Nat → Nat → Nat} {ws xs : va_W} {H : Heap} (hC : Cov dA σ ad ws) (hP : va_P D vwCl (ws ++ xs) H) (hd : dis (ws ++ xs))
    (hold : ∀ k i, i < gC σ k → i < gC τ k ∧ bd k i = ad k i ∧ ent dA τ bd k i = ent dA σ ad k i) (hnew : ∀ k i, i < gC τ k → ¬ i < gC σ k → ∃ j : Nat, xs[j]? = some (bd k i, ent dA τ bd k i)) (hx : ∀ (j : Nat) (e : Nat × va_E), xs[j]? = some e → ∃ k i, i < gC τ k ∧ ¬ i < gC σ k ∧ e = (bd k i, ent dA τ bd k i)) (hr : RfOk τ)
    (hi : ∀ k i k' i', i < gC τ k → ¬ i < gC σ k → i' < gC τ k' → ¬ i' < gC σ k' → bd k i = bd k' i' → k = k' ∧ i = i') (hA : ∀ k i, i < gC τ k → A (bd k i)) : Rh D dA A τ bd H := by
  obtain ⟨c1, c2, c3, c4⟩ := hC
  have old : ∀ k i, i < gC σ k → ∃ q : Nat, q < ws.length ∧ (ws ++ xs)[q]? = some (bd k i, ent dA τ bd k i) := by
    intro k i h
    obtain ⟨q, hq⟩ := c3 k i h
    have hl := (List.getElem?_eq_some_iff.mp hq).1
    refine ⟨q, hl, ?_⟩
    rw [List.getElem?_append_left hl, hq, (hold k i h).2.1, (hold k i h).2.2]
  have new : ∀ k i, i < gC τ k → ¬ i < gC σ k → ∃ q : Nat, ws.length ≤ q ∧ (ws ++ xs)[q]? = some (bd k i, ent dA τ bd k i) := by
    intro k i h h2
    obtain ⟨j, hj⟩ := hnew k i h h2
    exact ⟨ws.length + j, Nat.le_add_right _ _, ws_get hj⟩
  refine ⟨fun k i k' i' h h' he => ?_, hr, hA, ws ++ xs, hP, hd, fun k i h => ?_, fun q e he => ?_⟩
  · by_cases g : i < gC σ k
    · by_cases g' : i' < gC σ k'
      · rw [(hold k i g).2.1, (hold k' i' g').2.1] at he
        exact c1 k i k' i' g g' he
      · obtain ⟨q, hq1, hq2⟩ := old k i g
        obtain ⟨q', hq1', hq2'⟩ := new k' i' h' g'
        have := hd q q' _ _ hq2 hq2' he
        omega
    · by_cases g' : i' < gC σ k'
      · obtain ⟨q, hq1, hq2⟩ := new k i h g
        obtain ⟨q', hq1', hq2'⟩ := old k' i' g'
        have := hd q q' _ _ hq2 hq2' he
        omega
      · exact hi k i k' i' h g h' g' he
  · by_cases g : i < gC σ k
    · obtain ⟨q, -, hq⟩ := old k i g
      exact ⟨q, hq⟩
    · obtain ⟨q, -, hq⟩ := new k i h g
      exact ⟨q, hq⟩
  · by_cases hl : q < ws.length
    · rw [List.getElem?_append_left hl] at he
      obtain ⟨k, i, g, rfl⟩ := c4 q e he
      exact ⟨k, i, (hold k i g).1, by rw [(hold k i g).2.1, (hold k i g).2.2]⟩
    · rw [List.getElem?_append_right (Nat.le_of_not_lt hl)] at he
      obtain ⟨k, i, g, -, rfl⟩ := hx _ e he
      exact ⟨k, i, g, rfl⟩
/-- an entry of the old world is as it was -/
theorem ent_old {dA : Nat → ClassId} {σ τ : rS} {ad bd : Nat → Nat → Nat} (hr : RfOk σ) {k i : Nat} (hi : i < gC σ k) (h1 : ∀ x, gI τ k i x = gI σ k i x) (h2 : ∀ x, gL τ k i x = gL σ k i x) (h3 : ∀ x, gR τ k i x = gR σ k i x) (h4 : gN τ k i = gN σ k i) (hb : ∀ t j, j < gC σ t → bd t j = ad t j) : ent dA τ bd k i = ent dA σ ad k i := (ent_congr h1 h2 h3 h4).trans (ent_ad hi hr hb)
theorem rh_cov {D : va_G} {dA : Nat → ClassId} {A : Nat → Prop} {σ : rS} {ad : Nat → Nat → Nat} {H : Heap} (h : Rh D dA A σ ad H) : ∃ ws : va_W, Cov dA σ ad ws ∧ va_P D vwCl ws H ∧ va_D A ws := by
  obtain ⟨h1, h2, h3, ws, hP, hD, hc, hx⟩ := h
  refine ⟨ws, ⟨h1, h2, hc, hx⟩, hP, hD, fun q e he => ?_⟩
  obtain ⟨a, b, hb, rfl⟩ := hx q e he
  exact h3 a b hb
section JN
variable {ρ : Type} {Γ : jX} {R : Room} {er : ρ → Option aV} {cc : ByteArray} {own : String} {nL : Nat} {ret : Option FieldType} {tg : ρ × rS} {kc ks : Nat} {pc : Nat} {lv lv' : List (Nat × aV)} {st : List aV} {σ : rS} {res : Option (ρ × rS)}
theorem rh_callI {p : Program} {l : Launch} {e : Env} {s : State} {m : MethodId} {args : Array Value} {below : List Frame} {meth : Method} {c : Code} {H H0 : Heap} {locs : List Loc} {cells slots mc ms sz h0 : Nat} {Q : State → Prop} {ls : Array Slot} {rest st0 : List Value} {a : Array Value} {A0 : Nat → Prop} {D : va_G} {dA : Nat → ClassId} {ad : Nat → Nat → Nat} {po : va_W → Prop} (hr : va_Run p l e R s m args below meth c H locs cells slots mc ms (F0 m pc ls st0) rest (jQi D dA σ ad sz h0 po a) (ra σ ad sz h0)) (hS : va_S A0 H0 H locs) (hA : ∀ q, ra σ ad sz h0 q → A0 q)
    (kk : ∀ (H1 : Heap) (locs1 : List Loc) (ad' : Nat → Nat → Nat) (ws xs : va_W), Cov dA σ ad' ws → Ex σ ad σ ad' → va_P D vwCl (ws ++ xs) H1 → va_D (ra σ ad sz h0) (ws ++ xs) → po xs → (∀ q : Nat, q < H.size → ¬ ra σ ad sz h0 q → H1[q]? = H[q]?) → va_S A0 H0 H1 locs1 → W p l e R s m args below meth c H1 locs1 (cells + mc) (slots + ms) Q (F0 m (pc + 3) ls rest)) : W p l e R s m args below meth c H locs cells slots Q (F0 m pc ls st0) := by
  intro T hT X
  obtain ⟨v, st₀, t, T', L, h1, X', hL, e1, e2, ⟨⟨hv, ad', ws, xs, g1, g2, g3, g4, g5⟩, hz, hk⟩, stp⟩ := hr T hT X
  cases hv
  rw [h1] at hz hk
  obtain ⟨t2, a1, b1⟩ := kk T'.heap (locs ++ L) ad' ws xs g1 g2 (by rw [e1]; exact g3) g4 g5 (fun q h1 h2 => by rw [e1]; exact hk q h1 h2)
    ⟨Nat.le_trans hS.1 (by rw [e1]; exact hz), fun q h1 h2 => by rw [e1, hk q (Nat.lt_of_lt_of_le h1 hS.1) (fun z => h2 (hA q z))]; exact hS.2.1 q h1 h2, fun q hq => by
      rcases List.mem_append.mp hq with h | h
      · exact hS.2.2 q h
      · exact hA _ (hL q h)⟩ T' rfl X'
  exact ⟨t2, stp t2 a1, b1⟩
theorem jPi_blind {D : va_G} {dA : Nat → ClassId} {ad : Nat → Nat → Nat} {sz h0 : Nat} {b : va_E} {as : List Value} : FrameBlind (jPi D dA σ ad sz h0 b as) := by
  intro a U g mk q
  obtain ⟨q0, q1, q2, q3⟩ := q
  exact ⟨q0, q1, q2, kk_same rfl q3⟩
/-- the words of a constructor's call, plain or a nest mate's -/
def CaI (own : String) (index : Nat) (y : MethodName) (cb : ByteArray) (mL n : Nat) : Prop := ((Cond.methodLink own index y ∈ allW) ∨ ∃ host, ∀ D dA U, KK D dA U → va_Nw (.methodLinkNest own index y host) U) ∧ Cond.instanceMethod y ∈ allW ∧ Cond.initialized y.cls ∈ allW ∧ Cond.code y cb mL none ∈ allW ∧ y.name = "<init>" ∧ y.cls ≠ "java/lang/invoke/MethodHandle" ∧ y.cls ≠ "java/lang/invoke/VarHandle" ∧ (parseMethodDescriptor y.desc).map (fun d => d.parameters.length) = some n
theorem runI {p : Program} {l : Launch} {e : Env} {s : State} {m : MethodId} {args : Array Value} {below : List Frame} {meth : Method} {c : Code} {H : Heap} {locs : List Loc} {ls : Array Slot} {y : MethodName} {cb : ByteArray} {mL n index b : Nat} {rm : Room} {Pc : Array Value → State → Prop} {Qc : Array Value → State → Outcome → State → Prop} {free : Addr → Prop} {As rest : List Value} {D : va_G} {dA : Nat → ClassId} (hx : p.tables.exec = Jvm.exec) (hb : c.code = cc) (hml : c.maxLocals = nL) (hown : s.vm.findClass own = some m.cls) (hts : ∀ w ∈ allW, w.before args s = true) (hK : KK D dA s) (hls : ls.size = nL) (hM : Met l y (Cond.code y cb mL none :: allW) rm Pc Qc rm.cells rm.slots free) (hw : CaI own index y cb mL n) (hbl : FrameBlind Pc) (hPc : ∀ U : State, U.heap = H → s.WarmedH U.vm → Pc (Value.ref b :: As).toArray U) (hn : As.length = n) (h8 : (rest.map fun v => v.category).sum ≤ 8) (hrm : rm.frames + 1 ≤ R.frames ∧ 8 + (mL + 11) + rm.locals ≤ R.locals) (hcs : kc + rm.cells ≤ R.cells ∧ ks + rm.slots ≤ R.slots) (d : decode cc pc = .ok (.invokespecial index, 3)) : va_Run p l e R s m args below meth c H locs kc ks rm.cells rm.slots (F0 m pc ls (As.reverse ++ .ref b :: rest)) rest (Qc (Value.ref b :: As).toArray) free := by
  obtain ⟨w1, w2, w3, w4, w5, w6, w7, w8⟩ := hw
  have hG : GoodIn allW (Cond.code y cb mL none :: allW) := goodIn_all (fun w hw => by
    rcases List.mem_cons.mp hw with rfl | q
    · exact w4
    · exact q)
  rcases w1 with w1 | ⟨host, w1⟩
  · exact va_runI (As := As) (nL := nL) (n := n) (Ts := allW) (b := b) ⟨hx, hb, hml, hown, hts⟩ hM (cwI n hts hG rfl rfl rfl (hts _ w3) (hts _ w1) (hts _ w2) w5 ⟨w6, w7, w8⟩ hrm) ⟨hbl, hPc⟩ rfl hn hls rfl (lv_room h8) d hcs
  · exact va_runIN (As := As) (nL := nL) (n := n) (Ts := allW) (host := host) (b := b) ⟨hx, hb, hml, hown, hts⟩ hM ⟨va_cnB n hts hG rfl rfl rfl (w1 D dA s hK) (hts _ w3) ⟨w6, w7, w8⟩ hrm, w5, hts _ w2⟩ ⟨hbl, hPc⟩ rfl hn hls rfl (lv_room h8) d hcs
theorem j_newG {y : MethodName} {cb : ByteArray} {mL n index ci N i0 k0 g pcI : Nat} {rm : Room} {As : List aV} {P : rS → Prop} {po : rS → (Nat → Nat → Nat) → (Nat → ClassId) → Nat → va_W → Prop} {X : String} {T : u_T} {fs : List Value} {τ : rS} {P2 : Prop} {F : Nat → rS → Option (ρ × rS)} (hI : ∀ l, CtI l y cb mL rm As (.inr (ci, fs)) P po) (hw : CaI own index y cb mL n) (wc : Cond.classLink own i0 X ∈ allW) (wi : Cond.instantiable X N ∈ allW) (wn : Cond.initialized X ∈ allW) (hu : ∀ w ∈ u_ws X T N, w ∈ allW) (ty0 : Nat → FieldType) (hty : ∀ k, k < N → parseFieldDescriptor (T k).2.2.1 = some (ty0 k)) (hci : vwCl[ci]? = some (X, T, N)) (hfs : ∀ j, j < N → defaultValue (ty0 j) = vp_V fs j)
    (hres0 : res = some tg → P σ ∧ P2 ∧ F g τ = some tg) (hal : lvl σ lv → als σ As)
    (hg : P2 → g < gC τ k0)
    (hld : ∀ {p : Program} {l : Launch} {e : Env} {s : State} {m : MethodId} {args : Array Value} {below : List Frame} {meth : Method} {c : Code} {H : Heap} {locs : List Loc} {ls : Array Slot} {Q : State → Prop} {a b : Nat} (ad : Nat → Nat → Nat) (S : List Value), p.tables.exec = Jvm.exec → c.code = cc → lv_has ls nL (lm ad lv) → W p l e R s m args below meth c H locs a b Q (F0 m pcI ls ((As.map (av ad)).reverse ++ S)) → W p l e R s m args below meth c H locs a b Q (F0 m (pc + 4) ls S))
    (hn : As.length = n) (h8 : (st.map ac).sum ≤ 7) (hrm : rm.frames + 1 ≤ R.frames ∧ 8 + (mL + 11) + rm.locals ≤ R.locals) (hcs : kc + 1 + rm.cells ≤ R.cells ∧ ks + N + rm.slots ≤ R.slots) (d0 : decode cc pc = .ok (.new i0, 3)) (d1 : decode cc (pc + 3) = .ok (.dup, 1)) (d2 : decode cc pcI = .ok (.invokespecial index, 3)) (kk : J Γ R er cc own nL ret tg (kc + 1 + rm.cells) (ks + N + rm.slots) (pcI + 3) lv (aR k0 g :: st) τ (F g τ)) (hqr : ∀ (D : va_G) (dA : Nat → ClassId) (A : Nat → Prop) (ad ad' : Nat → Nat → Nat) (ws xs : va_W) (H : Heap) (q : Nat), P2 → Cov dA σ ad' ws → va_P D vwCl (ws ++ xs) H → va_D A (ws ++ xs) → po σ ad dA q xs → ∃ bd, Rh D dA A τ bd H ∧ Ex σ ad' τ bd ∧ bd k0 g = q) : J Γ R er cc own nL ret tg kc ks pc lv st σ res := by
  obtain ⟨p, l, e, s, m, args, below, meth, c, D, dA, σ0, ad0⟩ := Γ
  intro C hres H locs ad ls hR hE hS hst hlv hL
  obtain ⟨hPσ, hP2, hF⟩ := hres0 hres
  have hals := hal hlv
  obtain ⟨ws, hC, hP, hD⟩ := rh_cov hR
  have hAn : ∀ q, s.heap.size ≤ q → rg σ0 ad0 s.heap.size q := fun q h => Or.inr h
  refine va_new (ci := ci) (fs := fs) (C := X) (T := T) (N := N) C.1 C.2.1 C.2.2.2.2.1 hu ty0 hty C.2.2.2.1 (C.2.2.2.2.1 _ wc) (C.2.2.2.2.1 _ wi) (C.2.2.2.2.1 _ wn) (kk_v0 C.2.2.2.2.2.1) hP hD hS hAn hci hfs (by omega) (by omega) d0 (fun q H1 hP1 hD1 hS1 => ?_)
  refine lv_dup C.1 C.2.1 d1 rfl ?_
  refine hld ad (.ref q :: .ref q :: st.map (av ad)) C.1 C.2.1 hL ?_
  have hM := hI l D dA σ ad H1.size q hPσ hals
  have hqA : rg σ0 ad0 s.heap.size q := hD1.2 ws.length (q, .inr (ci, fs)) (by rw [List.getElem?_append_right (Nat.le_refl _)]; simp)
  have hraA : ∀ z, ra σ ad H1.size q z → rg σ0 ad0 s.heap.size z := by
    intro z hz
    rcases hz with rfl | ⟨a, b, hb, rfl⟩ | hz
    · exact hqA
    · exact hR.2.2.1 a b hb
    · exact Or.inr (Nat.le_trans hS1.1 hz)
  refine rh_callI (runI (As := As.map (av ad)) (b := q) C.1 C.2.1 C.2.2.1 C.2.2.2.1 C.2.2.2.2.1 C.2.2.2.2.2.1 hL.1 hM hw jPi_blind (fun U hU hW => ⟨rfl, by rw [hU], ⟨ws, hC, by rw [hU]; exact hP1, hD1.1⟩, kk_warm hW C.2.2.2.2.2.1⟩) (by rw [List.length_map]; exact hn) (by have h9 := ac_sum ad st; rw [List.map_cons, List.sum_cons, h9]; show 1 + _ ≤ 8; omega) hrm hcs d2) hS1 hraA (fun H2 locs2 ad' ws2 xs2 g1 g2 g3 g4 g5 _ hS2 => ?_)
  obtain ⟨bd, hRn, hEn, hbq⟩ := hqr D dA (rg σ0 ad0 s.heap.size) ad ad' ws2 xs2 H2 q hP2 g1 g3 ⟨g4.1, fun z w hz => hraA _ (g4.2 z w hz)⟩ g5
  have hE2 : Ex σ ad τ bd := ex_tr g2 hEn
  obtain ⟨e1, e2⟩ := ex_als hE2 hst
  obtain ⟨e3, e4⟩ := ex_lv hE2 hlv
  have key := kk C hF H2 locs2 bd ls hRn (ex_tr hE hE2) hS2 ⟨al_mk (hg hP2), e1⟩ e3 (by rw [e4]; exact hL)
  have hst9 : (aR k0 g :: st).map (av bd) = .ref q :: st.map (av ad) := by
    show Value.ref (bd k0 g) :: st.map (av bd) = _
    rw [e2, hbq]
  rw [hst9] at key
  exact key
end JN
