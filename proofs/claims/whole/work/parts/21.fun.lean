noncomputable def B9_sum_9 (N : Nat) (K9 : Nat → Int32 → Int32 → Int32 → rS → Option (Int32 × rS)) (v0 : Nat) (v2 : Int32) (v3 : Int32) (v4 : Int32) (σ : rS) : Option (Int32 × rS) :=
  if v2 ≤ v4 then (
    some (v3, σ)) else
  if (nI (gN σ 16 v0)) ≤ v4 then (
    some (v3, σ)) else
  idx v4 (gN σ 16 v0) fun j1 =>
  olet (((31 * v3) + ((gI σ 16 v0 j1) &&& 255)) &&& 65535) fun x2 =>
  K9 v0 v2 x2 (v4 + 1) σ
noncomputable def L9_sum_9 (N : Nat) : Nat → Nat → Int32 → Int32 → Int32 → rS → Option (Int32 × rS)
  | 0, _, _, _, _, _ => none
  | n + 1, v0, v2, v3, v4, σ => B9_sum_9 N (L9_sum_9 N n) v0 v2 v3 v4 σ
noncomputable def f9_sum (N : Nat) (v0 : Nat) (v1 : Int32) (v2 : Int32) (σ : rS) : Option (Int32 × rS) :=
  obind (fJ_max 0 v1 σ) fun r1 σ2 =>
  L9_sum_9 N N v0 v2 0 r1 σ2
noncomputable def newDelta {α : Type} (N a b : Nat) (σ : rS) (F : Nat → rS → Option α) : Option α := obind (f9_sum N a 0 (gI σ 15 a 1) σ) fun r σ1 => ock (0 ≤ (gI σ1 15 b 1).toInt ∧ (gI σ1 15 b 1).toInt ≤ 400 ∧ gC σ1 23 = gC σ1 22 ∧ gC σ1 24 = gC σ1 22 ∧ gC σ1 25 = gC σ1 22) (F (gC σ1 22) (mkDelta σ1 (gI σ 15 a 1) r (gI σ1 15 b 1)))
noncomputable def f1_newAct (v0 : Nat) (v1 : Int32) (v2 : Int32) (σ : rS) : Option (Unit × rS) :=
  if (gI σ 22 v0 5) < (nI (gN σ 23 v0)) then (
    idx (gI σ 22 v0 5) (gN σ 23 v0) fun j1 =>
    olet (sI σ 23 v0 j1 v1) fun σ2 =>
    idx (gI σ2 22 v0 5) (gN σ2 24 v0) fun j3 =>
    olet (sI σ2 24 v0 j3 v2) fun σ4 =>
    olet (sI σ4 22 v0 5 ((gI σ4 22 v0 5) + 1)) fun σ5 =>
    some ((), σ5)) else
  some ((), σ)
noncomputable def B1_addByte_41 (v0 : Nat) (v1 : Int32) (σ : rS) : Option (Unit × rS) :=
  idx (gI σ 22 v0 6) (gN σ 25 v0) fun j1 =>
  olet (sI σ 25 v0 j1 (Int8.toInt32 (Int32.toInt8 (Int8.toInt32 (Int32.toInt8 v1))))) fun σ2 =>
  olet (sI σ2 22 v0 6 ((gI σ2 22 v0 6) + 1)) fun σ3 =>
  idx ((gI σ3 22 v0 5) - 1) (gN σ3 24 v0) fun j4 =>
  idx ((gI σ3 22 v0 5) - 1) (gN σ3 24 v0) fun j5 =>
  olet (sI σ3 24 v0 j5 ((gI σ3 24 v0 j4) + 1)) fun σ6 =>
  some ((), σ6)
noncomputable def B1_addByte_35 (v0 : Nat) (v1 : Int32) (σ : rS) : Option (Unit × rS) :=
  obind (f1_newAct v0 (-1) 0 σ) fun r1 σ2 =>
  B1_addByte_41  v0 v1 σ2
noncomputable def f1_addByte (v0 : Nat) (v1 : Int32) (σ : rS) : Option (Unit × rS) :=
  if (gI σ 22 v0 6) < (nI (gN σ 25 v0)) then (
    if (gI σ 22 v0 5) = 0 then (
      B1_addByte_35  v0 v1 σ) else
    idx ((gI σ 22 v0 5) - 1) (gN σ 23 v0) fun j1 =>
    if (gI σ 23 v0 j1) = (-1) then (
      B1_addByte_41  v0 v1 σ) else
    B1_addByte_35  v0 v1 σ) else
  some ((), σ)
noncomputable def B1_likeBytes_20 (N : Nat) (K20 : Nat → Int32 → Nat → Int32 → Int32 → Int32 → rS → Option (Int32 × rS)) (v0 : Nat) (v1 : Int32) (v2 : Nat) (v3 : Int32) (v4 : Int32) (v5 : Int32) (σ : rS) : Option (Int32 × rS) :=
  if v4 ≤ v5 then (
    some (v5, σ)) else
  idx (v1 + v5) (gN σ 16 v0) fun j1 =>
  idx (v3 + v5) (gN σ 16 v2) fun j2 =>
  if (gI σ 16 v0 j1) = (gI σ 16 v2 j2) then (
    K20 v0 v1 v2 v3 v4 (v5 + 1) σ) else
  some (v5, σ)
noncomputable def L1_likeBytes_20 (N : Nat) : Nat → Nat → Int32 → Nat → Int32 → Int32 → Int32 → rS → Option (Int32 × rS)
  | 0, _, _, _, _, _, _, _ => none
  | n + 1, v0, v1, v2, v3, v4, v5, σ => B1_likeBytes_20 N (L1_likeBytes_20 N n) v0 v1 v2 v3 v4 v5 σ
noncomputable def f1_likeBytes (N : Nat) (v0 : Nat) (v1 : Int32) (v2 : Nat) (v3 : Int32) (σ : rS) : Option (Int32 × rS) :=
  obind (fJ_min ((gI σ 15 v0 1) - v1) ((gI σ 15 v2 1) - v3) σ) fun r1 σ2 =>
  L1_likeBytes_20 N N v0 v1 v2 v3 r1 0 σ2
noncomputable def B1_longestLike_52 (N : Nat) (K8 : Nat → Nat → Int32 → Int32 → Int32 → Int32 → rS → Option (Int32 × rS)) (v0 : Nat) (v1 : Nat) (v2 : Int32) (v3 : Int32) (v4 : Int32) (v5 : Int32) (σ : rS) : Option (Int32 × rS) :=
  K8 v0 v1 v2 v3 v4 (v5 + 1) σ
noncomputable def B1_longestLike_8 (N : Nat) (K8 : Nat → Nat → Int32 → Int32 → Int32 → Int32 → rS → Option (Int32 × rS)) (v0 : Nat) (v1 : Nat) (v2 : Int32) (v3 : Int32) (v4 : Int32) (v5 : Int32) (σ : rS) : Option (Int32 × rS) :=
  if (gI σ 15 v0 1) ≤ v5 then (
    some (v3, σ)) else
  if ((gI σ 15 v1 1) - v2) ≤ v4 then (
    some (v3, σ)) else
  obind (f1_likeBytes N v0 v5 v1 v2 σ) fun r1 σ2 =>
  if r1 ≤ v4 then (
    B1_longestLike_52 N K8 v0 v1 v2 v3 v4 v5 σ2) else
  B1_longestLike_52 N K8 v0 v1 v2 v5 r1 v5 σ2
noncomputable def L1_longestLike_8 (N : Nat) : Nat → Nat → Nat → Int32 → Int32 → Int32 → Int32 → rS → Option (Int32 × rS)
  | 0, _, _, _, _, _, _, _ => none
  | n + 1, v0, v1, v2, v3, v4, v5, σ => B1_longestLike_8 N (L1_longestLike_8 N n) v0 v1 v2 v3 v4 v5 σ
noncomputable def f1_longestLike (N : Nat) (v0 : Nat) (v1 : Nat) (v2 : Int32) (σ : rS) : Option (Int32 × rS) :=
  L1_longestLike_8 N N v0 v1 v2 (-1) 3 0 σ
noncomputable def f9_has (v0 : Nat) (v1 : Int32) (σ : rS) : Option (Bool × rS) :=
  if v1 < 0 then (
    some (false, σ)) else
  if (gI σ 15 v0 1) ≤ v1 then (
    some (false, σ)) else
  some (true, σ)
noncomputable def f9_byteAt (v0 : Nat) (v1 : Int32) (σ : rS) : Option (Int32 × rS) :=
  obind (f9_has v0 v1 σ) fun r1 σ2 =>
  if r1 = true then (
    idx v1 (gN σ2 16 v0) fun j3 =>
    some (((gI σ2 16 v0 j3) &&& 255), σ2)) else
  some (0, σ2)
noncomputable def B1_fill_85 (N : Nat) (K5 : Nat → Nat → Nat → Int32 → Int32 → rS → Option (Unit × rS)) (v0 : Nat) (v1 : Nat) (v2 : Nat) (v3 : Int32) (v4 : Int32) (σ : rS) : Option (Unit × rS) :=
  K5 v0 v1 v2 v3 (v4 + 1) σ
noncomputable def B1_fill_5 (N : Nat) (K5 : Nat → Nat → Nat → Int32 → Int32 → rS → Option (Unit × rS)) (v0 : Nat) (v1 : Nat) (v2 : Nat) (v3 : Int32) (v4 : Int32) (σ : rS) : Option (Unit × rS) :=
  if (gI σ 15 v2 1) ≤ v4 then (
    some ((), σ)) else
  if (gI σ 15 v2 1) ≤ v3 then (
    some ((), σ)) else
  obind (f1_longestLike N v1 v2 v3 σ) fun r1 σ2 =>
  if r1 = (-1) then (
    obind (f9_byteAt v2 v3 σ2) fun r9 σ10 =>
    obind (f1_addByte v0 r9 σ10) fun r11 σ12 =>
    B1_fill_85 N K5 v0 v1 v2 (v3 + 1) v4 σ12) else
  obind (f1_likeBytes N v1 r1 v2 v3 σ2) fun r3 σ4 =>
  obind (f1_newAct v0 r1 r3 σ4) fun r5 σ6 =>
  olet (sI σ6 22 v0 7 ((gI σ6 22 v0 7) + r3)) fun σ7 =>
  olet (v3 + r3) fun x8 =>
  B1_fill_85 N K5 v0 v1 v2 x8 v4 σ7
noncomputable def L1_fill_5 (N : Nat) : Nat → Nat → Nat → Nat → Int32 → Int32 → rS → Option (Unit × rS)
  | 0, _, _, _, _, _, _ => none
  | n + 1, v0, v1, v2, v3, v4, σ => B1_fill_5 N (L1_fill_5 N n) v0 v1 v2 v3 v4 σ
noncomputable def f1_fill (N : Nat) (v0 : Nat) (v1 : Nat) (v2 : Nat) (σ : rS) : Option (Unit × rS) :=
  L1_fill_5 N N v0 v1 v2 0 0 σ
noncomputable def f1_fits (N : Nat) (v0 : Nat) (v1 : Nat) (σ : rS) : Option (Bool × rS) :=
  if (gI σ 15 v1 1) = (gI σ 22 v0 0) then (
    obind (f9_sum N v1 0 (gI σ 15 v1 1) σ) fun r1 σ2 =>
    if r1 = (gI σ2 22 v0 1) then (
      some (true, σ2)) else
    some (false, σ2)) else
  some (false, σ)
noncomputable def f9_append (v0 : Nat) (v1 : Int32) (σ : rS) : Option (Unit × rS) :=
  if (gI σ 15 v0 1) < (nI (gN σ 16 v0)) then (
    idx (gI σ 15 v0 1) (gN σ 16 v0) fun j1 =>
    olet (sI σ 16 v0 j1 (Int8.toInt32 (Int32.toInt8 (Int8.toInt32 (Int32.toInt8 v1))))) fun σ2 =>
    olet (sI σ2 15 v0 1 ((gI σ2 15 v0 1) + 1)) fun σ3 =>
    some ((), σ3)) else
  some ((), σ)
noncomputable def B9_appendAll_7 (N : Nat) (k1 : Nat) (K7 : Nat → Nat → Int32 → Int32 → rS → Option (Unit × rS)) (v0 : Nat) (v1 : Nat) (v3 : Int32) (v4 : Int32) (σ : rS) : Option (Unit × rS) :=
  if v3 ≤ v4 then (
    some ((), σ)) else
  if (nI (gN σ k1 v1)) ≤ v4 then (
    some ((), σ)) else
  idx v4 (gN σ k1 v1) fun j1 =>
  obind (f9_append v0 (gI σ k1 v1 j1) σ) fun r2 σ3 =>
  K7 v0 v1 v3 (v4 + 1) σ3
noncomputable def L9_appendAll_7 (N : Nat) (k1 : Nat) : Nat → Nat → Nat → Int32 → Int32 → rS → Option (Unit × rS)
  | 0, _, _, _, _, _ => none
  | n + 1, v0, v1, v3, v4, σ => B9_appendAll_7 N k1 (L9_appendAll_7 N k1 n) v0 v1 v3 v4 σ
noncomputable def f9_appendAll (N : Nat) (k1 : Nat) (v0 : Nat) (v1 : Nat) (v2 : Int32) (v3 : Int32) (σ : rS) : Option (Unit × rS) :=
  obind (fJ_max 0 v2 σ) fun r1 σ2 =>
  L9_appendAll_7 N k1 N v0 v1 v3 r1 σ2
noncomputable def B1_make_86 (N : Nat) (K5 : Nat → Nat → Nat → Int32 → Int32 → rS → Option (Unit × rS)) (v0 : Nat) (v1 : Nat) (v2 : Nat) (v3 : Int32) (v4 : Int32) (σ : rS) : Option (Unit × rS) :=
  K5 v0 v1 v2 v3 (v4 + 1) σ
noncomputable def B1_make_5 (N : Nat) (K5 : Nat → Nat → Nat → Int32 → Int32 → rS → Option (Unit × rS)) (v0 : Nat) (v1 : Nat) (v2 : Nat) (v3 : Int32) (v4 : Int32) (σ : rS) : Option (Unit × rS) :=
  if (gI σ 22 v0 5) ≤ v4 then (
    some ((), σ)) else
  idx v4 (gN σ 23 v0) fun j1 =>
  if (gI σ 23 v0 j1) = (-1) then (
    idx v4 (gN σ 24 v0) fun j7 =>
    obind (f9_appendAll N 25 v2 v0 v3 (v3 + (gI σ 24 v0 j7)) σ) fun r8 σ9 =>
    idx v4 (gN σ9 24 v0) fun j10 =>
    olet (v3 + (gI σ9 24 v0 j10)) fun x11 =>
    B1_make_86 N K5 v0 v1 v2 x11 v4 σ9) else
  idx v4 (gN σ 23 v0) fun j2 =>
  idx v4 (gN σ 23 v0) fun j3 =>
  idx v4 (gN σ 24 v0) fun j4 =>
  obind (f9_appendAll N 16 v2 v1 (gI σ 23 v0 j2) ((gI σ 23 v0 j3) + (gI σ 24 v0 j4)) σ) fun r5 σ6 =>
  B1_make_86 N K5 v0 v1 v2 v3 v4 σ6
noncomputable def L1_make_5 (N : Nat) : Nat → Nat → Nat → Nat → Int32 → Int32 → rS → Option (Unit × rS)
  | 0, _, _, _, _, _, _ => none
  | n + 1, v0, v1, v2, v3, v4, σ => B1_make_5 N (L1_make_5 N n) v0 v1 v2 v3 v4 σ
noncomputable def f1_make (N : Nat) (v0 : Nat) (v1 : Nat) (v2 : Nat) (σ : rS) : Option (Unit × rS) :=
  L1_make_5 N N v0 v1 v2 0 0 σ
noncomputable def f1_told (v0 : Nat) (v1 : Int32) (σ : rS) : Option (Int32 × rS) :=
  if v1 = 0 then (
    some ((gI σ 22 v0 5), σ)) else
  if v1 = 1 then (
    some ((gI σ 22 v0 7), σ)) else
  some ((gI σ 22 v0 6), σ)
noncomputable def f1_toldOfAct (v0 : Nat) (v1 : Int32) (v2 : Int32) (σ : rS) : Option (Int32 × rS) :=
  if v2 = 0 then (
    idx v1 (gN σ 23 v0) fun j3 =>
    if (gI σ 23 v0 j3) = (-1) then (
      some (1, σ)) else
    some (0, σ)) else
  if v2 = 1 then (
    idx v1 (gN σ 23 v0) fun j2 =>
    some ((gI σ 23 v0 j2), σ)) else
  idx v1 (gN σ 24 v0) fun j1 =>
  some ((gI σ 24 v0 j1), σ)
noncomputable def f9_appendPair (v0 : Nat) (v1 : Int32) (σ : rS) : Option (Unit × rS) :=
  obind (f9_append v0 v1 σ) fun r1 σ2 =>
  obind (f9_append v0 (v1 >>> (8 &&& 31)) σ2) fun r3 σ4 =>
  some ((), σ4)
noncomputable def f7_has (v0 : Nat) (v1 : Int32) (σ : rS) : Option (Bool × rS) :=
  if v1 < 0 then (
    some (false, σ)) else
  if (nI (gN σ 14 v0)) ≤ v1 then (
    some (false, σ)) else
  some (true, σ)
noncomputable def f7_hasStretch (v0 : Nat) (v1 : Int32) (v2 : Int32) (σ : rS) : Option (Bool × rS) :=
  if v1 < 0 then (
    some (false, σ)) else
  if v2 < 0 then (
    some (false, σ)) else
  if (nI (gN σ 14 v0)) < v1 then (
    some (false, σ)) else
  if ((nI (gN σ 14 v0)) - v1) < v2 then (
    some (false, σ)) else
  some (true, σ)
noncomputable def f10_isCoder (v0 : Int32) (σ : rS) : Option (Bool × rS) :=
  if v0 < 0 then (
    some (false, σ)) else
  if 4 < v0 then (
    some (false, σ)) else
  some (true, σ)
noncomputable def B3_entryOf_2 (N : Nat) (K2 : Nat → Int64 → Int32 → rS → Option (Int32 × rS)) (v0 : Nat) (v1 : Int64) (v3 : Int32) (σ : rS) : Option (Int32 × rS) :=
  if (gI σ 17 v0 2) ≤ v3 then (
    some ((-1), σ)) else
  idx v3 (gN σ 18 v0) fun j1 =>
  if (gL σ 18 v0 j1) = v1 then (
    some (v3, σ)) else
  K2 v0 v1 (v3 + 1) σ
noncomputable def L3_entryOf_2 (N : Nat) : Nat → Nat → Int64 → Int32 → rS → Option (Int32 × rS)
  | 0, _, _, _, _ => none
  | n + 1, v0, v1, v3, σ => B3_entryOf_2 N (L3_entryOf_2 N n) v0 v1 v3 σ
noncomputable def f3_entryOf (N : Nat) (v0 : Nat) (v1 : Int64) (σ : rS) : Option (Int32 × rS) :=
  L3_entryOf_2 N N v0 v1 0 σ
noncomputable def B3_remove_2 (N : Nat) (K2 : Nat → Int32 → rS → Option (Unit × rS)) (v0 : Nat) (v2 : Int32) (σ : rS) : Option (Unit × rS) :=
  if (gI σ 17 v0 2) ≤ (v2 + 1) then (
    olet (sI σ 17 v0 2 ((gI σ 17 v0 2) - 1)) fun σ1 =>
    idx (gI σ1 17 v0 2) (gN σ1 19 v0) fun j2 =>
    olet (sR σ1 19 v0 j2 none) fun σ3 =>
    some ((), σ3)) else
  idx (v2 + 1) (gN σ 18 v0) fun j4 =>
  idx v2 (gN σ 18 v0) fun j5 =>
  olet (sL σ 18 v0 j5 (gL σ 18 v0 j4)) fun σ6 =>
  idx (v2 + 1) (gN σ6 19 v0) fun j7 =>
  olet (gR σ6 19 v0 j7) fun o8 =>
  idx v2 (gN σ6 19 v0) fun j9 =>
  olet (sR σ6 19 v0 j9 o8) fun σ10 =>
  K2 v0 (v2 + 1) σ10
noncomputable def L3_remove_2 (N : Nat) : Nat → Nat → Int32 → rS → Option (Unit × rS)
  | 0, _, _, _ => none
  | n + 1, v0, v2, σ => B3_remove_2 N (L3_remove_2 N n) v0 v2 σ
noncomputable def f3_remove (N : Nat) (v0 : Nat) (v1 : Int32) (σ : rS) : Option (Unit × rS) :=
  L3_remove_2 N N v0 v1 σ
noncomputable def f8_release (v0 : Nat) (v1 : Nat) (σ : rS) : Option (Unit × rS) :=
  olet (sI σ 20 v1 3 ((gI σ 20 v1 3) - 1)) fun σ1 =>
  if (gI σ1 20 v1 3) = 0 then (
    olet (sI σ1 6 v0 1 ((gI σ1 6 v0 1) - 1)) fun σ2 =>
    some ((), σ2)) else
  some ((), σ1)
noncomputable def f10_isKind (v0 : Int32) (σ : rS) : Option (Bool × rS) :=
  if v0 < 0 then (
    some (false, σ)) else
  if 7 < v0 then (
    some (false, σ)) else
  some (true, σ)
noncomputable def B3_insert_73 (N : Nat) (v0 : Nat) (v1 : Int64) (v3 : Nat) (v4 : Int32) (σ : rS) : Option (Unit × rS) :=
  idx v4 (gN σ 18 v0) fun j1 =>
  olet (sL σ 18 v0 j1 v1) fun σ2 =>
  idx v4 (gN σ2 19 v0) fun j3 =>
  olet (sR σ2 19 v0 j3 (some v3)) fun σ4 =>
  olet (sI σ4 17 v0 2 ((gI σ4 17 v0 2) + 1)) fun σ5 =>
  some ((), σ5)
noncomputable def B3_insert_16 (N : Nat) (K16 : Nat → Int64 → Nat → Int32 → rS → Option (Unit × rS)) (v0 : Nat) (v1 : Int64) (v3 : Nat) (v4 : Int32) (σ : rS) : Option (Unit × rS) :=
  if v4 ≤ 0 then (
    B3_insert_73 N v0 v1 v3 v4 σ) else
  idx (v4 - 1) (gN σ 18 v0) fun j1 =>
  if (gL σ 18 v0 j1) ≤ v1 then (
    B3_insert_73 N v0 v1 v3 v4 σ) else
  idx (v4 - 1) (gN σ 18 v0) fun j2 =>
  idx v4 (gN σ 18 v0) fun j3 =>
  olet (sL σ 18 v0 j3 (gL σ 18 v0 j2)) fun σ4 =>
  idx (v4 - 1) (gN σ4 19 v0) fun j5 =>
  olet (gR σ4 19 v0 j5) fun o6 =>
  idx v4 (gN σ4 19 v0) fun j7 =>
  olet (sR σ4 19 v0 j7 o6) fun σ8 =>
  K16 v0 v1 v3 (v4 + (-1)) σ8
noncomputable def L3_insert_16 (N : Nat) : Nat → Nat → Int64 → Nat → Int32 → rS → Option (Unit × rS)
  | 0, _, _, _, _, _ => none
  | n + 1, v0, v1, v3, v4, σ => B3_insert_16 N (L3_insert_16 N n) v0 v1 v3 v4 σ
noncomputable def f3_insert (N : Nat) (v0 : Nat) (v1 : Int64) (v3 : Nat) (σ : rS) : Option (Unit × rS) :=
  if (gI σ 17 v0 2) < 12 then (
    olet (gI σ 17 v0 2) fun x1 =>
    L3_insert_16 N N v0 v1 v3 x1 σ) else
  some ((), σ)
noncomputable def B9_hasAt_32 (N : Nat) (k3 : Nat) (K32 : Nat → Int32 → Nat → Int32 → Int32 → rS → Option (Bool × rS)) (v0 : Nat) (v1 : Int32) (v3 : Nat) (v4 : Int32) (v5 : Int32) (σ : rS) : Option (Bool × rS) :=
  if v4 ≤ v5 then (
    some (true, σ)) else
  idx (v1 + v5) (gN σ 16 v0) fun j1 =>
  idx v5 (gN σ k3 v3) fun j2 =>
  if (gI σ 16 v0 j1) = (gI σ k3 v3 j2) then (
    K32 v0 v1 v3 v4 (v5 + 1) σ) else
  some (false, σ)
noncomputable def L9_hasAt_32 (N : Nat) (k3 : Nat) : Nat → Nat → Int32 → Nat → Int32 → Int32 → rS → Option (Bool × rS)
  | 0, _, _, _, _, _, _ => none
  | n + 1, v0, v1, v3, v4, v5, σ => B9_hasAt_32 N k3 (L9_hasAt_32 N k3 n) v0 v1 v3 v4 v5 σ
noncomputable def f9_hasAt (N : Nat) (k3 : Nat) (v0 : Nat) (v1 : Int32) (v2 : Int32) (v3 : Nat) (v4 : Int32) (σ : rS) : Option (Bool × rS) :=
  if (v2 - v1) = v4 then (
    if v1 < 0 then (
      some (false, σ)) else
    if (gI σ 15 v0 1) < v2 then (
      some (false, σ)) else
    if v4 ≤ (nI (gN σ k3 v3)) then (
      L9_hasAt_32 N k3 N v0 v1 v3 v4 0 σ) else
    some (false, σ)) else
  some (false, σ)
noncomputable def B8_bodyLike_61 (N : Nat) (K11 : Nat → Nat → Int32 → Int32 → rS → Option (Option Nat × rS)) (v1 : Nat) (v2 : Nat) (v3 : Int32) (v4 : Int32) (σ : rS) : Option (Option Nat × rS) :=
  K11 v1 v2 v3 (v4 + 1) σ
noncomputable def B8_bodyLike_11 (N : Nat) (K11 : Nat → Nat → Int32 → Int32 → rS → Option (Option Nat × rS)) (v1 : Nat) (v2 : Nat) (v3 : Int32) (v4 : Int32) (σ : rS) : Option (Option Nat × rS) :=
  if v3 ≤ v4 then (
    some (none, σ)) else
  idx v4 (gN σ 7 v2) fun j1 =>
  olet (gR σ 7 v2 j1) fun o2 =>
  onul o2 (
    B8_bodyLike_61 N K11 v1 v2 v3 v4 σ) fun i3 =>
  if (gI σ 20 i3 3) ≤ 0 then (
    B8_bodyLike_61 N K11 v1 v2 v3 v4 σ) else
  obind (f9_hasAt N 21 v1 0 (gI σ 15 v1 1) i3 (gI σ 20 i3 1) σ) fun r4 σ5 =>
  if r4 = true then (
    some (some i3, σ5)) else
  B8_bodyLike_61 N K11 v1 v2 v3 v4 σ5
noncomputable def L8_bodyLike_11 (N : Nat) : Nat → Nat → Nat → Int32 → Int32 → rS → Option (Option Nat × rS)
  | 0, _, _, _, _, _ => none
  | n + 1, v1, v2, v3, v4, σ => B8_bodyLike_11 N (L8_bodyLike_11 N n) v1 v2 v3 v4 σ
noncomputable def f8_bodyLike (N : Nat) (v0 : Nat) (v1 : Nat) (σ : rS) : Option (Option Nat × rS) :=
  olet (nI (gN σ 7 v0)) fun x1 =>
  L8_bodyLike_11 N N v1 v0 x1 0 σ
noncomputable def B8_newBody_33 (N : Nat) (K2 : Nat → Nat → Int32 → rS → Option (Option Nat × rS)) (v0 : Nat) (v1 : Nat) (v2 : Int32) (σ : rS) : Option (Option Nat × rS) :=
  idx v2 (gN σ 7 v0) fun j1 =>
  olet (gR σ 7 v0 j1) fun o2 =>
  onul o2 none fun i3 =>
  if (gI σ 20 i3 3) ≤ 0 then (
    idx v2 (gN σ 7 v0) fun j4 =>
    olet (gR σ 7 v0 j4) fun o5 =>
    onul o5 none fun i6 =>
    ock (okcb σ 16 v1 21 i6 0 0 (gI σ 15 v1 1) = true) <|
    olet (sIr σ 21 i6 (va_cpy (gI σ 16 v1) (gI σ 21 i6) (Int32.toNatClampNeg 0) (Int32.toNatClampNeg 0) (Int32.toNatClampNeg (gI σ 15 v1 1)))) fun σ7 =>
    olet (sI σ7 20 i6 1 (gI σ7 15 v1 1)) fun σ8 =>
    olet (sI σ8 20 i6 2 (gI σ8 6 v0 2)) fun σ9 =>
    olet (sI σ9 6 v0 2 ((gI σ9 6 v0 2) + 1)) fun σ10 =>
    olet (sI σ10 6 v0 1 ((gI σ10 6 v0 1) + 1)) fun σ11 =>
    some (some i6, σ11)) else
  K2 v0 v1 (v2 + 1) σ
noncomputable def B8_newBody_2 (N : Nat) (K2 : Nat → Nat → Int32 → rS → Option (Option Nat × rS)) (v0 : Nat) (v1 : Nat) (v2 : Int32) (σ : rS) : Option (Option Nat × rS) :=
  if (nI (gN σ 7 v0)) ≤ v2 then (
    some (none, σ)) else
  idx v2 (gN σ 7 v0) fun j1 =>
  olet (gR σ 7 v0 j1) fun o2 =>
  onul o2 (
    newBody σ fun i4 σ5 =>
    idx v2 (gN σ5 7 v0) fun j6 =>
    olet (sR σ5 7 v0 j6 (some i4)) fun σ7 =>
    B8_newBody_33 N K2 v0 v1 v2 σ7) fun i3 =>
  B8_newBody_33 N K2 v0 v1 v2 σ
noncomputable def L8_newBody_2 (N : Nat) : Nat → Nat → Nat → Int32 → rS → Option (Option Nat × rS)
  | 0, _, _, _, _ => none
  | n + 1, v0, v1, v2, σ => B8_newBody_2 N (L8_newBody_2 N n) v0 v1 v2 σ
noncomputable def f8_newBody (N : Nat) (v0 : Nat) (v1 : Nat) (σ : rS) : Option (Option Nat × rS) :=
  L8_newBody_2 N 31 v0 v1 0 σ
noncomputable def B7_gaps_40 (N : Nat) (K13 : Nat → Int32 → Nat → Int32 → Int32 → rS → Option (Int32 × rS)) (v0 : Nat) (v1 : Int32) (v2 : Nat) (v3 : Int32) (v4 : Int32) (σ : rS) : Option (Int32 × rS) :=
  K13 v0 v1 v2 v3 (v4 + 1) σ
noncomputable def B7_gaps_13 (N : Nat) (K13 : Nat → Int32 → Nat → Int32 → Int32 → rS → Option (Int32 × rS)) (v0 : Nat) (v1 : Int32) (v2 : Nat) (v3 : Int32) (v4 : Int32) (σ : rS) : Option (Int32 × rS) :=
  if v3 ≤ v4 then (
    some (v1, σ)) else
  idx v4 (gN σ 14 v2) fun j1 =>
  olet (gL σ 14 v2 j1) fun x2 =>
  obind (f4_isGap (gI σ 13 v0 0) x2 σ) fun r3 σ4 =>
  if r3 = true then (
    B7_gaps_40 N K13 v0 (v1 + 1) v2 v3 v4 σ4) else
  B7_gaps_40 N K13 v0 v1 v2 v3 v4 σ4
noncomputable def L7_gaps_13 (N : Nat) : Nat → Nat → Int32 → Nat → Int32 → Int32 → rS → Option (Int32 × rS)
  | 0, _, _, _, _, _, _ => none
  | n + 1, v0, v1, v2, v3, v4, σ => B7_gaps_13 N (L7_gaps_13 N n) v0 v1 v2 v3 v4 σ
noncomputable def f7_gaps (N : Nat) (v0 : Nat) (σ : rS) : Option (Int32 × rS) :=
  olet (nI (gN σ 14 v0)) fun x1 =>
  L7_gaps_13 N N v0 0 v0 x1 0 σ
noncomputable def B7_utmost_122 (N : Nat) (K18 : Nat → Bool → Bool → Int64 → Nat → Int32 → Int32 → rS → Option (Int64 × rS)) (v0 : Nat) (v1 : Bool) (v2 : Bool) (v3 : Int64) (v5 : Nat) (v6 : Int32) (v7 : Int32) (σ : rS) : Option (Int64 × rS) :=
  K18 v0 v1 v2 v3 v5 v6 (v7 + 1) σ
noncomputable def B7_utmost_120 (N : Nat) (K18 : Nat → Bool → Bool → Int64 → Nat → Int32 → Int32 → rS → Option (Int64 × rS)) (v0 : Nat) (v1 : Bool) (v3 : Int64) (v5 : Nat) (v6 : Int32) (v7 : Int32) (σ : rS) : Option (Int64 × rS) :=
  B7_utmost_122 N K18 v0 v1 true v3 v5 v6 v7 σ
noncomputable def B7_utmost_117 (N : Nat) (K18 : Nat → Bool → Bool → Int64 → Nat → Int32 → Int32 → rS → Option (Int64 × rS)) (v0 : Nat) (v1 : Bool) (v5 : Nat) (v6 : Int32) (v7 : Int32) (v8 : Int64) (σ : rS) : Option (Int64 × rS) :=
  B7_utmost_120 N K18 v0 v1 v8 v5 v6 v7 σ
noncomputable def B7_utmost_106 (N : Nat) (K18 : Nat → Bool → Bool → Int64 → Nat → Int32 → Int32 → rS → Option (Int64 × rS)) (v0 : Nat) (v1 : Bool) (v2 : Bool) (v3 : Int64) (v5 : Nat) (v6 : Int32) (v7 : Int32) (v8 : Int64) (s0 : Bool) (σ : rS) : Option (Int64 × rS) :=
  if v2 = true then (
    if s0 = true then (
      B7_utmost_117 N K18 v0 v1 v5 v6 v7 v8 σ) else
    B7_utmost_120 N K18 v0 v1 v3 v5 v6 v7 σ) else
  B7_utmost_117 N K18 v0 v1 v5 v6 v7 v8 σ
noncomputable def B7_utmost_18 (N : Nat) (K18 : Nat → Bool → Bool → Int64 → Nat → Int32 → Int32 → rS → Option (Int64 × rS)) (v0 : Nat) (v1 : Bool) (v2 : Bool) (v3 : Int64) (v5 : Nat) (v6 : Int32) (v7 : Int32) (σ : rS) : Option (Int64 × rS) :=
  if v6 ≤ v7 then (
    some (v3, σ)) else
  idx v7 (gN σ 14 v5) fun j1 =>
  olet (gL σ 14 v5 j1) fun x2 =>
  obind (f4_isGap (gI σ 13 v0 0) x2 σ) fun r3 σ4 =>
  if r3 = true then (
    B7_utmost_122 N K18 v0 v1 v2 v3 v5 v6 v7 σ4) else
  if v1 = true then (
    obind (f4_rank (gI σ4 13 v0 0) x2 σ4) fun r9 σ10 =>
    obind (f4_rank (gI σ10 13 v0 0) v3 σ10) fun r11 σ12 =>
    if r9 ≤ r11 then (
      B7_utmost_106 N K18 v0 v1 v2 v3 v5 v6 v7 x2 false σ12) else
    B7_utmost_106 N K18 v0 v1 v2 v3 v5 v6 v7 x2 true σ12) else
  obind (f4_rank (gI σ4 13 v0 0) x2 σ4) fun r5 σ6 =>
  obind (f4_rank (gI σ6 13 v0 0) v3 σ6) fun r7 σ8 =>
  if r7 ≤ r5 then (
    B7_utmost_106 N K18 v0 v1 v2 v3 v5 v6 v7 x2 false σ8) else
  B7_utmost_106 N K18 v0 v1 v2 v3 v5 v6 v7 x2 true σ8
noncomputable def L7_utmost_18 (N : Nat) : Nat → Nat → Bool → Bool → Int64 → Nat → Int32 → Int32 → rS → Option (Int64 × rS)
  | 0, _, _, _, _, _, _, _, _ => none
  | n + 1, v0, v1, v2, v3, v5, v6, v7, σ => B7_utmost_18 N (L7_utmost_18 N n) v0 v1 v2 v3 v5 v6 v7 σ
noncomputable def f7_utmost (N : Nat) (v0 : Nat) (v1 : Bool) (σ : rS) : Option (Int64 × rS) :=
  olet (nI (gN σ 14 v0)) fun x1 =>
  L7_utmost_18 N N v0 v1 false 0 v0 x1 0 σ
noncomputable def f9_pairAt (v0 : Nat) (v1 : Int32) (σ : rS) : Option (Int32 × rS) :=
  obind (f9_byteAt v0 v1 σ) fun r1 σ2 =>
  obind (f9_byteAt v0 (v1 + 1) σ2) fun r3 σ4 =>
  some ((r1 + (r3 <<< (8 &&& 31))), σ4)
noncomputable def B8_usersOf_51 (N : Nat) (K11 : Int32 → Nat → Int32 → Int32 → rS → Option (Int32 × rS)) (v1 : Int32) (v2 : Nat) (v3 : Int32) (v4 : Int32) (σ : rS) : Option (Int32 × rS) :=
  K11 v1 v2 v3 (v4 + 1) σ
noncomputable def B8_usersOf_11 (N : Nat) (K11 : Int32 → Nat → Int32 → Int32 → rS → Option (Int32 × rS)) (v1 : Int32) (v2 : Nat) (v3 : Int32) (v4 : Int32) (σ : rS) : Option (Int32 × rS) :=
  if v3 ≤ v4 then (
    some (0, σ)) else
  idx v4 (gN σ 7 v2) fun j1 =>
  olet (gR σ 7 v2 j1) fun o2 =>
  onul o2 (
    B8_usersOf_51 N K11 v1 v2 v3 v4 σ) fun i3 =>
  if (gI σ 20 i3 3) ≤ 0 then (
    B8_usersOf_51 N K11 v1 v2 v3 v4 σ) else
  if (gI σ 20 i3 2) = v1 then (
    some ((gI σ 20 i3 3), σ)) else
  B8_usersOf_51 N K11 v1 v2 v3 v4 σ
noncomputable def L8_usersOf_11 (N : Nat) : Nat → Int32 → Nat → Int32 → Int32 → rS → Option (Int32 × rS)
  | 0, _, _, _, _, _ => none
  | n + 1, v1, v2, v3, v4, σ => B8_usersOf_11 N (L8_usersOf_11 N n) v1 v2 v3 v4 σ
noncomputable def f8_usersOf (N : Nat) (v0 : Nat) (v1 : Int32) (σ : rS) : Option (Int32 × rS) :=
  olet (nI (gN σ 7 v0)) fun x1 =>
  L8_usersOf_11 N N v1 v0 x1 0 σ
