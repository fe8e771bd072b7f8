noncomputable def f10_streamNumbered (v0 : Nat) (v1 : Int32) (σ : rS) : Option (Option Nat × rS) :=
  if v1 < 0 then (
    some (none, σ)) else
  if (gI σ 0 v0 9) ≤ v1 then (
    some (none, σ)) else
  idx v1 (gN σ 2 v0) fun j1 =>
  olet (gR σ 2 v0 j1) fun o2 =>
  some (o2, σ)
noncomputable def f10_about (N : Nat) (v0 : Nat) (v1 : Int32) (v2 : Int32) (σ : rS) : Option (Int32 × rS) :=
  obind (f10_streamNumbered v0 v1 σ) fun r1 σ2 =>
  onul r1 (
    some ((-101), σ2)) fun i3 =>
  if v2 = 0 then (
    some ((gI σ2 15 i3 1), σ2)) else
  if v2 = 1 then (
    some ((gI σ2 15 i3 2), σ2)) else
  if v2 = 2 then (
    if (gI σ2 15 i3 3) = 0 then (
      some (0, σ2)) else
    some (1, σ2)) else
  if v2 = 3 then (
    obind (f9_sum N i3 0 (gI σ2 15 i3 1) σ2) fun r4 σ5 =>
    some (r4, σ5)) else
  some ((-102), σ2)
noncomputable def f10_deltaNumbered (v0 : Nat) (v1 : Int32) (σ : rS) : Option (Option Nat × rS) :=
  if v1 < 0 then (
    some (none, σ)) else
  if (gI σ 0 v0 11) ≤ v1 then (
    some (none, σ)) else
  idx v1 (gN σ 4 v0) fun j1 =>
  olet (gR σ 4 v0 j1) fun o2 =>
  some (o2, σ)
noncomputable def f10_found (v0 : Nat) (v1 : Int32) (σ : rS) : Option (Int32 × rS) :=
  olet (sI σ 0 v0 12 v1) fun σ1 =>
  idx v1 (gN σ1 5 v0) fun j2 =>
  idx v1 (gN σ1 5 v0) fun j3 =>
  olet (sI σ1 5 v0 j3 ((gI σ1 5 v0 j2) + 1)) fun σ4 =>
  some (((-10) - v1), σ4)
noncomputable def f10_act (v0 : Nat) (v1 : Int32) (v2 : Int32) (v3 : Int32) (σ : rS) : Option (Int32 × rS) :=
  obind (f10_deltaNumbered v0 v1 σ) fun r1 σ2 =>
  onul r1 (
    some ((-101), σ2)) fun i3 =>
  if v3 < 0 then (
    some ((-102), σ2)) else
  if v3 ≤ 2 then (
    if v2 < (-1) then (
      obind (f10_found v0 2 σ2) fun r4 σ5 =>
      some (r4, σ5)) else
    if v2 < (gI σ2 22 i3 5) then (
      if v2 = (-1) then (
        obind (f1_told i3 v3 σ2) fun r8 σ9 =>
        some (r8, σ9)) else
      obind (f1_toldOfAct i3 v2 v3 σ2) fun r6 σ7 =>
      some (r6, σ7)) else
    obind (f10_found v0 2 σ2) fun r10 σ11 =>
    some (r10, σ11)) else
  some ((-102), σ2)
noncomputable def f10_add (v0 : Nat) (v1 : Int32) (v2 : Int32) (σ : rS) : Option (Int32 × rS) :=
  obind (f10_streamNumbered v0 v1 σ) fun r1 σ2 =>
  onul r1 (
    some ((-101), σ2)) fun i3 =>
  if (gI σ2 15 i3 3) = 0 then (
    if (gI σ2 15 i3 1) < 400 then (
      obind (f9_append i3 v2 σ2) fun r4 σ5 =>
      some ((gI σ5 15 i3 1), σ5)) else
    some ((-104), σ2)) else
  some ((-103), σ2)
noncomputable def f10_appendPiece (N : Nat) (v0 : Nat) (v1 : Nat) (v2 : Int32) (v3 : Nat) (σ : rS) : Option (Unit × rS) :=
  olet (gI σ 15 v1 1) fun x1 =>
  obind (f9_append v1 (160 + v2) σ) fun r2 σ3 =>
  obind (f9_append v1 (gI σ3 13 v3 0) σ3) fun r4 σ5 =>
  obind (f9_append v1 (nI (gN σ5 14 v3)) σ5) fun r6 σ7 =>
  obind (f9_appendPair v1 (gI σ7 8 v0 1) σ7) fun r8 σ9 =>
  obind (f9_appendAll N 9 v1 v0 0 (gI σ9 8 v0 1) σ9) fun r10 σ11 =>
  obind (f9_sum N v1 x1 (gI σ11 15 v1 1) σ11) fun r12 σ13 =>
  obind (f9_appendPair v1 r12 σ13) fun r14 σ15 =>
  some ((), σ15)
noncomputable def f10_newStream (v0 : Nat) (σ : rS) : Option (Int32 × rS) :=
  newStream σ fun i1 σ2 =>
  idx (gI σ 0 v0 9) (gN σ2 2 v0) fun j3 =>
  olet (sR σ2 2 v0 j3 (some i1)) fun σ4 =>
  olet (sI σ4 0 v0 9 ((gI σ4 0 v0 9) + 1)) fun σ5 =>
  some (((gI σ5 0 v0 9) - 1), σ5)
noncomputable def f10_apply (N : Nat) (v0 : Nat) (v1 : Int32) (v2 : Int32) (σ : rS) : Option (Int32 × rS) :=
  obind (f10_deltaNumbered v0 v1 σ) fun r1 σ2 =>
  obind (f10_streamNumbered v0 v2 σ2) fun r3 σ4 =>
  onul r1 (
    some ((-101), σ4)) fun i5 =>
  onul r3 (
    some ((-101), σ4)) fun i6 =>
  obind (f1_fits N i5 i6 σ4) fun r7 σ8 =>
  if r7 = true then (
    if (gI σ8 0 v0 9) < 24 then (
      obind (f10_newStream v0 σ8) fun r9 σ10 =>
      idx r9 (gN σ10 2 v0) fun j11 =>
      olet (gR σ10 2 v0 j11) fun o12 =>
      onul o12 none fun i13 =>
      obind (f1_make N i5 i6 i13 σ10) fun r14 σ15 =>
      some (r9, σ15)) else
    some ((-104), σ8)) else
  obind (f10_found v0 9 σ8) fun r16 σ17 =>
  some (r16, σ17)
noncomputable def f10_at (v0 : Nat) (v1 : Int32) (v2 : Int32) (σ : rS) : Option (Int32 × rS) :=
  obind (f10_streamNumbered v0 v1 σ) fun r1 σ2 =>
  onul r1 (
    some ((-101), σ2)) fun i3 =>
  obind (f9_has i3 v2 σ2) fun r4 σ5 =>
  if r4 = true then (
    obind (f9_byteAt i3 v2 σ5) fun r6 σ7 =>
    some (r6, σ7)) else
  obind (f10_found v0 2 σ5) fun r8 σ9 =>
  some (r8, σ9)
noncomputable def f10_rowNumbered (v0 : Nat) (v1 : Int32) (σ : rS) : Option (Option Nat × rS) :=
  if v1 < 0 then (
    some (none, σ)) else
  if (gI σ 0 v0 8) ≤ v1 then (
    some (none, σ)) else
  idx v1 (gN σ 1 v0) fun j1 =>
  olet (gR σ 1 v0 j1) fun o2 =>
  some (o2, σ)
noncomputable def B10_best_84 (N : Nat) (K36 : Nat → Nat → Int32 → Int32 → Int32 → rS → Option (Int32 × rS)) (v0 : Nat) (v2 : Nat) (v3 : Int32) (v4 : Int32) (v5 : Int32) (σ : rS) : Option (Int32 × rS) :=
  K36 v0 v2 v3 v4 (v5 + 1) σ
noncomputable def B10_best_36 (N : Nat) (K36 : Nat → Nat → Int32 → Int32 → Int32 → rS → Option (Int32 × rS)) (v0 : Nat) (v2 : Nat) (v3 : Int32) (v4 : Int32) (v5 : Int32) (σ : rS) : Option (Int32 × rS) :=
  if 4 < v5 then (
    some (v3, σ)) else
  obind (f5_pack N 14 v0 v5 v2 (nI (gN σ 14 v2)) σ) fun r1 σ2 =>
  if v4 ≤ (gI σ2 8 v0 1) then (
    B10_best_84 N K36 v0 v2 v3 v4 v5 σ2) else
  olet (gI σ2 8 v0 1) fun x3 =>
  B10_best_84 N K36 v0 v2 v5 x3 v5 σ2
noncomputable def L10_best_36 (N : Nat) : Nat → Nat → Nat → Int32 → Int32 → Int32 → rS → Option (Int32 × rS)
  | 0, _, _, _, _, _, _ => none
  | n + 1, v0, v2, v3, v4, v5, σ => B10_best_36 N (L10_best_36 N n) v0 v2 v3 v4 v5 σ
noncomputable def f10_best (N : Nat) (v0 : Nat) (v1 : Int32) (σ : rS) : Option (Int32 × rS) :=
  obind (f10_rowNumbered v0 v1 σ) fun r1 σ2 =>
  onul r1 (
    some ((-101), σ2)) fun i3 =>
  if (gI σ2 13 i3 2) = 0 then (
    L10_best_36 N N v0 i3 0 265 0 σ2) else
  obind (f10_found v0 1 σ2) fun r4 σ5 =>
  some (r4, σ5)
noncomputable def f10_compare (v0 : Nat) (v1 : Int32) (v2 : Int32) (v3 : Int32) (σ : rS) : Option (Int32 × rS) :=
  obind (f10_rowNumbered v0 v1 σ) fun r1 σ2 =>
  onul r1 (
    some ((-101), σ2)) fun i3 =>
  if (gI σ2 13 i3 2) = 0 then (
    obind (f7_has i3 v2 σ2) fun r4 σ5 =>
    if r4 = true then (
      obind (f7_has i3 v3 σ5) fun r8 σ9 =>
      if r8 = true then (
        idx v2 (gN σ9 14 i3) fun j10 =>
        idx v3 (gN σ9 14 i3) fun j11 =>
        obind (f4_compared (gI σ9 13 i3 0) (gL σ9 14 i3 j10) (gL σ9 14 i3 j11) σ9) fun r12 σ13 =>
        some (r12, σ13)) else
      obind (f10_found v0 2 σ9) fun r14 σ15 =>
      some (r14, σ15)) else
    obind (f10_found v0 2 σ5) fun r6 σ7 =>
    some (r6, σ7)) else
  obind (f10_found v0 1 σ2) fun r16 σ17 =>
  some (r16, σ17)
noncomputable def f10_copy (v0 : Nat) (v1 : Int32) (v2 : Int32) (v3 : Int32) (v4 : Int32) (v5 : Int32) (σ : rS) : Option (Int32 × rS) :=
  obind (f10_rowNumbered v0 v1 σ) fun r1 σ2 =>
  obind (f10_rowNumbered v0 v3 σ2) fun r3 σ4 =>
  onul r1 (
    some ((-101), σ4)) fun i5 =>
  onul r3 (
    some ((-101), σ4)) fun i6 =>
  if (gI σ4 13 i5 0) = (gI σ4 13 i6 0) then (
    if (gI σ4 13 i5 2) = 0 then (
      if (gI σ4 13 i6 2) = 0 then (
        obind (f7_hasStretch i5 v2 v5 σ4) fun r9 σ10 =>
        if r9 = true then (
          obind (f7_hasStretch i6 v4 v5 σ10) fun r13 σ14 =>
          if r13 = true then (
            ock (okcp σ14 14 i5 14 i6 v2 v4 v5 = true) <|
            olet (sLr σ14 14 i6 (va_cpy (gL σ14 14 i5) (gL σ14 14 i6) (Int32.toNatClampNeg v2) (Int32.toNatClampNeg v4) (Int32.toNatClampNeg v5))) fun σ15 =>
            some (0, σ15)) else
          obind (f10_found v0 2 σ14) fun r16 σ17 =>
          some (r16, σ17)) else
        obind (f10_found v0 2 σ10) fun r11 σ12 =>
        some (r11, σ12)) else
      obind (f10_found v0 1 σ4) fun r18 σ19 =>
      some (r18, σ19)) else
    obind (f10_found v0 1 σ4) fun r7 σ8 =>
    some (r7, σ8)) else
  obind (f10_found v0 3 σ4) fun r20 σ21 =>
  some (r20, σ21)
noncomputable def f10_cost (N : Nat) (v0 : Nat) (v1 : Int32) (v2 : Int32) (σ : rS) : Option (Int32 × rS) :=
  obind (f10_rowNumbered v0 v1 σ) fun r1 σ2 =>
  onul r1 (
    some ((-101), σ2)) fun i3 =>
  obind (f10_isCoder v2 σ2) fun r4 σ5 =>
  if r4 = true then (
    if (gI σ5 13 i3 2) = 0 then (
      obind (f5_pack N 14 v0 v2 i3 (nI (gN σ5 14 i3)) σ5) fun r6 σ7 =>
      some ((gI σ7 8 v0 1), σ7)) else
    obind (f10_found v0 1 σ5) fun r8 σ9 =>
    some (r8, σ9)) else
  some ((-102), σ5)
noncomputable def f10_count (v0 : Nat) (v1 : Int32) (σ : rS) : Option (Int32 × rS) :=
  if v1 = 0 then (
    some ((gI σ 0 v0 8), σ)) else
  if v1 = 1 then (
    some ((gI σ 0 v0 9), σ)) else
  if v1 = 2 then (
    some ((gI σ 6 v0 1), σ)) else
  if v1 = 3 then (
    some ((gI σ 6 v0 2), σ)) else
  if v1 = 4 then (
    some ((gI σ 0 v0 10), σ)) else
  if v1 = 5 then (
    some ((gI σ 0 v0 11), σ)) else
  some ((-102), σ)
noncomputable def f10_delta (N : Nat) (v0 : Nat) (v1 : Int32) (v2 : Int32) (σ : rS) : Option (Int32 × rS) :=
  obind (f10_streamNumbered v0 v1 σ) fun r1 σ2 =>
  obind (f10_streamNumbered v0 v2 σ2) fun r3 σ4 =>
  onul r1 (
    some ((-101), σ4)) fun i5 =>
  onul r3 (
    some ((-101), σ4)) fun i6 =>
  if (gI σ4 0 v0 11) < 16 then (
    newDelta N i5 i6 σ4 fun i7 σ8 =>
    idx (gI σ4 0 v0 11) (gN σ8 4 v0) fun j9 =>
    olet (sR σ8 4 v0 j9 (some i7)) fun σ10 =>
    idx (gI σ10 0 v0 11) (gN σ10 4 v0) fun j11 =>
    olet (gR σ10 4 v0 j11) fun o12 =>
    onul o12 none fun i13 =>
    obind (f1_fill N i13 i5 i6 σ10) fun r14 σ15 =>
    olet (sI σ15 0 v0 11 ((gI σ15 0 v0 11) + 1)) fun σ16 =>
    some (((gI σ16 0 v0 11) - 1), σ16)) else
  some ((-104), σ4)
noncomputable def f10_mixed (v0 : Int64) (v2 : Int64) (σ : rS) : Option (Int64 × rS) :=
  some (((31 * v0) + v2), σ)
noncomputable def B10_mixedWithHouse_12 (N : Nat) (K12 : Int64 → Nat → Int32 → rS → Option (Int64 × rS)) (v0 : Int64) (v2 : Nat) (v3 : Int32) (σ : rS) : Option (Int64 × rS) :=
  if (gI σ 17 v2 2) ≤ v3 then (
    some (v0, σ)) else
  idx v3 (gN σ 18 v2) fun j1 =>
  obind (f10_mixed v0 (gL σ 18 v2 j1) σ) fun r2 σ3 =>
  idx v3 (gN σ3 19 v2) fun j4 =>
  olet (gR σ3 19 v2 j4) fun o5 =>
  onul o5 none fun i6 =>
  obind (f10_mixed r2 (Int32.toInt64 (gI σ3 20 i6 2)) σ3) fun r7 σ8 =>
  K12 r7 v2 (v3 + 1) σ8
noncomputable def L10_mixedWithHouse_12 (N : Nat) : Nat → Int64 → Nat → Int32 → rS → Option (Int64 × rS)
  | 0, _, _, _, _ => none
  | n + 1, v0, v2, v3, σ => B10_mixedWithHouse_12 N (L10_mixedWithHouse_12 N n) v0 v2 v3 σ
noncomputable def f10_mixedWithHouse (N : Nat) (v0 : Int64) (v2 : Nat) (σ : rS) : Option (Int64 × rS) :=
  obind (f10_mixed v0 (Int32.toInt64 (gI σ 17 v2 2)) σ) fun r1 σ2 =>
  L10_mixedWithHouse_12 N N r1 v2 0 σ2
noncomputable def B10_mixedWithRow_48 (N : Nat) (K48 : Int64 → Nat → Int32 → Int32 → rS → Option (Int64 × rS)) (v0 : Int64) (v3 : Nat) (v4 : Int32) (v5 : Int32) (σ : rS) : Option (Int64 × rS) :=
  if v4 ≤ v5 then (
    some (v0, σ)) else
  idx v5 (gN σ 14 v3) fun j1 =>
  olet (gL σ 14 v3 j1) fun x2 =>
  obind (f10_mixed v0 x2 σ) fun r3 σ4 =>
  K48 r3 v3 v4 (v5 + 1) σ4
noncomputable def L10_mixedWithRow_48 (N : Nat) : Nat → Int64 → Nat → Int32 → Int32 → rS → Option (Int64 × rS)
  | 0, _, _, _, _, _ => none
  | n + 1, v0, v3, v4, v5, σ => B10_mixedWithRow_48 N (L10_mixedWithRow_48 N n) v0 v3 v4 v5 σ
noncomputable def f10_mixedWithRow (N : Nat) (v0 : Int64) (v2 : Nat) (σ : rS) : Option (Int64 × rS) :=
  obind (f10_mixed v0 (Int32.toInt64 (gI σ 13 v2 0)) σ) fun r1 σ2 =>
  if (gI σ2 13 v2 2) = 0 then (
    obind (f10_mixed r1 (Int32.toInt64 (nI (gN σ2 14 v2))) σ2) fun r3 σ4 =>
    olet (nI (gN σ4 14 v2)) fun x5 =>
    L10_mixedWithRow_48 N N r3 v2 x5 0 σ4) else
  obind (f10_mixed r1 (-1) σ2) fun r6 σ7 =>
  some (r6, σ7)
noncomputable def f10_mixedWithStream (N : Nat) (v0 : Int64) (v2 : Nat) (σ : rS) : Option (Int64 × rS) :=
  obind (f10_mixed v0 (Int32.toInt64 (gI σ 15 v2 1)) σ) fun r1 σ2 =>
  obind (f9_sum N v2 0 (gI σ2 15 v2 1) σ2) fun r3 σ4 =>
  obind (f10_mixed r1 (Int32.toInt64 r3) σ4) fun r5 σ6 =>
  obind (f10_mixed r5 (Int32.toInt64 (gI σ6 15 v2 2)) σ6) fun r7 σ8 =>
  if (gI σ8 15 v2 3) = 0 then (
    obind (f10_mixed r7 0 σ8) fun r9 σ10 =>
    some (r9, σ10)) else
  obind (f10_mixed r7 1 σ8) fun r11 σ12 =>
  some (r11, σ12)
noncomputable def B10_digest_78 (N : Nat) (K78 : Nat → Int64 → Int32 → rS → Option (Int64 × rS)) (v0 : Nat) (v1 : Int64) (v3 : Int32) (σ : rS) : Option (Int64 × rS) :=
  if (gI σ 0 v0 10) ≤ v3 then (
    obind (f10_mixed v1 (Int32.toInt64 (gI σ 0 v0 11)) σ) fun r1 σ2 =>
    some (r1, σ2)) else
  idx v3 (gN σ 3 v0) fun j3 =>
  olet (gR σ 3 v0 j3) fun o4 =>
  onul o4 none fun i5 =>
  obind (f10_mixedWithHouse N v1 i5 σ) fun r6 σ7 =>
  K78 v0 r6 (v3 + 1) σ7
noncomputable def L10_digest_78 (N : Nat) : Nat → Nat → Int64 → Int32 → rS → Option (Int64 × rS)
  | 0, _, _, _, _ => none
  | n + 1, v0, v1, v3, σ => B10_digest_78 N (L10_digest_78 N n) v0 v1 v3 σ
noncomputable def B10_digest_51 (N : Nat) (K51 : Nat → Int64 → Int32 → rS → Option (Int64 × rS)) (v0 : Nat) (v1 : Int64) (v3 : Int32) (σ : rS) : Option (Int64 × rS) :=
  if (gI σ 0 v0 9) ≤ v3 then (
    L10_digest_78 N N v0 v1 0 σ) else
  idx v3 (gN σ 2 v0) fun j1 =>
  olet (gR σ 2 v0 j1) fun o2 =>
  onul o2 none fun i3 =>
  obind (f10_mixedWithStream N v1 i3 σ) fun r4 σ5 =>
  K51 v0 r4 (v3 + 1) σ5
noncomputable def L10_digest_51 (N : Nat) : Nat → Nat → Int64 → Int32 → rS → Option (Int64 × rS)
  | 0, _, _, _, _ => none
  | n + 1, v0, v1, v3, σ => B10_digest_51 N (L10_digest_51 N n) v0 v1 v3 σ
noncomputable def B10_digest_14 (N : Nat) (K14 : Nat → Int64 → Int32 → rS → Option (Int64 × rS)) (v0 : Nat) (v1 : Int64) (v3 : Int32) (σ : rS) : Option (Int64 × rS) :=
  if (gI σ 0 v0 8) ≤ v3 then (
    obind (f10_mixed v1 (Int32.toInt64 (gI σ 0 v0 9)) σ) fun r1 σ2 =>
    L10_digest_51 N N v0 r1 0 σ2) else
  idx v3 (gN σ 1 v0) fun j3 =>
  olet (gR σ 1 v0 j3) fun o4 =>
  onul o4 none fun i5 =>
  obind (f10_mixedWithRow N v1 i5 σ) fun r6 σ7 =>
  K14 v0 r6 (v3 + 1) σ7
noncomputable def L10_digest_14 (N : Nat) : Nat → Nat → Int64 → Int32 → rS → Option (Int64 × rS)
  | 0, _, _, _, _ => none
  | n + 1, v0, v1, v3, σ => B10_digest_14 N (L10_digest_14 N n) v0 v1 v3 σ
noncomputable def f10_digest (N : Nat) (v0 : Nat) (σ : rS) : Option (Int64 × rS) :=
  obind (f10_mixed 19 (Int32.toInt64 (gI σ 0 v0 8)) σ) fun r1 σ2 =>
  L10_digest_14 N N v0 r1 0 σ2
noncomputable def f10_houseNumbered (v0 : Nat) (v1 : Int32) (σ : rS) : Option (Option Nat × rS) :=
  if v1 < 0 then (
    some (none, σ)) else
  if (gI σ 0 v0 10) ≤ v1 then (
    some (none, σ)) else
  idx v1 (gN σ 3 v0) fun j1 =>
  olet (gR σ 3 v0 j1) fun o2 =>
  some (o2, σ)
noncomputable def f10_drop (N : Nat) (v0 : Nat) (v1 : Int32) (v2 : Int64) (σ : rS) : Option (Int32 × rS) :=
  obind (f10_houseNumbered v0 v1 σ) fun r1 σ2 =>
  onul r1 (
    some ((-101), σ2)) fun i3 =>
  if 0 ≤ v2 then (
    obind (f3_entryOf N i3 v2 σ2) fun r4 σ5 =>
    if r4 = (-1) then (
      some ((-1), σ5)) else
    idx r4 (gN σ5 19 i3) fun j6 =>
    olet (gR σ5 19 i3 j6) fun o7 =>
    obind (f3_remove N i3 r4 σ5) fun r8 σ9 =>
    onul o7 none fun i10 =>
    obind (f8_release v0 i10 σ9) fun r11 σ12 =>
    some ((gI σ12 20 i10 2), σ12)) else
  some ((-102), σ2)
noncomputable def f10_end (v0 : Nat) (v1 : Int32) (σ : rS) : Option (Int32 × rS) :=
  obind (f10_streamNumbered v0 v1 σ) fun r1 σ2 =>
  onul r1 (
    some ((-101), σ2)) fun i3 =>
  if (gI σ2 15 i3 3) = 0 then (
    olet (sI σ2 15 i3 3 1) fun σ4 =>
    some ((gI σ4 15 i3 1), σ4)) else
  some ((-103), σ2)
noncomputable def f10_find (N : Nat) (v0 : Nat) (v1 : Int32) (v2 : Int64) (σ : rS) : Option (Int32 × rS) :=
  obind (f10_houseNumbered v0 v1 σ) fun r1 σ2 =>
  onul r1 (
    some ((-101), σ2)) fun i3 =>
  if 0 ≤ v2 then (
    obind (f3_entryOf N i3 v2 σ2) fun r4 σ5 =>
    if r4 = (-1) then (
      some ((-1), σ5)) else
    idx r4 (gN σ5 19 i3) fun j6 =>
    olet (gR σ5 19 i3 j6) fun o7 =>
    onul o7 none fun i8 =>
    some ((gI σ5 20 i8 2), σ5)) else
  some ((-102), σ2)
noncomputable def f10_finding (v0 : Nat) (σ : rS) : Option (Int32 × rS) :=
  some ((gI σ 0 v0 12), σ)
noncomputable def f10_findings (v0 : Nat) (v1 : Int32) (σ : rS) : Option (Int32 × rS) :=
  if v1 < 1 then (
    some ((-102), σ)) else
  if v1 ≤ 9 then (
    idx v1 (gN σ 5 v0) fun j1 =>
    some ((gI σ 5 v0 j1), σ)) else
  some ((-102), σ)
noncomputable def f10_get (v0 : Nat) (v1 : Int32) (v2 : Int32) (σ : rS) : Option (Int32 × rS) :=
  obind (f10_rowNumbered v0 v1 σ) fun r1 σ2 =>
  onul r1 (
    some ((-101), σ2)) fun i3 =>
  if (gI σ2 13 i3 2) = 0 then (
    obind (f7_has i3 v2 σ2) fun r4 σ5 =>
    if r4 = true then (
      idx v2 (gN σ5 14 i3) fun j6 =>
      olet (sL σ5 0 v0 13 (gL σ5 14 i3 j6)) fun σ7 =>
      some (0, σ7)) else
    obind (f10_found v0 2 σ5) fun r8 σ9 =>
    some (r8, σ9)) else
  obind (f10_found v0 1 σ2) fun r10 σ11 =>
  some (r10, σ11)
noncomputable def f10_harm (v0 : Nat) (v1 : Int32) (v2 : Int32) (v3 : Int32) (σ : rS) : Option (Int32 × rS) :=
  obind (f10_streamNumbered v0 v1 σ) fun r1 σ2 =>
  onul r1 (
    some ((-101), σ2)) fun i3 =>
  obind (f9_has i3 v2 σ2) fun r4 σ5 =>
  if r4 = true then (
    idx v2 (gN σ5 16 i3) fun j6 =>
    idx v2 (gN σ5 16 i3) fun j7 =>
    olet (sI σ5 16 i3 j7 (Int8.toInt32 (Int32.toInt8 (Int8.toInt32 (Int32.toInt8 ((gI σ5 16 i3 j6) ^^^ v3)))))) fun σ8 =>
    obind (f9_byteAt i3 v2 σ8) fun r9 σ10 =>
    some (r9, σ10)) else
  obind (f10_found v0 2 σ5) fun r11 σ12 =>
  some (r11, σ12)
noncomputable def f10_house (v0 : Nat) (σ : rS) : Option (Int32 × rS) :=
  if (gI σ 0 v0 10) < 6 then (
    newHouse σ fun i1 σ2 =>
    idx (gI σ 0 v0 10) (gN σ2 3 v0) fun j3 =>
    olet (sR σ2 3 v0 j3 (some i1)) fun σ4 =>
    olet (sI σ4 0 v0 10 ((gI σ4 0 v0 10) + 1)) fun σ5 =>
    some (((gI σ5 0 v0 10) - 1), σ5)) else
  some ((-104), σ)
noncomputable def B10_keep_102 (N : Nat) (v0 : Nat) (v2 : Int64) (v5 : Nat) (v7 : Int32) (v8 : Option Nat) (σ : rS) : Option (Int32 × rS) :=
  onul v8 (
    some ((-104), σ)) fun i1 =>
  olet (sI σ 20 i1 3 ((gI σ 20 i1 3) + 1)) fun σ2 =>
  if v7 = (-1) then (
    obind (f3_insert N v5 v2 i1 σ2) fun r10 σ11 =>
    some ((gI σ11 20 i1 2), σ11)) else
  idx v7 (gN σ2 19 v5) fun j3 =>
  olet (gR σ2 19 v5 j3) fun o4 =>
  onul o4 none fun i5 =>
  obind (f8_release v0 i5 σ2) fun r6 σ7 =>
  idx v7 (gN σ7 19 v5) fun j8 =>
  olet (sR σ7 19 v5 j8 (some i1)) fun σ9 =>
  some ((gI σ9 20 i1 2), σ9)
noncomputable def B10_keep_75 (N : Nat) (v0 : Nat) (v2 : Int64) (v5 : Nat) (v6 : Nat) (v7 : Int32) (σ : rS) : Option (Int32 × rS) :=
  obind (f8_bodyLike N v0 v6 σ) fun r1 σ2 =>
  onul r1 (
    obind (f8_newBody N v0 v6 σ2) fun r4 σ5 =>
    B10_keep_102 N v0 v2 v5 v7 r4 σ5) fun i3 =>
  B10_keep_102 N v0 v2 v5 v7 (some i3) σ2
noncomputable def f10_keep (N : Nat) (v0 : Nat) (v1 : Int32) (v2 : Int64) (v4 : Int32) (σ : rS) : Option (Int32 × rS) :=
  obind (f10_houseNumbered v0 v1 σ) fun r1 σ2 =>
  obind (f10_streamNumbered v0 v4 σ2) fun r3 σ4 =>
  onul r1 (
    some ((-101), σ4)) fun i5 =>
  onul r3 (
    some ((-101), σ4)) fun i6 =>
  if 0 ≤ v2 then (
    if (gI σ4 15 i6 3) = 0 then (
      some ((-103), σ4)) else
    obind (f3_entryOf N i5 v2 σ4) fun r7 σ8 =>
    if r7 = (-1) then (
      if (gI σ8 17 i5 2) < 12 then (
        B10_keep_75 N v0 v2 i5 i6 r7 σ8) else
      some ((-104), σ8)) else
    B10_keep_75 N v0 v2 i5 i6 r7 σ8) else
  some ((-102), σ4)
noncomputable def f10_kind (v0 : Nat) (v1 : Int32) (σ : rS) : Option (Int32 × rS) :=
  obind (f10_rowNumbered v0 v1 σ) fun r1 σ2 =>
  onul r1 (
    some ((-101), σ2)) fun i3 =>
  some ((gI σ2 13 i3 0), σ2)
noncomputable def f10_length (v0 : Nat) (v1 : Int32) (σ : rS) : Option (Int32 × rS) :=
  obind (f10_rowNumbered v0 v1 σ) fun r1 σ2 =>
  onul r1 (
    some ((-101), σ2)) fun i3 =>
  if (gI σ2 13 i3 2) = 0 then (
    some ((nI (gN σ2 14 i3)), σ2)) else
  obind (f10_found v0 1 σ2) fun r4 σ5 =>
  some (r4, σ5)
noncomputable def f10_list (v0 : Nat) (v1 : Int32) (v2 : Int32) (σ : rS) : Option (Int32 × rS) :=
  obind (f10_houseNumbered v0 v1 σ) fun r1 σ2 =>
  onul r1 (
    some ((-101), σ2)) fun i3 =>
  if v2 < 0 then (
    obind (f10_found v0 2 σ2) fun r4 σ5 =>
    some (r4, σ5)) else
  if v2 < (gI σ2 17 i3 2) then (
    idx v2 (gN σ2 18 i3) fun j6 =>
    olet (sL σ2 0 v0 13 (gL σ2 18 i3 j6)) fun σ7 =>
    some ((gI σ7 17 i3 2), σ7)) else
  obind (f10_found v0 2 σ2) fun r8 σ9 =>
  some (r8, σ9)
noncomputable def f10_lose (v0 : Nat) (v1 : Int32) (σ : rS) : Option (Int32 × rS) :=
  obind (f10_rowNumbered v0 v1 σ) fun r1 σ2 =>
  onul r1 (
    some ((-101), σ2)) fun i3 =>
  if (gI σ2 13 i3 2) = 0 then (
    olet (sI σ2 13 i3 2 1) fun σ4 =>
    some ((nI (gN σ4 14 i3)), σ4)) else
  obind (f10_found v0 1 σ2) fun r5 σ6 =>
  some (r5, σ6)
noncomputable def f10_most (N : Nat) (v0 : Nat) (v1 : Int32) (v2 : Int32) (σ : rS) : Option (Int32 × rS) :=
  obind (f10_rowNumbered v0 v1 σ) fun r1 σ2 =>
  onul r1 (
    some ((-101), σ2)) fun i3 =>
  if v2 < 0 then (
    some ((-102), σ2)) else
  if v2 ≤ 2 then (
    if (gI σ2 13 i3 2) = 0 then (
      obind (f7_gaps N i3 σ2) fun r4 σ5 =>
      if v2 = 2 then (
        olet (sL σ5 0 v0 13 (Int32.toInt64 r4)) fun σ14 =>
        some (0, σ14)) else
      if r4 = (nI (gN σ5 14 i3)) then (
        obind (f10_found v0 5 σ5) fun r12 σ13 =>
        some (r12, σ13)) else
      if v2 = 0 then (
        obind (f7_utmost N i3 true σ5) fun r9 σ10 =>
        olet (sL σ10 0 v0 13 r9) fun σ11 =>
        some (0, σ11)) else
      obind (f7_utmost N i3 false σ5) fun r6 σ7 =>
      olet (sL σ7 0 v0 13 r6) fun σ8 =>
      some (0, σ8)) else
    obind (f10_found v0 1 σ2) fun r15 σ16 =>
    some (r15, σ16)) else
  some ((-102), σ2)
noncomputable def f10_newRow (v0 : Nat) (v1 : Int32) (v2 : Int32) (σ : rS) : Option (Int32 × rS) :=
  newRow v1 v2 σ fun i1 σ2 =>
  idx (gI σ 0 v0 8) (gN σ2 1 v0) fun j3 =>
  olet (sR σ2 1 v0 j3 (some i1)) fun σ4 =>
  olet (sI σ4 0 v0 8 ((gI σ4 0 v0 8) + 1)) fun σ5 =>
  some (((gI σ5 0 v0 8) - 1), σ5)
noncomputable def B10_pieces_18 (N : Nat) (K18 : Nat → Nat → Int32 → Int32 → rS → Option (Int32 × rS)) (v0 : Nat) (v2 : Nat) (v3 : Int32) (v4 : Int32) (σ : rS) : Option (Int32 × rS) :=
  if 400 ≤ v3 then (
    some (v3, σ)) else
  obind (f6_examine N v0 v0 v2 v4 σ) fun r1 σ2 =>
  if r1 = 0 then (
    olet (gI σ2 12 v0 2) fun x3 =>
    K18 v0 v2 (v3 + 1) x3 σ2) else
  some (v3, σ2)
noncomputable def L10_pieces_18 (N : Nat) : Nat → Nat → Nat → Int32 → Int32 → rS → Option (Int32 × rS)
  | 0, _, _, _, _, _ => none
  | n + 1, v0, v2, v3, v4, σ => B10_pieces_18 N (L10_pieces_18 N n) v0 v2 v3 v4 σ
noncomputable def f10_pieces (N : Nat) (v0 : Nat) (v1 : Int32) (σ : rS) : Option (Int32 × rS) :=
  obind (f10_streamNumbered v0 v1 σ) fun r1 σ2 =>
  onul r1 (
    some ((-101), σ2)) fun i3 =>
  L10_pieces_18 N N v0 i3 0 0 σ2
noncomputable def f10_put (v0 : Nat) (v1 : Int32) (v2 : Int32) (v3 : Int64) (σ : rS) : Option (Int32 × rS) :=
  obind (f10_rowNumbered v0 v1 σ) fun r1 σ2 =>
  onul r1 (
    some ((-101), σ2)) fun i3 =>
  if (gI σ2 13 i3 2) = 0 then (
    obind (f7_has i3 v2 σ2) fun r4 σ5 =>
    if r4 = true then (
      obind (f4_told (gI σ5 13 i3 0) v3 σ5) fun r6 σ7 =>
      idx v2 (gN σ7 14 i3) fun j8 =>
      olet (sL σ7 14 i3 j8 r6) fun σ9 =>
      some (0, σ9)) else
    obind (f10_found v0 2 σ5) fun r10 σ11 =>
    some (r10, σ11)) else
  obind (f10_found v0 1 σ2) fun r12 σ13 =>
  some (r12, σ13)
noncomputable def f10_read (N : Nat) (v0 : Nat) (v1 : Int32) (σ : rS) : Option (Int32 × rS) :=
  obind (f10_streamNumbered v0 v1 σ) fun r1 σ2 =>
  onul r1 (
    some ((-101), σ2)) fun i3 =>
  obind (f6_examine N v0 v0 i3 (gI σ2 15 i3 2) σ2) fun r4 σ5 =>
  if r4 = 0 then (
    if (gI σ5 0 v0 8) < 60 then (
      obind (f10_newRow v0 (gI σ5 12 v0 0) (gI σ5 12 v0 1) σ5) fun r6 σ7 =>
      idx r6 (gN σ7 1 v0) fun j8 =>
      olet (gR σ7 1 v0 j8) fun o9 =>
      onul o9 none fun i10 =>
      ock (okcp σ7 10 v0 14 i10 0 0 (gI σ7 12 v0 1) = true) <|
      olet (sLr σ7 14 i10 (va_cpy (gL σ7 10 v0) (gL σ7 14 i10) (Int32.toNatClampNeg 0) (Int32.toNatClampNeg 0) (Int32.toNatClampNeg (gI σ7 12 v0 1)))) fun σ11 =>
      olet (sI σ11 15 i3 2 (gI σ11 12 v0 2)) fun σ12 =>
      some (r6, σ12)) else
    some ((-104), σ5)) else
  obind (f10_found v0 r4 σ5) fun r13 σ14 =>
  some (r13, σ14)
noncomputable def f10_rest (N : Nat) (v0 : Nat) (v1 : Int32) (v2 : Int32) (v3 : Int32) (σ : rS) : Option (Int32 × rS) :=
  obind (f10_rowNumbered v0 v1 σ) fun r1 σ2 =>
  onul r1 (
    some ((-101), σ2)) fun i3 =>
  if (gI σ2 13 i3 2) = 0 then (
    obind (f7_has i3 v2 σ2) fun r4 σ5 =>
    if r4 = true then (
      obind (f7_has i3 v3 σ5) fun r8 σ9 =>
      if r8 = true then (
        idx v2 (gN σ9 14 i3) fun j10 =>
        idx v3 (gN σ9 14 i3) fun j11 =>
        obind (f4_leaveRest (gI σ9 13 i3 0) (gL σ9 14 i3 j10) (gL σ9 14 i3 j11) σ9) fun r12 σ13 =>
        if r12 = true then (
          idx v2 (gN σ13 14 i3) fun j14 =>
          idx v3 (gN σ13 14 i3) fun j15 =>
          obind (f4_restOf N (gI σ13 13 i3 0) (gL σ13 14 i3 j14) (gL σ13 14 i3 j15) σ13) fun r16 σ17 =>
          olet (sL σ17 0 v0 13 r16) fun σ18 =>
          some (0, σ18)) else
        obind (f10_found v0 5 σ13) fun r19 σ20 =>
        some (r19, σ20)) else
      obind (f10_found v0 2 σ9) fun r21 σ22 =>
      some (r21, σ22)) else
    obind (f10_found v0 2 σ5) fun r6 σ7 =>
    some (r6, σ7)) else
  obind (f10_found v0 1 σ2) fun r23 σ24 =>
  some (r23, σ24)
noncomputable def f10_row (v0 : Nat) (v1 : Int32) (v2 : Int32) (σ : rS) : Option (Int32 × rS) :=
  obind (f10_isKind v1 σ) fun r1 σ2 =>
  if r1 = true then (
    if v2 ≤ 24 then (
      if (gI σ2 0 v0 8) < 60 then (
        if 0 ≤ v2 then (
          obind (f10_newRow v0 v1 v2 σ2) fun r3 σ4 =>
          some (r3, σ4)) else
        obind (f10_found v0 4 σ2) fun r5 σ6 =>
        some (r5, σ6)) else
      some ((-104), σ2)) else
    some ((-102), σ2)) else
  some ((-102), σ2)
noncomputable def f10_seek (v0 : Nat) (v1 : Int32) (v2 : Int32) (σ : rS) : Option (Int32 × rS) :=
  obind (f10_streamNumbered v0 v1 σ) fun r1 σ2 =>
  onul r1 (
    some ((-101), σ2)) fun i3 =>
  if v2 < 0 then (
    obind (f10_found v0 2 σ2) fun r4 σ5 =>
    some (r4, σ5)) else
  if v2 ≤ (gI σ2 15 i3 1) then (
    olet (gI σ2 15 i3 2) fun x6 =>
    olet (sI σ2 15 i3 2 v2) fun σ7 =>
    some (x6, σ7)) else
  obind (f10_found v0 2 σ2) fun r8 σ9 =>
  some (r8, σ9)
noncomputable def f10_seen (v0 : Nat) (σ : rS) : Option (Int64 × rS) :=
  some ((gL σ 0 v0 13), σ)
noncomputable def B10_shape_50 (v0 : Nat) (v2 : Int32) (v3 : Int32) (v4 : Nat) (σ : rS) : Option (Int32 × rS) :=
  if (gI σ 13 v4 2) = 0 then (
    obind (f7_has v4 v2 σ) fun r1 σ2 =>
    if r1 = true then (
      idx v2 (gN σ2 14 v4) fun j3 =>
      obind (f4_shaped (gI σ2 13 v4 0) (gL σ2 14 v4 j3) v3 σ2) fun r4 σ5 =>
      olet (sL σ5 0 v0 13 r4) fun σ6 =>
      some (0, σ6)) else
    obind (f10_found v0 2 σ2) fun r7 σ8 =>
    some (r7, σ8)) else
  obind (f10_found v0 1 σ) fun r9 σ10 =>
  some (r9, σ10)
noncomputable def f10_shape (v0 : Nat) (v1 : Int32) (v2 : Int32) (v3 : Int32) (σ : rS) : Option (Int32 × rS) :=
  obind (f10_rowNumbered v0 v1 σ) fun r1 σ2 =>
  onul r1 (
    some ((-101), σ2)) fun i3 =>
  if v3 < 0 then (
    some ((-102), σ2)) else
  if v3 ≤ 5 then (
    if v3 = 0 then (
      B10_shape_50  v0 v2 v3 i3 σ2) else
    if v3 = 5 then (
      B10_shape_50  v0 v2 v3 i3 σ2) else
    obind (f4_areFloating (gI σ2 13 i3 0) σ2) fun r4 σ5 =>
    if r4 = true then (
      B10_shape_50  v0 v2 v3 i3 σ5) else
    some ((-103), σ5)) else
  some ((-102), σ2)
noncomputable def f10_stream (v0 : Nat) (σ : rS) : Option (Int32 × rS) :=
  if (gI σ 0 v0 9) < 24 then (
    obind (f10_newStream v0 σ) fun r1 σ2 =>
    some (r1, σ2)) else
  some ((-104), σ)
noncomputable def f10_take (N : Nat) (v0 : Nat) (v1 : Int32) (v2 : Int64) (σ : rS) : Option (Int32 × rS) :=
  obind (f10_houseNumbered v0 v1 σ) fun r1 σ2 =>
  onul r1 (
    some ((-101), σ2)) fun i3 =>
  if 0 ≤ v2 then (
    obind (f3_entryOf N i3 v2 σ2) fun r4 σ5 =>
    if r4 = (-1) then (
      some ((-103), σ5)) else
    if (gI σ5 0 v0 9) < 24 then (
      idx r4 (gN σ5 19 i3) fun j6 =>
      olet (gR σ5 19 i3 j6) fun o7 =>
      obind (f10_newStream v0 σ5) fun r8 σ9 =>
      idx r8 (gN σ9 2 v0) fun j10 =>
      olet (gR σ9 2 v0 j10) fun o11 =>
      onul o7 none fun i12 =>
      onul o11 none fun i13 =>
      obind (f9_appendAll N 21 i13 i12 0 (gI σ9 20 i12 1) σ9) fun r14 σ15 =>
      idx r8 (gN σ15 2 v0) fun j16 =>
      olet (gR σ15 2 v0 j16) fun o17 =>
      onul o17 none fun i18 =>
      olet (sI σ15 15 i18 3 1) fun σ19 =>
      some (r8, σ19)) else
    some ((-104), σ5)) else
  some ((-102), σ2)
noncomputable def f10_uses (N : Nat) (v0 : Nat) (v1 : Int32) (σ : rS) : Option (Int32 × rS) :=
  obind (f8_usersOf N v0 v1 σ) fun r1 σ2 =>
  some (r1, σ2)
noncomputable def f10_write (N : Nat) (v0 : Nat) (v1 : Int32) (v2 : Int32) (v3 : Int32) (σ : rS) : Option (Int32 × rS) :=
  obind (f10_streamNumbered v0 v1 σ) fun r1 σ2 =>
  obind (f10_rowNumbered v0 v2 σ2) fun r3 σ4 =>
  onul r1 (
    some ((-101), σ4)) fun i5 =>
  onul r3 (
    some ((-101), σ4)) fun i6 =>
  obind (f10_isCoder v3 σ4) fun r7 σ8 =>
  if r7 = true then (
    if (gI σ8 15 i5 3) = 0 then (
      if (gI σ8 13 i6 2) = 0 then (
        obind (f5_pack N 14 v0 v3 i6 (nI (gN σ8 14 i6)) σ8) fun r9 σ10 =>
        if (((gI σ10 15 i5 1) + 7) + (gI σ10 8 v0 1)) ≤ 400 then (
          obind (f10_appendPiece N v0 i5 v3 i6 σ10) fun r11 σ12 =>
          some ((gI σ12 15 i5 1), σ12)) else
        some ((-104), σ10)) else
      obind (f10_found v0 1 σ8) fun r13 σ14 =>
      some (r13, σ14)) else
    some ((-103), σ8)) else
  some ((-102), σ8)
