noncomputable def B5_makeSteps_4 (N : Nat) (K4 : Nat → Int32 → rS → Option (Unit × rS)) (v0 : Nat) (v2 : Int32) (σ : rS) : Option (Unit × rS) :=
  if v2 ≤ 0 then (
    some ((), σ)) else
  idx v2 (gN σ 11 v0) fun j1 =>
  idx (v2 - 1) (gN σ 11 v0) fun j2 =>
  idx v2 (gN σ 11 v0) fun j3 =>
  olet (sL σ 11 v0 j3 ((gL σ 11 v0 j1) - (gL σ 11 v0 j2))) fun σ4 =>
  K4 v0 (v2 + (-1)) σ4
noncomputable def L5_makeSteps_4 (N : Nat) : Nat → Nat → Int32 → rS → Option (Unit × rS)
  | 0, _, _, _ => none
  | n + 1, v0, v2, σ => B5_makeSteps_4 N (L5_makeSteps_4 N n) v0 v2 σ
noncomputable def f5_makeSteps (N : Nat) (v0 : Nat) (v1 : Int32) (σ : rS) : Option (Unit × rS) :=
  olet (v1 - 1) fun x1 =>
  L5_makeSteps_4 N N v0 x1 σ
noncomputable def f5_packByte (v0 : Nat) (v1 : Int64) (σ : rS) : Option (Unit × rS) :=
  if (gI σ 8 v0 1) < (nI (gN σ 9 v0)) then (
    idx (gI σ 8 v0 1) (gN σ 9 v0) fun j1 =>
    olet (sI σ 9 v0 j1 (Int8.toInt32 (Int32.toInt8 (Int8.toInt32 (Int32.toInt8 (Int64.toInt32 v1)))))) fun σ2 =>
    olet (sI σ2 8 v0 1 ((gI σ2 8 v0 1) + 1)) fun σ3 =>
    some ((), σ3)) else
  some ((), σ)
noncomputable def B5_packPlain_12 (N : Nat) (K12 : Nat → Int64 → Int32 → rS → Option (Unit × rS)) (v0 : Nat) (v3 : Int64) (v5 : Int32) (σ : rS) : Option (Unit × rS) :=
  if 9 ≤ v5 then (
    obind (f5_packByte v0 v3 σ) fun r1 σ2 =>
    some ((), σ2)) else
  if (UInt64.toInt64 (Int64.toUInt64 v3 >>> (Int64.toUInt64 (Int32.toInt64 7) &&& Int64.toUInt64 63))) = 0 then (
    obind (f5_packByte v0 v3 σ) fun r3 σ4 =>
    some ((), σ4)) else
  obind (f5_packByte v0 ((v3 &&& 127) ||| 128) σ) fun r5 σ6 =>
  olet (UInt64.toInt64 (Int64.toUInt64 v3 >>> (Int64.toUInt64 (Int32.toInt64 7) &&& Int64.toUInt64 63))) fun x7 =>
  K12 v0 x7 (v5 + 1) σ6
noncomputable def L5_packPlain_12 (N : Nat) : Nat → Nat → Int64 → Int32 → rS → Option (Unit × rS)
  | 0, _, _, _, _ => none
  | n + 1, v0, v3, v5, σ => B5_packPlain_12 N (L5_packPlain_12 N n) v0 v3 v5 σ
noncomputable def f5_packPlain (N : Nat) (v0 : Nat) (v1 : Int64) (σ : rS) : Option (Unit × rS) :=
  olet ((v1 <<< (Int32.toInt64 1 &&& 63)) ^^^ (v1 >>> (Int32.toInt64 63 &&& 63))) fun x1 =>
  L5_packPlain_12 N N v0 x1 0 σ
noncomputable def B5_packRuns_55 (N : Nat) (K4 : Nat → Int32 → Int32 → Int32 → rS → Option (Unit × rS)) (v0 : Nat) (v1 : Int32) (v2 : Int32) (v3 : Int32) (σ : rS) : Option (Unit × rS) :=
  K4 v0 v1 v2 (v3 + 1) σ
noncomputable def B5_packRuns_33 (N : Nat) (K4 : Nat → Int32 → Int32 → Int32 → rS → Option (Unit × rS)) (v0 : Nat) (v1 : Int32) (v2 : Int32) (v3 : Int32) (σ : rS) : Option (Unit × rS) :=
  idx v2 (gN σ 11 v0) fun j1 =>
  obind (f5_packPlain N v0 (gL σ 11 v0 j1) σ) fun r2 σ3 =>
  obind (f5_packPlain N v0 (Int32.toInt64 ((v3 - v2) - 1)) σ3) fun r4 σ5 =>
  B5_packRuns_55 N K4 v0 v1 v3 v3 σ5
noncomputable def B5_packRuns_4 (N : Nat) (K4 : Nat → Int32 → Int32 → Int32 → rS → Option (Unit × rS)) (v0 : Nat) (v1 : Int32) (v2 : Int32) (v3 : Int32) (σ : rS) : Option (Unit × rS) :=
  if v1 < v3 then (
    some ((), σ)) else
  if v1 ≤ v3 then (
    B5_packRuns_33 N K4 v0 v1 v2 v3 σ) else
  idx v3 (gN σ 11 v0) fun j1 =>
  idx v2 (gN σ 11 v0) fun j2 =>
  if (gL σ 11 v0 j1) = (gL σ 11 v0 j2) then (
    B5_packRuns_55 N K4 v0 v1 v2 v3 σ) else
  B5_packRuns_33 N K4 v0 v1 v2 v3 σ
noncomputable def L5_packRuns_4 (N : Nat) : Nat → Nat → Int32 → Int32 → Int32 → rS → Option (Unit × rS)
  | 0, _, _, _, _, _ => none
  | n + 1, v0, v1, v2, v3, σ => B5_packRuns_4 N (L5_packRuns_4 N n) v0 v1 v2 v3 σ
noncomputable def f5_packRuns (N : Nat) (v0 : Nat) (v1 : Int32) (σ : rS) : Option (Unit × rS) :=
  L5_packRuns_4 N N v0 v1 0 1 σ
noncomputable def B5_widthOf_40 (N : Nat) (K4 : Int64 → Int32 → Int32 → rS → Option (Int32 × rS)) (v0 : Int64) (v2 : Int32) (v3 : Int32) (σ : rS) : Option (Int32 × rS) :=
  K4 v0 v2 (v3 + 1) σ
noncomputable def B5_widthOf_4 (N : Nat) (K4 : Int64 → Int32 → Int32 → rS → Option (Int32 × rS)) (v0 : Int64) (v2 : Int32) (v3 : Int32) (σ : rS) : Option (Int32 × rS) :=
  if 8 ≤ v3 then (
    some (v2, σ)) else
  olet (v0 >>> (Int32.toInt64 ((8 * v3) - 1) &&& 63)) fun x1 =>
  if x1 = 0 then (
    B5_widthOf_40 N K4 v0 v2 v3 σ) else
  if x1 = (-1) then (
    B5_widthOf_40 N K4 v0 v2 v3 σ) else
  olet (v3 + 1) fun x2 =>
  B5_widthOf_40 N K4 v0 x2 v3 σ
noncomputable def L5_widthOf_4 (N : Nat) : Nat → Int64 → Int32 → Int32 → rS → Option (Int32 × rS)
  | 0, _, _, _, _ => none
  | n + 1, v0, v2, v3, σ => B5_widthOf_4 N (L5_widthOf_4 N n) v0 v2 v3 σ
noncomputable def f5_widthOf (N : Nat) (v0 : Int64) (σ : rS) : Option (Int32 × rS) :=
  L5_widthOf_4 N N v0 1 1 σ
noncomputable def B5_packWide_45 (N : Nat) (K37 : Nat → Int32 → Int32 → Int32 → rS → Option (Unit × rS)) (K45 : Nat → Int32 → Int32 → Int32 → Int32 → rS → Option (Unit × rS)) (v0 : Nat) (v1 : Int32) (v2 : Int32) (v3 : Int32) (v4 : Int32) (σ : rS) : Option (Unit × rS) :=
  if v2 ≤ v4 then (
    K37 v0 v1 v2 (v3 + 1) σ) else
  idx v3 (gN σ 11 v0) fun j1 =>
  obind (f5_packByte v0 ((gL σ 11 v0 j1) >>> (Int32.toInt64 (8 * v4) &&& 63)) σ) fun r2 σ3 =>
  K45 v0 v1 v2 v3 (v4 + 1) σ3
noncomputable def L5_packWide_45 (N : Nat) (K37 : Nat → Int32 → Int32 → Int32 → rS → Option (Unit × rS)) : Nat → Nat → Int32 → Int32 → Int32 → Int32 → rS → Option (Unit × rS)
  | 0, _, _, _, _, _, _ => none
  | n + 1, v0, v1, v2, v3, v4, σ => B5_packWide_45 N K37 (L5_packWide_45 N K37 n) v0 v1 v2 v3 v4 σ
noncomputable def B5_packWide_37 (N : Nat) (K37 : Nat → Int32 → Int32 → Int32 → rS → Option (Unit × rS)) (v0 : Nat) (v1 : Int32) (v2 : Int32) (v3 : Int32) (σ : rS) : Option (Unit × rS) :=
  if v1 ≤ v3 then (
    some ((), σ)) else
  L5_packWide_45 N K37 N v0 v1 v2 v3 0 σ
noncomputable def L5_packWide_37 (N : Nat) : Nat → Nat → Int32 → Int32 → Int32 → rS → Option (Unit × rS)
  | 0, _, _, _, _, _ => none
  | n + 1, v0, v1, v2, v3, σ => B5_packWide_37 N (L5_packWide_37 N n) v0 v1 v2 v3 σ
noncomputable def B5_packWide_4 (N : Nat) (K4 : Nat → Int32 → Int32 → Int32 → rS → Option (Unit × rS)) (v0 : Nat) (v1 : Int32) (v2 : Int32) (v3 : Int32) (σ : rS) : Option (Unit × rS) :=
  if v1 ≤ v3 then (
    obind (f5_packByte v0 (Int32.toInt64 v2) σ) fun r1 σ2 =>
    L5_packWide_37 N N v0 v1 v2 0 σ2) else
  idx v3 (gN σ 11 v0) fun j3 =>
  obind (f5_widthOf N (gL σ 11 v0 j3) σ) fun r4 σ5 =>
  obind (fJ_max v2 r4 σ5) fun r6 σ7 =>
  K4 v0 v1 r6 (v3 + 1) σ7
noncomputable def L5_packWide_4 (N : Nat) : Nat → Nat → Int32 → Int32 → Int32 → rS → Option (Unit × rS)
  | 0, _, _, _, _, _ => none
  | n + 1, v0, v1, v2, v3, σ => B5_packWide_4 N (L5_packWide_4 N n) v0 v1 v2 v3 σ
noncomputable def f5_packWide (N : Nat) (v0 : Nat) (v1 : Int32) (σ : rS) : Option (Unit × rS) :=
  L5_packWide_4 N N v0 v1 1 0 σ
noncomputable def B5_pack_91 (N : Nat) (k2 : Nat) (K91 : Nat → Int32 → Int32 → rS → Option (Unit × rS)) (v0 : Nat) (v3 : Int32) (v4 : Int32) (σ : rS) : Option (Unit × rS) :=
  if v3 ≤ v4 then (
    some ((), σ)) else
  idx v4 (gN σ 11 v0) fun j1 =>
  obind (f5_packPlain N v0 (gL σ 11 v0 j1) σ) fun r2 σ3 =>
  K91 v0 v3 (v4 + 1) σ3
noncomputable def L5_pack_91 (N : Nat) (k2 : Nat) : Nat → Nat → Int32 → Int32 → rS → Option (Unit × rS)
  | 0, _, _, _, _ => none
  | n + 1, v0, v3, v4, σ => B5_pack_91 N k2 (L5_pack_91 N k2 n) v0 v3 v4 σ
noncomputable def B5_pack_46 (N : Nat) (k2 : Nat) (v0 : Nat) (v1 : Int32) (v3 : Int32) (σ : rS) : Option (Unit × rS) :=
  if v1 = 3 then (
    obind (f5_packRuns N v0 v3 σ) fun r1 σ2 =>
    some ((), σ2)) else
  if v1 = 4 then (
    obind (f5_packWide N v0 v3 σ) fun r3 σ4 =>
    some ((), σ4)) else
  L5_pack_91 N k2 N v0 v3 0 σ
noncomputable def B5_pack_36 (N : Nat) (k2 : Nat) (v0 : Nat) (v1 : Int32) (v3 : Int32) (σ : rS) : Option (Unit × rS) :=
  if v1 = 2 then (
    obind (f5_makeSteps N v0 v3 σ) fun r1 σ2 =>
    B5_pack_46 N k2 v0 v1 v3 σ2) else
  B5_pack_46 N k2 v0 v1 v3 σ
noncomputable def B5_pack_31 (N : Nat) (k2 : Nat) (v0 : Nat) (v1 : Int32) (v3 : Int32) (σ : rS) : Option (Unit × rS) :=
  obind (f5_makeSteps N v0 v3 σ) fun r1 σ2 =>
  B5_pack_36 N k2 v0 v1 v3 σ2
noncomputable def f5_pack (N : Nat) (k2 : Nat) (v0 : Nat) (v1 : Int32) (v2 : Nat) (v3 : Int32) (σ : rS) : Option (Unit × rS) :=
  olet (sI σ 8 v0 1 0) fun σ1 =>
  ock (okcp σ1 k2 v2 11 v0 0 0 v3 = true) <|
  olet (sLr σ1 11 v0 (va_cpy (gL σ1 k2 v2) (gL σ1 11 v0) (Int32.toNatClampNeg 0) (Int32.toNatClampNeg 0) (Int32.toNatClampNeg v3))) fun σ2 =>
  if v1 = 1 then (
    B5_pack_31 N k2 v0 v1 v3 σ2) else
  if v1 = 2 then (
    B5_pack_31 N k2 v0 v1 v3 σ2) else
  if v1 = 4 then (
    B5_pack_31 N k2 v0 v1 v3 σ2) else
  B5_pack_36 N k2 v0 v1 v3 σ2
noncomputable def B5_areTold_2 (N : Nat) (K2 : Nat → Int32 → Int32 → Int32 → rS → Option (Bool × rS)) (v0 : Nat) (v1 : Int32) (v2 : Int32) (v3 : Int32) (σ : rS) : Option (Bool × rS) :=
  if v2 ≤ v3 then (
    some (true, σ)) else
  idx v3 (gN σ 10 v0) fun j1 =>
  obind (f4_told v1 (gL σ 10 v0 j1) σ) fun r2 σ3 =>
  idx v3 (gN σ3 10 v0) fun j4 =>
  if r2 = (gL σ3 10 v0 j4) then (
    K2 v0 v1 v2 (v3 + 1) σ3) else
  some (false, σ3)
noncomputable def L5_areTold_2 (N : Nat) : Nat → Nat → Int32 → Int32 → Int32 → rS → Option (Bool × rS)
  | 0, _, _, _, _, _ => none
  | n + 1, v0, v1, v2, v3, σ => B5_areTold_2 N (L5_areTold_2 N n) v0 v1 v2 v3 σ
noncomputable def f5_areTold (N : Nat) (v0 : Nat) (v1 : Int32) (v2 : Int32) (σ : rS) : Option (Bool × rS) :=
  L5_areTold_2 N N v0 v1 v2 0 σ
noncomputable def f5_openByte (v0 : Nat) (σ : rS) : Option (Int32 × rS) :=
  if (gI σ 8 v0 5) < (gI σ 8 v0 6) then (
    olet (sI σ 8 v0 5 ((gI σ 8 v0 5) + 1)) fun σ1 =>
    olet (gR σ1 8 v0 4) fun o2 =>
    onul o2 none fun i3 =>
    obind (f9_byteAt i3 ((gI σ1 8 v0 5) - 1) σ1) fun r4 σ5 =>
    some (r4, σ5)) else
  olet (sI σ 8 v0 7 1) fun σ6 =>
  some (0, σ6)
noncomputable def B5_openPlain_4 (N : Nat) (K4 : Nat → Int64 → Int32 → rS → Option (Int64 × rS)) (v0 : Nat) (v1 : Int64) (v3 : Int32) (σ : rS) : Option (Int64 × rS) :=
  if 10 ≤ v3 then (
    olet (sI σ 8 v0 7 1) fun σ1 =>
    some (0, σ1)) else
  obind (f5_openByte v0 σ) fun r2 σ3 =>
  olet (v1 ||| ((Int32.toInt64 (r2 &&& 127)) <<< (Int32.toInt64 (7 * v3) &&& 63))) fun x4 =>
  if 128 ≤ r2 then (
    K4 v0 x4 (v3 + 1) σ3) else
  some (((UInt64.toInt64 (Int64.toUInt64 x4 >>> (Int64.toUInt64 (Int32.toInt64 1) &&& Int64.toUInt64 63))) ^^^ (-(x4 &&& 1))), σ3)
noncomputable def L5_openPlain_4 (N : Nat) : Nat → Nat → Int64 → Int32 → rS → Option (Int64 × rS)
  | 0, _, _, _, _ => none
  | n + 1, v0, v1, v3, σ => B5_openPlain_4 N (L5_openPlain_4 N n) v0 v1 v3 σ
noncomputable def f5_openPlain (N : Nat) (v0 : Nat) (σ : rS) : Option (Int64 × rS) :=
  L5_openPlain_4 N N v0 0 0 σ
noncomputable def B5_openRuns_55 (N : Nat) (K2 : Nat → Int32 → Int32 → rS → Option (Unit × rS)) (K55 : Nat → Int32 → Int32 → Int64 → Int32 → rS → Option (Unit × rS)) (v0 : Nat) (v1 : Int32) (v2 : Int32) (v3 : Int64) (v7 : Int32) (σ : rS) : Option (Unit × rS) :=
  if v7 < v2 then (
    K2 v0 v1 v2 σ) else
  idx v2 (gN σ 10 v0) fun j1 =>
  olet (sL σ 10 v0 j1 v3) fun σ2 =>
  K55 v0 v1 (v2 + 1) v3 v7 σ2
noncomputable def L5_openRuns_55 (N : Nat) (K2 : Nat → Int32 → Int32 → rS → Option (Unit × rS)) : Nat → Nat → Int32 → Int32 → Int64 → Int32 → rS → Option (Unit × rS)
  | 0, _, _, _, _, _, _ => none
  | n + 1, v0, v1, v2, v3, v7, σ => B5_openRuns_55 N K2 (L5_openRuns_55 N K2 n) v0 v1 v2 v3 v7 σ
noncomputable def B5_openRuns_2 (N : Nat) (K2 : Nat → Int32 → Int32 → rS → Option (Unit × rS)) (v0 : Nat) (v1 : Int32) (v2 : Int32) (σ : rS) : Option (Unit × rS) :=
  if v1 ≤ v2 then (
    some ((), σ)) else
  if (gI σ 8 v0 7) = 0 then (
    obind (f5_openPlain N v0 σ) fun r1 σ2 =>
    obind (f5_openPlain N v0 σ2) fun r3 σ4 =>
    if r3 < 0 then (
      olet (sI σ4 8 v0 7 1) fun σ5 =>
      some ((), σ5)) else
    if r3 < (Int32.toInt64 (v1 - v2)) then (
      olet (v2 + (Int64.toInt32 r3)) fun x6 =>
      L5_openRuns_55 N K2 N v0 v1 v2 r1 x6 σ4) else
    olet (sI σ4 8 v0 7 1) fun σ7 =>
    some ((), σ7)) else
  some ((), σ)
noncomputable def L5_openRuns_2 (N : Nat) : Nat → Nat → Int32 → Int32 → rS → Option (Unit × rS)
  | 0, _, _, _, _ => none
  | n + 1, v0, v1, v2, σ => B5_openRuns_2 N (L5_openRuns_2 N n) v0 v1 v2 σ
noncomputable def f5_openRuns (N : Nat) (v0 : Nat) (v1 : Int32) (σ : rS) : Option (Unit × rS) :=
  L5_openRuns_2 N N v0 v1 0 σ
noncomputable def B5_openWide_35 (N : Nat) (K24 : Nat → Int32 → Int32 → Int32 → rS → Option (Unit × rS)) (K35 : Nat → Int32 → Int32 → Int32 → Int64 → Int32 → rS → Option (Unit × rS)) (v0 : Nat) (v1 : Int32) (v2 : Int32) (v3 : Int32) (v4 : Int64) (v6 : Int32) (σ : rS) : Option (Unit × rS) :=
  if v2 ≤ v6 then (
    olet (64 - (8 * v2)) fun x1 =>
    idx v3 (gN σ 10 v0) fun j2 =>
    olet (sL σ 10 v0 j2 ((v4 <<< (Int32.toInt64 x1 &&& 63)) >>> (Int32.toInt64 x1 &&& 63))) fun σ3 =>
    K24 v0 v1 v2 (v3 + 1) σ3) else
  obind (f5_openByte v0 σ) fun r4 σ5 =>
  olet (v4 ||| ((Int32.toInt64 r4) <<< (Int32.toInt64 (8 * v6) &&& 63))) fun x6 =>
  K35 v0 v1 v2 v3 x6 (v6 + 1) σ5
noncomputable def L5_openWide_35 (N : Nat) (K24 : Nat → Int32 → Int32 → Int32 → rS → Option (Unit × rS)) : Nat → Nat → Int32 → Int32 → Int32 → Int64 → Int32 → rS → Option (Unit × rS)
  | 0, _, _, _, _, _, _, _ => none
  | n + 1, v0, v1, v2, v3, v4, v6, σ => B5_openWide_35 N K24 (L5_openWide_35 N K24 n) v0 v1 v2 v3 v4 v6 σ
noncomputable def B5_openWide_24 (N : Nat) (K24 : Nat → Int32 → Int32 → Int32 → rS → Option (Unit × rS)) (v0 : Nat) (v1 : Int32) (v2 : Int32) (v3 : Int32) (σ : rS) : Option (Unit × rS) :=
  if v1 ≤ v3 then (
    some ((), σ)) else
  L5_openWide_35 N K24 N v0 v1 v2 v3 0 0 σ
noncomputable def L5_openWide_24 (N : Nat) : Nat → Nat → Int32 → Int32 → Int32 → rS → Option (Unit × rS)
  | 0, _, _, _, _, _ => none
  | n + 1, v0, v1, v2, v3, σ => B5_openWide_24 N (L5_openWide_24 N n) v0 v1 v2 v3 σ
noncomputable def f5_openWide (N : Nat) (v0 : Nat) (v1 : Int32) (σ : rS) : Option (Unit × rS) :=
  obind (f5_openByte v0 σ) fun r1 σ2 =>
  if r1 < 1 then (
    olet (sI σ2 8 v0 7 1) fun σ3 =>
    some ((), σ3)) else
  if r1 ≤ 8 then (
    L5_openWide_24 N N v0 v1 r1 0 σ2) else
  olet (sI σ2 8 v0 7 1) fun σ4 =>
  some ((), σ4)
noncomputable def B5_undoSteps_2 (N : Nat) (K2 : Nat → Int32 → Int32 → rS → Option (Unit × rS)) (v0 : Nat) (v1 : Int32) (v2 : Int32) (σ : rS) : Option (Unit × rS) :=
  if v1 ≤ v2 then (
    some ((), σ)) else
  idx v2 (gN σ 10 v0) fun j1 =>
  idx (v2 - 1) (gN σ 10 v0) fun j2 =>
  idx v2 (gN σ 10 v0) fun j3 =>
  olet (sL σ 10 v0 j3 ((gL σ 10 v0 j1) + (gL σ 10 v0 j2))) fun σ4 =>
  K2 v0 v1 (v2 + 1) σ4
noncomputable def L5_undoSteps_2 (N : Nat) : Nat → Nat → Int32 → Int32 → rS → Option (Unit × rS)
  | 0, _, _, _, _ => none
  | n + 1, v0, v1, v2, σ => B5_undoSteps_2 N (L5_undoSteps_2 N n) v0 v1 v2 σ
noncomputable def f5_undoSteps (N : Nat) (v0 : Nat) (v1 : Int32) (σ : rS) : Option (Unit × rS) :=
  L5_undoSteps_2 N N v0 v1 1 σ
noncomputable def B5_unpack_124 (N : Nat) (v0 : Nat) (v1 : Int32) (v2 : Int32) (v3 : Int32) (v5 : Int32) (v6 : Int32) (σ : rS) : Option (Bool × rS) :=
  if (gI σ 8 v0 7) = 0 then (
    obind (f5_areTold N v0 v2 v3 σ) fun r1 σ2 =>
    if r1 = true then (
      obind (f5_pack N 10 v0 v1 v0 v3 σ2) fun r3 σ4 =>
      olet (gR σ4 8 v0 4) fun o5 =>
      onul o5 none fun i6 =>
      obind (f9_hasAt N 9 i6 v5 v6 v0 (gI σ4 8 v0 1) σ4) fun r7 σ8 =>
      some (r7, σ8)) else
    some (false, σ2)) else
  some (false, σ)
noncomputable def B5_unpack_114 (N : Nat) (v0 : Nat) (v1 : Int32) (v2 : Int32) (v3 : Int32) (v5 : Int32) (v6 : Int32) (σ : rS) : Option (Bool × rS) :=
  if v1 = 2 then (
    obind (f5_undoSteps N v0 v3 σ) fun r1 σ2 =>
    B5_unpack_124 N v0 v1 v2 v3 v5 v6 σ2) else
  B5_unpack_124 N v0 v1 v2 v3 v5 v6 σ
noncomputable def B5_unpack_109 (N : Nat) (v0 : Nat) (v1 : Int32) (v2 : Int32) (v3 : Int32) (v5 : Int32) (v6 : Int32) (σ : rS) : Option (Bool × rS) :=
  obind (f5_undoSteps N v0 v3 σ) fun r1 σ2 =>
  B5_unpack_114 N v0 v1 v2 v3 v5 v6 σ2
noncomputable def B5_unpack_94 (N : Nat) (v0 : Nat) (v1 : Int32) (v2 : Int32) (v3 : Int32) (v5 : Int32) (v6 : Int32) (σ : rS) : Option (Bool × rS) :=
  if v1 = 1 then (
    B5_unpack_109 N v0 v1 v2 v3 v5 v6 σ) else
  if v1 = 2 then (
    B5_unpack_109 N v0 v1 v2 v3 v5 v6 σ) else
  if v1 = 4 then (
    B5_unpack_109 N v0 v1 v2 v3 v5 v6 σ) else
  B5_unpack_114 N v0 v1 v2 v3 v5 v6 σ
noncomputable def B5_unpack_71 (N : Nat) (K71 : Nat → Int32 → Int32 → Int32 → Int32 → Int32 → Int32 → rS → Option (Bool × rS)) (v0 : Nat) (v1 : Int32) (v2 : Int32) (v3 : Int32) (v5 : Int32) (v6 : Int32) (v7 : Int32) (σ : rS) : Option (Bool × rS) :=
  if v3 ≤ v7 then (
    B5_unpack_94 N v0 v1 v2 v3 v5 v6 σ) else
  obind (f5_openPlain N v0 σ) fun r1 σ2 =>
  idx v7 (gN σ2 10 v0) fun j3 =>
  olet (sL σ2 10 v0 j3 r1) fun σ4 =>
  K71 v0 v1 v2 v3 v5 v6 (v7 + 1) σ4
noncomputable def L5_unpack_71 (N : Nat) : Nat → Nat → Int32 → Int32 → Int32 → Int32 → Int32 → Int32 → rS → Option (Bool × rS)
  | 0, _, _, _, _, _, _, _, _ => none
  | n + 1, v0, v1, v2, v3, v5, v6, v7, σ => B5_unpack_71 N (L5_unpack_71 N n) v0 v1 v2 v3 v5 v6 v7 σ
noncomputable def f5_unpack (N : Nat) (v0 : Nat) (v1 : Int32) (v2 : Int32) (v3 : Int32) (v4 : Nat) (v5 : Int32) (v6 : Int32) (σ : rS) : Option (Bool × rS) :=
  olet (sR σ 8 v0 4 (some v4)) fun σ1 =>
  olet (sI σ1 8 v0 5 v5) fun σ2 =>
  olet (sI σ2 8 v0 6 v6) fun σ3 =>
  olet (sI σ3 8 v0 7 0) fun σ4 =>
  if v1 = 3 then (
    obind (f5_openRuns N v0 v3 σ4) fun r5 σ6 =>
    B5_unpack_94 N v0 v1 v2 v3 v5 v6 σ6) else
  if v1 = 4 then (
    obind (f5_openWide N v0 v3 σ4) fun r7 σ8 =>
    B5_unpack_94 N v0 v1 v2 v3 v5 v6 σ8) else
  L5_unpack_71 N N v0 v1 v2 v3 v5 v6 0 σ4
noncomputable def f6_examine (N : Nat) (v0 : Nat) (v1 : Nat) (v2 : Nat) (v3 : Int32) (σ : rS) : Option (Int32 × rS) :=
  olet ((gI σ 15 v2 1) - v3) fun x1 =>
  if x1 = 0 then (
    some (6, σ)) else
  if 7 ≤ x1 then (
    obind (f9_pairAt v2 (v3 + 3) σ) fun r2 σ3 =>
    if (7 + r2) ≤ x1 then (
      obind (f9_byteAt v2 v3 σ3) fun r4 σ5 =>
      olet (r4 - 160) fun x6 =>
      obind (f9_byteAt v2 (v3 + 1) σ5) fun r7 σ8 =>
      olet (sI σ8 12 v0 0 r7) fun σ9 =>
      obind (f9_byteAt v2 (v3 + 2) σ9) fun r10 σ11 =>
      olet (sI σ11 12 v0 1 r10) fun σ12 =>
      obind (f10_isCoder x6 σ12) fun r13 σ14 =>
      if r13 = true then (
        obind (f10_isKind (gI σ14 12 v0 0) σ14) fun r15 σ16 =>
        if r15 = true then (
          if (gI σ16 12 v0 1) ≤ 24 then (
            olet (v3 + 5) fun x17 =>
            olet (x17 + r2) fun x18 =>
            obind (f9_sum N v2 v3 x18 σ16) fun r19 σ20 =>
            obind (f9_pairAt v2 x18 σ20) fun r21 σ22 =>
            if r19 = r21 then (
              obind (f5_unpack N v1 x6 (gI σ22 12 v0 0) (gI σ22 12 v0 1) v2 x17 x18 σ22) fun r23 σ24 =>
              if r23 = true then (
                olet (sI σ24 12 v0 2 ((v3 + 7) + r2)) fun σ25 =>
                some (0, σ25)) else
              some (8, σ24)) else
            some (8, σ22)) else
          some (8, σ16)) else
        some (8, σ16)) else
      some (8, σ14)) else
    some (7, σ3)) else
  some (7, σ)
