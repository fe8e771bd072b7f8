noncomputable def f11_in (v0 : Int64) (v2 : Int64) (v4 : Int64) (σ : rS) : Option (Bool × rS) :=
  if v0 < v2 then (
    some (false, σ)) else
  if v4 < v0 then (
    some (false, σ)) else
  some (true, σ)
noncomputable def f11_isStream (v0 : Nat) (v1 : Int32) (σ : rS) : Option (Bool × rS) :=
  obind (f11_in (Int32.toInt64 v1) 0 (Int32.toInt64 ((gI σ 29 v0 13) - 1)) σ) fun r1 σ2 =>
  some (r1, σ2)
noncomputable def B11_sumOf_6 (N : Nat) (K6 : Nat → Int32 → Int32 → Int32 → Int32 → rS → Option (Int32 × rS)) (v0 : Nat) (v1 : Int32) (v3 : Int32) (v4 : Int32) (v5 : Int32) (σ : rS) : Option (Int32 × rS) :=
  if v3 ≤ v5 then (
    some (v4, σ)) else
  idx ((400 * v1) + v5) (gN σ 44 v0) fun j1 =>
  olet (((31 * v4) + (gI σ 44 v0 j1)) &&& 65535) fun x2 =>
  K6 v0 v1 v3 x2 (v5 + 1) σ
noncomputable def L11_sumOf_6 (N : Nat) : Nat → Nat → Int32 → Int32 → Int32 → Int32 → rS → Option (Int32 × rS)
  | 0, _, _, _, _, _, _ => none
  | n + 1, v0, v1, v3, v4, v5, σ => B11_sumOf_6 N (L11_sumOf_6 N n) v0 v1 v3 v4 v5 σ
noncomputable def f11_sumOf (N : Nat) (v0 : Nat) (v1 : Int32) (v2 : Int32) (v3 : Int32) (σ : rS) : Option (Int32 × rS) :=
  L11_sumOf_6 N N v0 v1 v3 0 v2 σ
noncomputable def f11_about (N : Nat) (v0 : Nat) (v1 : Int32) (v2 : Int32) (σ : rS) : Option (Int32 × rS) :=
  obind (f11_isStream v0 v1 σ) fun r1 σ2 =>
  if r1 = true then (
    if v2 = 0 then (
      idx v1 (gN σ2 45 v0) fun j8 =>
      some ((gI σ2 45 v0 j8), σ2)) else
    if v2 = 1 then (
      idx v1 (gN σ2 46 v0) fun j7 =>
      some ((gI σ2 46 v0 j7), σ2)) else
    if v2 = 2 then (
      idx v1 (gN σ2 47 v0) fun j6 =>
      if (gI σ2 47 v0 j6) = 0 then (
        some (0, σ2)) else
      some (1, σ2)) else
    if v2 = 3 then (
      idx v1 (gN σ2 45 v0) fun j3 =>
      obind (f11_sumOf N v0 v1 0 (gI σ2 45 v0 j3) σ2) fun r4 σ5 =>
      some (r4, σ5)) else
    some ((-102), σ2)) else
  some ((-101), σ2)
noncomputable def f11_isDelta (v0 : Nat) (v1 : Int32) (σ : rS) : Option (Bool × rS) :=
  obind (f11_in (Int32.toInt64 v1) 0 (Int32.toInt64 ((gI σ 29 v0 30) - 1)) σ) fun r1 σ2 =>
  some (r1, σ2)
noncomputable def f11_meets (v0 : Nat) (v1 : Int32) (σ : rS) : Option (Int32 × rS) :=
  olet (sI σ 29 v0 0 v1) fun σ1 =>
  idx v1 (gN σ1 31 v0) fun j2 =>
  idx v1 (gN σ1 31 v0) fun j3 =>
  olet (sI σ1 31 v0 j3 ((gI σ1 31 v0 j2) + 1)) fun σ4 =>
  some (((-10) - v1), σ4)
noncomputable def B11_total_60 (N : Nat) (K5 : Nat → Int32 → Bool → Int32 → Int32 → rS → Option (Int32 × rS)) (v0 : Nat) (v1 : Int32) (v2 : Bool) (v4 : Int32) (s0 : Int32) (s1 : Int32) (σ : rS) : Option (Int32 × rS) :=
  olet (s0 + s1) fun x1 =>
  K5 v0 v1 v2 x1 (v4 + 1) σ
noncomputable def B11_total_39 (N : Nat) (K5 : Nat → Int32 → Bool → Int32 → Int32 → rS → Option (Int32 × rS)) (v0 : Nat) (v1 : Int32) (v2 : Bool) (v4 : Int32) (s0 : Int32) (s1 : Bool) (σ : rS) : Option (Int32 × rS) :=
  if (bi s1) = (bi v2) then (
    idx ((400 * v1) + v4) (gN σ 65 v0) fun j1 =>
    B11_total_60 N K5 v0 v1 v2 v4 s0 (gI σ 65 v0 j1) σ) else
  B11_total_60 N K5 v0 v1 v2 v4 s0 0 σ
noncomputable def B11_total_5 (N : Nat) (K5 : Nat → Int32 → Bool → Int32 → Int32 → rS → Option (Int32 × rS)) (v0 : Nat) (v1 : Int32) (v2 : Bool) (v3 : Int32) (v4 : Int32) (σ : rS) : Option (Int32 × rS) :=
  idx v1 (gN σ 63 v0) fun j1 =>
  if (gI σ 63 v0 j1) ≤ v4 then (
    some (v3, σ)) else
  idx ((400 * v1) + v4) (gN σ 64 v0) fun j2 =>
  if (gI σ 64 v0 j2) = (-1) then (
    B11_total_39 N K5 v0 v1 v2 v4 v3 false σ) else
  B11_total_39 N K5 v0 v1 v2 v4 v3 true σ
noncomputable def L11_total_5 (N : Nat) : Nat → Nat → Int32 → Bool → Int32 → Int32 → rS → Option (Int32 × rS)
  | 0, _, _, _, _, _, _ => none
  | n + 1, v0, v1, v2, v3, v4, σ => B11_total_5 N (L11_total_5 N n) v0 v1 v2 v3 v4 σ
noncomputable def f11_total (N : Nat) (v0 : Nat) (v1 : Int32) (v2 : Bool) (σ : rS) : Option (Int32 × rS) :=
  L11_total_5 N N v0 v1 v2 0 0 σ
noncomputable def f11_act (N : Nat) (v0 : Nat) (v1 : Int32) (v2 : Int32) (v3 : Int32) (σ : rS) : Option (Int32 × rS) :=
  obind (f11_isDelta v0 v1 σ) fun r1 σ2 =>
  if r1 = true then (
    obind (f11_in (Int32.toInt64 v3) 0 2 σ2) fun r3 σ4 =>
    if r3 = true then (
      if v2 = (-1) then (
        if v3 = 0 then (
          idx v1 (gN σ4 63 v0) fun j17 =>
          some ((gI σ4 63 v0 j17), σ4)) else
        if v3 = 1 then (
          obind (f11_total N v0 v1 true σ4) fun r15 σ16 =>
          some (r15, σ16)) else
        obind (f11_total N v0 v1 false σ4) fun r13 σ14 =>
        some (r13, σ14)) else
      idx v1 (gN σ4 63 v0) fun j5 =>
      obind (f11_in (Int32.toInt64 v2) 0 (Int32.toInt64 ((gI σ4 63 v0 j5) - 1)) σ4) fun r6 σ7 =>
      if r6 = true then (
        idx ((400 * v1) + v2) (gN σ7 64 v0) fun j8 =>
        olet (gI σ7 64 v0 j8) fun x9 =>
        if v3 = 0 then (
          if x9 = (-1) then (
            some (1, σ7)) else
          some (0, σ7)) else
        if v3 = 1 then (
          some (x9, σ7)) else
        idx ((400 * v1) + v2) (gN σ7 65 v0) fun j10 =>
        some ((gI σ7 65 v0 j10), σ7)) else
      obind (f11_meets v0 2 σ7) fun r11 σ12 =>
      some (r11, σ12)) else
    some ((-102), σ4)) else
  some ((-101), σ2)
noncomputable def f11_lay (v0 : Nat) (v1 : Int32) (v2 : Int32) (σ : rS) : Option (Unit × rS) :=
  idx v1 (gN σ 45 v0) fun j1 =>
  idx ((400 * v1) + (gI σ 45 v0 j1)) (gN σ 44 v0) fun j2 =>
  olet (sI σ 44 v0 j2 v2) fun σ3 =>
  idx v1 (gN σ3 45 v0) fun j4 =>
  idx v1 (gN σ3 45 v0) fun j5 =>
  olet (sI σ3 45 v0 j5 ((gI σ3 45 v0 j4) + 1)) fun σ6 =>
  some ((), σ6)
noncomputable def f11_add (v0 : Nat) (v1 : Int32) (v2 : Int32) (σ : rS) : Option (Int32 × rS) :=
  obind (f11_isStream v0 v1 σ) fun r1 σ2 =>
  if r1 = true then (
    idx v1 (gN σ2 47 v0) fun j3 =>
    if (gI σ2 47 v0 j3) = 0 then (
      idx v1 (gN σ2 45 v0) fun j4 =>
      if (gI σ2 45 v0 j4) = 400 then (
        some ((-104), σ2)) else
      obind (f11_lay v0 v1 (v2 &&& 255) σ2) fun r5 σ6 =>
      idx v1 (gN σ6 45 v0) fun j7 =>
      some ((gI σ6 45 v0 j7), σ6)) else
    some ((-103), σ2)) else
  some ((-101), σ2)
noncomputable def f11_isRow (v0 : Nat) (v1 : Int32) (σ : rS) : Option (Bool × rS) :=
  obind (f11_in (Int32.toInt64 v1) 0 (Int32.toInt64 ((gI σ 29 v0 3) - 1)) σ) fun r1 σ2 =>
  some (r1, σ2)
noncomputable def f11_against (v0 : Nat) (v1 : Int32) (v2 : Int32) (σ : rS) : Option (Int32 × rS) :=
  obind (f11_isRow v0 v1 σ) fun r1 σ2 =>
  if r1 = true then (
    idx v1 (gN σ2 36 v0) fun j3 =>
    if (gI σ2 36 v0 j3) = 0 then (
      idx v1 (gN σ2 35 v0) fun j4 =>
      obind (f11_in (Int32.toInt64 v2) 0 (Int32.toInt64 ((gI σ2 35 v0 j4) - 1)) σ2) fun r5 σ6 =>
      if r5 = true then (
        some (0, σ6)) else
      obind (f11_meets v0 2 σ6) fun r7 σ8 =>
      some (r7, σ8)) else
    obind (f11_meets v0 1 σ2) fun r9 σ10 =>
    some (r9, σ10)) else
  some ((-101), σ2)
noncomputable def f11_newStream (v0 : Nat) (σ : rS) : Option (Int32 × rS) :=
  idx (gI σ 29 v0 13) (gN σ 45 v0) fun j1 =>
  olet (sI σ 45 v0 j1 0) fun σ2 =>
  idx (gI σ2 29 v0 13) (gN σ2 46 v0) fun j3 =>
  olet (sI σ2 46 v0 j3 0) fun σ4 =>
  idx (gI σ4 29 v0 13) (gN σ4 47 v0) fun j5 =>
  olet (sI σ4 47 v0 j5 (vp_nar .boolean 0)) fun σ6 =>
  olet (sI σ6 29 v0 13 ((gI σ6 29 v0 13) + 1)) fun σ7 =>
  some (((gI σ7 29 v0 13) - 1), σ7)
noncomputable def B11_apply_183 (N : Nat) (K85 : Nat → Int32 → Int32 → Int32 → Int32 → Int32 → rS → Option (Int32 × rS)) (K114 : Nat → Int32 → Int32 → Int32 → Int32 → Int32 → Int32 → Int32 → rS → Option (Int32 × rS)) (v0 : Nat) (v1 : Int32) (v2 : Int32) (v3 : Int32) (v4 : Int32) (v5 : Int32) (v6 : Int32) (v7 : Int32) (σ : rS) : Option (Int32 × rS) :=
  K114 v0 v1 v2 v3 v4 v5 v6 (v7 + 1) σ
noncomputable def B11_apply_114 (N : Nat) (K85 : Nat → Int32 → Int32 → Int32 → Int32 → Int32 → rS → Option (Int32 × rS)) (K114 : Nat → Int32 → Int32 → Int32 → Int32 → Int32 → Int32 → Int32 → rS → Option (Int32 × rS)) (v0 : Nat) (v1 : Int32) (v2 : Int32) (v3 : Int32) (v4 : Int32) (v5 : Int32) (v6 : Int32) (v7 : Int32) (σ : rS) : Option (Int32 × rS) :=
  idx ((400 * v1) + v5) (gN σ 65 v0) fun j1 =>
  if (gI σ 65 v0 j1) ≤ v7 then (
    K85 v0 v1 v2 v3 v4 (v5 + 1) σ) else
  if v6 = (-1) then (
    idx ((400 * v1) + v4) (gN σ 66 v0) fun j5 =>
    obind (f11_lay v0 v3 (gI σ 66 v0 j5) σ) fun r6 σ7 =>
    B11_apply_183 N K85 K114 v0 v1 v2 v3 (v4 + 1) v5 v6 v7 σ7) else
  idx (((400 * v2) + v6) + v7) (gN σ 44 v0) fun j2 =>
  obind (f11_lay v0 v3 (gI σ 44 v0 j2) σ) fun r3 σ4 =>
  B11_apply_183 N K85 K114 v0 v1 v2 v3 v4 v5 v6 v7 σ4
noncomputable def L11_apply_114 (N : Nat) (K85 : Nat → Int32 → Int32 → Int32 → Int32 → Int32 → rS → Option (Int32 × rS)) : Nat → Nat → Int32 → Int32 → Int32 → Int32 → Int32 → Int32 → Int32 → rS → Option (Int32 × rS)
  | 0, _, _, _, _, _, _, _, _, _ => none
  | n + 1, v0, v1, v2, v3, v4, v5, v6, v7, σ => B11_apply_114 N K85 (L11_apply_114 N K85 n) v0 v1 v2 v3 v4 v5 v6 v7 σ
noncomputable def B11_apply_85 (N : Nat) (K85 : Nat → Int32 → Int32 → Int32 → Int32 → Int32 → rS → Option (Int32 × rS)) (v0 : Nat) (v1 : Int32) (v2 : Int32) (v3 : Int32) (v4 : Int32) (v5 : Int32) (σ : rS) : Option (Int32 × rS) :=
  idx v1 (gN σ 63 v0) fun j1 =>
  if (gI σ 63 v0 j1) ≤ v5 then (
    some (v3, σ)) else
  idx ((400 * v1) + v5) (gN σ 64 v0) fun j2 =>
  olet (gI σ 64 v0 j2) fun x3 =>
  L11_apply_114 N K85 N v0 v1 v2 v3 v4 v5 x3 0 σ
noncomputable def L11_apply_85 (N : Nat) : Nat → Nat → Int32 → Int32 → Int32 → Int32 → Int32 → rS → Option (Int32 × rS)
  | 0, _, _, _, _, _, _, _ => none
  | n + 1, v0, v1, v2, v3, v4, v5, σ => B11_apply_85 N (L11_apply_85 N n) v0 v1 v2 v3 v4 v5 σ
noncomputable def f11_apply (N : Nat) (v0 : Nat) (v1 : Int32) (v2 : Int32) (σ : rS) : Option (Int32 × rS) :=
  obind (f11_isDelta v0 v1 σ) fun r1 σ2 =>
  if r1 = true then (
    obind (f11_isStream v0 v2 σ2) fun r3 σ4 =>
    if r3 = true then (
      idx v2 (gN σ4 45 v0) fun j5 =>
      idx v1 (gN σ4 61 v0) fun j6 =>
      if (gI σ4 45 v0 j5) = (gI σ4 61 v0 j6) then (
        idx v2 (gN σ4 45 v0) fun j9 =>
        obind (f11_sumOf N v0 v2 0 (gI σ4 45 v0 j9) σ4) fun r10 σ11 =>
        idx v1 (gN σ11 62 v0) fun j12 =>
        if r10 = (gI σ11 62 v0 j12) then (
          if (gI σ11 29 v0 13) = 24 then (
            some ((-104), σ11)) else
          obind (f11_newStream v0 σ11) fun r13 σ14 =>
          L11_apply_85 N N v0 v1 v2 r13 0 0 σ14) else
        obind (f11_meets v0 9 σ11) fun r15 σ16 =>
        some (r15, σ16)) else
      obind (f11_meets v0 9 σ4) fun r7 σ8 =>
      some (r7, σ8)) else
    some ((-101), σ4)) else
  some ((-101), σ2)
noncomputable def f11_at (v0 : Nat) (v1 : Int32) (v2 : Int32) (σ : rS) : Option (Int32 × rS) :=
  obind (f11_isStream v0 v1 σ) fun r1 σ2 =>
  if r1 = true then (
    idx v1 (gN σ2 45 v0) fun j3 =>
    obind (f11_in (Int32.toInt64 v2) 0 (Int32.toInt64 ((gI σ2 45 v0 j3) - 1)) σ2) fun r4 σ5 =>
    if r4 = true then (
      idx ((400 * v1) + v2) (gN σ5 44 v0) fun j8 =>
      some ((gI σ5 44 v0 j8), σ5)) else
    obind (f11_meets v0 2 σ5) fun r6 σ7 =>
    some (r6, σ7)) else
  some ((-101), σ2)
noncomputable def B11_differences_7 (N : Nat) (K7 : Nat → Int32 → rS → Option (Unit × rS)) (v0 : Nat) (v1 : Int32) (σ : rS) : Option (Unit × rS) :=
  if v1 ≤ 0 then (
    some ((), σ)) else
  idx v1 (gN σ 39 v0) fun j1 =>
  idx (v1 - 1) (gN σ 39 v0) fun j2 =>
  idx v1 (gN σ 39 v0) fun j3 =>
  olet (sL σ 39 v0 j3 ((gL σ 39 v0 j1) - (gL σ 39 v0 j2))) fun σ4 =>
  K7 v0 (v1 + (-1)) σ4
noncomputable def L11_differences_7 (N : Nat) : Nat → Nat → Int32 → rS → Option (Unit × rS)
  | 0, _, _, _ => none
  | n + 1, v0, v1, σ => B11_differences_7 N (L11_differences_7 N n) v0 v1 σ
noncomputable def f11_differences (N : Nat) (v0 : Nat) (σ : rS) : Option (Unit × rS) :=
  olet ((gI σ 29 v0 10) - 1) fun x1 =>
  L11_differences_7 N N v0 x1 σ
noncomputable def B11_plain_9 (N : Nat) (K9 : Nat → Int64 → rS → Option (Unit × rS)) (v0 : Nat) (v3 : Int64) (σ : rS) : Option (Unit × rS) :=
  if (v3 &&& (-128)) = 0 then (
    idx (gI σ 29 v0 12) (gN σ 41 v0) fun j1 =>
    olet (sI σ 41 v0 j1 (Int64.toInt32 v3)) fun σ2 =>
    olet (sI σ2 29 v0 12 ((gI σ2 29 v0 12) + 1)) fun σ3 =>
    some ((), σ3)) else
  idx (gI σ 29 v0 12) (gN σ 41 v0) fun j4 =>
  olet (sI σ 41 v0 j4 ((Int64.toInt32 (v3 &&& 127)) ||| 128)) fun σ5 =>
  olet (sI σ5 29 v0 12 ((gI σ5 29 v0 12) + 1)) fun σ6 =>
  olet (UInt64.toInt64 (Int64.toUInt64 v3 >>> (Int64.toUInt64 (Int32.toInt64 7) &&& Int64.toUInt64 63))) fun x7 =>
  K9 v0 x7 σ6
noncomputable def L11_plain_9 (N : Nat) : Nat → Nat → Int64 → rS → Option (Unit × rS)
  | 0, _, _, _ => none
  | n + 1, v0, v3, σ => B11_plain_9 N (L11_plain_9 N n) v0 v3 σ
noncomputable def f11_plain (N : Nat) (v0 : Nat) (v1 : Int64) (σ : rS) : Option (Unit × rS) :=
  olet ((v1 <<< (Int32.toInt64 1 &&& 63)) ^^^ (v1 >>> (Int32.toInt64 63 &&& 63))) fun x1 =>
  L11_plain_9 N N v0 x1 σ
noncomputable def B11_sums_2 (N : Nat) (K2 : Nat → Int32 → rS → Option (Unit × rS)) (v0 : Nat) (v1 : Int32) (σ : rS) : Option (Unit × rS) :=
  if (gI σ 29 v0 10) ≤ v1 then (
    some ((), σ)) else
  idx v1 (gN σ 39 v0) fun j1 =>
  idx (v1 - 1) (gN σ 39 v0) fun j2 =>
  idx v1 (gN σ 39 v0) fun j3 =>
  olet (sL σ 39 v0 j3 ((gL σ 39 v0 j1) + (gL σ 39 v0 j2))) fun σ4 =>
  K2 v0 (v1 + 1) σ4
noncomputable def L11_sums_2 (N : Nat) : Nat → Nat → Int32 → rS → Option (Unit × rS)
  | 0, _, _, _ => none
  | n + 1, v0, v1, σ => B11_sums_2 N (L11_sums_2 N n) v0 v1 σ
noncomputable def f11_sums (N : Nat) (v0 : Nat) (σ : rS) : Option (Unit × rS) :=
  L11_sums_2 N N v0 1 σ
noncomputable def B11_wide_86 (N : Nat) (K76 : Nat → Int32 → Int32 → rS → Option (Unit × rS)) (K86 : Nat → Int32 → Int32 → Int32 → rS → Option (Unit × rS)) (v0 : Nat) (v1 : Int32) (v2 : Int32) (v3 : Int32) (σ : rS) : Option (Unit × rS) :=
  if v1 ≤ v3 then (
    K76 v0 v1 (v2 + 1) σ) else
  idx v2 (gN σ 39 v0) fun j1 =>
  idx (gI σ 29 v0 12) (gN σ 41 v0) fun j2 =>
  olet (sI σ 41 v0 j2 ((Int64.toInt32 ((gL σ 39 v0 j1) >>> (Int32.toInt64 (8 * v3) &&& 63))) &&& 255)) fun σ3 =>
  olet (sI σ3 29 v0 12 ((gI σ3 29 v0 12) + 1)) fun σ4 =>
  K86 v0 v1 v2 (v3 + 1) σ4
noncomputable def L11_wide_86 (N : Nat) (K76 : Nat → Int32 → Int32 → rS → Option (Unit × rS)) : Nat → Nat → Int32 → Int32 → Int32 → rS → Option (Unit × rS)
  | 0, _, _, _, _, _ => none
  | n + 1, v0, v1, v2, v3, σ => B11_wide_86 N K76 (L11_wide_86 N K76 n) v0 v1 v2 v3 σ
noncomputable def B11_wide_76 (N : Nat) (K76 : Nat → Int32 → Int32 → rS → Option (Unit × rS)) (v0 : Nat) (v1 : Int32) (v2 : Int32) (σ : rS) : Option (Unit × rS) :=
  if (gI σ 29 v0 10) ≤ v2 then (
    some ((), σ)) else
  L11_wide_86 N K76 N v0 v1 v2 0 σ
noncomputable def L11_wide_76 (N : Nat) : Nat → Nat → Int32 → Int32 → rS → Option (Unit × rS)
  | 0, _, _, _, _ => none
  | n + 1, v0, v1, v2, σ => B11_wide_76 N (L11_wide_76 N n) v0 v1 v2 σ
noncomputable def B11_wide_56 (N : Nat) (K4 : Nat → Int32 → Int32 → rS → Option (Unit × rS)) (v0 : Nat) (v1 : Int32) (v2 : Int32) (σ : rS) : Option (Unit × rS) :=
  K4 v0 v1 (v2 + 1) σ
noncomputable def B11_wide_12 (N : Nat) (K4 : Nat → Int32 → Int32 → rS → Option (Unit × rS)) (K12 : Nat → Int32 → Int32 → rS → Option (Unit × rS)) (v0 : Nat) (v1 : Int32) (v2 : Int32) (σ : rS) : Option (Unit × rS) :=
  if 8 ≤ v1 then (
    B11_wide_56 N K4 v0 v1 v2 σ) else
  idx v2 (gN σ 39 v0) fun j1 =>
  idx v2 (gN σ 39 v0) fun j2 =>
  if (((gL σ 39 v0 j1) <<< (Int32.toInt64 (64 - (8 * v1)) &&& 63)) >>> (Int32.toInt64 (64 - (8 * v1)) &&& 63)) = (gL σ 39 v0 j2) then (
    B11_wide_56 N K4 v0 v1 v2 σ) else
  K12 v0 (v1 + 1) v2 σ
noncomputable def L11_wide_12 (N : Nat) (K4 : Nat → Int32 → Int32 → rS → Option (Unit × rS)) : Nat → Nat → Int32 → Int32 → rS → Option (Unit × rS)
  | 0, _, _, _, _ => none
  | n + 1, v0, v1, v2, σ => B11_wide_12 N K4 (L11_wide_12 N K4 n) v0 v1 v2 σ
noncomputable def B11_wide_4 (N : Nat) (K4 : Nat → Int32 → Int32 → rS → Option (Unit × rS)) (v0 : Nat) (v1 : Int32) (v2 : Int32) (σ : rS) : Option (Unit × rS) :=
  if (gI σ 29 v0 10) ≤ v2 then (
    idx 0 (gN σ 41 v0) fun j1 =>
    olet (sI σ 41 v0 j1 v1) fun σ2 =>
    olet (sI σ2 29 v0 12 1) fun σ3 =>
    L11_wide_76 N N v0 v1 0 σ3) else
  L11_wide_12 N K4 N v0 v1 v2 σ
noncomputable def L11_wide_4 (N : Nat) : Nat → Nat → Int32 → Int32 → rS → Option (Unit × rS)
  | 0, _, _, _, _ => none
  | n + 1, v0, v1, v2, σ => B11_wide_4 N (L11_wide_4 N n) v0 v1 v2 σ
noncomputable def f11_wide (N : Nat) (v0 : Nat) (σ : rS) : Option (Unit × rS) :=
  L11_wide_4 N N v0 1 0 σ
noncomputable def B11_code_146 (N : Nat) (v0 : Nat) (v1 : Int32) (σ : rS) : Option (Unit × rS) :=
  if v1 ≤ 0 then (
    some ((), σ)) else
  obind (f11_sums N v0 σ) fun r1 σ2 =>
  some ((), σ2)
noncomputable def B11_code_137 (N : Nat) (v0 : Nat) (v1 : Int32) (σ : rS) : Option (Unit × rS) :=
  if v1 = 2 then (
    obind (f11_sums N v0 σ) fun r1 σ2 =>
    B11_code_146 N v0 v1 σ2) else
  B11_code_146 N v0 v1 σ
noncomputable def B11_code_106 (N : Nat) (K106 : Nat → Int32 → Int32 → rS → Option (Unit × rS)) (v0 : Nat) (v1 : Int32) (v2 : Int32) (σ : rS) : Option (Unit × rS) :=
  if (gI σ 29 v0 10) ≤ v2 then (
    B11_code_137 N v0 v1 σ) else
  idx v2 (gN σ 39 v0) fun j1 =>
  obind (f11_plain N v0 (gL σ 39 v0 j1) σ) fun r2 σ3 =>
  K106 v0 v1 (v2 + 1) σ3
noncomputable def L11_code_106 (N : Nat) : Nat → Nat → Int32 → Int32 → rS → Option (Unit × rS)
  | 0, _, _, _, _ => none
  | n + 1, v0, v1, v2, σ => B11_code_106 N (L11_code_106 N n) v0 v1 v2 σ
noncomputable def B11_code_99 (N : Nat) (v0 : Nat) (v1 : Int32) (σ : rS) : Option (Unit × rS) :=
  if 4 ≤ v1 then (
    obind (f11_wide N v0 σ) fun r1 σ2 =>
    B11_code_137 N v0 v1 σ2) else
  L11_code_106 N N v0 v1 0 σ
noncomputable def B11_code_90 (N : Nat) (v0 : Nat) (v1 : Int32) (σ : rS) : Option (Unit × rS) :=
  if v1 = 2 then (
    obind (f11_differences N v0 σ) fun r1 σ2 =>
    B11_code_99 N v0 v1 σ2) else
  B11_code_99 N v0 v1 σ
noncomputable def B11_code_56 (N : Nat) (K12 : Nat → Int32 → rS → Option (Unit × rS)) (v0 : Nat) (v2 : Int32) (v3 : Int32) (σ : rS) : Option (Unit × rS) :=
  idx v2 (gN σ 39 v0) fun j1 =>
  obind (f11_plain N v0 (gL σ 39 v0 j1) σ) fun r2 σ3 =>
  obind (f11_plain N v0 (Int32.toInt64 (v3 - 1)) σ3) fun r4 σ5 =>
  olet (v2 + v3) fun x6 =>
  K12 v0 x6 σ5
noncomputable def B11_code_22 (N : Nat) (K12 : Nat → Int32 → rS → Option (Unit × rS)) (K22 : Nat → Int32 → Int32 → rS → Option (Unit × rS)) (v0 : Nat) (v2 : Int32) (v3 : Int32) (σ : rS) : Option (Unit × rS) :=
  if (gI σ 29 v0 10) ≤ (v2 + v3) then (
    B11_code_56 N K12 v0 v2 v3 σ) else
  idx (v2 + v3) (gN σ 39 v0) fun j1 =>
  idx v2 (gN σ 39 v0) fun j2 =>
  if (gL σ 39 v0 j1) = (gL σ 39 v0 j2) then (
    K22 v0 v2 (v3 + 1) σ) else
  B11_code_56 N K12 v0 v2 v3 σ
noncomputable def L11_code_22 (N : Nat) (K12 : Nat → Int32 → rS → Option (Unit × rS)) : Nat → Nat → Int32 → Int32 → rS → Option (Unit × rS)
  | 0, _, _, _, _ => none
  | n + 1, v0, v2, v3, σ => B11_code_22 N K12 (L11_code_22 N K12 n) v0 v2 v3 σ
noncomputable def B11_code_12 (N : Nat) (K12 : Nat → Int32 → rS → Option (Unit × rS)) (v0 : Nat) (v2 : Int32) (σ : rS) : Option (Unit × rS) :=
  if (gI σ 29 v0 10) ≤ v2 then (
    some ((), σ)) else
  L11_code_22 N K12 N v0 v2 1 σ
noncomputable def L11_code_12 (N : Nat) : Nat → Nat → Int32 → rS → Option (Unit × rS)
  | 0, _, _, _ => none
  | n + 1, v0, v2, σ => B11_code_12 N (L11_code_12 N n) v0 v2 σ
noncomputable def f11_code (N : Nat) (v0 : Nat) (v1 : Int32) (σ : rS) : Option (Unit × rS) :=
  olet (sI σ 29 v0 12 0) fun σ1 =>
  if v1 = 3 then (
    L11_code_12 N N v0 0 σ1) else
  if v1 ≤ 0 then (
    B11_code_90 N v0 v1 σ1) else
  obind (f11_differences N v0 σ1) fun r2 σ3 =>
  B11_code_90 N v0 v1 σ3
noncomputable def B11_codeRow_12 (N : Nat) (K12 : Nat → Int32 → Int32 → Int32 → rS → Option (Unit × rS)) (v0 : Nat) (v1 : Int32) (v2 : Int32) (v3 : Int32) (σ : rS) : Option (Unit × rS) :=
  if (gI σ 29 v0 10) ≤ v3 then (
    obind (f11_code N v0 v2 σ) fun r1 σ2 =>
    some ((), σ2)) else
  idx ((24 * v1) + v3) (gN σ 37 v0) fun j3 =>
  idx v3 (gN σ 39 v0) fun j4 =>
  olet (sL σ 39 v0 j4 (gL σ 37 v0 j3)) fun σ5 =>
  K12 v0 v1 v2 (v3 + 1) σ5
noncomputable def L11_codeRow_12 (N : Nat) : Nat → Nat → Int32 → Int32 → Int32 → rS → Option (Unit × rS)
  | 0, _, _, _, _, _ => none
  | n + 1, v0, v1, v2, v3, σ => B11_codeRow_12 N (L11_codeRow_12 N n) v0 v1 v2 v3 σ
noncomputable def f11_codeRow (N : Nat) (v0 : Nat) (v1 : Int32) (v2 : Int32) (σ : rS) : Option (Unit × rS) :=
  idx v1 (gN σ 35 v0) fun j1 =>
  olet (sI σ 29 v0 10 (gI σ 35 v0 j1)) fun σ2 =>
  L11_codeRow_12 N N v0 v1 v2 0 σ2
noncomputable def B11_best_64 (N : Nat) (K35 : Nat → Int32 → Int32 → Int32 → Int32 → rS → Option (Int32 × rS)) (v0 : Nat) (v1 : Int32) (v2 : Int32) (v3 : Int32) (v4 : Int32) (σ : rS) : Option (Int32 × rS) :=
  K35 v0 v1 v2 v3 (v4 + 1) σ
noncomputable def B11_best_35 (N : Nat) (K35 : Nat → Int32 → Int32 → Int32 → Int32 → rS → Option (Int32 × rS)) (v0 : Nat) (v1 : Int32) (v2 : Int32) (v3 : Int32) (v4 : Int32) (σ : rS) : Option (Int32 × rS) :=
  if 5 ≤ v4 then (
    some (v2, σ)) else
  obind (f11_codeRow N v0 v1 v4 σ) fun r1 σ2 =>
  if v3 ≤ (gI σ2 29 v0 12) then (
    B11_best_64 N K35 v0 v1 v2 v3 v4 σ2) else
  olet (gI σ2 29 v0 12) fun x3 =>
  B11_best_64 N K35 v0 v1 v4 x3 v4 σ2
noncomputable def L11_best_35 (N : Nat) : Nat → Nat → Int32 → Int32 → Int32 → Int32 → rS → Option (Int32 × rS)
  | 0, _, _, _, _, _, _ => none
  | n + 1, v0, v1, v2, v3, v4, σ => B11_best_35 N (L11_best_35 N n) v0 v1 v2 v3 v4 σ
noncomputable def f11_best (N : Nat) (v0 : Nat) (v1 : Int32) (σ : rS) : Option (Int32 × rS) :=
  obind (f11_isRow v0 v1 σ) fun r1 σ2 =>
  if r1 = true then (
    idx v1 (gN σ2 36 v0) fun j3 =>
    if (gI σ2 36 v0 j3) = 0 then (
      L11_best_35 N N v0 v1 0 1000 0 σ2) else
    obind (f11_meets v0 1 σ2) fun r4 σ5 =>
    some (r4, σ5)) else
  some ((-101), σ2)
noncomputable def B11_bodiesNow_26 (N : Nat) (K4 : Nat → Int32 → Int32 → rS → Option (Int32 × rS)) (v0 : Nat) (v2 : Int32) (s0 : Int32) (s1 : Bool) (σ : rS) : Option (Int32 × rS) :=
  olet (s0 + (bi s1)) fun x1 =>
  K4 v0 x1 (v2 + 1) σ
noncomputable def B11_bodiesNow_4 (N : Nat) (K4 : Nat → Int32 → Int32 → rS → Option (Int32 × rS)) (v0 : Nat) (v1 : Int32) (v2 : Int32) (σ : rS) : Option (Int32 × rS) :=
  if 30 ≤ v2 then (
    some (v1, σ)) else
  idx v2 (gN σ 51 v0) fun j1 =>
  if (gI σ 51 v0 j1) = (-1) then (
    B11_bodiesNow_26 N K4 v0 v2 v1 false σ) else
  B11_bodiesNow_26 N K4 v0 v2 v1 true σ
noncomputable def L11_bodiesNow_4 (N : Nat) : Nat → Nat → Int32 → Int32 → rS → Option (Int32 × rS)
  | 0, _, _, _, _ => none
  | n + 1, v0, v1, v2, σ => B11_bodiesNow_4 N (L11_bodiesNow_4 N n) v0 v1 v2 σ
noncomputable def f11_bodiesNow (N : Nat) (v0 : Nat) (σ : rS) : Option (Int32 × rS) :=
  L11_bodiesNow_4 N N v0 0 0 σ
noncomputable def f11_real (v0 : Int32) (v1 : Int64) (σ : rS) : Option (UInt64 × rS) :=
  if v0 = 6 then (
    ock (okF (Int64.toInt32 v1) = true) <|
    ock (nn64 (FP.f2d (Int32.toUInt32 (Int64.toInt32 v1))) = true) <|
    some ((FP.f2d (Int32.toUInt32 (Int64.toInt32 v1))), σ)) else
  ock (okD v1 = true) <|
  some ((Int64.toUInt64 v1), σ)
noncomputable def f11_isBelow (v0 : Int32) (v1 : Int64) (v3 : Int64) (σ : rS) : Option (Bool × rS) :=
  if 6 ≤ v0 then (
    obind (f11_real v0 v1 σ) fun r1 σ2 =>
    obind (f11_real v0 v3 σ2) fun r3 σ4 =>
    if 0 ≤ (Op.cmpValue (FP.dcmp r1 r3) .g) then (
      some (false, σ4)) else
    some (true, σ4)) else
  if v3 ≤ v1 then (
    some (false, σ)) else
  some (true, σ)
noncomputable def f11_isGap (v0 : Int32) (v1 : Int64) (σ : rS) : Option (Bool × rS) :=
  if v0 = 6 then (
    if (v1 &&& 2147483647) ≤ 2139095040 then (
      some (false, σ)) else
    some (true, σ)) else
  if v0 = 7 then (
    if (v1 &&& 9223372036854775807) ≤ 9218868437227405312 then (
      some (false, σ)) else
    some (true, σ)) else
  some (false, σ)
noncomputable def f11_isLike (v0 : Int32) (v1 : Int64) (v3 : Int64) (σ : rS) : Option (Bool × rS) :=
  if 6 ≤ v0 then (
    obind (f11_real v0 v1 σ) fun r1 σ2 =>
    obind (f11_real v0 v3 σ2) fun r3 σ4 =>
    if (Op.cmpValue (FP.dcmp r1 r3) .l) = 0 then (
      some (true, σ4)) else
    some (false, σ4)) else
  if v1 = v3 then (
    some (true, σ)) else
  some (false, σ)
noncomputable def f11_compare (v0 : Nat) (v1 : Int32) (v2 : Int32) (v3 : Int32) (σ : rS) : Option (Int32 × rS) :=
  obind (f11_against v0 v1 v2 σ) fun r1 σ2 =>
  if r1 = 0 then (
    idx v1 (gN σ2 35 v0) fun j3 =>
    obind (f11_in (Int32.toInt64 v3) 0 (Int32.toInt64 ((gI σ2 35 v0 j3) - 1)) σ2) fun r4 σ5 =>
    if r4 = true then (
      idx v1 (gN σ5 34 v0) fun j6 =>
      olet (gI σ5 34 v0 j6) fun x7 =>
      idx ((24 * v1) + v2) (gN σ5 37 v0) fun j8 =>
      olet (gL σ5 37 v0 j8) fun x9 =>
      idx ((24 * v1) + v3) (gN σ5 37 v0) fun j10 =>
      olet (gL σ5 37 v0 j10) fun x11 =>
      obind (f11_isGap x7 x9 σ5) fun r12 σ13 =>
      if r12 = true then (
        some (32, σ13)) else
      obind (f11_isGap x7 x11 σ13) fun r14 σ15 =>
      if r14 = true then (
        some (32, σ15)) else
      obind (f11_isLike x7 x9 x11 σ15) fun r16 σ17 =>
      if r16 = true then (
        some (26, σ17)) else
      obind (f11_isBelow x7 x9 x11 σ17) fun r18 σ19 =>
      if r18 = true then (
        some (35, σ19)) else
      some (44, σ19)) else
    obind (f11_meets v0 2 σ5) fun r20 σ21 =>
    some (r20, σ21)) else
  some (r1, σ2)
noncomputable def B11_copy_159 (N : Nat) (K159 : Nat → Int32 → Int32 → Int32 → Int32 → rS → Option (Int32 × rS)) (v0 : Nat) (v3 : Int32) (v4 : Int32) (v5 : Int32) (v6 : Int32) (σ : rS) : Option (Int32 × rS) :=
  if v5 ≤ v6 then (
    some (0, σ)) else
  idx v6 (gN σ 38 v0) fun j1 =>
  idx (((24 * v3) + v4) + v6) (gN σ 37 v0) fun j2 =>
  olet (sL σ 37 v0 j2 (gL σ 38 v0 j1)) fun σ3 =>
  K159 v0 v3 v4 v5 (v6 + 1) σ3
noncomputable def L11_copy_159 (N : Nat) : Nat → Nat → Int32 → Int32 → Int32 → Int32 → rS → Option (Int32 × rS)
  | 0, _, _, _, _, _, _ => none
  | n + 1, v0, v3, v4, v5, v6, σ => B11_copy_159 N (L11_copy_159 N n) v0 v3 v4 v5 v6 σ
noncomputable def B11_copy_122 (N : Nat) (K122 : Nat → Int32 → Int32 → Int32 → Int32 → Int32 → Int32 → rS → Option (Int32 × rS)) (v0 : Nat) (v1 : Int32) (v2 : Int32) (v3 : Int32) (v4 : Int32) (v5 : Int32) (v6 : Int32) (σ : rS) : Option (Int32 × rS) :=
  if v5 ≤ v6 then (
    L11_copy_159 N N v0 v3 v4 v5 0 σ) else
  idx (((24 * v1) + v2) + v6) (gN σ 37 v0) fun j1 =>
  idx v6 (gN σ 38 v0) fun j2 =>
  olet (sL σ 38 v0 j2 (gL σ 37 v0 j1)) fun σ3 =>
  K122 v0 v1 v2 v3 v4 v5 (v6 + 1) σ3
noncomputable def L11_copy_122 (N : Nat) : Nat → Nat → Int32 → Int32 → Int32 → Int32 → Int32 → Int32 → rS → Option (Int32 × rS)
  | 0, _, _, _, _, _, _, _, _ => none
  | n + 1, v0, v1, v2, v3, v4, v5, v6, σ => B11_copy_122 N (L11_copy_122 N n) v0 v1 v2 v3 v4 v5 v6 σ
noncomputable def f11_copy (N : Nat) (v0 : Nat) (v1 : Int32) (v2 : Int32) (v3 : Int32) (v4 : Int32) (v5 : Int32) (σ : rS) : Option (Int32 × rS) :=
  obind (f11_isRow v0 v1 σ) fun r1 σ2 =>
  if r1 = true then (
    obind (f11_isRow v0 v3 σ2) fun r3 σ4 =>
    if r3 = true then (
      idx v1 (gN σ4 34 v0) fun j5 =>
      idx v3 (gN σ4 34 v0) fun j6 =>
      if (gI σ4 34 v0 j5) = (gI σ4 34 v0 j6) then (
        idx v1 (gN σ4 36 v0) fun j7 =>
        if (gI σ4 36 v0 j7) = 0 then (
          idx v3 (gN σ4 36 v0) fun j10 =>
          if (gI σ4 36 v0 j10) = 0 then (
            if v2 < 0 then (
              obind (f11_meets v0 2 σ4) fun r11 σ12 =>
              some (r11, σ12)) else
            if v4 < 0 then (
              obind (f11_meets v0 2 σ4) fun r13 σ14 =>
              some (r13, σ14)) else
            if v5 < 0 then (
              obind (f11_meets v0 2 σ4) fun r15 σ16 =>
              some (r15, σ16)) else
            idx v1 (gN σ4 35 v0) fun j17 =>
            if (Int32.toInt64 (gI σ4 35 v0 j17)) < ((Int32.toInt64 v2) + (Int32.toInt64 v5)) then (
              obind (f11_meets v0 2 σ4) fun r18 σ19 =>
              some (r18, σ19)) else
            idx v3 (gN σ4 35 v0) fun j20 =>
            if ((Int32.toInt64 v4) + (Int32.toInt64 v5)) ≤ (Int32.toInt64 (gI σ4 35 v0 j20)) then (
              L11_copy_122 N N v0 v1 v2 v3 v4 v5 0 σ4) else
            obind (f11_meets v0 2 σ4) fun r21 σ22 =>
            some (r21, σ22)) else
          obind (f11_meets v0 1 σ4) fun r23 σ24 =>
          some (r23, σ24)) else
        obind (f11_meets v0 1 σ4) fun r8 σ9 =>
        some (r8, σ9)) else
      obind (f11_meets v0 3 σ4) fun r25 σ26 =>
      some (r25, σ26)) else
    some ((-101), σ4)) else
  some ((-101), σ2)
noncomputable def f11_cost (N : Nat) (v0 : Nat) (v1 : Int32) (v2 : Int32) (σ : rS) : Option (Int32 × rS) :=
  obind (f11_isRow v0 v1 σ) fun r1 σ2 =>
  if r1 = true then (
    obind (f11_in (Int32.toInt64 v2) 0 4 σ2) fun r3 σ4 =>
    if r3 = true then (
      idx v1 (gN σ4 36 v0) fun j5 =>
      if (gI σ4 36 v0 j5) = 0 then (
        obind (f11_codeRow N v0 v1 v2 σ4) fun r6 σ7 =>
        some ((gI σ7 29 v0 12), σ7)) else
      obind (f11_meets v0 1 σ4) fun r8 σ9 =>
      some (r8, σ9)) else
    some ((-102), σ4)) else
  some ((-101), σ2)
noncomputable def f11_count (N : Nat) (v0 : Nat) (v1 : Int32) (σ : rS) : Option (Int32 × rS) :=
  if v1 = 0 then (
    some ((gI σ 29 v0 3), σ)) else
  if v1 = 1 then (
    some ((gI σ 29 v0 13), σ)) else
  if v1 = 2 then (
    obind (f11_bodiesNow N v0 σ) fun r1 σ2 =>
    some (r1, σ2)) else
  if v1 = 3 then (
    some ((gI σ 29 v0 25), σ)) else
  if v1 = 4 then (
    some ((gI σ 29 v0 26), σ)) else
  if v1 = 5 then (
    some ((gI σ 29 v0 30), σ)) else
  some ((-102), σ)
noncomputable def f11_cut (v0 : Int32) (v1 : Int64) (σ : rS) : Option (Int64 × rS) :=
  if v0 = 0 then (
    some ((v1 &&& 1), σ)) else
  if v0 = 1 then (
    some ((Int32.toInt64 (Int8.toInt32 (Int32.toInt8 (Int64.toInt32 v1)))), σ)) else
  if v0 = 2 then (
    some ((Int32.toInt64 (UInt32.toInt32 (Int32.toUInt32 (Int64.toInt32 v1) % 65536))), σ)) else
  if v0 = 3 then (
    some ((Int32.toInt64 (Int16.toInt32 (Int32.toInt16 (Int64.toInt32 v1)))), σ)) else
  if v0 = 4 then (
    some ((Int32.toInt64 (Int64.toInt32 v1)), σ)) else
  if v0 = 5 then (
    some (v1, σ)) else
  if v0 = 6 then (
    obind (f11_isGap v0 v1 σ) fun r1 σ2 =>
    if r1 = true then (
      some (2143289344, σ2)) else
    some ((Int32.toInt64 (Int64.toInt32 v1)), σ2)) else
  if v0 = 7 then (
    obind (f11_isGap v0 v1 σ) fun r3 σ4 =>
    if r3 = true then (
      some (9221120237041090560, σ4)) else
    some (v1, σ4)) else
  some (v1, σ)
noncomputable def B11_takes_5 (N : Nat) (K5 : Nat → Int32 → Int64 → Int32 → rS → Option (Bool × rS)) (v0 : Nat) (v1 : Int32) (v2 : Int64) (v4 : Int32) (σ : rS) : Option (Bool × rS) :=
  if 10 ≤ v4 then (
    some (false, σ)) else
  if (gI σ 29 v0 19) ≤ (gI σ 29 v0 18) then (
    some (false, σ)) else
  idx ((400 * v1) + (gI σ 29 v0 18)) (gN σ 44 v0) fun j1 =>
  olet (gI σ 44 v0 j1) fun x2 =>
  olet (sI σ 29 v0 18 ((gI σ 29 v0 18) + 1)) fun σ3 =>
  olet (v2 ||| ((Int32.toInt64 (x2 &&& 127)) <<< (Int32.toInt64 (7 * v4) &&& 63))) fun x4 =>
  if 128 ≤ x2 then (
    K5 v0 v1 x4 (v4 + 1) σ3) else
  olet (sL σ3 29 v0 20 ((UInt64.toInt64 (Int64.toUInt64 x4 >>> (Int64.toUInt64 (Int32.toInt64 1) &&& Int64.toUInt64 63))) ^^^ (-(x4 &&& 1)))) fun σ5 =>
  some (true, σ5)
noncomputable def L11_takes_5 (N : Nat) : Nat → Nat → Int32 → Int64 → Int32 → rS → Option (Bool × rS)
  | 0, _, _, _, _, _ => none
  | n + 1, v0, v1, v2, v4, σ => B11_takes_5 N (L11_takes_5 N n) v0 v1 v2 v4 σ
noncomputable def f11_takes (N : Nat) (v0 : Nat) (v1 : Int32) (σ : rS) : Option (Bool × rS) :=
  L11_takes_5 N N v0 v1 0 0 σ
noncomputable def B11_decode_311 (N : Nat) (v0 : Nat) (v2 : Int32) (σ : rS) : Option (Bool × rS) :=
  if v2 ≤ 0 then (
    some (true, σ)) else
  if v2 = 3 then (
    some (true, σ)) else
  obind (f11_sums N v0 σ) fun r1 σ2 =>
  some (true, σ2)
noncomputable def B11_decode_265 (N : Nat) (K191 : Nat → Int32 → Int32 → Int32 → rS → Option (Bool × rS)) (K265 : Nat → Int32 → Int32 → Int32 → Int64 → Int32 → Int32 → rS → Option (Bool × rS)) (v0 : Nat) (v1 : Int32) (v2 : Int32) (v3 : Int32) (v4 : Int64) (v6 : Int32) (v7 : Int32) (σ : rS) : Option (Bool × rS) :=
  if v6 ≤ v7 then (
    K191 v0 v1 v2 v3 σ) else
  idx (gI σ 29 v0 10) (gN σ 39 v0) fun j1 =>
  olet (sL σ 39 v0 j1 v4) fun σ2 =>
  olet (sI σ2 29 v0 10 ((gI σ2 29 v0 10) + 1)) fun σ3 =>
  K265 v0 v1 v2 v3 v4 v6 (v7 + 1) σ3
noncomputable def L11_decode_265 (N : Nat) (K191 : Nat → Int32 → Int32 → Int32 → rS → Option (Bool × rS)) : Nat → Nat → Int32 → Int32 → Int32 → Int64 → Int32 → Int32 → rS → Option (Bool × rS)
  | 0, _, _, _, _, _, _, _, _ => none
  | n + 1, v0, v1, v2, v3, v4, v6, v7, σ => B11_decode_265 N K191 (L11_decode_265 N K191 n) v0 v1 v2 v3 v4 v6 v7 σ
noncomputable def B11_decode_262 (N : Nat) (K191 : Nat → Int32 → Int32 → Int32 → rS → Option (Bool × rS)) (v0 : Nat) (v1 : Int32) (v2 : Int32) (v3 : Int32) (v4 : Int64) (v6 : Int32) (σ : rS) : Option (Bool × rS) :=
  L11_decode_265 N K191 N v0 v1 v2 v3 v4 v6 0 σ
noncomputable def B11_decode_191 (N : Nat) (K191 : Nat → Int32 → Int32 → Int32 → rS → Option (Bool × rS)) (v0 : Nat) (v1 : Int32) (v2 : Int32) (v3 : Int32) (σ : rS) : Option (Bool × rS) :=
  if v3 ≤ (gI σ 29 v0 10) then (
    if v2 = 2 then (
      obind (f11_sums N v0 σ) fun r1 σ2 =>
      B11_decode_311 N v0 v2 σ2) else
    B11_decode_311 N v0 v2 σ) else
  obind (f11_takes N v0 v1 σ) fun r3 σ4 =>
  if r3 = true then (
    olet (gL σ4 29 v0 20) fun x5 =>
    if v2 = 3 then (
      obind (f11_takes N v0 v1 σ4) fun r6 σ7 =>
      if r6 = true then (
        obind (f11_in (gL σ7 29 v0 20) 0 (Int32.toInt64 ((v3 - (gI σ7 29 v0 10)) - 1)) σ7) fun r8 σ9 =>
        if r8 = true then (
          olet ((Int64.toInt32 (gL σ9 29 v0 20)) + 1) fun x10 =>
          B11_decode_262 N K191 v0 v1 v2 v3 x5 x10 σ9) else
        some (false, σ9)) else
      some (false, σ7)) else
    B11_decode_262 N K191 v0 v1 v2 v3 x5 1 σ4) else
  some (false, σ4)
noncomputable def L11_decode_191 (N : Nat) : Nat → Nat → Int32 → Int32 → Int32 → rS → Option (Bool × rS)
  | 0, _, _, _, _, _ => none
  | n + 1, v0, v1, v2, v3, σ => B11_decode_191 N (L11_decode_191 N n) v0 v1 v2 v3 σ
noncomputable def B11_decode_99 (N : Nat) (K85 : Nat → Int32 → Int32 → Int32 → Int32 → rS → Option (Bool × rS)) (K99 : Nat → Int32 → Int32 → Int32 → Int32 → Int64 → Int32 → rS → Option (Bool × rS)) (v0 : Nat) (v1 : Int32) (v2 : Int32) (v3 : Int32) (v4 : Int32) (v5 : Int64) (v7 : Int32) (σ : rS) : Option (Bool × rS) :=
  if v4 ≤ v7 then (
    idx (gI σ 29 v0 10) (gN σ 39 v0) fun j1 =>
    olet (sL σ 39 v0 j1 ((v5 <<< (Int32.toInt64 (64 - (8 * v4)) &&& 63)) >>> (Int32.toInt64 (64 - (8 * v4)) &&& 63))) fun σ2 =>
    olet (sI σ2 29 v0 10 ((gI σ2 29 v0 10) + 1)) fun σ3 =>
    K85 v0 v1 v2 v3 v4 σ3) else
  idx ((400 * v1) + (gI σ 29 v0 18)) (gN σ 44 v0) fun j4 =>
  olet (v5 ||| ((Int32.toInt64 (gI σ 44 v0 j4)) <<< (Int32.toInt64 (8 * v7) &&& 63))) fun x5 =>
  olet (sI σ 29 v0 18 ((gI σ 29 v0 18) + 1)) fun σ6 =>
  K99 v0 v1 v2 v3 v4 x5 (v7 + 1) σ6
noncomputable def L11_decode_99 (N : Nat) (K85 : Nat → Int32 → Int32 → Int32 → Int32 → rS → Option (Bool × rS)) : Nat → Nat → Int32 → Int32 → Int32 → Int32 → Int64 → Int32 → rS → Option (Bool × rS)
  | 0, _, _, _, _, _, _, _, _ => none
  | n + 1, v0, v1, v2, v3, v4, v5, v7, σ => B11_decode_99 N K85 (L11_decode_99 N K85 n) v0 v1 v2 v3 v4 v5 v7 σ
noncomputable def B11_decode_85 (N : Nat) (K85 : Nat → Int32 → Int32 → Int32 → Int32 → rS → Option (Bool × rS)) (v0 : Nat) (v1 : Int32) (v2 : Int32) (v3 : Int32) (v4 : Int32) (σ : rS) : Option (Bool × rS) :=
  if v3 ≤ (gI σ 29 v0 10) then (
    L11_decode_191 N N v0 v1 v2 v3 σ) else
  L11_decode_99 N K85 N v0 v1 v2 v3 v4 0 0 σ
noncomputable def L11_decode_85 (N : Nat) : Nat → Nat → Int32 → Int32 → Int32 → Int32 → rS → Option (Bool × rS)
  | 0, _, _, _, _, _, _ => none
  | n + 1, v0, v1, v2, v3, v4, σ => B11_decode_85 N (L11_decode_85 N n) v0 v1 v2 v3 v4 σ
noncomputable def B11_decode_40 (N : Nat) (v0 : Nat) (v1 : Int32) (v2 : Int32) (v3 : Int32) (s0 : Int32) (σ : rS) : Option (Bool × rS) :=
  obind (f11_in (Int32.toInt64 s0) 1 8 σ) fun r1 σ2 =>
  if r1 = true then (
    if ((gI σ2 29 v0 19) - (gI σ2 29 v0 18)) = (1 + (v3 * s0)) then (
      olet (sI σ2 29 v0 18 ((gI σ2 29 v0 18) + 1)) fun σ3 =>
      L11_decode_85 N N v0 v1 v2 v3 s0 σ3) else
    some (false, σ2)) else
  some (false, σ2)
noncomputable def f11_decode (N : Nat) (v0 : Nat) (v1 : Int32) (v2 : Int32) (v3 : Int32) (σ : rS) : Option (Bool × rS) :=
  olet (sI σ 29 v0 10 0) fun σ1 =>
  if v2 = 4 then (
    if (gI σ1 29 v0 19) ≤ (gI σ1 29 v0 18) then (
      B11_decode_40 N v0 v1 v2 v3 0 σ1) else
    idx ((400 * v1) + (gI σ1 29 v0 18)) (gN σ1 44 v0) fun j2 =>
    B11_decode_40 N v0 v1 v2 v3 (gI σ1 44 v0 j2) σ1) else
  L11_decode_191 N N v0 v1 v2 v3 σ1
noncomputable def B11_matching_3 (N : Nat) (K3 : Nat → Int32 → Int32 → Int32 → Int32 → Int32 → rS → Option (Int32 × rS)) (v0 : Nat) (v1 : Int32) (v2 : Int32) (v3 : Int32) (v4 : Int32) (v5 : Int32) (σ : rS) : Option (Int32 × rS) :=
  idx v1 (gN σ 45 v0) fun j1 =>
  if (gI σ 45 v0 j1) ≤ (v2 + v5) then (
    some (v5, σ)) else
  idx v3 (gN σ 45 v0) fun j2 =>
  if (gI σ 45 v0 j2) ≤ (v4 + v5) then (
    some (v5, σ)) else
  idx (((400 * v1) + v2) + v5) (gN σ 44 v0) fun j3 =>
  idx (((400 * v3) + v4) + v5) (gN σ 44 v0) fun j4 =>
  if (gI σ 44 v0 j3) = (gI σ 44 v0 j4) then (
    K3 v0 v1 v2 v3 v4 (v5 + 1) σ) else
  some (v5, σ)
noncomputable def L11_matching_3 (N : Nat) : Nat → Nat → Int32 → Int32 → Int32 → Int32 → Int32 → rS → Option (Int32 × rS)
  | 0, _, _, _, _, _, _, _ => none
  | n + 1, v0, v1, v2, v3, v4, v5, σ => B11_matching_3 N (L11_matching_3 N n) v0 v1 v2 v3 v4 v5 σ
noncomputable def f11_matching (N : Nat) (v0 : Nat) (v1 : Int32) (v2 : Int32) (v3 : Int32) (v4 : Int32) (σ : rS) : Option (Int32 × rS) :=
  L11_matching_3 N N v0 v1 v2 v3 v4 0 σ
noncomputable def B11_delta_264 (N : Nat) (K45 : Nat → Int32 → Int32 → Int32 → Int32 → Int32 → Int32 → rS → Option (Int32 × rS)) (v0 : Nat) (v1 : Int32) (v2 : Int32) (v3 : Int32) (v4 : Int32) (v5 : Int32) (v6 : Int32) (σ : rS) : Option (Int32 × rS) :=
  K45 v0 v1 v2 v3 v4 v5 v6 σ
noncomputable def B11_delta_213 (N : Nat) (K45 : Nat → Int32 → Int32 → Int32 → Int32 → Int32 → Int32 → rS → Option (Int32 × rS)) (v0 : Nat) (v1 : Int32) (v2 : Int32) (v3 : Int32) (v4 : Int32) (v5 : Int32) (v6 : Int32) (σ : rS) : Option (Int32 × rS) :=
  idx (((400 * v3) + v4) - 1) (gN σ 65 v0) fun j1 =>
  idx (((400 * v3) + v4) - 1) (gN σ 65 v0) fun j2 =>
  olet (sI σ 65 v0 j2 ((gI σ 65 v0 j1) + 1)) fun σ3 =>
  idx ((400 * v2) + v6) (gN σ3 44 v0) fun j4 =>
  idx ((400 * v3) + v5) (gN σ3 66 v0) fun j5 =>
  olet (sI σ3 66 v0 j5 (gI σ3 44 v0 j4)) fun σ6 =>
  B11_delta_264 N K45 v0 v1 v2 v3 v4 (v5 + 1) (v6 + 1) σ6
noncomputable def B11_delta_182 (N : Nat) (K45 : Nat → Int32 → Int32 → Int32 → Int32 → Int32 → Int32 → rS → Option (Int32 × rS)) (v0 : Nat) (v1 : Int32) (v2 : Int32) (v3 : Int32) (v4 : Int32) (v5 : Int32) (v6 : Int32) (σ : rS) : Option (Int32 × rS) :=
  idx ((400 * v3) + v4) (gN σ 64 v0) fun j1 =>
  olet (sI σ 64 v0 j1 (-1)) fun σ2 =>
  idx ((400 * v3) + v4) (gN σ2 65 v0) fun j3 =>
  olet (sI σ2 65 v0 j3 0) fun σ4 =>
  B11_delta_213 N K45 v0 v1 v2 v3 (v4 + 1) v5 v6 σ4
noncomputable def B11_delta_103 (N : Nat) (K45 : Nat → Int32 → Int32 → Int32 → Int32 → Int32 → Int32 → rS → Option (Int32 × rS)) (K65 : Nat → Int32 → Int32 → Int32 → Int32 → Int32 → Int32 → Int32 → Int32 → Int32 → rS → Option (Int32 × rS)) (v0 : Nat) (v1 : Int32) (v2 : Int32) (v3 : Int32) (v4 : Int32) (v5 : Int32) (v6 : Int32) (v7 : Int32) (v8 : Int32) (v9 : Int32) (σ : rS) : Option (Int32 × rS) :=
  K65 v0 v1 v2 v3 v4 v5 v6 v7 v8 (v9 + 1) σ
noncomputable def B11_delta_65 (N : Nat) (K45 : Nat → Int32 → Int32 → Int32 → Int32 → Int32 → Int32 → rS → Option (Int32 × rS)) (K65 : Nat → Int32 → Int32 → Int32 → Int32 → Int32 → Int32 → Int32 → Int32 → Int32 → rS → Option (Int32 × rS)) (v0 : Nat) (v1 : Int32) (v2 : Int32) (v3 : Int32) (v4 : Int32) (v5 : Int32) (v6 : Int32) (v7 : Int32) (v8 : Int32) (v9 : Int32) (σ : rS) : Option (Int32 × rS) :=
  idx v1 (gN σ 45 v0) fun j1 =>
  if (gI σ 45 v0 j1) ≤ v9 then (
    if v7 = (-1) then (
      if v4 = 0 then (
        B11_delta_182 N K45 v0 v1 v2 v3 v4 v5 v6 σ) else
      idx (((400 * v3) + v4) - 1) (gN σ 64 v0) fun j2 =>
      if (gI σ 64 v0 j2) = (-1) then (
        B11_delta_213 N K45 v0 v1 v2 v3 v4 v5 v6 σ) else
      B11_delta_182 N K45 v0 v1 v2 v3 v4 v5 v6 σ) else
    idx ((400 * v3) + v4) (gN σ 64 v0) fun j3 =>
    olet (sI σ 64 v0 j3 v7) fun σ4 =>
    idx ((400 * v3) + v4) (gN σ4 65 v0) fun j5 =>
    olet (sI σ4 65 v0 j5 v8) fun σ6 =>
    olet (v6 + v8) fun x7 =>
    B11_delta_264 N K45 v0 v1 v2 v3 (v4 + 1) v5 x7 σ6) else
  obind (f11_matching N v0 v1 v9 v2 v6 σ) fun r8 σ9 =>
  if r8 ≤ v8 then (
    B11_delta_103 N K45 K65 v0 v1 v2 v3 v4 v5 v6 v7 v8 v9 σ9) else
  B11_delta_103 N K45 K65 v0 v1 v2 v3 v4 v5 v6 v9 r8 v9 σ9
noncomputable def L11_delta_65 (N : Nat) (K45 : Nat → Int32 → Int32 → Int32 → Int32 → Int32 → Int32 → rS → Option (Int32 × rS)) : Nat → Nat → Int32 → Int32 → Int32 → Int32 → Int32 → Int32 → Int32 → Int32 → Int32 → rS → Option (Int32 × rS)
  | 0, _, _, _, _, _, _, _, _, _, _, _ => none
  | n + 1, v0, v1, v2, v3, v4, v5, v6, v7, v8, v9, σ => B11_delta_65 N K45 (L11_delta_65 N K45 n) v0 v1 v2 v3 v4 v5 v6 v7 v8 v9 σ
noncomputable def B11_delta_45 (N : Nat) (K45 : Nat → Int32 → Int32 → Int32 → Int32 → Int32 → Int32 → rS → Option (Int32 × rS)) (v0 : Nat) (v1 : Int32) (v2 : Int32) (v3 : Int32) (v4 : Int32) (v5 : Int32) (v6 : Int32) (σ : rS) : Option (Int32 × rS) :=
  idx v2 (gN σ 45 v0) fun j1 =>
  if (gI σ 45 v0 j1) ≤ v6 then (
    idx v3 (gN σ 63 v0) fun j2 =>
    olet (sI σ 63 v0 j2 v4) fun σ3 =>
    idx v1 (gN σ3 45 v0) fun j4 =>
    idx v3 (gN σ3 61 v0) fun j5 =>
    olet (sI σ3 61 v0 j5 (gI σ3 45 v0 j4)) fun σ6 =>
    idx v1 (gN σ6 45 v0) fun j7 =>
    obind (f11_sumOf N v0 v1 0 (gI σ6 45 v0 j7) σ6) fun r8 σ9 =>
    idx v3 (gN σ9 62 v0) fun j10 =>
    olet (sI σ9 62 v0 j10 r8) fun σ11 =>
    olet (sI σ11 29 v0 30 ((gI σ11 29 v0 30) + 1)) fun σ12 =>
    some (v3, σ12)) else
  L11_delta_65 N K45 N v0 v1 v2 v3 v4 v5 v6 (-1) 3 0 σ
noncomputable def L11_delta_45 (N : Nat) : Nat → Nat → Int32 → Int32 → Int32 → Int32 → Int32 → Int32 → rS → Option (Int32 × rS)
  | 0, _, _, _, _, _, _, _, _ => none
  | n + 1, v0, v1, v2, v3, v4, v5, v6, σ => B11_delta_45 N (L11_delta_45 N n) v0 v1 v2 v3 v4 v5 v6 σ
noncomputable def f11_delta (N : Nat) (v0 : Nat) (v1 : Int32) (v2 : Int32) (σ : rS) : Option (Int32 × rS) :=
  obind (f11_isStream v0 v1 σ) fun r1 σ2 =>
  if r1 = true then (
    obind (f11_isStream v0 v2 σ2) fun r3 σ4 =>
    if r3 = true then (
      if (gI σ4 29 v0 30) = 16 then (
        some ((-104), σ4)) else
      olet (gI σ4 29 v0 30) fun x5 =>
      L11_delta_45 N N v0 v1 v2 x5 0 0 0 σ4) else
    some ((-101), σ4)) else
  some ((-101), σ2)
noncomputable def B11_digest_243 (N : Nat) (K215 : Nat → Int64 → Int32 → rS → Option (Int64 × rS)) (K243 : Nat → Int64 → Int32 → Int32 → rS → Option (Int64 × rS)) (v0 : Nat) (v1 : Int64) (v3 : Int32) (v4 : Int32) (σ : rS) : Option (Int64 × rS) :=
  idx v3 (gN σ 57 v0) fun j1 =>
  if ((12 * v3) + (gI σ 57 v0 j1)) ≤ v4 then (
    K215 v0 v1 (v3 + 1) σ) else
  idx v4 (gN σ 58 v0) fun j2 =>
  olet ((31 * v1) + (gL σ 58 v0 j2)) fun x3 =>
  idx v4 (gN σ 59 v0) fun j4 =>
  idx (gI σ 59 v0 j4) (gN σ 51 v0) fun j5 =>
  olet ((31 * x3) + (Int32.toInt64 (gI σ 51 v0 j5))) fun x6 =>
  K243 v0 x6 v3 (v4 + 1) σ
noncomputable def L11_digest_243 (N : Nat) (K215 : Nat → Int64 → Int32 → rS → Option (Int64 × rS)) : Nat → Nat → Int64 → Int32 → Int32 → rS → Option (Int64 × rS)
  | 0, _, _, _, _, _ => none
  | n + 1, v0, v1, v3, v4, σ => B11_digest_243 N K215 (L11_digest_243 N K215 n) v0 v1 v3 v4 σ
noncomputable def B11_digest_215 (N : Nat) (K215 : Nat → Int64 → Int32 → rS → Option (Int64 × rS)) (v0 : Nat) (v1 : Int64) (v3 : Int32) (σ : rS) : Option (Int64 × rS) :=
  if (gI σ 29 v0 26) ≤ v3 then (
    some (((31 * v1) + (Int32.toInt64 (gI σ 29 v0 30))), σ)) else
  idx v3 (gN σ 57 v0) fun j1 =>
  olet ((31 * v1) + (Int32.toInt64 (gI σ 57 v0 j1))) fun x2 =>
  olet (12 * v3) fun x3 =>
  L11_digest_243 N K215 N v0 x2 v3 x3 σ
noncomputable def L11_digest_215 (N : Nat) : Nat → Nat → Int64 → Int32 → rS → Option (Int64 × rS)
  | 0, _, _, _, _ => none
  | n + 1, v0, v1, v3, σ => B11_digest_215 N (L11_digest_215 N n) v0 v1 v3 σ
noncomputable def B11_digest_204 (N : Nat) (K129 : Nat → Int64 → Int32 → rS → Option (Int64 × rS)) (v0 : Nat) (v3 : Int32) (s0 : Int64) (s1 : Bool) (σ : rS) : Option (Int64 × rS) :=
  olet (s0 + (Int32.toInt64 (bi s1))) fun x1 =>
  K129 v0 x1 (v3 + 1) σ
noncomputable def B11_digest_129 (N : Nat) (K129 : Nat → Int64 → Int32 → rS → Option (Int64 × rS)) (v0 : Nat) (v1 : Int64) (v3 : Int32) (σ : rS) : Option (Int64 × rS) :=
  if (gI σ 29 v0 13) ≤ v3 then (
    L11_digest_215 N N v0 v1 0 σ) else
  idx v3 (gN σ 45 v0) fun j1 =>
  olet ((31 * v1) + (Int32.toInt64 (gI σ 45 v0 j1))) fun x2 =>
  idx v3 (gN σ 45 v0) fun j3 =>
  obind (f11_sumOf N v0 v3 0 (gI σ 45 v0 j3) σ) fun r4 σ5 =>
  olet ((31 * x2) + (Int32.toInt64 r4)) fun x6 =>
  idx v3 (gN σ5 46 v0) fun j7 =>
  olet ((31 * x6) + (Int32.toInt64 (gI σ5 46 v0 j7))) fun x8 =>
  idx v3 (gN σ5 47 v0) fun j9 =>
  if (gI σ5 47 v0 j9) = 0 then (
    B11_digest_204 N K129 v0 v3 (31 * x8) false σ5) else
  B11_digest_204 N K129 v0 v3 (31 * x8) true σ5
noncomputable def L11_digest_129 (N : Nat) : Nat → Nat → Int64 → Int32 → rS → Option (Int64 × rS)
  | 0, _, _, _, _ => none
  | n + 1, v0, v1, v3, σ => B11_digest_129 N (L11_digest_129 N n) v0 v1 v3 σ
noncomputable def B11_digest_109 (N : Nat) (K12 : Nat → Int64 → Int32 → rS → Option (Int64 × rS)) (v0 : Nat) (v1 : Int64) (v3 : Int32) (σ : rS) : Option (Int64 × rS) :=
  K12 v0 v1 (v3 + 1) σ
noncomputable def B11_digest_64 (N : Nat) (K12 : Nat → Int64 → Int32 → rS → Option (Int64 × rS)) (K64 : Nat → Int64 → Int32 → Int32 → rS → Option (Int64 × rS)) (v0 : Nat) (v1 : Int64) (v3 : Int32) (v4 : Int32) (σ : rS) : Option (Int64 × rS) :=
  idx v3 (gN σ 35 v0) fun j1 =>
  if (gI σ 35 v0 j1) ≤ v4 then (
    B11_digest_109 N K12 v0 v1 v3 σ) else
  idx v3 (gN σ 36 v0) fun j2 =>
  if (gI σ 36 v0 j2) = 0 then (
    idx ((24 * v3) + v4) (gN σ 37 v0) fun j3 =>
    olet ((31 * v1) + (gL σ 37 v0 j3)) fun x4 =>
    K64 v0 x4 v3 (v4 + 1) σ) else
  B11_digest_109 N K12 v0 v1 v3 σ
noncomputable def L11_digest_64 (N : Nat) (K12 : Nat → Int64 → Int32 → rS → Option (Int64 × rS)) : Nat → Nat → Int64 → Int32 → Int32 → rS → Option (Int64 × rS)
  | 0, _, _, _, _, _ => none
  | n + 1, v0, v1, v3, v4, σ => B11_digest_64 N K12 (L11_digest_64 N K12 n) v0 v1 v3 v4 σ
noncomputable def B11_digest_58 (N : Nat) (K12 : Nat → Int64 → Int32 → rS → Option (Int64 × rS)) (v0 : Nat) (v3 : Int32) (s0 : Int64) (s1 : Int32) (σ : rS) : Option (Int64 × rS) :=
  olet (s0 + (Int32.toInt64 s1)) fun x1 =>
  L11_digest_64 N K12 N v0 x1 v3 0 σ
noncomputable def B11_digest_12 (N : Nat) (K12 : Nat → Int64 → Int32 → rS → Option (Int64 × rS)) (v0 : Nat) (v1 : Int64) (v3 : Int32) (σ : rS) : Option (Int64 × rS) :=
  if (gI σ 29 v0 3) ≤ v3 then (
    olet ((31 * v1) + (Int32.toInt64 (gI σ 29 v0 13))) fun x1 =>
    L11_digest_129 N N v0 x1 0 σ) else
  idx v3 (gN σ 34 v0) fun j2 =>
  olet ((31 * v1) + (Int32.toInt64 (gI σ 34 v0 j2))) fun x3 =>
  idx v3 (gN σ 36 v0) fun j4 =>
  if (gI σ 36 v0 j4) = 0 then (
    idx v3 (gN σ 35 v0) fun j5 =>
    B11_digest_58 N K12 v0 v3 (31 * x3) (gI σ 35 v0 j5) σ) else
  B11_digest_58 N K12 v0 v3 (31 * x3) (-1) σ
noncomputable def L11_digest_12 (N : Nat) : Nat → Nat → Int64 → Int32 → rS → Option (Int64 × rS)
  | 0, _, _, _, _ => none
  | n + 1, v0, v1, v3, σ => B11_digest_12 N (L11_digest_12 N n) v0 v1 v3 σ
noncomputable def f11_digest (N : Nat) (v0 : Nat) (σ : rS) : Option (Int64 × rS) :=
  olet (589 + (Int32.toInt64 (gI σ 29 v0 3))) fun x1 =>
  L11_digest_12 N N v0 x1 0 σ
noncomputable def B11_entry_3 (N : Nat) (K3 : Nat → Int32 → Int64 → Int32 → rS → Option (Int32 × rS)) (v0 : Nat) (v1 : Int32) (v2 : Int64) (v4 : Int32) (σ : rS) : Option (Int32 × rS) :=
  idx v1 (gN σ 57 v0) fun j1 =>
  if (gI σ 57 v0 j1) ≤ v4 then (
    some ((-1), σ)) else
  idx ((12 * v1) + v4) (gN σ 58 v0) fun j2 =>
  if (gL σ 58 v0 j2) = v2 then (
    some (((12 * v1) + v4), σ)) else
  K3 v0 v1 v2 (v4 + 1) σ
noncomputable def L11_entry_3 (N : Nat) : Nat → Nat → Int32 → Int64 → Int32 → rS → Option (Int32 × rS)
  | 0, _, _, _, _, _ => none
  | n + 1, v0, v1, v2, v4, σ => B11_entry_3 N (L11_entry_3 N n) v0 v1 v2 v4 σ
noncomputable def f11_entry (N : Nat) (v0 : Nat) (v1 : Int32) (v2 : Int64) (σ : rS) : Option (Int32 × rS) :=
  L11_entry_3 N N v0 v1 v2 0 σ
noncomputable def f11_isHouse (v0 : Nat) (v1 : Int32) (σ : rS) : Option (Bool × rS) :=
  obind (f11_in (Int32.toInt64 v1) 0 (Int32.toInt64 ((gI σ 29 v0 26) - 1)) σ) fun r1 σ2 =>
  some (r1, σ2)
noncomputable def f11_leave (v0 : Nat) (v1 : Int32) (σ : rS) : Option (Unit × rS) :=
  idx v1 (gN σ 53 v0) fun j1 =>
  idx v1 (gN σ 53 v0) fun j2 =>
  olet (sI σ 53 v0 j2 ((gI σ 53 v0 j1) - 1)) fun σ3 =>
  idx v1 (gN σ3 53 v0) fun j4 =>
  if (gI σ3 53 v0 j4) = 0 then (
    idx v1 (gN σ3 51 v0) fun j5 =>
    olet (sI σ3 51 v0 j5 (-1)) fun σ6 =>
    some ((), σ6)) else
  some ((), σ3)
noncomputable def B11_drop_75 (N : Nat) (K75 : Nat → Int32 → Int32 → Int32 → rS → Option (Int32 × rS)) (v0 : Nat) (v1 : Int32) (v5 : Int32) (v6 : Int32) (σ : rS) : Option (Int32 × rS) :=
  idx v1 (gN σ 57 v0) fun j1 =>
  if ((12 * v1) + (gI σ 57 v0 j1)) ≤ v6 then (
    some (v5, σ)) else
  idx (v6 + 1) (gN σ 58 v0) fun j2 =>
  idx v6 (gN σ 58 v0) fun j3 =>
  olet (sL σ 58 v0 j3 (gL σ 58 v0 j2)) fun σ4 =>
  idx (v6 + 1) (gN σ4 59 v0) fun j5 =>
  idx v6 (gN σ4 59 v0) fun j6 =>
  olet (sI σ4 59 v0 j6 (gI σ4 59 v0 j5)) fun σ7 =>
  K75 v0 v1 v5 (v6 + 1) σ7
noncomputable def L11_drop_75 (N : Nat) : Nat → Nat → Int32 → Int32 → Int32 → rS → Option (Int32 × rS)
  | 0, _, _, _, _, _ => none
  | n + 1, v0, v1, v5, v6, σ => B11_drop_75 N (L11_drop_75 N n) v0 v1 v5 v6 σ
noncomputable def f11_drop (N : Nat) (v0 : Nat) (v1 : Int32) (v2 : Int64) (σ : rS) : Option (Int32 × rS) :=
  obind (f11_isHouse v0 v1 σ) fun r1 σ2 =>
  if r1 = true then (
    if 0 ≤ v2 then (
      obind (f11_entry N v0 v1 v2 σ2) fun r3 σ4 =>
      if r3 = (-1) then (
        some ((-1), σ4)) else
      idx r3 (gN σ4 59 v0) fun j5 =>
      idx (gI σ4 59 v0 j5) (gN σ4 51 v0) fun j6 =>
      olet (gI σ4 51 v0 j6) fun x7 =>
      idx r3 (gN σ4 59 v0) fun j8 =>
      obind (f11_leave v0 (gI σ4 59 v0 j8) σ4) fun r9 σ10 =>
      idx v1 (gN σ10 57 v0) fun j11 =>
      idx v1 (gN σ10 57 v0) fun j12 =>
      olet (sI σ10 57 v0 j12 ((gI σ10 57 v0 j11) - 1)) fun σ13 =>
      L11_drop_75 N N v0 v1 x7 r3 σ13) else
    some ((-102), σ2)) else
  some ((-101), σ2)
noncomputable def f11_end (v0 : Nat) (v1 : Int32) (σ : rS) : Option (Int32 × rS) :=
  obind (f11_isStream v0 v1 σ) fun r1 σ2 =>
  if r1 = true then (
    idx v1 (gN σ2 47 v0) fun j3 =>
    if (gI σ2 47 v0 j3) = 0 then (
      idx v1 (gN σ2 47 v0) fun j4 =>
      olet (sI σ2 47 v0 j4 (vp_nar .boolean 1)) fun σ5 =>
      idx v1 (gN σ5 45 v0) fun j6 =>
      some ((gI σ5 45 v0 j6), σ5)) else
    some ((-103), σ2)) else
  some ((-101), σ2)
noncomputable def f11_find (N : Nat) (v0 : Nat) (v1 : Int32) (v2 : Int64) (σ : rS) : Option (Int32 × rS) :=
  obind (f11_isHouse v0 v1 σ) fun r1 σ2 =>
  if r1 = true then (
    if 0 ≤ v2 then (
      obind (f11_entry N v0 v1 v2 σ2) fun r3 σ4 =>
      if r3 = (-1) then (
        some ((-1), σ4)) else
      idx r3 (gN σ4 59 v0) fun j5 =>
      idx (gI σ4 59 v0 j5) (gN σ4 51 v0) fun j6 =>
      some ((gI σ4 51 v0 j6), σ4)) else
    some ((-102), σ2)) else
  some ((-101), σ2)
noncomputable def f11_finding (v0 : Nat) (σ : rS) : Option (Int32 × rS) :=
  some ((gI σ 29 v0 0), σ)
noncomputable def f11_findings (v0 : Nat) (v1 : Int32) (σ : rS) : Option (Int32 × rS) :=
  obind (f11_in (Int32.toInt64 v1) 1 9 σ) fun r1 σ2 =>
  if r1 = true then (
    idx v1 (gN σ2 31 v0) fun j3 =>
    some ((gI σ2 31 v0 j3), σ2)) else
  some ((-102), σ2)
noncomputable def B11_freeBody_2 (N : Nat) (K2 : Nat → Int32 → rS → Option (Int32 × rS)) (v0 : Nat) (v1 : Int32) (σ : rS) : Option (Int32 × rS) :=
  if 30 ≤ v1 then (
    some (v1, σ)) else
  idx v1 (gN σ 51 v0) fun j1 =>
  if (gI σ 51 v0 j1) = (-1) then (
    some (v1, σ)) else
  K2 v0 (v1 + 1) σ
noncomputable def L11_freeBody_2 (N : Nat) : Nat → Nat → Int32 → rS → Option (Int32 × rS)
  | 0, _, _, _ => none
  | n + 1, v0, v1, σ => B11_freeBody_2 N (L11_freeBody_2 N n) v0 v1 σ
noncomputable def f11_freeBody (N : Nat) (v0 : Nat) (σ : rS) : Option (Int32 × rS) :=
  L11_freeBody_2 N N v0 0 σ
noncomputable def f11_get (v0 : Nat) (v1 : Int32) (v2 : Int32) (σ : rS) : Option (Int32 × rS) :=
  obind (f11_against v0 v1 v2 σ) fun r1 σ2 =>
  if r1 = 0 then (
    idx ((24 * v1) + v2) (gN σ2 37 v0) fun j3 =>
    olet (sL σ2 29 v0 2 (gL σ2 37 v0 j3)) fun σ4 =>
    some (r1, σ4)) else
  some (r1, σ2)
noncomputable def f11_harm (v0 : Nat) (v1 : Int32) (v2 : Int32) (v3 : Int32) (σ : rS) : Option (Int32 × rS) :=
  obind (f11_isStream v0 v1 σ) fun r1 σ2 =>
  if r1 = true then (
    idx v1 (gN σ2 45 v0) fun j3 =>
    obind (f11_in (Int32.toInt64 v2) 0 (Int32.toInt64 ((gI σ2 45 v0 j3) - 1)) σ2) fun r4 σ5 =>
    if r4 = true then (
      idx ((400 * v1) + v2) (gN σ5 44 v0) fun j6 =>
      idx ((400 * v1) + v2) (gN σ5 44 v0) fun j7 =>
      olet (sI σ5 44 v0 j7 ((gI σ5 44 v0 j6) ^^^ (v3 &&& 255))) fun σ8 =>
      idx ((400 * v1) + v2) (gN σ8 44 v0) fun j9 =>
      some ((gI σ8 44 v0 j9), σ8)) else
    obind (f11_meets v0 2 σ5) fun r10 σ11 =>
    some (r10, σ11)) else
  some ((-101), σ2)
noncomputable def f11_house (v0 : Nat) (σ : rS) : Option (Int32 × rS) :=
  if (gI σ 29 v0 26) = 6 then (
    some ((-104), σ)) else
  idx (gI σ 29 v0 26) (gN σ 57 v0) fun j1 =>
  olet (sI σ 57 v0 j1 0) fun σ2 =>
  olet (sI σ2 29 v0 26 ((gI σ2 29 v0 26) + 1)) fun σ3 =>
  some (((gI σ3 29 v0 26) - 1), σ3)
noncomputable def f11_kEndless (v0 : Int32) (σ : rS) : Option (Int64 × rS) :=
  if v0 = 6 then (
    some (2139095040, σ)) else
  some (9218868437227405312, σ)
noncomputable def f11_kMask (v0 : Int32) (σ : rS) : Option (Int64 × rS) :=
  if v0 = 6 then (
    some (2147483647, σ)) else
  some (9223372036854775807, σ)
noncomputable def B11_likeBody_98 (N : Nat) (K2 : Nat → Int32 → Int32 → rS → Option (Int32 × rS)) (v0 : Nat) (v1 : Int32) (v2 : Int32) (v3 : Bool) (σ : rS) : Option (Int32 × rS) :=
  if v3 = true then (
    some (v2, σ)) else
  K2 v0 v1 (v2 + 1) σ
noncomputable def B11_likeBody_91 (N : Nat) (K2 : Nat → Int32 → Int32 → rS → Option (Int32 × rS)) (K42 : Nat → Int32 → Int32 → Bool → Int32 → rS → Option (Int32 × rS)) (v0 : Nat) (v1 : Int32) (v2 : Int32) (v4 : Int32) (s0 : Bool) (σ : rS) : Option (Int32 × rS) :=
  K42 v0 v1 v2 s0 (v4 + 1) σ
noncomputable def B11_likeBody_42 (N : Nat) (K2 : Nat → Int32 → Int32 → rS → Option (Int32 × rS)) (K42 : Nat → Int32 → Int32 → Bool → Int32 → rS → Option (Int32 × rS)) (v0 : Nat) (v1 : Int32) (v2 : Int32) (v3 : Bool) (v4 : Int32) (σ : rS) : Option (Int32 × rS) :=
  idx v1 (gN σ 45 v0) fun j1 =>
  if (gI σ 45 v0 j1) ≤ v4 then (
    B11_likeBody_98 N K2 v0 v1 v2 v3 σ) else
  if v3 = true then (
    idx ((400 * v2) + v4) (gN σ 54 v0) fun j2 =>
    idx ((400 * v1) + v4) (gN σ 44 v0) fun j3 =>
    if (gI σ 54 v0 j2) = (gI σ 44 v0 j3) then (
      B11_likeBody_91 N K2 K42 v0 v1 v2 v4 true σ) else
    B11_likeBody_91 N K2 K42 v0 v1 v2 v4 false σ) else
  B11_likeBody_98 N K2 v0 v1 v2 v3 σ
noncomputable def L11_likeBody_42 (N : Nat) (K2 : Nat → Int32 → Int32 → rS → Option (Int32 × rS)) : Nat → Nat → Int32 → Int32 → Bool → Int32 → rS → Option (Int32 × rS)
  | 0, _, _, _, _, _, _ => none
  | n + 1, v0, v1, v2, v3, v4, σ => B11_likeBody_42 N K2 (L11_likeBody_42 N K2 n) v0 v1 v2 v3 v4 σ
noncomputable def B11_likeBody_38 (N : Nat) (K2 : Nat → Int32 → Int32 → rS → Option (Int32 × rS)) (v0 : Nat) (v1 : Int32) (v2 : Int32) (s0 : Bool) (σ : rS) : Option (Int32 × rS) :=
  L11_likeBody_42 N K2 N v0 v1 v2 s0 0 σ
noncomputable def B11_likeBody_37 (N : Nat) (K2 : Nat → Int32 → Int32 → rS → Option (Int32 × rS)) (v0 : Nat) (v1 : Int32) (v2 : Int32) (σ : rS) : Option (Int32 × rS) :=
  B11_likeBody_38 N K2 v0 v1 v2 false σ
noncomputable def B11_likeBody_2 (N : Nat) (K2 : Nat → Int32 → Int32 → rS → Option (Int32 × rS)) (v0 : Nat) (v1 : Int32) (v2 : Int32) (σ : rS) : Option (Int32 × rS) :=
  if 30 ≤ v2 then (
    some ((-1), σ)) else
  idx v2 (gN σ 51 v0) fun j1 =>
  if (gI σ 51 v0 j1) = (-1) then (
    B11_likeBody_37 N K2 v0 v1 v2 σ) else
  idx v2 (gN σ 52 v0) fun j2 =>
  idx v1 (gN σ 45 v0) fun j3 =>
  if (gI σ 52 v0 j2) = (gI σ 45 v0 j3) then (
    B11_likeBody_38 N K2 v0 v1 v2 true σ) else
  B11_likeBody_37 N K2 v0 v1 v2 σ
noncomputable def L11_likeBody_2 (N : Nat) : Nat → Nat → Int32 → Int32 → rS → Option (Int32 × rS)
  | 0, _, _, _, _ => none
  | n + 1, v0, v1, v2, σ => B11_likeBody_2 N (L11_likeBody_2 N n) v0 v1 v2 σ
noncomputable def f11_likeBody (N : Nat) (v0 : Nat) (v1 : Int32) (σ : rS) : Option (Int32 × rS) :=
  L11_likeBody_2 N N v0 v1 0 σ
noncomputable def B11_keep_316 (N : Nat) (v0 : Nat) (v1 : Int32) (v2 : Int64) (v6 : Int32) (v7 : Int32) (σ : rS) : Option (Int32 × rS) :=
  idx v7 (gN σ 58 v0) fun j1 =>
  olet (sL σ 58 v0 j1 v2) fun σ2 =>
  idx v7 (gN σ2 59 v0) fun j3 =>
  olet (sI σ2 59 v0 j3 v6) fun σ4 =>
  idx v1 (gN σ4 57 v0) fun j5 =>
  idx v1 (gN σ4 57 v0) fun j6 =>
  olet (sI σ4 57 v0 j6 ((gI σ4 57 v0 j5) + 1)) fun σ7 =>
  idx v6 (gN σ7 51 v0) fun j8 =>
  some ((gI σ7 51 v0 j8), σ7)
noncomputable def B11_keep_255 (N : Nat) (K255 : Nat → Int32 → Int64 → Int32 → Int32 → rS → Option (Int32 × rS)) (v0 : Nat) (v1 : Int32) (v2 : Int64) (v6 : Int32) (v7 : Int32) (σ : rS) : Option (Int32 × rS) :=
  if v7 ≤ (12 * v1) then (
    B11_keep_316 N v0 v1 v2 v6 v7 σ) else
  idx (v7 - 1) (gN σ 58 v0) fun j1 =>
  if (gL σ 58 v0 j1) ≤ v2 then (
    B11_keep_316 N v0 v1 v2 v6 v7 σ) else
  idx (v7 - 1) (gN σ 58 v0) fun j2 =>
  idx v7 (gN σ 58 v0) fun j3 =>
  olet (sL σ 58 v0 j3 (gL σ 58 v0 j2)) fun σ4 =>
  idx (v7 - 1) (gN σ4 59 v0) fun j5 =>
  idx v7 (gN σ4 59 v0) fun j6 =>
  olet (sI σ4 59 v0 j6 (gI σ4 59 v0 j5)) fun σ7 =>
  K255 v0 v1 v2 v6 (v7 + (-1)) σ7
noncomputable def L11_keep_255 (N : Nat) : Nat → Nat → Int32 → Int64 → Int32 → Int32 → rS → Option (Int32 × rS)
  | 0, _, _, _, _, _, _ => none
  | n + 1, v0, v1, v2, v6, v7, σ => B11_keep_255 N (L11_keep_255 N n) v0 v1 v2 v6 v7 σ
noncomputable def B11_keep_197 (N : Nat) (v0 : Nat) (v1 : Int32) (v2 : Int64) (v5 : Int32) (v6 : Int32) (σ : rS) : Option (Int32 × rS) :=
  idx v6 (gN σ 53 v0) fun j1 =>
  idx v6 (gN σ 53 v0) fun j2 =>
  olet (sI σ 53 v0 j2 ((gI σ 53 v0 j1) + 1)) fun σ3 =>
  if v5 = (-1) then (
    idx v1 (gN σ3 57 v0) fun j4 =>
    olet ((12 * v1) + (gI σ3 57 v0 j4)) fun x5 =>
    L11_keep_255 N N v0 v1 v2 v6 x5 σ3) else
  idx v5 (gN σ3 59 v0) fun j6 =>
  obind (f11_leave v0 (gI σ3 59 v0 j6) σ3) fun r7 σ8 =>
  idx v5 (gN σ8 59 v0) fun j9 =>
  olet (sI σ8 59 v0 j9 v6) fun σ10 =>
  idx v6 (gN σ10 51 v0) fun j11 =>
  some ((gI σ10 51 v0 j11), σ10)
noncomputable def B11_keep_151 (N : Nat) (K151 : Nat → Int32 → Int64 → Int32 → Int32 → Int32 → Int32 → rS → Option (Int32 × rS)) (v0 : Nat) (v1 : Int32) (v2 : Int64) (v4 : Int32) (v5 : Int32) (v6 : Int32) (v7 : Int32) (σ : rS) : Option (Int32 × rS) :=
  idx v4 (gN σ 45 v0) fun j1 =>
  if (gI σ 45 v0 j1) ≤ v7 then (
    B11_keep_197 N v0 v1 v2 v5 v6 σ) else
  idx ((400 * v4) + v7) (gN σ 44 v0) fun j2 =>
  idx ((400 * v6) + v7) (gN σ 54 v0) fun j3 =>
  olet (sI σ 54 v0 j3 (gI σ 44 v0 j2)) fun σ4 =>
  K151 v0 v1 v2 v4 v5 v6 (v7 + 1) σ4
noncomputable def L11_keep_151 (N : Nat) : Nat → Nat → Int32 → Int64 → Int32 → Int32 → Int32 → Int32 → rS → Option (Int32 × rS)
  | 0, _, _, _, _, _, _, _, _ => none
  | n + 1, v0, v1, v2, v4, v5, v6, v7, σ => B11_keep_151 N (L11_keep_151 N n) v0 v1 v2 v4 v5 v6 v7 σ
noncomputable def B11_keep_93 (N : Nat) (v0 : Nat) (v1 : Int32) (v2 : Int64) (v4 : Int32) (v5 : Int32) (v6 : Int32) (σ : rS) : Option (Int32 × rS) :=
  if v6 = (-1) then (
    obind (f11_freeBody N v0 σ) fun r1 σ2 =>
    idx r1 (gN σ2 51 v0) fun j3 =>
    olet (sI σ2 51 v0 j3 (gI σ2 29 v0 25)) fun σ4 =>
    olet (sI σ4 29 v0 25 ((gI σ4 29 v0 25) + 1)) fun σ5 =>
    idx v4 (gN σ5 45 v0) fun j6 =>
    idx r1 (gN σ5 52 v0) fun j7 =>
    olet (sI σ5 52 v0 j7 (gI σ5 45 v0 j6)) fun σ8 =>
    idx r1 (gN σ8 53 v0) fun j9 =>
    olet (sI σ8 53 v0 j9 0) fun σ10 =>
    L11_keep_151 N N v0 v1 v2 v4 v5 r1 0 σ10) else
  B11_keep_197 N v0 v1 v2 v5 v6 σ
noncomputable def B11_keep_75 (N : Nat) (v0 : Nat) (v1 : Int32) (v2 : Int64) (v4 : Int32) (v5 : Int32) (v6 : Int32) (σ : rS) : Option (Int32 × rS) :=
  if v6 = (-1) then (
    obind (f11_freeBody N v0 σ) fun r1 σ2 =>
    if r1 = 30 then (
      some ((-104), σ2)) else
    B11_keep_93 N v0 v1 v2 v4 v5 v6 σ2) else
  B11_keep_93 N v0 v1 v2 v4 v5 v6 σ
noncomputable def f11_keep (N : Nat) (v0 : Nat) (v1 : Int32) (v2 : Int64) (v4 : Int32) (σ : rS) : Option (Int32 × rS) :=
  obind (f11_isHouse v0 v1 σ) fun r1 σ2 =>
  if r1 = true then (
    obind (f11_isStream v0 v4 σ2) fun r3 σ4 =>
    if r3 = true then (
      if 0 ≤ v2 then (
        idx v4 (gN σ4 47 v0) fun j5 =>
        if (gI σ4 47 v0 j5) = 0 then (
          some ((-103), σ4)) else
        obind (f11_entry N v0 v1 v2 σ4) fun r6 σ7 =>
        obind (f11_likeBody N v0 v4 σ7) fun r8 σ9 =>
        if r6 = (-1) then (
          idx v1 (gN σ9 57 v0) fun j10 =>
          if (gI σ9 57 v0 j10) = 12 then (
            some ((-104), σ9)) else
          B11_keep_75 N v0 v1 v2 v4 r6 r8 σ9) else
        B11_keep_75 N v0 v1 v2 v4 r6 r8 σ9) else
      some ((-102), σ4)) else
    some ((-101), σ4)) else
  some ((-101), σ2)
noncomputable def f11_kind (v0 : Nat) (v1 : Int32) (σ : rS) : Option (Int32 × rS) :=
  obind (f11_isRow v0 v1 σ) fun r1 σ2 =>
  if r1 = true then (
    idx v1 (gN σ2 34 v0) fun j3 =>
    some ((gI σ2 34 v0 j3), σ2)) else
  some ((-101), σ2)
noncomputable def f11_length (v0 : Nat) (v1 : Int32) (σ : rS) : Option (Int32 × rS) :=
  obind (f11_isRow v0 v1 σ) fun r1 σ2 =>
  if r1 = true then (
    idx v1 (gN σ2 36 v0) fun j3 =>
    if (gI σ2 36 v0 j3) = 0 then (
      idx v1 (gN σ2 35 v0) fun j4 =>
      some ((gI σ2 35 v0 j4), σ2)) else
    obind (f11_meets v0 1 σ2) fun r5 σ6 =>
    some (r5, σ6)) else
  some ((-101), σ2)
noncomputable def f11_list (v0 : Nat) (v1 : Int32) (v2 : Int32) (σ : rS) : Option (Int32 × rS) :=
  obind (f11_isHouse v0 v1 σ) fun r1 σ2 =>
  if r1 = true then (
    idx v1 (gN σ2 57 v0) fun j3 =>
    obind (f11_in (Int32.toInt64 v2) 0 (Int32.toInt64 ((gI σ2 57 v0 j3) - 1)) σ2) fun r4 σ5 =>
    if r4 = true then (
      idx ((12 * v1) + v2) (gN σ5 58 v0) fun j6 =>
      olet (sL σ5 29 v0 2 (gL σ5 58 v0 j6)) fun σ7 =>
      idx v1 (gN σ7 57 v0) fun j8 =>
      some ((gI σ7 57 v0 j8), σ7)) else
    obind (f11_meets v0 2 σ5) fun r9 σ10 =>
    some (r9, σ10)) else
  some ((-101), σ2)
noncomputable def f11_lose (v0 : Nat) (v1 : Int32) (σ : rS) : Option (Int32 × rS) :=
  obind (f11_isRow v0 v1 σ) fun r1 σ2 =>
  if r1 = true then (
    idx v1 (gN σ2 36 v0) fun j3 =>
    if (gI σ2 36 v0 j3) = 0 then (
      idx v1 (gN σ2 36 v0) fun j4 =>
      olet (sI σ2 36 v0 j4 (vp_nar .boolean 1)) fun σ5 =>
      idx v1 (gN σ5 35 v0) fun j6 =>
      some ((gI σ5 35 v0 j6), σ5)) else
    obind (f11_meets v0 1 σ2) fun r7 σ8 =>
    some (r7, σ8)) else
  some ((-101), σ2)
noncomputable def f11_rank (v0 : Int32) (v1 : Int64) (σ : rS) : Option (Int64 × rS) :=
  if v0 < 6 then (
    some (v1, σ)) else
  if v1 < 0 then (
    if v0 = 6 then (
      some (((-1) - (v1 &&& 2147483647)), σ)) else
    some (((-1) - (v1 &&& 9223372036854775807)), σ)) else
  some (v1, σ)
noncomputable def B11_most_166 (N : Nat) (K57 : Nat → Int32 → Int32 → Int32 → Int32 → Int32 → Int32 → rS → Option (Int32 × rS)) (v0 : Nat) (v1 : Int32) (v2 : Int32) (v3 : Int32) (v4 : Int32) (v5 : Int32) (v6 : Int32) (σ : rS) : Option (Int32 × rS) :=
  K57 v0 v1 v2 v3 v4 v5 (v6 + 1) σ
noncomputable def B11_most_162 (N : Nat) (K57 : Nat → Int32 → Int32 → Int32 → Int32 → Int32 → Int32 → rS → Option (Int32 × rS)) (v0 : Nat) (v1 : Int32) (v2 : Int32) (v3 : Int32) (v4 : Int32) (v6 : Int32) (σ : rS) : Option (Int32 × rS) :=
  B11_most_166 N K57 v0 v1 v2 v3 v4 v6 v6 σ
noncomputable def B11_most_57 (N : Nat) (K57 : Nat → Int32 → Int32 → Int32 → Int32 → Int32 → Int32 → rS → Option (Int32 × rS)) (v0 : Nat) (v1 : Int32) (v2 : Int32) (v3 : Int32) (v4 : Int32) (v5 : Int32) (v6 : Int32) (σ : rS) : Option (Int32 × rS) :=
  idx v1 (gN σ 35 v0) fun j1 =>
  if (gI σ 35 v0 j1) ≤ v6 then (
    if v2 = 2 then (
      olet (sL σ 29 v0 2 (Int32.toInt64 v4)) fun σ6 =>
      some (0, σ6)) else
    if v5 = (-1) then (
      obind (f11_meets v0 5 σ) fun r4 σ5 =>
      some (r4, σ5)) else
    idx ((24 * v1) + v5) (gN σ 37 v0) fun j2 =>
    olet (sL σ 29 v0 2 (gL σ 37 v0 j2)) fun σ3 =>
    some (0, σ3)) else
  idx ((24 * v1) + v6) (gN σ 37 v0) fun j7 =>
  olet (gL σ 37 v0 j7) fun x8 =>
  obind (f11_isGap v3 x8 σ) fun r9 σ10 =>
  if r9 = true then (
    B11_most_166 N K57 v0 v1 v2 v3 (v4 + 1) v5 v6 σ10) else
  if v5 = (-1) then (
    B11_most_162 N K57 v0 v1 v2 v3 v4 v6 σ10) else
  if v2 = 0 then (
    obind (f11_rank v3 x8 σ10) fun r16 σ17 =>
    idx ((24 * v1) + v5) (gN σ17 37 v0) fun j18 =>
    obind (f11_rank v3 (gL σ17 37 v0 j18) σ17) fun r19 σ20 =>
    if r16 ≤ r19 then (
      B11_most_166 N K57 v0 v1 v2 v3 v4 v5 v6 σ20) else
    B11_most_162 N K57 v0 v1 v2 v3 v4 v6 σ20) else
  obind (f11_rank v3 x8 σ10) fun r11 σ12 =>
  idx ((24 * v1) + v5) (gN σ12 37 v0) fun j13 =>
  obind (f11_rank v3 (gL σ12 37 v0 j13) σ12) fun r14 σ15 =>
  if r14 ≤ r11 then (
    B11_most_166 N K57 v0 v1 v2 v3 v4 v5 v6 σ15) else
  B11_most_162 N K57 v0 v1 v2 v3 v4 v6 σ15
noncomputable def L11_most_57 (N : Nat) : Nat → Nat → Int32 → Int32 → Int32 → Int32 → Int32 → Int32 → rS → Option (Int32 × rS)
  | 0, _, _, _, _, _, _, _, _ => none
  | n + 1, v0, v1, v2, v3, v4, v5, v6, σ => B11_most_57 N (L11_most_57 N n) v0 v1 v2 v3 v4 v5 v6 σ
noncomputable def f11_most (N : Nat) (v0 : Nat) (v1 : Int32) (v2 : Int32) (σ : rS) : Option (Int32 × rS) :=
  obind (f11_isRow v0 v1 σ) fun r1 σ2 =>
  if r1 = true then (
    obind (f11_in (Int32.toInt64 v2) 0 2 σ2) fun r3 σ4 =>
    if r3 = true then (
      idx v1 (gN σ4 36 v0) fun j5 =>
      if (gI σ4 36 v0 j5) = 0 then (
        idx v1 (gN σ4 34 v0) fun j6 =>
        olet (gI σ4 34 v0 j6) fun x7 =>
        L11_most_57 N N v0 v1 v2 x7 0 (-1) 0 σ4) else
      obind (f11_meets v0 1 σ4) fun r8 σ9 =>
      some (r8, σ9)) else
    some ((-102), σ4)) else
  some ((-101), σ2)
noncomputable def B11_newRow_32 (N : Nat) (K32 : Nat → Int32 → rS → Option (Int32 × rS)) (v0 : Nat) (v3 : Int32) (σ : rS) : Option (Int32 × rS) :=
  if 24 ≤ v3 then (
    olet (sI σ 29 v0 3 ((gI σ 29 v0 3) + 1)) fun σ1 =>
    some (((gI σ1 29 v0 3) - 1), σ1)) else
  idx ((24 * (gI σ 29 v0 3)) + v3) (gN σ 37 v0) fun j2 =>
  olet (sL σ 37 v0 j2 0) fun σ3 =>
  K32 v0 (v3 + 1) σ3
noncomputable def L11_newRow_32 (N : Nat) : Nat → Nat → Int32 → rS → Option (Int32 × rS)
  | 0, _, _, _ => none
  | n + 1, v0, v3, σ => B11_newRow_32 N (L11_newRow_32 N n) v0 v3 σ
noncomputable def f11_newRow (N : Nat) (v0 : Nat) (v1 : Int32) (v2 : Int32) (σ : rS) : Option (Int32 × rS) :=
  idx (gI σ 29 v0 3) (gN σ 34 v0) fun j1 =>
  olet (sI σ 34 v0 j1 v1) fun σ2 =>
  idx (gI σ2 29 v0 3) (gN σ2 35 v0) fun j3 =>
  olet (sI σ2 35 v0 j3 v2) fun σ4 =>
  idx (gI σ4 29 v0 3) (gN σ4 36 v0) fun j5 =>
  olet (sI σ4 36 v0 j5 (vp_nar .boolean 0)) fun σ6 =>
  L11_newRow_32 N N v0 0 σ6
noncomputable def B11_piece_368 (N : Nat) (v9 : Bool) (σ : rS) : Option (Int32 × rS) :=
  if v9 = true then (
    some (0, σ)) else
  some (8, σ)
noncomputable def B11_piece_360 (N : Nat) (K321 : Nat → Int32 → Int32 → Bool → Int32 → rS → Option (Int32 × rS)) (v0 : Nat) (v4 : Int32) (v5 : Int32) (v10 : Int32) (s0 : Bool) (σ : rS) : Option (Int32 × rS) :=
  K321 v0 v4 v5 s0 (v10 + 1) σ
noncomputable def B11_piece_321 (N : Nat) (K321 : Nat → Int32 → Int32 → Bool → Int32 → rS → Option (Int32 × rS)) (v0 : Nat) (v4 : Int32) (v5 : Int32) (v9 : Bool) (v10 : Int32) (σ : rS) : Option (Int32 × rS) :=
  if v5 ≤ v10 then (
    B11_piece_368 N v9 σ) else
  if v9 = true then (
    idx v10 (gN σ 41 v0) fun j1 =>
    idx ((v4 + 5) + v10) (gN σ 44 v0) fun j2 =>
    if (gI σ 41 v0 j1) = (gI σ 44 v0 j2) then (
      B11_piece_360 N K321 v0 v4 v5 v10 true σ) else
    B11_piece_360 N K321 v0 v4 v5 v10 false σ) else
  B11_piece_368 N v9 σ
noncomputable def L11_piece_321 (N : Nat) : Nat → Nat → Int32 → Int32 → Bool → Int32 → rS → Option (Int32 × rS)
  | 0, _, _, _, _, _, _ => none
  | n + 1, v0, v4, v5, v9, v10, σ => B11_piece_321 N (L11_piece_321 N n) v0 v4 v5 v9 v10 σ
noncomputable def B11_piece_316 (N : Nat) (v0 : Nat) (v4 : Int32) (v5 : Int32) (s0 : Bool) (σ : rS) : Option (Int32 × rS) :=
  L11_piece_321 N N v0 v4 v5 s0 0 σ
noncomputable def B11_piece_315 (N : Nat) (v0 : Nat) (v4 : Int32) (v5 : Int32) (σ : rS) : Option (Int32 × rS) :=
  B11_piece_316 N v0 v4 v5 false σ
noncomputable def B11_piece_283 (N : Nat) (K243 : Nat → Int32 → Int32 → Int32 → Int32 → Int32 → Bool → Int32 → rS → Option (Int32 × rS)) (v0 : Nat) (v4 : Int32) (v5 : Int32) (v6 : Int32) (v7 : Int32) (v8 : Int32) (v10 : Int32) (s0 : Bool) (σ : rS) : Option (Int32 × rS) :=
  K243 v0 v4 v5 v6 v7 v8 s0 (v10 + 1) σ
noncomputable def B11_piece_282 (N : Nat) (K243 : Nat → Int32 → Int32 → Int32 → Int32 → Int32 → Bool → Int32 → rS → Option (Int32 × rS)) (v0 : Nat) (v4 : Int32) (v5 : Int32) (v6 : Int32) (v7 : Int32) (v8 : Int32) (v10 : Int32) (σ : rS) : Option (Int32 × rS) :=
  B11_piece_283 N K243 v0 v4 v5 v6 v7 v8 v10 false σ
noncomputable def B11_piece_243 (N : Nat) (K243 : Nat → Int32 → Int32 → Int32 → Int32 → Int32 → Bool → Int32 → rS → Option (Int32 × rS)) (v0 : Nat) (v4 : Int32) (v5 : Int32) (v6 : Int32) (v7 : Int32) (v8 : Int32) (v9 : Bool) (v10 : Int32) (σ : rS) : Option (Int32 × rS) :=
  if v8 ≤ v10 then (
    obind (f11_code N v0 v6 σ) fun r1 σ2 =>
    if v9 = true then (
      if (gI σ2 29 v0 12) = v5 then (
        B11_piece_316 N v0 v4 v5 true σ2) else
      B11_piece_315 N v0 v4 v5 σ2) else
    B11_piece_315 N v0 v4 v5 σ2) else
  if v9 = true then (
    idx v10 (gN σ 39 v0) fun j3 =>
    obind (f11_cut v7 (gL σ 39 v0 j3) σ) fun r4 σ5 =>
    idx v10 (gN σ5 39 v0) fun j6 =>
    if r4 = (gL σ5 39 v0 j6) then (
      B11_piece_283 N K243 v0 v4 v5 v6 v7 v8 v10 true σ5) else
    B11_piece_282 N K243 v0 v4 v5 v6 v7 v8 v10 σ5) else
  B11_piece_282 N K243 v0 v4 v5 v6 v7 v8 v10 σ
noncomputable def L11_piece_243 (N : Nat) : Nat → Nat → Int32 → Int32 → Int32 → Int32 → Int32 → Bool → Int32 → rS → Option (Int32 × rS)
  | 0, _, _, _, _, _, _, _, _, _ => none
  | n + 1, v0, v4, v5, v6, v7, v8, v9, v10, σ => B11_piece_243 N (L11_piece_243 N n) v0 v4 v5 v6 v7 v8 v9 v10 σ
noncomputable def f11_piece (N : Nat) (v0 : Nat) (v1 : Int32) (v2 : Int32) (σ : rS) : Option (Int32 × rS) :=
  idx v1 (gN σ 45 v0) fun j1 =>
  olet ((gI σ 45 v0 j1) - v2) fun x2 =>
  olet ((400 * v1) + v2) fun x3 =>
  if x2 = 0 then (
    some (6, σ)) else
  if x2 < 7 then (
    some (7, σ)) else
  idx (x3 + 3) (gN σ 44 v0) fun j4 =>
  idx (x3 + 4) (gN σ 44 v0) fun j5 =>
  if ((7 + (gI σ 44 v0 j4)) + (256 * (gI σ 44 v0 j5))) ≤ x2 then (
    idx (x3 + 3) (gN σ 44 v0) fun j6 =>
    idx (x3 + 4) (gN σ 44 v0) fun j7 =>
    olet ((gI σ 44 v0 j6) + (256 * (gI σ 44 v0 j7))) fun x8 =>
    idx x3 (gN σ 44 v0) fun j9 =>
    olet ((gI σ 44 v0 j9) - 160) fun x10 =>
    idx (x3 + 1) (gN σ 44 v0) fun j11 =>
    olet (gI σ 44 v0 j11) fun x12 =>
    idx (x3 + 2) (gN σ 44 v0) fun j13 =>
    olet (gI σ 44 v0 j13) fun x14 =>
    obind (f11_in (Int32.toInt64 x10) 0 4 σ) fun r15 σ16 =>
    if r15 = true then (
      if 7 < x12 then (
        some (8, σ16)) else
      if x14 ≤ 24 then (
        olet (sI σ16 29 v0 18 (v2 + 5)) fun σ17 =>
        olet (sI σ17 29 v0 19 ((gI σ17 29 v0 18) + x8)) fun σ18 =>
        obind (f11_sumOf N v0 v1 v2 (gI σ18 29 v0 19) σ18) fun r19 σ20 =>
        idx ((400 * v1) + (gI σ20 29 v0 19)) (gN σ20 44 v0) fun j21 =>
        idx (((400 * v1) + (gI σ20 29 v0 19)) + 1) (gN σ20 44 v0) fun j22 =>
        if r19 = ((gI σ20 44 v0 j21) + (256 * (gI σ20 44 v0 j22))) then (
          obind (f11_decode N v0 v1 x10 x14 σ20) fun r23 σ24 =>
          if r23 = true then (
            L11_piece_243 N N v0 x3 x8 x10 x12 x14 true 0 σ24) else
          some (8, σ24)) else
        some (8, σ20)) else
      some (8, σ16)) else
    some (8, σ16)) else
  some (7, σ)
noncomputable def B11_pieces_15 (N : Nat) (K15 : Nat → Int32 → Int32 → Int32 → rS → Option (Int32 × rS)) (v0 : Nat) (v1 : Int32) (v2 : Int32) (v3 : Int32) (σ : rS) : Option (Int32 × rS) :=
  obind (f11_piece N v0 v1 v2 σ) fun r1 σ2 =>
  if r1 = 0 then (
    olet ((gI σ2 29 v0 19) + 2) fun x3 =>
    K15 v0 v1 x3 (v3 + 1) σ2) else
  some (v3, σ2)
noncomputable def L11_pieces_15 (N : Nat) : Nat → Nat → Int32 → Int32 → Int32 → rS → Option (Int32 × rS)
  | 0, _, _, _, _, _ => none
  | n + 1, v0, v1, v2, v3, σ => B11_pieces_15 N (L11_pieces_15 N n) v0 v1 v2 v3 σ
noncomputable def f11_pieces (N : Nat) (v0 : Nat) (v1 : Int32) (σ : rS) : Option (Int32 × rS) :=
  obind (f11_isStream v0 v1 σ) fun r1 σ2 =>
  if r1 = true then (
    L11_pieces_15 N N v0 v1 0 0 σ2) else
  some ((-101), σ2)
noncomputable def f11_put (v0 : Nat) (v1 : Int32) (v2 : Int32) (v3 : Int64) (σ : rS) : Option (Int32 × rS) :=
  obind (f11_against v0 v1 v2 σ) fun r1 σ2 =>
  if r1 = 0 then (
    idx v1 (gN σ2 34 v0) fun j3 =>
    obind (f11_cut (gI σ2 34 v0 j3) v3 σ2) fun r4 σ5 =>
    idx ((24 * v1) + v2) (gN σ5 37 v0) fun j6 =>
    olet (sL σ5 37 v0 j6 r4) fun σ7 =>
    some (r1, σ7)) else
  some (r1, σ2)
noncomputable def B11_read_76 (N : Nat) (K76 : Nat → Int32 → Int32 → Int32 → rS → Option (Int32 × rS)) (v0 : Nat) (v1 : Int32) (v3 : Int32) (v4 : Int32) (σ : rS) : Option (Int32 × rS) :=
  if (gI σ 29 v0 10) ≤ v4 then (
    idx v1 (gN σ 46 v0) fun j1 =>
    olet (sI σ 46 v0 j1 ((gI σ 29 v0 19) + 2)) fun σ2 =>
    some (v3, σ2)) else
  idx v4 (gN σ 39 v0) fun j3 =>
  idx ((24 * v3) + v4) (gN σ 37 v0) fun j4 =>
  olet (sL σ 37 v0 j4 (gL σ 39 v0 j3)) fun σ5 =>
  K76 v0 v1 v3 (v4 + 1) σ5
noncomputable def L11_read_76 (N : Nat) : Nat → Nat → Int32 → Int32 → Int32 → rS → Option (Int32 × rS)
  | 0, _, _, _, _, _ => none
  | n + 1, v0, v1, v3, v4, σ => B11_read_76 N (L11_read_76 N n) v0 v1 v3 v4 σ
noncomputable def f11_read (N : Nat) (v0 : Nat) (v1 : Int32) (σ : rS) : Option (Int32 × rS) :=
  obind (f11_isStream v0 v1 σ) fun r1 σ2 =>
  if r1 = true then (
    idx v1 (gN σ2 46 v0) fun j3 =>
    obind (f11_piece N v0 v1 (gI σ2 46 v0 j3) σ2) fun r4 σ5 =>
    if r4 ≤ 0 then (
      if (gI σ5 29 v0 3) = 60 then (
        some ((-104), σ5)) else
      idx v1 (gN σ5 46 v0) fun j6 =>
      idx (((400 * v1) + (gI σ5 46 v0 j6)) + 1) (gN σ5 44 v0) fun j7 =>
      obind (f11_newRow N v0 (gI σ5 44 v0 j7) (gI σ5 29 v0 10) σ5) fun r8 σ9 =>
      L11_read_76 N N v0 v1 r8 0 σ9) else
    obind (f11_meets v0 r4 σ5) fun r10 σ11 =>
    some (r10, σ11)) else
  some ((-101), σ2)
noncomputable def B11_rest_127 (v0 : Nat) (v5 : Int32) (v6 : Int64) (v8 : Int64) (s0 : Bool) (σ : rS) : Option (Int32 × rS) :=
  obind (f11_isGap v5 v6 σ) fun r1 σ2 =>
  if r1 = true then (
    obind (f11_meets v0 5 σ2) fun r3 σ4 =>
    some (r3, σ4)) else
  obind (f11_isGap v5 v8 σ2) fun r5 σ6 =>
  if r5 = true then (
    obind (f11_meets v0 5 σ6) fun r7 σ8 =>
    some (r7, σ8)) else
  if s0 = true then (
    obind (f11_meets v0 5 σ6) fun r9 σ10 =>
    some (r9, σ10)) else
  obind (f11_real v5 v8 σ6) fun r11 σ12 =>
  if (Op.cmpValue (FP.dcmp r11 0) .l) = 0 then (
    obind (f11_meets v0 5 σ12) fun r19 σ20 =>
    some (r19, σ20)) else
  if v5 = 6 then (
    ock (okF (Int64.toInt32 v6) = true) <|
    ock (okF (Int64.toInt32 v8) = true) <|
    ock (nn32 (FP.frem (Int32.toUInt32 (Int64.toInt32 v6)) (Int32.toUInt32 (Int64.toInt32 v8))) = true) <|
    obind (fJ_fbits (FP.frem (Int32.toUInt32 (Int64.toInt32 v6)) (Int32.toUInt32 (Int64.toInt32 v8))) σ12) fun r16 σ17 =>
    olet (sL σ17 29 v0 2 (Int32.toInt64 r16)) fun σ18 =>
    some (0, σ18)) else
  ock (okD v6 = true) <|
  ock (okD v8 = true) <|
  ock (nn64 (FP.drem (Int64.toUInt64 v6) (Int64.toUInt64 v8)) = true) <|
  obind (fJ_dbits (FP.drem (Int64.toUInt64 v6) (Int64.toUInt64 v8)) σ12) fun r13 σ14 =>
  olet (sL σ14 29 v0 2 r13) fun σ15 =>
  some (0, σ15)
noncomputable def f11_rest (v0 : Nat) (v1 : Int32) (v2 : Int32) (v3 : Int32) (σ : rS) : Option (Int32 × rS) :=
  obind (f11_against v0 v1 v2 σ) fun r1 σ2 =>
  if r1 = 0 then (
    idx v1 (gN σ2 35 v0) fun j3 =>
    obind (f11_in (Int32.toInt64 v3) 0 (Int32.toInt64 ((gI σ2 35 v0 j3) - 1)) σ2) fun r4 σ5 =>
    if r4 = true then (
      idx v1 (gN σ5 34 v0) fun j6 =>
      olet (gI σ5 34 v0 j6) fun x7 =>
      idx ((24 * v1) + v2) (gN σ5 37 v0) fun j8 =>
      olet (gL σ5 37 v0 j8) fun x9 =>
      idx ((24 * v1) + v3) (gN σ5 37 v0) fun j10 =>
      olet (gL σ5 37 v0 j10) fun x11 =>
      if 6 ≤ x7 then (
        obind (f11_kMask x7 σ5) fun r12 σ13 =>
        obind (f11_kEndless x7 σ13) fun r14 σ15 =>
        if (x9 &&& r12) = r14 then (
          B11_rest_127  v0 x7 x9 x11 true σ15) else
        B11_rest_127  v0 x7 x9 x11 false σ15) else
      if x11 = 0 then (
        obind (f11_meets v0 5 σ5) fun r17 σ18 =>
        some (r17, σ18)) else
      ock (¬ x11 = 0) <|
      olet (sL σ5 29 v0 2 (x9 - x9 / x11 * x11)) fun σ16 =>
      some (0, σ16)) else
    obind (f11_meets v0 2 σ5) fun r19 σ20 =>
    some (r19, σ20)) else
  some (r1, σ2)
noncomputable def f11_signOf (v0 : Int32) (σ : rS) : Option (Int64 × rS) :=
  if v0 = 6 then (
    some ((-2147483648), σ)) else
  some ((-9223372036854775808), σ)
noncomputable def f11_wordOf (v0 : Int32) (v1 : UInt64) (σ : rS) : Option (Int64 × rS) :=
  if v0 = 6 then (
    ock (nn32 (FP.d2f v1) = true) <|
    obind (fJ_fbits (FP.d2f v1) σ) fun r5 σ6 =>
    obind (f11_cut v0 (Int32.toInt64 r5) σ6) fun r7 σ8 =>
    some (r7, σ8)) else
  obind (fJ_dbits v1 σ) fun r1 σ2 =>
  obind (f11_cut v0 r1 σ2) fun r3 σ4 =>
  some (r3, σ4)
noncomputable def B11_rounded_135 (v0 : Int32) (v1 : Int64) (v10 : Int64) (σ : rS) : Option (Int64 × rS) :=
  if v10 = 0 then (
    if 0 ≤ v1 then (
      some (0, σ)) else
    obind (f11_signOf v0 σ) fun r3 σ4 =>
    some (r3, σ4)) else
  obind (f11_wordOf v0 (FP.l2d v10) σ) fun r1 σ2 =>
  some (r1, σ2)
noncomputable def B11_rounded_133 (v0 : Int32) (v1 : Int64) (s0 : Int64) (σ : rS) : Option (Int64 × rS) :=
  B11_rounded_135  v0 v1 s0 σ
noncomputable def B11_rounded_124 (v0 : Int32) (v1 : Int64) (v8 : Int64) (σ : rS) : Option (Int64 × rS) :=
  B11_rounded_133  v0 v1 (v8 + 1) σ
noncomputable def B11_rounded_131 (v0 : Int32) (v1 : Int64) (v8 : Int64) (σ : rS) : Option (Int64 × rS) :=
  B11_rounded_133  v0 v1 v8 σ
noncomputable def B11_rounded_79 (v0 : Int32) (v1 : Int64) (s0 : Int64) (σ : rS) : Option (Int64 × rS) :=
  B11_rounded_135  v0 v1 s0 σ
noncomputable def B11_rounded_50 (v0 : Int32) (v1 : Int64) (v3 : Int32) (v4 : UInt64) (s0 : Int64) (σ : rS) : Option (Int64 × rS) :=
  if v3 = 2 then (
    if (Op.cmpValue (FP.dcmp (FP.l2d s0) v4) .l) = 0 then (
      B11_rounded_79  v0 v1 s0 σ) else
    B11_rounded_79  v0 v1 (s0 + 1) σ) else
  if v3 = 3 then (
    ock (nn64 (FP.dsub v4 (FP.l2d s0)) = true) <|
    olet (FP.dsub v4 (FP.l2d s0)) fun x1 =>
    if 0 < (Op.cmpValue (FP.dcmp x1 4602678819172646912) .l) then (
      B11_rounded_124  v0 v1 s0 σ) else
    if (Op.cmpValue (FP.dcmp x1 4602678819172646912) .l) = 0 then (
      if (s0 &&& 1) = 1 then (
        B11_rounded_124  v0 v1 s0 σ) else
      B11_rounded_131  v0 v1 s0 σ) else
    B11_rounded_131  v0 v1 s0 σ) else
  B11_rounded_135  v0 v1 s0 σ
noncomputable def f11_rounded (v0 : Int32) (v1 : Int64) (v3 : Int32) (σ : rS) : Option (Int64 × rS) :=
  obind (f11_real v0 v1 σ) fun r1 σ2 =>
  if 0 ≤ (Op.cmpValue (FP.dcmp r1 4841369599423283200) .l) then (
    some (v1, σ2)) else
  if 0 < (Op.cmpValue (FP.dcmp r1 14064741636278059008) .g) then (
    olet (FP.d2l r1) fun x3 =>
    if (Op.cmpValue (FP.dcmp (FP.l2d x3) r1) .l) ≤ 0 then (
      B11_rounded_50  v0 v1 v3 r1 x3 σ2) else
    B11_rounded_50  v0 v1 v3 r1 (x3 - 1) σ2) else
  some (v1, σ2)
noncomputable def f11_row (N : Nat) (v0 : Nat) (v1 : Int32) (v2 : Int32) (σ : rS) : Option (Int32 × rS) :=
  obind (f11_in (Int32.toInt64 v1) 0 7 σ) fun r1 σ2 =>
  if r1 = true then (
    if v2 ≤ 24 then (
      if (gI σ2 29 v0 3) = 60 then (
        some ((-104), σ2)) else
      if 0 ≤ v2 then (
        obind (f11_newRow N v0 v1 v2 σ2) fun r3 σ4 =>
        some (r3, σ4)) else
      obind (f11_meets v0 4 σ2) fun r5 σ6 =>
      some (r5, σ6)) else
    some ((-102), σ2)) else
  some ((-102), σ2)
noncomputable def f11_seek (v0 : Nat) (v1 : Int32) (v2 : Int32) (σ : rS) : Option (Int32 × rS) :=
  obind (f11_isStream v0 v1 σ) fun r1 σ2 =>
  if r1 = true then (
    idx v1 (gN σ2 45 v0) fun j3 =>
    obind (f11_in (Int32.toInt64 v2) 0 (Int32.toInt64 (gI σ2 45 v0 j3)) σ2) fun r4 σ5 =>
    if r4 = true then (
      idx v1 (gN σ5 46 v0) fun j6 =>
      olet (gI σ5 46 v0 j6) fun x7 =>
      idx v1 (gN σ5 46 v0) fun j8 =>
      olet (sI σ5 46 v0 j8 v2) fun σ9 =>
      some (x7, σ9)) else
    obind (f11_meets v0 2 σ5) fun r10 σ11 =>
    some (r10, σ11)) else
  some ((-101), σ2)
noncomputable def f11_seen (v0 : Nat) (σ : rS) : Option (Int64 × rS) :=
  some ((gL σ 29 v0 2), σ)
noncomputable def f11_shapedReal (v0 : Int32) (v1 : Int64) (v3 : Int32) (σ : rS) : Option (Int64 × rS) :=
  obind (f11_isGap v0 v1 σ) fun r1 σ2 =>
  if r1 = true then (
    some (v1, σ2)) else
  if v3 = 0 then (
    if v0 = 6 then (
      some ((v1 &&& 2147483647), σ2)) else
    some ((v1 &&& 9223372036854775807), σ2)) else
  if v3 = 5 then (
    obind (f11_signOf v0 σ2) fun r11 σ12 =>
    some ((v1 ^^^ r11), σ12)) else
  if v3 = 4 then (
    obind (f11_real v0 v1 σ2) fun r5 σ6 =>
    if (Op.cmpValue (FP.dcmp r5 0) .l) = 0 then (
      some (v1, σ6)) else
    if 0 ≤ v1 then (
      obind (f11_wordOf v0 0x3ff0000000000000 σ6) fun r7 σ8 =>
      some (r7, σ8)) else
    obind (f11_wordOf v0 13830554455654793216 σ6) fun r9 σ10 =>
    some (r9, σ10)) else
  obind (f11_rounded v0 v1 v3 σ2) fun r3 σ4 =>
  some (r3, σ4)
noncomputable def B11_shape_142 (v4 : Int32) (v6 : Int64) (s0 : Nat) (σ : rS) : Option (Int32 × rS) :=
  obind (f11_cut v4 (-v6) σ) fun r1 σ2 =>
  olet (sL σ2 29 s0 2 r1) fun σ3 =>
  some (0, σ3)
noncomputable def B11_shape_53 (v0 : Nat) (v1 : Int32) (v2 : Int32) (v3 : Int32) (v4 : Int32) (σ : rS) : Option (Int32 × rS) :=
  obind (f11_against v0 v1 v2 σ) fun r1 σ2 =>
  if r1 = 0 then (
    idx ((24 * v1) + v2) (gN σ2 37 v0) fun j3 =>
    olet (gL σ2 37 v0 j3) fun x4 =>
    if v4 < 6 then (
      if v4 = 0 then (
        if v3 = 0 then (
          olet (sL σ2 29 v0 2 x4) fun σ7 =>
          some (0, σ7)) else
        olet (sL σ2 29 v0 2 (1 - x4)) fun σ6 =>
        some (0, σ6)) else
      if v3 = 5 then (
        B11_shape_142  v4 x4 v0 σ2) else
      if 0 ≤ x4 then (
        olet (sL σ2 29 v0 2 x4) fun σ5 =>
        some (0, σ5)) else
      B11_shape_142  v4 x4 v0 σ2) else
    obind (f11_shapedReal v4 x4 v3 σ2) fun r8 σ9 =>
    olet (sL σ9 29 v0 2 r8) fun σ10 =>
    some (0, σ10)) else
  some (r1, σ2)
noncomputable def f11_shape (v0 : Nat) (v1 : Int32) (v2 : Int32) (v3 : Int32) (σ : rS) : Option (Int32 × rS) :=
  obind (f11_isRow v0 v1 σ) fun r1 σ2 =>
  if r1 = true then (
    obind (f11_in (Int32.toInt64 v3) 0 5 σ2) fun r3 σ4 =>
    if r3 = true then (
      idx v1 (gN σ4 34 v0) fun j5 =>
      olet (gI σ4 34 v0 j5) fun x6 =>
      if v3 = 0 then (
        B11_shape_53  v0 v1 v2 v3 x6 σ4) else
      if v3 = 5 then (
        B11_shape_53  v0 v1 v2 v3 x6 σ4) else
      if 6 ≤ x6 then (
        B11_shape_53  v0 v1 v2 v3 x6 σ4) else
      some ((-103), σ4)) else
    some ((-102), σ4)) else
  some ((-101), σ2)
noncomputable def f11_stream (v0 : Nat) (σ : rS) : Option (Int32 × rS) :=
  if (gI σ 29 v0 13) = 24 then (
    some ((-104), σ)) else
  obind (f11_newStream v0 σ) fun r1 σ2 =>
  some (r1, σ2)
noncomputable def B11_take_67 (N : Nat) (K67 : Nat → Int32 → Int32 → Int32 → rS → Option (Int32 × rS)) (v0 : Nat) (v5 : Int32) (v6 : Int32) (v7 : Int32) (σ : rS) : Option (Int32 × rS) :=
  idx v6 (gN σ 52 v0) fun j1 =>
  if (gI σ 52 v0 j1) ≤ v7 then (
    idx v5 (gN σ 47 v0) fun j2 =>
    olet (sI σ 47 v0 j2 (vp_nar .boolean 1)) fun σ3 =>
    some (v5, σ3)) else
  idx ((400 * v6) + v7) (gN σ 54 v0) fun j4 =>
  obind (f11_lay v0 v5 (gI σ 54 v0 j4) σ) fun r5 σ6 =>
  K67 v0 v5 v6 (v7 + 1) σ6
noncomputable def L11_take_67 (N : Nat) : Nat → Nat → Int32 → Int32 → Int32 → rS → Option (Int32 × rS)
  | 0, _, _, _, _, _ => none
  | n + 1, v0, v5, v6, v7, σ => B11_take_67 N (L11_take_67 N n) v0 v5 v6 v7 σ
noncomputable def f11_take (N : Nat) (v0 : Nat) (v1 : Int32) (v2 : Int64) (σ : rS) : Option (Int32 × rS) :=
  obind (f11_isHouse v0 v1 σ) fun r1 σ2 =>
  if r1 = true then (
    if 0 ≤ v2 then (
      obind (f11_entry N v0 v1 v2 σ2) fun r3 σ4 =>
      if r3 = (-1) then (
        some ((-103), σ4)) else
      if (gI σ4 29 v0 13) = 24 then (
        some ((-104), σ4)) else
      obind (f11_newStream v0 σ4) fun r5 σ6 =>
      idx r3 (gN σ6 59 v0) fun j7 =>
      olet (gI σ6 59 v0 j7) fun x8 =>
      L11_take_67 N N v0 r5 x8 0 σ6) else
    some ((-102), σ2)) else
  some ((-101), σ2)
noncomputable def B11_uses_34 (N : Nat) (K4 : Nat → Int32 → Int32 → Int32 → rS → Option (Int32 × rS)) (v0 : Nat) (v1 : Int32) (v3 : Int32) (s0 : Int32) (σ : rS) : Option (Int32 × rS) :=
  K4 v0 v1 s0 (v3 + 1) σ
noncomputable def B11_uses_33 (N : Nat) (K4 : Nat → Int32 → Int32 → Int32 → rS → Option (Int32 × rS)) (v0 : Nat) (v1 : Int32) (v2 : Int32) (v3 : Int32) (σ : rS) : Option (Int32 × rS) :=
  B11_uses_34 N K4 v0 v1 v3 v2 σ
noncomputable def B11_uses_4 (N : Nat) (K4 : Nat → Int32 → Int32 → Int32 → rS → Option (Int32 × rS)) (v0 : Nat) (v1 : Int32) (v2 : Int32) (v3 : Int32) (σ : rS) : Option (Int32 × rS) :=
  if 30 ≤ v3 then (
    some (v2, σ)) else
  if v1 < 0 then (
    B11_uses_33 N K4 v0 v1 v2 v3 σ) else
  idx v3 (gN σ 51 v0) fun j1 =>
  if (gI σ 51 v0 j1) = v1 then (
    idx v3 (gN σ 53 v0) fun j2 =>
    B11_uses_34 N K4 v0 v1 v3 (gI σ 53 v0 j2) σ) else
  B11_uses_33 N K4 v0 v1 v2 v3 σ
noncomputable def L11_uses_4 (N : Nat) : Nat → Nat → Int32 → Int32 → Int32 → rS → Option (Int32 × rS)
  | 0, _, _, _, _, _ => none
  | n + 1, v0, v1, v2, v3, σ => B11_uses_4 N (L11_uses_4 N n) v0 v1 v2 v3 σ
noncomputable def f11_uses (N : Nat) (v0 : Nat) (v1 : Int32) (σ : rS) : Option (Int32 × rS) :=
  L11_uses_4 N N v0 v1 0 0 σ
noncomputable def B11_write_158 (N : Nat) (K158 : Nat → Int32 → Int32 → Int32 → rS → Option (Int32 × rS)) (v0 : Nat) (v1 : Int32) (v4 : Int32) (v5 : Int32) (σ : rS) : Option (Int32 × rS) :=
  if (gI σ 29 v0 12) ≤ v5 then (
    idx v1 (gN σ 45 v0) fun j1 =>
    obind (f11_sumOf N v0 v1 v4 (gI σ 45 v0 j1) σ) fun r2 σ3 =>
    obind (f11_lay v0 v1 (r2 &&& 255) σ3) fun r4 σ5 =>
    obind (f11_lay v0 v1 (r2 >>> (8 &&& 31)) σ5) fun r6 σ7 =>
    idx v1 (gN σ7 45 v0) fun j8 =>
    some ((gI σ7 45 v0 j8), σ7)) else
  idx v5 (gN σ 41 v0) fun j9 =>
  obind (f11_lay v0 v1 (gI σ 41 v0 j9) σ) fun r10 σ11 =>
  K158 v0 v1 v4 (v5 + 1) σ11
noncomputable def L11_write_158 (N : Nat) : Nat → Nat → Int32 → Int32 → Int32 → rS → Option (Int32 × rS)
  | 0, _, _, _, _, _ => none
  | n + 1, v0, v1, v4, v5, σ => B11_write_158 N (L11_write_158 N n) v0 v1 v4 v5 σ
noncomputable def f11_write (N : Nat) (v0 : Nat) (v1 : Int32) (v2 : Int32) (v3 : Int32) (σ : rS) : Option (Int32 × rS) :=
  obind (f11_isStream v0 v1 σ) fun r1 σ2 =>
  if r1 = true then (
    obind (f11_isRow v0 v2 σ2) fun r3 σ4 =>
    if r3 = true then (
      obind (f11_in (Int32.toInt64 v3) 0 4 σ4) fun r5 σ6 =>
      if r5 = true then (
        idx v1 (gN σ6 47 v0) fun j7 =>
        if (gI σ6 47 v0 j7) = 0 then (
          idx v2 (gN σ6 36 v0) fun j8 =>
          if (gI σ6 36 v0 j8) = 0 then (
            obind (f11_codeRow N v0 v2 v3 σ6) fun r9 σ10 =>
            idx v1 (gN σ10 45 v0) fun j11 =>
            if (((gI σ10 45 v0 j11) + (gI σ10 29 v0 12)) + 7) ≤ 400 then (
              idx v1 (gN σ10 45 v0) fun j12 =>
              olet (gI σ10 45 v0 j12) fun x13 =>
              obind (f11_lay v0 v1 (160 + v3) σ10) fun r14 σ15 =>
              idx v2 (gN σ15 34 v0) fun j16 =>
              obind (f11_lay v0 v1 (gI σ15 34 v0 j16) σ15) fun r17 σ18 =>
              idx v2 (gN σ18 35 v0) fun j19 =>
              obind (f11_lay v0 v1 (gI σ18 35 v0 j19) σ18) fun r20 σ21 =>
              obind (f11_lay v0 v1 ((gI σ21 29 v0 12) &&& 255) σ21) fun r22 σ23 =>
              obind (f11_lay v0 v1 ((gI σ23 29 v0 12) >>> (8 &&& 31)) σ23) fun r24 σ25 =>
              L11_write_158 N N v0 v1 x13 0 σ25) else
            some ((-104), σ10)) else
          obind (f11_meets v0 1 σ6) fun r26 σ27 =>
          some (r26, σ27)) else
        some ((-103), σ6)) else
      some ((-102), σ6)) else
    some ((-101), σ4)) else
  some ((-101), σ2)
