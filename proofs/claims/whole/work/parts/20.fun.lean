noncomputable def fJ_max (v0 : Int32) (v1 : Int32) (σ : rS) : Option (Int32 × rS) :=
  if v0 < v1 then (
    some (v1, σ)) else
  some (v0, σ)
noncomputable def fJ_cmp (v0 : Int64) (v2 : Int64) (σ : rS) : Option (Int32 × rS) :=
  if v2 ≤ v0 then (
    if v0 = v2 then (
      some (0, σ)) else
    some (1, σ)) else
  some ((-1), σ)
noncomputable def fJ_min (v0 : Int32) (v1 : Int32) (σ : rS) : Option (Int32 × rS) :=
  if v1 < v0 then (
    some (v1, σ)) else
  some (v0, σ)
noncomputable def fJ_dnan (v0 : UInt64) (σ : rS) : Option (Bool × rS) :=
  if (Op.cmpValue (FP.dcmp v0 v0) .l) = 0 then (
    some (false, σ)) else
  some (true, σ)
noncomputable def fJ_dbits (v0 : UInt64) (σ : rS) : Option (Int64 × rS) :=
  obind (fJ_dnan v0 σ) fun r1 σ2 =>
  if r1 = true then (
    some (9221120237041090560, σ2)) else
  some ((UInt64.toInt64 v0), σ2)
noncomputable def fJ_fnan (v0 : UInt32) (σ : rS) : Option (Bool × rS) :=
  if (Op.cmpValue (FP.fcmp v0 v0) .l) = 0 then (
    some (false, σ)) else
  some (true, σ)
noncomputable def fJ_fbits (v0 : UInt32) (σ : rS) : Option (Int32 × rS) :=
  obind (fJ_fnan v0 σ) fun r1 σ2 =>
  if r1 = true then (
    some (2143289344, σ2)) else
  some ((UInt32.toInt32 v0), σ2)
noncomputable def f2_endless (v0 : Int32) (σ : rS) : Option (Int64 × rS) :=
  if v0 = 6 then (
    some (2139095040, σ)) else
  some (9218868437227405312, σ)
noncomputable def f2_sizeOf (v0 : Int32) (v1 : Int64) (σ : rS) : Option (Int64 × rS) :=
  if v0 = 6 then (
    some ((v1 &&& 2147483647), σ)) else
  some ((v1 &&& 9223372036854775807), σ)
noncomputable def f2_isNone (v0 : Int32) (v1 : Int64) (σ : rS) : Option (Bool × rS) :=
  obind (f2_sizeOf v0 v1 σ) fun r1 σ2 =>
  obind (f2_endless v0 σ2) fun r3 σ4 =>
  if r1 ≤ r3 then (
    some (false, σ4)) else
  some (true, σ4)
noncomputable def f4_areFloating (v0 : Int32) (σ : rS) : Option (Bool × rS) :=
  if v0 = 6 then (
    some (true, σ)) else
  if v0 = 7 then (
    some (true, σ)) else
  some (false, σ)
noncomputable def f4_isGap (v0 : Int32) (v1 : Int64) (σ : rS) : Option (Bool × rS) :=
  obind (f4_areFloating v0 σ) fun r1 σ2 =>
  if r1 = true then (
    obind (f2_isNone v0 v1 σ2) fun r3 σ4 =>
    if r3 = true then (
      some (true, σ4)) else
    some (false, σ4)) else
  some (false, σ2)
noncomputable def f4_rank (v0 : Int32) (v1 : Int64) (σ : rS) : Option (Int64 × rS) :=
  obind (f4_areFloating v0 σ) fun r1 σ2 =>
  if r1 = true then (
    some ((v1 ^^^ ((v1 >>> (Int32.toInt64 63 &&& 63)) &&& 9223372036854775807)), σ2)) else
  some (v1, σ2)
noncomputable def f2_signBit (v0 : Int32) (σ : rS) : Option (Int64 × rS) :=
  if v0 = 6 then (
    some ((-2147483648), σ)) else
  some ((-9223372036854775808), σ)
noncomputable def f4_unsignedZero (v0 : Int32) (v1 : Int64) (σ : rS) : Option (Int64 × rS) :=
  obind (f4_areFloating v0 σ) fun r1 σ2 =>
  if r1 = true then (
    obind (f2_signBit v0 σ2) fun r3 σ4 =>
    if v1 = r3 then (
      some (0, σ4)) else
    some (v1, σ4)) else
  some (v1, σ2)
noncomputable def f4_compared (v0 : Int32) (v1 : Int64) (v3 : Int64) (σ : rS) : Option (Int32 × rS) :=
  obind (f4_isGap v0 v1 σ) fun r1 σ2 =>
  if r1 = true then (
    some (32, σ2)) else
  obind (f4_isGap v0 v3 σ2) fun r3 σ4 =>
  if r3 = true then (
    some (32, σ4)) else
  obind (f4_unsignedZero v0 v1 σ4) fun r5 σ6 =>
  obind (f4_rank v0 r5 σ6) fun r7 σ8 =>
  obind (f4_unsignedZero v0 v3 σ8) fun r9 σ10 =>
  obind (f4_rank v0 r9 σ10) fun r11 σ12 =>
  obind (fJ_cmp r7 r11 σ12) fun r13 σ14 =>
  if r13 = 0 then (
    some (26, σ14)) else
  if 0 ≤ r13 then (
    some (44, σ14)) else
  some (35, σ14)
noncomputable def f2_orGap (v0 : Int32) (v1 : Int64) (σ : rS) : Option (Int64 × rS) :=
  obind (f2_sizeOf v0 v1 σ) fun r1 σ2 =>
  obind (f2_endless v0 σ2) fun r3 σ4 =>
  if r3 < r1 then (
    if v0 = 6 then (
      some (2143289344, σ4)) else
    some (9221120237041090560, σ4)) else
  some (v1, σ4)
noncomputable def f4_told (v0 : Int32) (v1 : Int64) (σ : rS) : Option (Int64 × rS) :=
  if v0 = 0 then (
    some ((v1 &&& 1), σ)) else
  if v0 = 1 then (
    some ((Int32.toInt64 (Int8.toInt32 (Int32.toInt8 (Int64.toInt32 v1)))), σ)) else
  if v0 = 2 then (
    some ((Int32.toInt64 (UInt32.toInt32 (Int32.toUInt32 (Int64.toInt32 v1) % 65536))), σ)) else
  if v0 = 3 then (
    some ((Int32.toInt64 (Int16.toInt32 (Int32.toInt16 (Int64.toInt32 v1)))), σ)) else
  if v0 = 4 then (
    some ((Int32.toInt64 (Int64.toInt32 v1)), σ)) else
  if v0 = 5 then (
    some (v1, σ)) else
  if v0 = 6 then (
    obind (f2_orGap v0 (Int32.toInt64 (Int64.toInt32 v1)) σ) fun r1 σ2 =>
    some (r1, σ2)) else
  if v0 = 7 then (
    obind (f2_orGap v0 v1 σ) fun r3 σ4 =>
    some (r3, σ4)) else
  some (v1, σ)
noncomputable def f2_leaveRest (v0 : Int32) (v1 : Int64) (v3 : Int64) (σ : rS) : Option (Bool × rS) :=
  obind (f2_isNone v0 v3 σ) fun r1 σ2 =>
  if r1 = true then (
    some (false, σ2)) else
  obind (f2_sizeOf v0 v3 σ2) fun r3 σ4 =>
  if r3 = 0 then (
    some (false, σ4)) else
  obind (f2_sizeOf v0 v1 σ4) fun r5 σ6 =>
  obind (f2_endless v0 σ6) fun r7 σ8 =>
  if r7 ≤ r5 then (
    some (false, σ8)) else
  some (true, σ8)
noncomputable def f4_leaveRest (v0 : Int32) (v1 : Int64) (v3 : Int64) (σ : rS) : Option (Bool × rS) :=
  obind (f4_areFloating v0 σ) fun r1 σ2 =>
  if r1 = true then (
    obind (f2_leaveRest v0 v1 v3 σ2) fun r3 σ4 =>
    some (r3, σ4)) else
  if v3 = 0 then (
    some (false, σ2)) else
  some (true, σ2)
noncomputable def f2_fractionBits (v0 : Int32) (σ : rS) : Option (Int32 × rS) :=
  if v0 = 6 then (
    some (23, σ)) else
  some (52, σ)
noncomputable def f2_scaleOf (v0 : Int32) (v1 : Int64) (σ : rS) : Option (Int32 × rS) :=
  obind (f2_fractionBits v0 σ) fun r1 σ2 =>
  obind (fJ_max 1 (Int64.toInt32 (v1 >>> (Int32.toInt64 r1 &&& 63))) σ2) fun r3 σ4 =>
  some (r3, σ4)
noncomputable def f2_scaledFraction (v0 : Int32) (v1 : Int64) (σ : rS) : Option (Int64 × rS) :=
  obind (f2_fractionBits v0 σ) fun r1 σ2 =>
  olet (1 <<< (Int32.toInt64 r1 &&& 63)) fun x3 =>
  olet (v1 &&& (x3 - 1)) fun x4 =>
  if x3 ≤ v1 then (
    some ((x4 + x3), σ2)) else
  some (x4, σ2)
noncomputable def B2_sizeFrom_57 (N : Nat) (v0 : Int32) (v1 : Int64) (v6 : Int32) (σ : rS) : Option (Int64 × rS) :=
  obind (f2_fractionBits v0 σ) fun r1 σ2 =>
  some ((((Int32.toInt64 (v6 - 1)) <<< (Int32.toInt64 r1 &&& 63)) + v1), σ2)
noncomputable def B2_sizeFrom_22 (N : Nat) (K22 : Int32 → Int64 → Int64 → Int32 → Int32 → rS → Option (Int64 × rS)) (v0 : Int32) (v1 : Int64) (v4 : Int64) (v6 : Int32) (v7 : Int32) (σ : rS) : Option (Int64 × rS) :=
  obind (f2_fractionBits v0 σ) fun r1 σ2 =>
  if r1 ≤ v7 then (
    B2_sizeFrom_57 N v0 v1 v6 σ2) else
  if v4 ≤ v1 then (
    B2_sizeFrom_57 N v0 v1 v6 σ2) else
  if v6 ≤ 1 then (
    B2_sizeFrom_57 N v0 v1 v6 σ2) else
  olet (v1 <<< (Int32.toInt64 1 &&& 63)) fun x3 =>
  K22 v0 x3 v4 (v6 + (-1)) (v7 + 1) σ2
noncomputable def L2_sizeFrom_22 (N : Nat) : Nat → Int32 → Int64 → Int64 → Int32 → Int32 → rS → Option (Int64 × rS)
  | 0, _, _, _, _, _, _ => none
  | n + 1, v0, v1, v4, v6, v7, σ => B2_sizeFrom_22 N (L2_sizeFrom_22 N n) v0 v1 v4 v6 v7 σ
noncomputable def f2_sizeFrom (N : Nat) (v0 : Int32) (v1 : Int64) (v3 : Int32) (σ : rS) : Option (Int64 × rS) :=
  if v1 = 0 then (
    some (0, σ)) else
  obind (f2_fractionBits v0 σ) fun r1 σ2 =>
  olet (1 <<< (Int32.toInt64 r1 &&& 63)) fun x3 =>
  L2_sizeFrom_22 N N v0 v1 x3 v3 0 σ2
noncomputable def f2_withSign (v0 : Int32) (v1 : Int64) (v3 : Bool) (σ : rS) : Option (Int64 × rS) :=
  if v3 = true then (
    obind (f2_signBit v0 σ) fun r1 σ2 =>
    some ((v1 ^^^ r1), σ2)) else
  some (v1, σ)
noncomputable def B2_restOf_71 (N : Nat) (K71 : Int32 → Int64 → Int64 → Int32 → Int64 → Int32 → rS → Option (Int64 × rS)) (v0 : Int32) (v1 : Int64) (v9 : Int64) (v11 : Int32) (v12 : Int64) (v14 : Int32) (σ : rS) : Option (Int64 × rS) :=
  if v14 ≤ 0 then (
    obind (f2_sizeFrom N v0 v12 v11 σ) fun r1 σ2 =>
    if 0 ≤ v1 then (
      obind (f2_withSign v0 r1 false σ2) fun r3 σ4 =>
      some (r3, σ4)) else
    obind (f2_withSign v0 r1 true σ2) fun r5 σ6 =>
    some (r5, σ6)) else
  obind (fJ_min v14 10 σ) fun r7 σ8 =>
  ock (¬ v9 = 0) <|
  olet ((v12 <<< (Int32.toInt64 r7 &&& 63)) - (v12 <<< (Int32.toInt64 r7 &&& 63)) / v9 * v9) fun x9 =>
  olet (v14 - r7) fun x10 =>
  K71 v0 v1 v9 v11 x9 x10 σ8
noncomputable def L2_restOf_71 (N : Nat) : Nat → Int32 → Int64 → Int64 → Int32 → Int64 → Int32 → rS → Option (Int64 × rS)
  | 0, _, _, _, _, _, _, _ => none
  | n + 1, v0, v1, v9, v11, v12, v14, σ => B2_restOf_71 N (L2_restOf_71 N n) v0 v1 v9 v11 v12 v14 σ
noncomputable def f2_restOf (N : Nat) (v0 : Int32) (v1 : Int64) (v3 : Int64) (σ : rS) : Option (Int64 × rS) :=
  obind (f2_sizeOf v0 v1 σ) fun r1 σ2 =>
  obind (f2_sizeOf v0 v3 σ2) fun r3 σ4 =>
  if r3 ≤ r1 then (
    obind (f2_scaledFraction v0 r3 σ4) fun r5 σ6 =>
    if r5 = 0 then (
      some (v1, σ6)) else
    obind (f2_scaleOf v0 r3 σ6) fun r7 σ8 =>
    obind (f2_scaledFraction v0 r1 σ8) fun r9 σ10 =>
    ock (¬ r5 = 0) <|
    olet (r9 - r9 / r5 * r5) fun x11 =>
    obind (f2_scaleOf v0 r1 σ10) fun r12 σ13 =>
    olet (r12 - r7) fun x14 =>
    L2_restOf_71 N N v0 v1 r5 r7 x11 x14 σ13) else
  some (v1, σ4)
noncomputable def f4_restOf (N : Nat) (v0 : Int32) (v1 : Int64) (v3 : Int64) (σ : rS) : Option (Int64 × rS) :=
  obind (f4_areFloating v0 σ) fun r1 σ2 =>
  if r1 = true then (
    obind (f2_restOf N v0 v1 v3 σ2) fun r3 σ4 =>
    some (r3, σ4)) else
  if v3 = 0 then (
    some (0, σ2)) else
  ock (¬ v3 = 0) <|
  some ((v1 - v1 / v3 * v3), σ2)
noncomputable def f2_bias (v0 : Int32) (σ : rS) : Option (Int32 × rS) :=
  if v0 = 6 then (
    some (127, σ)) else
  some (1023, σ)
noncomputable def f2_goesUp (v0 : Int32) (v1 : Bool) (v2 : Int32) (v3 : Bool) (σ : rS) : Option (Bool × rS) :=
  if v0 = 1 then (
    some (v1, σ)) else
  if v0 = 2 then (
    if v1 = true then (
      some (false, σ)) else
    some (true, σ)) else
  if 0 < v2 then (
    some (true, σ)) else
  if v2 = 0 then (
    if v3 = true then (
      some (true, σ)) else
    some (false, σ)) else
  some (false, σ)
noncomputable def f2_halfOf (v0 : Int32) (σ : rS) : Option (Int64 × rS) :=
  obind (f2_bias v0 σ) fun r1 σ2 =>
  obind (f2_fractionBits v0 σ2) fun r3 σ4 =>
  some (((Int32.toInt64 (r1 - 1)) <<< (Int32.toInt64 r3 &&& 63)), σ4)
noncomputable def f2_oneOf (v0 : Int32) (σ : rS) : Option (Int64 × rS) :=
  obind (f2_bias v0 σ) fun r1 σ2 =>
  obind (f2_fractionBits v0 σ2) fun r3 σ4 =>
  some (((Int32.toInt64 r1) <<< (Int32.toInt64 r3 &&& 63)), σ4)
noncomputable def B2_rounded_144 (v0 : Int32) (v3 : Int32) (v4 : Int64) (v6 : Bool) (v9 : Int64) (v11 : Int64) (s0 : Bool) (σ : rS) : Option (Int64 × rS) :=
  obind (fJ_cmp v11 (v9 >>> (Int32.toInt64 1 &&& 63)) σ) fun r1 σ2 =>
  obind (f2_goesUp v3 v6 r1 s0 σ2) fun r3 σ4 =>
  if r3 = true then (
    obind (f2_withSign v0 ((v4 - v11) + v9) v6 σ4) fun r7 σ8 =>
    some (r7, σ8)) else
  obind (f2_withSign v0 ((v4 - v11) + 0) v6 σ4) fun r5 σ6 =>
  some (r5, σ6)
noncomputable def B2_rounded_18 (v0 : Int32) (v1 : Int64) (v3 : Int32) (v4 : Int64) (s0 : Bool) (σ : rS) : Option (Int64 × rS) :=
  obind (f2_fractionBits v0 σ) fun r1 σ2 =>
  obind (f2_bias v0 σ2) fun r3 σ4 =>
  olet ((Int64.toInt32 (v4 >>> (Int32.toInt64 r1 &&& 63))) - r3) fun x5 =>
  if v4 = 0 then (
    some (v1, σ4)) else
  obind (f2_fractionBits v0 σ4) fun r6 σ7 =>
  if x5 < r6 then (
    if 0 ≤ x5 then (
      obind (f2_fractionBits v0 σ7) fun r8 σ9 =>
      olet (r8 - x5) fun x10 =>
      olet (1 <<< (Int32.toInt64 x10 &&& 63)) fun x11 =>
      olet (v4 &&& (x11 - 1)) fun x12 =>
      if x12 = 0 then (
        some (v1, σ9)) else
      if (v4 &&& x11) = 0 then (
        B2_rounded_144  v0 v3 v4 s0 x11 x12 false σ9) else
      B2_rounded_144  v0 v3 v4 s0 x11 x12 true σ9) else
    obind (f2_halfOf v0 σ7) fun r13 σ14 =>
    obind (fJ_cmp v4 r13 σ14) fun r15 σ16 =>
    obind (f2_goesUp v3 s0 r15 false σ16) fun r17 σ18 =>
    if r17 = true then (
      obind (f2_oneOf v0 σ18) fun r21 σ22 =>
      obind (f2_withSign v0 r21 s0 σ22) fun r23 σ24 =>
      some (r23, σ24)) else
    obind (f2_withSign v0 0 s0 σ18) fun r19 σ20 =>
    some (r19, σ20)) else
  some (v1, σ7)
noncomputable def f2_rounded (v0 : Int32) (v1 : Int64) (v3 : Int32) (σ : rS) : Option (Int64 × rS) :=
  obind (f2_sizeOf v0 v1 σ) fun r1 σ2 =>
  if 0 ≤ v1 then (
    B2_rounded_18  v0 v1 v3 r1 false σ2) else
  B2_rounded_18  v0 v1 v3 r1 true σ2
noncomputable def f2_signOf (v0 : Int32) (v1 : Int64) (σ : rS) : Option (Int64 × rS) :=
  obind (f2_sizeOf v0 v1 σ) fun r1 σ2 =>
  if r1 = 0 then (
    some (v1, σ2)) else
  obind (f2_oneOf v0 σ2) fun r3 σ4 =>
  if 0 ≤ v1 then (
    obind (f2_withSign v0 r3 false σ4) fun r5 σ6 =>
    some (r5, σ6)) else
  obind (f2_withSign v0 r3 true σ4) fun r7 σ8 =>
  some (r7, σ8)
noncomputable def f4_turned (v0 : Int32) (v1 : Int64) (σ : rS) : Option (Int64 × rS) :=
  if v0 = 0 then (
    some ((1 - v1), σ)) else
  obind (f4_areFloating v0 σ) fun r1 σ2 =>
  if r1 = true then (
    obind (f2_signBit v0 σ2) fun r5 σ6 =>
    some ((v1 ^^^ r5), σ6)) else
  obind (f4_told v0 (-v1) σ2) fun r3 σ4 =>
  some (r3, σ4)
noncomputable def f4_shaped (v0 : Int32) (v1 : Int64) (v3 : Int32) (σ : rS) : Option (Int64 × rS) :=
  obind (f4_isGap v0 v1 σ) fun r1 σ2 =>
  if r1 = true then (
    some (v1, σ2)) else
  if v3 = 0 then (
    if 0 ≤ v1 then (
      some (v1, σ2)) else
    obind (f4_turned v0 v1 σ2) fun r3 σ4 =>
    some (r3, σ4)) else
  if v3 = 4 then (
    obind (f2_signOf v0 v1 σ2) fun r5 σ6 =>
    some (r5, σ6)) else
  if v3 = 5 then (
    obind (f4_turned v0 v1 σ2) fun r7 σ8 =>
    some (r7, σ8)) else
  obind (f2_rounded v0 v1 v3 σ2) fun r9 σ10 =>
  some (r9, σ10)
