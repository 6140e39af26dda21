def ab_J13_signum_95d88 (x0 : Int64) (h : vt_S) : Option (Int32 × vt_S) :=
  some (Int64.toInt32 ((x0 >>> (Int32.toInt64 63 &&& 63)) ||| (UInt64.toInt64 (Int64.toUInt64 (-x0) >>> (Int64.toUInt64 (Int32.toInt64 63) &&& Int64.toUInt64 63)))), h)

def ab_J6_signum_0f7a4 (x0 : Int32) (h : vt_S) : Option (Int32 × vt_S) :=
  some ((x0 >>> (31 &&& 31)) ||| (UInt32.toInt32 (Int32.toUInt32 (-x0) >>> (Int32.toUInt32 31 &&& Int32.toUInt32 31))), h)

def ab_J9_floorDiv_7cf53_21 (x2 : Int32) (h : vt_S) : Option (Int32 × vt_S) :=
  some (x2, h)

def ab_J9_floorDiv_7cf53 (x0 : Int32) (x1 : Int32) (h : vt_S) : Option (Int32 × vt_S) :=
  if x1 = 0 then none else
  if 0 ≤ (x0 ^^^ x1) then
    ab_J9_floorDiv_7cf53_21 (x0 / x1) h
  else
    if ((x0 / x1) * x1) = x0 then
      ab_J9_floorDiv_7cf53_21 (x0 / x1) h
    else
      some ((x0 / x1) - 1, h)

def ab_J9_floorDiv_f86c9_27 (x4 : Int64) (h : vt_S) : Option (Int64 × vt_S) :=
  some (x4, h)

def ab_J9_floorDiv_f86c9 (x0 : Int64) (x2 : Int64) (h : vt_S) : Option (Int64 × vt_S) :=
  if x2 = 0 then none else
  if 0 ≤ (lg_cmp (x0 ^^^ x2) 0) then
    ab_J9_floorDiv_f86c9_27 (x0 / x2) h
  else
    if (lg_cmp ((x0 / x2) * x2) x0) = 0 then
      ab_J9_floorDiv_f86c9_27 (x0 / x2) h
    else
      some ((x0 / x2) - 1, h)

def ab_J9_floorMod_7cf53_18 (x2 : Int32) (h : vt_S) : Option (Int32 × vt_S) :=
  some (x2, h)

def ab_J9_floorMod_7cf53 (x0 : Int32) (x1 : Int32) (h : vt_S) : Option (Int32 × vt_S) :=
  if x1 = 0 then none else
  if 0 ≤ (x0 ^^^ x1) then
    ab_J9_floorMod_7cf53_18 (x0 - x0 / x1 * x1) h
  else
    if (x0 - x0 / x1 * x1) = 0 then
      ab_J9_floorMod_7cf53_18 (x0 - x0 / x1 * x1) h
    else
      some ((x0 - x0 / x1 * x1) + x1, h)

def ab_J9_multiplyHigh_f86c9 (x0 : Int64) (x2 : Int64) (h : vt_S) : Option (Int64 × vt_S) :=
  some ((((x0 >>> (Int32.toInt64 32 &&& 63)) * (x2 >>> (Int32.toInt64 32 &&& 63))) + ((((x0 >>> (Int32.toInt64 32 &&& 63)) * (x2 &&& 4294967295)) + (UInt64.toInt64 (Int64.toUInt64 ((x0 &&& 4294967295) * (x2 &&& 4294967295)) >>> (Int64.toUInt64 (Int32.toInt64 32) &&& Int64.toUInt64 63)))) >>> (Int32.toInt64 32 &&& 63))) + ((((((x0 >>> (Int32.toInt64 32 &&& 63)) * (x2 &&& 4294967295)) + (UInt64.toInt64 (Int64.toUInt64 ((x0 &&& 4294967295) * (x2 &&& 4294967295)) >>> (Int64.toUInt64 (Int32.toInt64 32) &&& Int64.toUInt64 63)))) &&& 4294967295) + ((x0 &&& 4294967295) * (x2 >>> (Int32.toInt64 32 &&& 63)))) >>> (Int32.toInt64 32 &&& 63)), h)

def ab_X0_makeRoom_50 (h : vt_S) : Option (Unit × vt_S) :=
  some ((), h)

def ab_X0_makeRoom_29 (x0 : Nat) (x2 : Int32) (h : vt_S) : Option (Unit × vt_S) :=
  sv_let (Int32.ofNat (vt_L h 100 x0)) fun v2 =>
  if x2 ≤ v2 then
    ab_X0_makeRoom_50 h
  else
    (vg_I h 100 x0 x2).bind fun h6 =>
    ab_X0_makeRoom_50 h6

def ab_X0_makeRoom_8b (k8 : Nat → Int32 → Int32 → Int32 → vt_S → Option (Unit × vt_S)) (x0 : Nat) (x1 : Int32) (x2 : Int32) (x3 : Int32) (h : vt_S) : Option (Unit × vt_S) :=
  if 16 ≤ x3 then
    ab_X0_makeRoom_29 x0 x2 h
  else
    if x1 ≤ x2 then
      ab_X0_makeRoom_29 x0 x2 h
    else
      k8 x0 x1 (x2 * 2) (x3 + 1) h

def ab_X0_makeRoom_8 : Nat → Nat → Int32 → Int32 → Int32 → vt_S → Option (Unit × vt_S)
  | 0, _, _, _, _, _ => none
  | sv_n + 1, x0, x1, x2, x3, h => ab_X0_makeRoom_8b (ab_X0_makeRoom_8 sv_n) x0 x1 x2 x3 h

def ab_X0_makeRoom (x0 : Nat) (x1 : Int32) (h : vt_S) : Option (Unit × vt_S) :=
  sv_let (Int32.ofNat (vt_L h 100 x0)) fun v2 =>
  ab_X0_makeRoom_8 sv_fuel x0 x1 v2 0 h

def ab_X0_put_44 (h : vt_S) : Option (Unit × vt_S) :=
  some ((), h)

def ab_X0_put (x0 : Nat) (x1 : Int32) (h : vt_S) : Option (Unit × vt_S) :=
  sv_let (vt_I h 101 x0) fun v1 =>
  if 8192 ≤ v1 then
    ab_X0_put_44 h
  else
    sv_let (vt_I h 101 x0) fun v2 =>
    vt_b (ab_X0_makeRoom x0 (v2 + 1) h) fun _ h3 =>
    sv_let (vt_I h3 101 x0) fun v5 =>
    (vs_I h3 100 x0 v5 (x1 &&& 255)).bind fun h6 =>
    sv_let (vt_I h6 101 x0) fun v7 =>
    sv_let (vu_I h6 101 x0 (v7 + 1)) fun h8 =>
    ab_X0_put_44 h8

def ab_X12_giveBytes_26 (h : vt_S) : Option (Int32 × vt_S) :=
  some (0, h)

def ab_X12_giveBytes_33b (k33 : Nat → Int64 → Int32 → vt_S → Option (Int32 × vt_S)) (x0 : Nat) (x1 : Int64) (x4 : Int32) (h : vt_S) : Option (Int32 × vt_S) :=
  if x4 < 0 then
    some (1, h)
  else
    sv_let (vt_P h 1300 x0) fun v1 =>
    vt_b (ab_X0_put v1 ((Int64.toInt32 (UInt64.toInt64 (Int64.toUInt64 x1 >>> (Int64.toUInt64 (Int32.toInt64 (8 * x4)) &&& Int64.toUInt64 63)))) &&& 255) h) fun _ h2 =>
    k33 x0 x1 (x4 + (-1)) h2

def ab_X12_giveBytes_33 : Nat → Nat → Int64 → Int32 → vt_S → Option (Int32 × vt_S)
  | 0, _, _, _, _ => none
  | sv_n + 1, x0, x1, x4, h => ab_X12_giveBytes_33b (ab_X12_giveBytes_33 sv_n) x0 x1 x4 h

def ab_X12_giveBytes (x0 : Nat) (x1 : Int64) (x3 : Int32) (h : vt_S) : Option (Int32 × vt_S) :=
  if x3 < 1 then
    ab_X12_giveBytes_26 h
  else
    if 8 < x3 then
      ab_X12_giveBytes_26 h
    else
      sv_let (vt_P h 1300 x0) fun v1 =>
      sv_let (vt_I h 101 v1) fun v2 =>
      if (v2 + x3) ≤ 8192 then
        ab_X12_giveBytes_33 sv_fuel x0 x1 (x3 - 1) h
      else
        ab_X12_giveBytes_26 h

def ab_X17_giveBytes_31 (h : vt_S) : Option (Int32 × vt_S) :=
  some (0, h)

def ab_X17_giveBytes_38b (k38 : Nat → Int64 → Int32 → vt_S → Option (Int32 × vt_S)) (x0 : Nat) (x1 : Int64) (x4 : Int32) (h : vt_S) : Option (Int32 × vt_S) :=
  if x4 < 0 then
    some (1, h)
  else
    sv_let (vt_P h 1801 x0) fun v1 =>
    sv_let (vt_P h 1801 x0) fun v3 =>
    sv_let (vt_I h 1501 v3) fun v4 =>
    (vs_I h 1500 v1 v4 (vp_nar .byte (Int8.toInt32 (Int32.toInt8 (Int64.toInt32 (x1 >>> (Int32.toInt64 (8 * x4) &&& 63))))))).bind fun h5 =>
    sv_let (vt_P h5 1801 x0) fun v6 =>
    sv_let (vt_I h5 1501 v6) fun v7 =>
    sv_let (vu_I h5 1501 v6 (v7 + 1)) fun h8 =>
    k38 x0 x1 (x4 + (-1)) h8

def ab_X17_giveBytes_38 : Nat → Nat → Int64 → Int32 → vt_S → Option (Int32 × vt_S)
  | 0, _, _, _, _ => none
  | sv_n + 1, x0, x1, x4, h => ab_X17_giveBytes_38b (ab_X17_giveBytes_38 sv_n) x0 x1 x4 h

def ab_X17_giveBytes (x0 : Nat) (x1 : Int64) (x3 : Int32) (h : vt_S) : Option (Int32 × vt_S) :=
  sv_let (vu_I h 1800 x0 0) fun h1 =>
  if x3 < 1 then
    ab_X17_giveBytes_31 h1
  else
    if 8 < x3 then
      ab_X17_giveBytes_31 h1
    else
      sv_let (vt_P h1 1801 x0) fun v2 =>
      sv_let (vt_I h1 1501 v2) fun v3 =>
      if (v3 + x3) ≤ 8192 then
        ab_X17_giveBytes_38 sv_fuel x0 x1 (x3 - 1) h1
      else
        ab_X17_giveBytes_31 h1

def ab_X12_cutBytes_15 (h : vt_S) : Option (Int32 × vt_S) :=
  some (0, h)

def ab_X12_cutBytes (x0 : Nat) (x1 : Int32) (h : vt_S) : Option (Int32 × vt_S) :=
  if x1 < 0 then
    ab_X12_cutBytes_15 h
  else
    sv_let (vt_P h 1300 x0) fun v1 =>
    sv_let (vt_I h 101 v1) fun v2 =>
    if x1 ≤ v2 then
      sv_let (vt_P h 1300 x0) fun v3 =>
      sv_let (vu_I h 101 v3 x1) fun h4 =>
      some (1, h4)
    else
      ab_X12_cutBytes_15 h

def ab_X17_cutBytes_20 (h : vt_S) : Option (Int32 × vt_S) :=
  some (0, h)

def ab_X17_cutBytes (x0 : Nat) (x1 : Int32) (h : vt_S) : Option (Int32 × vt_S) :=
  sv_let (vu_I h 1800 x0 0) fun h1 =>
  if x1 < 0 then
    ab_X17_cutBytes_20 h1
  else
    sv_let (vt_P h1 1801 x0) fun v2 =>
    sv_let (vt_I h1 1501 v2) fun v3 =>
    if x1 ≤ v3 then
      sv_let (vt_P h1 1801 x0) fun v4 =>
      sv_let (vu_I h1 1501 v4 x1) fun h5 =>
      some (1, h5)
    else
      ab_X17_cutBytes_20 h1

def ab_X12_pokeByte_15 (h : vt_S) : Option (Int32 × vt_S) :=
  some (0, h)

def ab_X12_pokeByte (x0 : Nat) (x1 : Int32) (x2 : Int32) (h : vt_S) : Option (Int32 × vt_S) :=
  if x1 < 0 then
    ab_X12_pokeByte_15 h
  else
    sv_let (vt_P h 1300 x0) fun v1 =>
    sv_let (vt_I h 101 v1) fun v2 =>
    if x1 < v2 then
      sv_let (vt_P h 1300 x0) fun v3 =>
      (vs_I h 100 v3 x1 (x2 &&& 255)).bind fun h5 =>
      some (1, h5)
    else
      ab_X12_pokeByte_15 h

def ab_X17_pokeByte_20 (h : vt_S) : Option (Int32 × vt_S) :=
  some (0, h)

def ab_X17_pokeByte (x0 : Nat) (x1 : Int32) (x2 : Int32) (h : vt_S) : Option (Int32 × vt_S) :=
  sv_let (vu_I h 1800 x0 0) fun h1 =>
  if x1 < 0 then
    ab_X17_pokeByte_20 h1
  else
    sv_let (vt_P h1 1801 x0) fun v2 =>
    sv_let (vt_I h1 1501 v2) fun v3 =>
    if x1 < v3 then
      sv_let (vt_P h1 1801 x0) fun v4 =>
      (vs_I h1 1500 v4 x1 (vp_nar .byte (Int8.toInt32 (Int32.toInt8 x2)))).bind fun h6 =>
      some (1, h6)
    else
      ab_X17_pokeByte_20 h1

def ab_X4_begin (x0 : Nat) (h : vt_S) : Option (Unit × vt_S) :=
  sv_let (vu_I h 501 x0 0) fun h1 =>
  sv_let (vu_I h1 502 x0 0) fun h2 =>
  sv_let (vu_I h2 503 x0 ((-1))) fun h3 =>
  some ((), h3)

def ab_X4_blame_17 (h : vt_S) : Option (Unit × vt_S) :=
  some ((), h)

def ab_X4_blame (x0 : Nat) (x1 : Int32) (x2 : Int32) (h : vt_S) : Option (Unit × vt_S) :=
  sv_let (vt_I h 502 x0) fun v1 =>
  if v1 = 0 then
    sv_let (vu_I h 502 x0 x1) fun h2 =>
    sv_let (vu_I h2 503 x0 x2) fun h3 =>
    ab_X4_blame_17 h3
  else
    ab_X4_blame_17 h

def ab_X4_one (x0 : Nat) (h : vt_S) : Option (Int32 × vt_S) :=
  sv_let (vt_I h 502 x0) fun v1 =>
  if v1 = 0 then
    sv_let (vt_I h 501 x0) fun v2 =>
    sv_let (vt_P h 500 x0) fun v3 =>
    sv_let (vt_I h 101 v3) fun v4 =>
    if v2 < v4 then
      sv_let (vt_P h 500 x0) fun v5 =>
      sv_let (vt_I h 501 x0) fun v7 =>
      (vl_I h 100 v5 v7).bind fun v8 =>
      sv_let (vt_I h 501 x0) fun v9 =>
      sv_let (vu_I h 501 x0 (v9 + 1)) fun h10 =>
      some (v8, h10)
    else
      sv_let (vt_P h 500 x0) fun v11 =>
      sv_let (vt_I h 101 v11) fun v12 =>
      vt_b (ab_X4_blame x0 1 v12 h) fun _ h13 =>
      some (0, h13)
  else
    some (0, h)

def ab_X4_expect_19 (h : vt_S) : Option (Unit × vt_S) :=
  some ((), h)

def ab_X4_expect (x0 : Nat) (x1 : Int32) (x2 : Int32) (h : vt_S) : Option (Unit × vt_S) :=
  sv_let (vt_I h 501 x0) fun v1 =>
  vt_b (ab_X4_one x0 h) fun r2 h3 =>
  if r2 = x1 then
    ab_X4_expect_19 h3
  else
    vt_b (ab_X4_blame x0 x2 v1 h3) fun _ h4 =>
    ab_X4_expect_19 h4

def ab_X4_bounded_29 (s0 : Int32) (h : vt_S) : Option (Int32 × vt_S) :=
  some (s0, h)

def ab_X4_bounded_17 (x0 : Nat) (x1 : Int32) (x2 : Int32) (h : vt_S) : Option (Int32 × vt_S) :=
  sv_let (vt_I h 502 x0) fun v1 =>
  if v1 = 0 then
    ab_X4_bounded_29 x1 h
  else
    ab_X4_bounded_29 x2 h

def ab_X4_bounded_10 (x0 : Nat) (x1 : Int32) (x2 : Int32) (x4 : Int32) (h : vt_S) : Option (Int32 × vt_S) :=
  vt_b (ab_X4_blame x0 3 x4 h) fun _ h1 =>
  ab_X4_bounded_17 x0 x1 x2 h1

def ab_X4_bounded (x0 : Nat) (x1 : Int32) (x2 : Int32) (x3 : Int32) (x4 : Int32) (h : vt_S) : Option (Int32 × vt_S) :=
  if x1 < x2 then
    ab_X4_bounded_10 x0 x1 x2 x4 h
  else
    if x1 ≤ x3 then
      ab_X4_bounded_17 x0 x1 x2 h
    else
      ab_X4_bounded_10 x0 x1 x2 x4 h

def ab_X4_within (x0 : Nat) (x1 : Int32) (x2 : Int32) (h : vt_S) : Option (Int32 × vt_S) :=
  sv_let (vt_I h 501 x0) fun v1 =>
  vt_b (ab_X4_one x0 h) fun r2 h3 =>
  vt_b (ab_X4_bounded x0 r2 x1 x2 v1 h3) fun r4 h5 =>
  some (r4, h5)

def ab_X4_well_12 (s0 : Int32) (h : vt_S) : Option (Int32 × vt_S) :=
  vt_rz s0 h

def ab_X4_well (x0 : Nat) (h : vt_S) : Option (Int32 × vt_S) :=
  sv_let (vt_I h 502 x0) fun v1 =>
  if v1 = 0 then
    ab_X4_well_12 1 h
  else
    ab_X4_well_12 0 h

def ab_X4_pair (x0 : Nat) (h : vt_S) : Option (Int32 × vt_S) :=
  vt_b (ab_X4_one x0 h) fun r1 h2 =>
  vt_b (ab_X4_one x0 h2) fun r3 h4 =>
  some (Int16.toInt32 (Int32.toInt16 ((256 * r1) + r3)), h4)

def ab_X2_readVertex_56 (k20 : Nat → Nat → Int32 → Int32 → Int32 → Int32 → Int32 → vt_S → Option (Unit × vt_S)) (x0 : Nat) (x1 : Nat) (x2 : Int32) (x3 : Int32) (x4 : Int32) (x5 : Int32) (x6 : Int32) (h : vt_S) : Option (Unit × vt_S) :=
  k20 x0 x1 x2 x3 x4 x5 (x6 + 1) h

def ab_X2_readVertex_20b (k20 : Nat → Nat → Int32 → Int32 → Int32 → Int32 → Int32 → vt_S → Option (Unit × vt_S)) (x0 : Nat) (x1 : Nat) (x2 : Int32) (x3 : Int32) (x4 : Int32) (x5 : Int32) (x6 : Int32) (h : vt_S) : Option (Unit × vt_S) :=
  if x2 ≤ x6 then
    (vs_I h 302 x0 x2 x3).bind fun h2 =>
    (vs_I h2 303 x0 x2 x5).bind fun h4 =>
    some ((), h4)
  else
    (vl_I h 302 x0 x6).bind fun v6 =>
    if v6 = x3 then
      (vl_I h 303 x0 x6).bind fun v8 =>
      if v8 = x5 then
        vt_b (ab_X4_blame x1 3 x4 h) fun _ h9 =>
        ab_X2_readVertex_56 k20 x0 x1 x2 x3 x4 x5 x6 h9
      else
        ab_X2_readVertex_56 k20 x0 x1 x2 x3 x4 x5 x6 h
    else
      ab_X2_readVertex_56 k20 x0 x1 x2 x3 x4 x5 x6 h

def ab_X2_readVertex_20 : Nat → Nat → Nat → Int32 → Int32 → Int32 → Int32 → Int32 → vt_S → Option (Unit × vt_S)
  | 0, _, _, _, _, _, _, _, _ => none
  | sv_n + 1, x0, x1, x2, x3, x4, x5, x6, h => ab_X2_readVertex_20b (ab_X2_readVertex_20 sv_n) x0 x1 x2 x3 x4 x5 x6 h

def ab_X2_readVertex (x0 : Nat) (x1 : Nat) (x2 : Int32) (h : vt_S) : Option (Unit × vt_S) :=
  vt_b (ab_X4_pair x1 h) fun r1 h2 =>
  sv_let (vt_I h2 501 x1) fun v3 =>
  vt_b (ab_X4_pair x1 h2) fun r4 h5 =>
  ab_X2_readVertex_20 sv_fuel x0 x1 x2 r1 v3 r4 0 h5

def ab_X2_readTexture_78 (h : vt_S) : Option (Unit × vt_S) :=
  some ((), h)

def ab_X2_readTexture_40b (k40 : Nat → Nat → Int32 → Int32 → vt_S → Option (Unit × vt_S)) (x0 : Nat) (x1 : Nat) (x2 : Int32) (x3 : Int32) (h : vt_S) : Option (Unit × vt_S) :=
  (vl_I h 304 x0 x2).bind fun v2 =>
  (vl_I h 305 x0 x2).bind fun v4 =>
  if (v2 * v4) ≤ x3 then
    ab_X2_readTexture_78 h
  else
    vt_b (ab_X4_well x1 h) fun r5 h6 =>
    if r5 = 0 then
      ab_X2_readTexture_78 h6
    else
      vt_b (ab_X4_within x1 0 15 h6) fun r7 h8 =>
      k40 x0 x1 x2 (x3 + 1) h8

def ab_X2_readTexture_40 : Nat → Nat → Nat → Int32 → Int32 → vt_S → Option (Unit × vt_S)
  | 0, _, _, _, _, _ => none
  | sv_n + 1, x0, x1, x2, x3, h => ab_X2_readTexture_40b (ab_X2_readTexture_40 sv_n) x0 x1 x2 x3 h

def ab_X2_readTexture (x0 : Nat) (x1 : Nat) (x2 : Int32) (h : vt_S) : Option (Unit × vt_S) :=
  vt_b (ab_X4_within x1 0 4 h) fun r2 h3 =>
  (vs_I h3 304 x0 x2 ((1 : Int32) <<< (r2 &&& 31))).bind fun h4 =>
  vt_b (ab_X4_within x1 0 4 h4) fun r6 h7 =>
  (vs_I h7 305 x0 x2 ((1 : Int32) <<< (r6 &&& 31))).bind fun h8 =>
  sv_let (vt_I h8 501 x1) fun v10 =>
  (vs_I h8 306 x0 x2 v10).bind fun h11 =>
  ab_X2_readTexture_40 sv_fuel x0 x1 x2 0 h11

def ab_X4_pairWithin (x0 : Nat) (x1 : Int32) (x2 : Int32) (h : vt_S) : Option (Int32 × vt_S) :=
  sv_let (vt_I h 501 x0) fun v1 =>
  vt_b (ab_X4_pair x0 h) fun r2 h3 =>
  vt_b (ab_X4_bounded x0 r2 x1 x2 v1 h3) fun r4 h5 =>
  some (r4, h5)

def ab_X4_numberOrNone (x0 : Nat) (x1 : Int32) (h : vt_S) : Option (Int32 × vt_S) :=
  sv_let (vt_I h 501 x0) fun v1 =>
  vt_b (ab_X4_one x0 h) fun r2 h3 =>
  if r2 = 255 then
    some ((-1), h3)
  else
    vt_b (ab_X4_bounded x0 r2 0 (x1 - 1) v1 h3) fun r4 h5 =>
    some (r4, h5)

def ab_X2_readSector_50 (x0 : Nat) (x1 : Nat) (x2 : Nat) (h : vt_S) : Option (Unit × vt_S) :=
  sv_let (vt_I h 310 x0) fun v1 =>
  vt_b (ab_X4_within x1 0 (v1 - 1) h) fun r2 h3 =>
  sv_let (vu_I h3 702 x2 r2) fun h4 =>
  sv_let (vt_I h4 310 x0) fun v5 =>
  vt_b (ab_X4_numberOrNone x1 v5 h4) fun r6 h7 =>
  sv_let (vu_I h7 703 x2 r6) fun h8 =>
  vt_b (ab_X4_within x1 0 15 h8) fun r9 h10 =>
  sv_let (vu_I h10 704 x2 r9) fun h11 =>
  vt_b (ab_X4_within x1 0 3 h11) fun r12 h13 =>
  sv_let (vu_I h13 705 x2 r12) fun h14 =>
  vt_b (ab_X4_one x1 h14) fun r15 h16 =>
  sv_let (vu_I h16 706 x2 r15) fun h17 =>
  some ((), h17)

def ab_X2_readSector (x0 : Nat) (x1 : Nat) (x2 : Nat) (h : vt_S) : Option (Unit × vt_S) :=
  vt_b (ab_X4_pairWithin x1 ((-1024)) 1024 h) fun r1 h2 =>
  sv_let (vu_I h2 700 x2 r1) fun h3 =>
  sv_let (vt_I h3 501 x1) fun v4 =>
  vt_b (ab_X4_pairWithin x1 ((-1024)) 1024 h3) fun r5 h6 =>
  sv_let (vu_I h6 701 x2 r5) fun h7 =>
  sv_let (vt_I h7 701 x2) fun v8 =>
  sv_let (vt_I h7 700 x2) fun v9 =>
  if v9 < v8 then
    ab_X2_readSector_50 x0 x1 x2 h7
  else
    vt_b (ab_X4_blame x1 3 v4 h7) fun _ h10 =>
    ab_X2_readSector_50 x0 x1 x2 h10

def ab_X2_readWall_164 (k116 : Nat → Nat → Nat → Int32 → vt_S → Option (Unit × vt_S)) (x0 : Nat) (x1 : Nat) (x2 : Nat) (x6 : Int32) (s0 : Nat) (s1 : Int32) (s2 : Nat) (s3 : Int32) (h : vt_S) : Option (Unit × vt_S) :=
  vt_b (ab_X4_numberOrNone s2 s3 h) fun r1 h2 =>
  (vs_I h2 1211 s0 s1 r1).bind fun h3 =>
  k116 x0 x1 x2 (x6 + 1) h3

def ab_X2_readWall_142 (k116 : Nat → Nat → Nat → Int32 → vt_S → Option (Unit × vt_S)) (x0 : Nat) (x1 : Nat) (x2 : Nat) (x6 : Int32) (s0 : Int32) (h : vt_S) : Option (Unit × vt_S) :=
  if s0 = 0 then
    ab_X2_readWall_164 k116 x0 x1 x2 x6 x2 x6 x1 0 h
  else
    sv_let (vt_I h 310 x0) fun v2 =>
    ab_X2_readWall_164 k116 x0 x1 x2 x6 x2 x6 x1 v2 h

def ab_X2_readWall_137 (k116 : Nat → Nat → Nat → Int32 → vt_S → Option (Unit × vt_S)) (x0 : Nat) (x1 : Nat) (x2 : Nat) (x6 : Int32) (h : vt_S) : Option (Unit × vt_S) :=
  ab_X2_readWall_142 k116 x0 x1 x2 x6 1 h

def ab_X2_readWall_116b (k116 : Nat → Nat → Nat → Int32 → vt_S → Option (Unit × vt_S)) (x0 : Nat) (x1 : Nat) (x2 : Nat) (x6 : Int32) (h : vt_S) : Option (Unit × vt_S) :=
  if 6 ≤ x6 then
    vt_b (ab_X4_one x1 h) fun r1 h2 =>
    sv_let (vu_I h2 1206 x2 (r1 >>> (4 &&& 31))) fun h3 =>
    sv_let (vu_I h3 1207 x2 (r1 &&& 15)) fun h4 =>
    vt_b (ab_X4_within x1 0 3 h4) fun r5 h6 =>
    sv_let (vu_I h6 1208 x2 r5) fun h7 =>
    vt_b (ab_X4_within x1 0 5 h7) fun r8 h9 =>
    sv_let (vu_I h9 1209 x2 r8) fun h10 =>
    vt_b (ab_X4_one x1 h10) fun r11 h12 =>
    sv_let (vu_I h12 1210 x2 r11) fun h13 =>
    some ((), h13)
  else
    if x6 < 3 then
      ab_X2_readWall_137 k116 x0 x1 x2 x6 h
    else
      sv_let (vt_I h 1205 x2) fun v14 =>
      if v14 = ((-1)) then
        ab_X2_readWall_142 k116 x0 x1 x2 x6 0 h
      else
        ab_X2_readWall_137 k116 x0 x1 x2 x6 h

def ab_X2_readWall_116 : Nat → Nat → Nat → Nat → Int32 → vt_S → Option (Unit × vt_S)
  | 0, _, _, _, _, _ => none
  | sv_n + 1, x0, x1, x2, x6, h => ab_X2_readWall_116b (ab_X2_readWall_116 sv_n) x0 x1 x2 x6 h

def ab_X2_readWall_44 (x0 : Nat) (x1 : Nat) (x2 : Nat) (x3 : Int32) (x5 : Int32) (h : vt_S) : Option (Unit × vt_S) :=
  (vl_I h 302 x0 x3).bind fun v2 =>
  sv_let (vu_I h 1200 x2 v2) fun h3 =>
  (vl_I h3 303 x0 x3).bind fun v5 =>
  sv_let (vu_I h3 1201 x2 v5) fun h6 =>
  (vl_I h6 302 x0 x5).bind fun v8 =>
  sv_let (vu_I h6 1202 x2 v8) fun h9 =>
  (vl_I h9 303 x0 x5).bind fun v11 =>
  sv_let (vu_I h9 1203 x2 v11) fun h12 =>
  sv_let (vt_I h12 311 x0) fun v13 =>
  vt_b (ab_X4_within x1 0 (v13 - 1) h12) fun r14 h15 =>
  sv_let (vu_I h15 1204 x2 r14) fun h16 =>
  sv_let (vt_I h16 311 x0) fun v17 =>
  vt_b (ab_X4_numberOrNone x1 v17 h16) fun r18 h19 =>
  sv_let (vu_I h19 1205 x2 r18) fun h20 =>
  ab_X2_readWall_116 sv_fuel x0 x1 x2 0 h20

def ab_X2_readWall (x0 : Nat) (x1 : Nat) (x2 : Nat) (h : vt_S) : Option (Unit × vt_S) :=
  sv_let (vt_I h 309 x0) fun v1 =>
  vt_b (ab_X4_within x1 0 (v1 - 1) h) fun r2 h3 =>
  sv_let (vt_I h3 501 x1) fun v4 =>
  sv_let (vt_I h3 309 x0) fun v5 =>
  vt_b (ab_X4_within x1 0 (v5 - 1) h3) fun r6 h7 =>
  if r2 = r6 then
    vt_b (ab_X4_blame x1 3 v4 h7) fun _ h8 =>
    ab_X2_readWall_44 x0 x1 x2 r2 r6 h8
  else
    ab_X2_readWall_44 x0 x1 x2 r2 r6 h7

def ab_X4_readStart (x0 : Nat) (x1 : Nat) (x2 : Int32) (h : vt_S) : Option (Unit × vt_S) :=
  vt_b (ab_X4_pair x0 h) fun r1 h2 =>
  sv_let (vu_I h2 800 x1 r1) fun h3 =>
  vt_b (ab_X4_pair x0 h3) fun r4 h5 =>
  sv_let (vu_I h5 801 x1 r4) fun h6 =>
  vt_b (ab_X4_within x0 0 63 h6) fun r7 h8 =>
  sv_let (vu_I h8 802 x1 r7) fun h9 =>
  vt_b (ab_X4_within x0 0 (x2 - 1) h9) fun r10 h11 =>
  sv_let (vu_I h11 803 x1 r10) fun h12 =>
  some ((), h12)

def ab_X2_readCheck_7b (k7 : Nat → Int32 → Int32 → Int32 → vt_S → Option (Unit × vt_S)) (x1 : Nat) (x2 : Int32) (x3 : Int32) (x4 : Int32) (h : vt_S) : Option (Unit × vt_S) :=
  sv_let (vt_I h 501 x1) fun v1 =>
  if v1 ≤ x4 then
    vt_b (ab_X4_expect x1 x2 4 h) fun _ h2 =>
    vt_b (ab_X4_expect x1 x3 4 h2) fun _ h3 =>
    some ((), h3)
  else
    sv_let (vt_P h 500 x1) fun v4 =>
    (vl_I h 100 v4 x4).bind fun v6 =>
    k7 x1 ((x2 + v6) - (x2 + v6) / 251 * 251) ((x3 + ((x2 + v6) - (x2 + v6) / 251 * 251)) - (x3 + ((x2 + v6) - (x2 + v6) / 251 * 251)) / 251 * 251) (x4 + 1) h

def ab_X2_readCheck_7 : Nat → Nat → Int32 → Int32 → Int32 → vt_S → Option (Unit × vt_S)
  | 0, _, _, _, _, _ => none
  | sv_n + 1, x1, x2, x3, x4, h => ab_X2_readCheck_7b (ab_X2_readCheck_7 sv_n) x1 x2 x3 x4 h

def ab_X2_readCheck (x0 : Nat) (x1 : Nat) (h : vt_S) : Option (Unit × vt_S) :=
  ab_X2_readCheck_7 sv_fuel x1 0 0 0 h

def ab_X4_expectEnd_23 (h : vt_S) : Option (Unit × vt_S) :=
  some ((), h)

def ab_X4_expectEnd (x0 : Nat) (x1 : Int32) (h : vt_S) : Option (Unit × vt_S) :=
  sv_let (vt_I h 501 x0) fun v1 =>
  sv_let (vt_P h 500 x0) fun v2 =>
  sv_let (vt_I h 101 v2) fun v3 =>
  if v3 ≤ v1 then
    ab_X4_expectEnd_23 h
  else
    sv_let (vt_I h 501 x0) fun v4 =>
    vt_b (ab_X4_blame x0 x1 v4 h) fun _ h5 =>
    ab_X4_expectEnd_23 h5

def ab_X12_cross (x0 : Int64) (x2 : Int64) (x4 : Int64) (x6 : Int64) (h : vt_S) : Option (Int64 × vt_S) :=
  some ((x0 * x6) - (x2 * x4), h)

def ab_X11_goesAlong_53 (s0 : Int32) (h : vt_S) : Option (Int32 × vt_S) :=
  vt_rz s0 h

def ab_X11_goesAlong_52 (h : vt_S) : Option (Int32 × vt_S) :=
  ab_X11_goesAlong_53 0 h

def ab_X11_goesAlong (x0 : Int64) (x2 : Int64) (x4 : Int64) (x6 : Int64) (x8 : Int64) (x10 : Int64) (h : vt_S) : Option (Int32 × vt_S) :=
  vt_b (ab_X12_cross (x4 - x0) (x6 - x2) (x8 - x0) (x10 - x2) h) fun r1 h2 =>
  if (lg_cmp r1 0) = 0 then
    if (lg_cmp (((x4 - x0) * (x8 - x0)) + ((x6 - x2) * (x10 - x2))) 0) ≤ 0 then
      ab_X11_goesAlong_52 h2
    else
      ab_X11_goesAlong_53 1 h2
  else
    ab_X11_goesAlong_52 h2

def ab_X11_reachesBox_66 (s0 : Int32) (h : vt_S) : Option (Int32 × vt_S) :=
  vt_rz s0 h

def ab_X11_reachesBox_65 (h : vt_S) : Option (Int32 × vt_S) :=
  ab_X11_reachesBox_66 0 h

def ab_X11_reachesBox (x0 : Nat) (x1 : Int32) (x2 : Int32) (x3 : Int32) (x4 : Int32) (h : vt_S) : Option (Int32 × vt_S) :=
  sv_let (vt_I h 1200 x0) fun v1 =>
  sv_let (vt_I h 1202 x0) fun v2 =>
  sv_let (sv_min v1 v2) fun r3 =>
  if x3 < r3 then
    ab_X11_reachesBox_65 h
  else
    sv_let (vt_I h 1200 x0) fun v4 =>
    sv_let (vt_I h 1202 x0) fun v5 =>
    sv_let (sv_max v4 v5) fun r6 =>
    if r6 < x1 then
      ab_X11_reachesBox_65 h
    else
      sv_let (vt_I h 1201 x0) fun v7 =>
      sv_let (vt_I h 1203 x0) fun v8 =>
      sv_let (sv_min v7 v8) fun r9 =>
      if x4 < r9 then
        ab_X11_reachesBox_65 h
      else
        sv_let (vt_I h 1201 x0) fun v10 =>
        sv_let (vt_I h 1203 x0) fun v11 =>
        sv_let (sv_max v10 v11) fun r12 =>
        if r12 < x2 then
          ab_X11_reachesBox_65 h
        else
          ab_X11_reachesBox_66 1 h

def ab_X11_sideOf (x0 : Nat) (x1 : Int32) (x2 : Int32) (h : vt_S) : Option (Int64 × vt_S) :=
  sv_let (vt_I h 1202 x0) fun v1 =>
  sv_let (vt_I h 1200 x0) fun v2 =>
  sv_let (vt_I h 1201 x0) fun v3 =>
  sv_let (vt_I h 1203 x0) fun v4 =>
  sv_let (vt_I h 1201 x0) fun v5 =>
  sv_let (vt_I h 1200 x0) fun v6 =>
  some (((Int32.toInt64 (v1 - v2)) * (Int32.toInt64 (x2 - v3))) - ((Int32.toInt64 (v4 - v5)) * (Int32.toInt64 (x1 - v6))), h)

def ab_X11_lineParts_39 (s0 : Int32) (h : vt_S) : Option (Int32 × vt_S) :=
  vt_rz s0 h

def ab_X11_lineParts (x0 : Nat) (x1 : Nat) (h : vt_S) : Option (Int32 × vt_S) :=
  sv_let (vt_I h 1200 x1) fun v1 =>
  sv_let (vt_I h 1201 x1) fun v2 =>
  vt_b (ab_X11_sideOf x0 v1 v2 h) fun r3 h4 =>
  vt_b (ab_J13_signum_95d88 r3 h4) fun r5 h6 =>
  sv_let (vt_I h6 1202 x1) fun v7 =>
  sv_let (vt_I h6 1203 x1) fun v8 =>
  vt_b (ab_X11_sideOf x0 v7 v8 h6) fun r9 h10 =>
  vt_b (ab_J13_signum_95d88 r9 h10) fun r11 h12 =>
  if 0 < (r5 * r11) then
    ab_X11_lineParts_39 0 h12
  else
    ab_X11_lineParts_39 1 h12

def ab_X11_touches_72 (s0 : Int32) (h : vt_S) : Option (Int32 × vt_S) :=
  vt_rz s0 h

def ab_X11_touches_71 (h : vt_S) : Option (Int32 × vt_S) :=
  ab_X11_touches_72 0 h

def ab_X11_touches (x0 : Nat) (x1 : Nat) (h : vt_S) : Option (Int32 × vt_S) :=
  sv_let (vt_I h 1200 x1) fun v1 =>
  sv_let (vt_I h 1202 x1) fun v2 =>
  sv_let (sv_min v1 v2) fun r3 =>
  sv_let (vt_I h 1201 x1) fun v4 =>
  sv_let (vt_I h 1203 x1) fun v5 =>
  sv_let (sv_min v4 v5) fun r6 =>
  sv_let (vt_I h 1200 x1) fun v7 =>
  sv_let (vt_I h 1202 x1) fun v8 =>
  sv_let (sv_max v7 v8) fun r9 =>
  sv_let (vt_I h 1201 x1) fun v10 =>
  sv_let (vt_I h 1203 x1) fun v11 =>
  sv_let (sv_max v10 v11) fun r12 =>
  vt_b (ab_X11_reachesBox x0 r3 r6 r9 r12 h) fun r13 h14 =>
  if r13 = 0 then
    ab_X11_touches_71 h14
  else
    vt_b (ab_X11_lineParts x0 x1 h14) fun r15 h16 =>
    if r15 = 0 then
      ab_X11_touches_71 h16
    else
      vt_b (ab_X11_lineParts x1 x0 h16) fun r17 h18 =>
      if r17 = 0 then
        ab_X11_touches_71 h18
      else
        ab_X11_touches_72 1 h18

def ab_X11_overlaps_224 (x0 : Nat) (x1 : Nat) (h : vt_S) : Option (Int32 × vt_S) :=
  vt_b (ab_X11_touches x0 x1 h) fun r1 h2 =>
  vt_rz r1 h2

def ab_X11_overlaps_168 (x0 : Nat) (x1 : Nat) (h : vt_S) : Option (Int32 × vt_S) :=
  sv_let (vt_I h 1202 x0) fun v1 =>
  sv_let (vt_I h 1202 x1) fun v2 =>
  if v1 = v2 then
    sv_let (vt_I h 1203 x0) fun v3 =>
    sv_let (vt_I h 1203 x1) fun v4 =>
    if v3 = v4 then
      sv_let (vt_I h 1202 x0) fun v5 =>
      sv_let (vt_I h 1203 x0) fun v6 =>
      sv_let (vt_I h 1200 x0) fun v7 =>
      sv_let (vt_I h 1201 x0) fun v8 =>
      sv_let (vt_I h 1200 x1) fun v9 =>
      sv_let (vt_I h 1201 x1) fun v10 =>
      vt_b (ab_X11_goesAlong (Int32.toInt64 v5) (Int32.toInt64 v6) (Int32.toInt64 v7) (Int32.toInt64 v8) (Int32.toInt64 v9) (Int32.toInt64 v10) h) fun r11 h12 =>
      vt_rz r11 h12
    else
      ab_X11_overlaps_224 x0 x1 h
  else
    ab_X11_overlaps_224 x0 x1 h

def ab_X11_overlaps_112 (x0 : Nat) (x1 : Nat) (h : vt_S) : Option (Int32 × vt_S) :=
  sv_let (vt_I h 1202 x0) fun v1 =>
  sv_let (vt_I h 1200 x1) fun v2 =>
  if v1 = v2 then
    sv_let (vt_I h 1203 x0) fun v3 =>
    sv_let (vt_I h 1201 x1) fun v4 =>
    if v3 = v4 then
      sv_let (vt_I h 1202 x0) fun v5 =>
      sv_let (vt_I h 1203 x0) fun v6 =>
      sv_let (vt_I h 1200 x0) fun v7 =>
      sv_let (vt_I h 1201 x0) fun v8 =>
      sv_let (vt_I h 1202 x1) fun v9 =>
      sv_let (vt_I h 1203 x1) fun v10 =>
      vt_b (ab_X11_goesAlong (Int32.toInt64 v5) (Int32.toInt64 v6) (Int32.toInt64 v7) (Int32.toInt64 v8) (Int32.toInt64 v9) (Int32.toInt64 v10) h) fun r11 h12 =>
      vt_rz r11 h12
    else
      ab_X11_overlaps_168 x0 x1 h
  else
    ab_X11_overlaps_168 x0 x1 h

def ab_X11_overlaps_56 (x0 : Nat) (x1 : Nat) (h : vt_S) : Option (Int32 × vt_S) :=
  sv_let (vt_I h 1200 x0) fun v1 =>
  sv_let (vt_I h 1202 x1) fun v2 =>
  if v1 = v2 then
    sv_let (vt_I h 1201 x0) fun v3 =>
    sv_let (vt_I h 1203 x1) fun v4 =>
    if v3 = v4 then
      sv_let (vt_I h 1200 x0) fun v5 =>
      sv_let (vt_I h 1201 x0) fun v6 =>
      sv_let (vt_I h 1202 x0) fun v7 =>
      sv_let (vt_I h 1203 x0) fun v8 =>
      sv_let (vt_I h 1200 x1) fun v9 =>
      sv_let (vt_I h 1201 x1) fun v10 =>
      vt_b (ab_X11_goesAlong (Int32.toInt64 v5) (Int32.toInt64 v6) (Int32.toInt64 v7) (Int32.toInt64 v8) (Int32.toInt64 v9) (Int32.toInt64 v10) h) fun r11 h12 =>
      vt_rz r11 h12
    else
      ab_X11_overlaps_112 x0 x1 h
  else
    ab_X11_overlaps_112 x0 x1 h

def ab_X11_overlaps (x0 : Nat) (x1 : Nat) (h : vt_S) : Option (Int32 × vt_S) :=
  sv_let (vt_I h 1200 x0) fun v1 =>
  sv_let (vt_I h 1200 x1) fun v2 =>
  if v1 = v2 then
    sv_let (vt_I h 1201 x0) fun v3 =>
    sv_let (vt_I h 1201 x1) fun v4 =>
    if v3 = v4 then
      sv_let (vt_I h 1200 x0) fun v5 =>
      sv_let (vt_I h 1201 x0) fun v6 =>
      sv_let (vt_I h 1202 x0) fun v7 =>
      sv_let (vt_I h 1203 x0) fun v8 =>
      sv_let (vt_I h 1202 x1) fun v9 =>
      sv_let (vt_I h 1203 x1) fun v10 =>
      vt_b (ab_X11_goesAlong (Int32.toInt64 v5) (Int32.toInt64 v6) (Int32.toInt64 v7) (Int32.toInt64 v8) (Int32.toInt64 v9) (Int32.toInt64 v10) h) fun r11 h12 =>
      vt_rz r11 h12
    else
      ab_X11_overlaps_56 x0 x1 h
  else
    ab_X11_overlaps_56 x0 x1 h

def ab_X2_findOverlap_76 (h : vt_S) : Option (Unit × vt_S) :=
  some ((), h)

def ab_X2_findOverlap_70 (k2 : Nat → Nat → Int32 → Int32 → vt_S → Option (Unit × vt_S)) (x0 : Nat) (x1 : Nat) (x2 : Int32) (x3 : Int32) (h : vt_S) : Option (Unit × vt_S) :=
  k2 x0 x1 x2 (x3 + 1) h

def ab_X2_findOverlap_64 (k2 : Nat → Nat → Int32 → Int32 → vt_S → Option (Unit × vt_S)) (k20 : Nat → Nat → Int32 → Int32 → Int32 → vt_S → Option (Unit × vt_S)) (x0 : Nat) (x1 : Nat) (x2 : Int32) (x3 : Int32) (x4 : Int32) (h : vt_S) : Option (Unit × vt_S) :=
  k20 x0 x1 x2 x3 (x4 + 1) h

def ab_X2_findOverlap_20b (k2 : Nat → Nat → Int32 → Int32 → vt_S → Option (Unit × vt_S)) (k20 : Nat → Nat → Int32 → Int32 → Int32 → vt_S → Option (Unit × vt_S)) (x0 : Nat) (x1 : Nat) (x2 : Int32) (x3 : Int32) (x4 : Int32) (h : vt_S) : Option (Unit × vt_S) :=
  if x3 ≤ x4 then
    ab_X2_findOverlap_70 k2 x0 x1 x2 x3 h
  else
    vt_b (ab_X4_well x1 h) fun r1 h2 =>
    if r1 = 0 then
      ab_X2_findOverlap_70 k2 x0 x1 x2 x3 h2
    else
      (vl_P h2 308 x0 x3).bind fun v4 =>
      (vl_P h2 308 x0 x4).bind fun v6 =>
      vt_b (ab_X11_overlaps v4 v6 h2) fun r7 h8 =>
      if r7 = 0 then
        ab_X2_findOverlap_64 k2 k20 x0 x1 x2 x3 x4 h8
      else
        vt_b (ab_X4_blame x1 6 (x2 + (14 * x3)) h8) fun _ h9 =>
        ab_X2_findOverlap_64 k2 k20 x0 x1 x2 x3 x4 h9

def ab_X2_findOverlap_20 (k2 : Nat → Nat → Int32 → Int32 → vt_S → Option (Unit × vt_S)) : Nat → Nat → Nat → Int32 → Int32 → Int32 → vt_S → Option (Unit × vt_S)
  | 0, _, _, _, _, _, _ => none
  | sv_n + 1, x0, x1, x2, x3, x4, h => ab_X2_findOverlap_20b k2 (ab_X2_findOverlap_20 k2 sv_n) x0 x1 x2 x3 x4 h

def ab_X2_findOverlap_2b (k2 : Nat → Nat → Int32 → Int32 → vt_S → Option (Unit × vt_S)) (x0 : Nat) (x1 : Nat) (x2 : Int32) (x3 : Int32) (h : vt_S) : Option (Unit × vt_S) :=
  sv_let (vt_I h 312 x0) fun v1 =>
  if v1 ≤ x3 then
    ab_X2_findOverlap_76 h
  else
    vt_b (ab_X4_well x1 h) fun r2 h3 =>
    if r2 = 0 then
      ab_X2_findOverlap_76 h3
    else
      ab_X2_findOverlap_20 k2 sv_fuel x0 x1 x2 x3 0 h3

def ab_X2_findOverlap_2 : Nat → Nat → Nat → Int32 → Int32 → vt_S → Option (Unit × vt_S)
  | 0, _, _, _, _, _ => none
  | sv_n + 1, x0, x1, x2, x3, h => ab_X2_findOverlap_2b (ab_X2_findOverlap_2 sv_n) x0 x1 x2 x3 h

def ab_X2_findOverlap (x0 : Nat) (x1 : Nat) (x2 : Int32) (h : vt_S) : Option (Unit × vt_S) :=
  ab_X2_findOverlap_2 sv_fuel x0 x1 x2 1 h

def ab_X2_read_197 (x0 : Nat) (x1 : Nat) (x2 : Int32) (h : vt_S) : Option (Unit × vt_S) :=
  sv_let (vt_P h 301 x0) fun v1 =>
  sv_let (vt_I h 311 x0) fun v2 =>
  vt_b (ab_X4_readStart x1 v1 v2 h) fun _ h3 =>
  vt_b (ab_X2_readCheck x0 x1 h3) fun _ h4 =>
  vt_b (ab_X4_expectEnd x1 5 h4) fun _ h5 =>
  vt_b (ab_X2_findOverlap x0 x1 x2 h5) fun _ h6 =>
  some ((), h6)

def ab_X2_read_165b (k165 : Nat → Nat → Int32 → Int32 → vt_S → Option (Unit × vt_S)) (x0 : Nat) (x1 : Nat) (x2 : Int32) (x3 : Int32) (h : vt_S) : Option (Unit × vt_S) :=
  sv_let (vt_I h 312 x0) fun v1 =>
  if v1 ≤ x3 then
    ab_X2_read_197 x0 x1 x2 h
  else
    vt_b (ab_X4_well x1 h) fun r2 h3 =>
    if r2 = 0 then
      ab_X2_read_197 x0 x1 x2 h3
    else
      (vl_P h3 308 x0 x3).bind fun v5 =>
      vt_b (ab_X2_readWall x0 x1 v5 h3) fun _ h6 =>
      k165 x0 x1 x2 (x3 + 1) h6

def ab_X2_read_165 : Nat → Nat → Nat → Int32 → Int32 → vt_S → Option (Unit × vt_S)
  | 0, _, _, _, _, _ => none
  | sv_n + 1, x0, x1, x2, x3, h => ab_X2_read_165b (ab_X2_read_165 sv_n) x0 x1 x2 x3 h

def ab_X2_read_158 (x0 : Nat) (x1 : Nat) (h : vt_S) : Option (Unit × vt_S) :=
  sv_let (vt_I h 501 x1) fun v1 =>
  ab_X2_read_165 sv_fuel x0 x1 v1 0 h

def ab_X2_read_126b (k126 : Nat → Nat → Int32 → vt_S → Option (Unit × vt_S)) (x0 : Nat) (x1 : Nat) (x2 : Int32) (h : vt_S) : Option (Unit × vt_S) :=
  sv_let (vt_I h 311 x0) fun v1 =>
  if v1 ≤ x2 then
    ab_X2_read_158 x0 x1 h
  else
    vt_b (ab_X4_well x1 h) fun r2 h3 =>
    if r2 = 0 then
      ab_X2_read_158 x0 x1 h3
    else
      (vl_P h3 307 x0 x2).bind fun v5 =>
      vt_b (ab_X2_readSector x0 x1 v5 h3) fun _ h6 =>
      k126 x0 x1 (x2 + 1) h6

def ab_X2_read_126 : Nat → Nat → Nat → Int32 → vt_S → Option (Unit × vt_S)
  | 0, _, _, _, _ => none
  | sv_n + 1, x0, x1, x2, h => ab_X2_read_126b (ab_X2_read_126 sv_n) x0 x1 x2 h

def ab_X2_read_124 (x0 : Nat) (x1 : Nat) (h : vt_S) : Option (Unit × vt_S) :=
  ab_X2_read_126 sv_fuel x0 x1 0 h

def ab_X2_read_97b (k97 : Nat → Nat → Int32 → vt_S → Option (Unit × vt_S)) (x0 : Nat) (x1 : Nat) (x2 : Int32) (h : vt_S) : Option (Unit × vt_S) :=
  sv_let (vt_I h 310 x0) fun v1 =>
  if v1 ≤ x2 then
    ab_X2_read_124 x0 x1 h
  else
    vt_b (ab_X4_well x1 h) fun r2 h3 =>
    if r2 = 0 then
      ab_X2_read_124 x0 x1 h3
    else
      vt_b (ab_X2_readTexture x0 x1 x2 h3) fun _ h4 =>
      k97 x0 x1 (x2 + 1) h4

def ab_X2_read_97 : Nat → Nat → Nat → Int32 → vt_S → Option (Unit × vt_S)
  | 0, _, _, _, _ => none
  | sv_n + 1, x0, x1, x2, h => ab_X2_read_97b (ab_X2_read_97 sv_n) x0 x1 x2 h

def ab_X2_read_95 (x0 : Nat) (x1 : Nat) (h : vt_S) : Option (Unit × vt_S) :=
  ab_X2_read_97 sv_fuel x0 x1 0 h

def ab_X2_read_68b (k68 : Nat → Nat → Int32 → vt_S → Option (Unit × vt_S)) (x0 : Nat) (x1 : Nat) (x2 : Int32) (h : vt_S) : Option (Unit × vt_S) :=
  sv_let (vt_I h 309 x0) fun v1 =>
  if v1 ≤ x2 then
    ab_X2_read_95 x0 x1 h
  else
    vt_b (ab_X4_well x1 h) fun r2 h3 =>
    if r2 = 0 then
      ab_X2_read_95 x0 x1 h3
    else
      vt_b (ab_X2_readVertex x0 x1 x2 h3) fun _ h4 =>
      k68 x0 x1 (x2 + 1) h4

def ab_X2_read_68 : Nat → Nat → Nat → Int32 → vt_S → Option (Unit × vt_S)
  | 0, _, _, _, _ => none
  | sv_n + 1, x0, x1, x2, h => ab_X2_read_68b (ab_X2_read_68 sv_n) x0 x1 x2 h

def ab_X2_read (x0 : Nat) (x1 : Nat) (h : vt_S) : Option (Unit × vt_S) :=
  vt_b (ab_X4_expect x1 77 2 h) fun _ h1 =>
  vt_b (ab_X4_expect x1 72 2 h1) fun _ h2 =>
  vt_b (ab_X4_expect x1 1 2 h2) fun _ h3 =>
  vt_b (ab_X4_within x1 0 128 h3) fun r4 h5 =>
  sv_let (vu_I h5 309 x0 r4) fun h6 =>
  vt_b (ab_X4_within x1 0 16 h6) fun r7 h8 =>
  sv_let (vu_I h8 310 x0 r7) fun h9 =>
  vt_b (ab_X4_within x1 1 32 h9) fun r10 h11 =>
  sv_let (vu_I h11 311 x0 r10) fun h12 =>
  vt_b (ab_X4_within x1 0 128 h12) fun r13 h14 =>
  sv_let (vu_I h14 312 x0 r13) fun h15 =>
  ab_X2_read_68 sv_fuel x0 x1 0 h15

def ab_X12_swapPlans (x0 : Nat) (h : vt_S) : Option (Unit × vt_S) :=
  sv_let (vt_P h 1306 x0) fun v1 =>
  sv_let (vt_P h 1307 x0) fun v2 =>
  sv_let (vu_P h 1306 x0 v2) fun h3 =>
  sv_let (vu_P h3 1307 x0 v1) fun h4 =>
  some ((), h4)

def ab_X0_become (x0 : Nat) (x1 : Nat) (h : vt_S) : Option (Unit × vt_S) :=
  sv_let (vt_I h 101 x1) fun v1 =>
  vt_b (ab_X0_makeRoom x0 v1 h) fun _ h2 =>
  sv_let (vt_I h2 101 x1) fun v5 =>
  (vc_I h2 100 x1 0 100 x0 0 v5).bind fun h6 =>
  sv_let (vt_I h6 101 x1) fun v7 =>
  sv_let (vu_I h6 101 x0 v7) fun h8 =>
  some ((), h8)

def ab_X1_makeRoom (x0 : Nat) (x1 : Int32) (h : vt_S) : Option (Unit × vt_S) :=
  (vg_I h 200 x0 x1).bind fun h4 =>
  (vg_I h4 201 x0 x1).bind fun h8 =>
  (vg_J h8 202 x0 x1).bind fun h12 =>
  (vg_J h12 203 x0 x1).bind fun h16 =>
  (vg_J h16 204 x0 x1).bind fun h20 =>
  (vg_J h20 205 x0 x1).bind fun h24 =>
  some ((), h24)

def ab_X1_add_22 (x0 : Nat) (x1 : Int32) (h : vt_S) : Option (Int32 × vt_S) :=
  sv_let (vt_I h 206 x0) fun v1 =>
  (vs_I h 200 x0 v1 x1).bind fun h3 =>
  (vs_I h3 201 x0 v1 ((-1))).bind fun h5 =>
  (vs_J h5 202 x0 v1 0).bind fun h7 =>
  (vs_J h7 203 x0 v1 1).bind fun h9 =>
  (vs_J h9 204 x0 v1 1).bind fun h11 =>
  (vs_J h11 205 x0 v1 1).bind fun h13 =>
  sv_let (vt_I h13 206 x0) fun v14 =>
  sv_let (vu_I h13 206 x0 (v14 + 1)) fun h15 =>
  some (v1, h15)

def ab_X1_add (x0 : Nat) (x1 : Int32) (h : vt_S) : Option (Int32 × vt_S) :=
  sv_let (vt_I h 206 x0) fun v1 =>
  sv_let (Int32.ofNat (vt_L h 200 x0)) fun v3 =>
  if v1 = v3 then
    sv_let (vt_I h 206 x0) fun v4 =>
    vt_b (ab_X1_makeRoom x0 (2 * v4) h) fun _ h5 =>
    ab_X1_add_22 x0 x1 h5
  else
    ab_X1_add_22 x0 x1 h

def ab_X1_chainWhole_53 (s0 : Int32) (h : vt_S) : Option (Int32 × vt_S) :=
  some (s0, h)

def ab_X1_chainWhole_37 (k7 : Nat → Int32 → Int32 → vt_S → Option (Int32 × vt_S)) (x0 : Nat) (x1 : Int32) (x2 : Int32) (s0 : Nat) (s1 : Int32) (s2 : Int32) (h : vt_S) : Option (Int32 × vt_S) :=
  (vs_I h 201 s0 s1 s2).bind fun h1 =>
  k7 x0 x1 (x2 + 1) h1

def ab_X1_chainWhole_7b (k7 : Nat → Int32 → Int32 → vt_S → Option (Int32 × vt_S)) (x0 : Nat) (x1 : Int32) (x2 : Int32) (h : vt_S) : Option (Int32 × vt_S) :=
  if x1 ≤ x2 then
    if x1 ≤ 0 then
      ab_X1_chainWhole_53 ((-1)) h
    else
      ab_X1_chainWhole_53 0 h
  else
    vt_b (ab_X1_add x0 x2 h) fun r1 h2 =>
    if x1 ≤ (x2 + 1) then
      ab_X1_chainWhole_37 k7 x0 x1 x2 x0 r1 ((-1)) h2
    else
      ab_X1_chainWhole_37 k7 x0 x1 x2 x0 r1 (r1 + 1) h2

def ab_X1_chainWhole_7 : Nat → Nat → Int32 → Int32 → vt_S → Option (Int32 × vt_S)
  | 0, _, _, _, _ => none
  | sv_n + 1, x0, x1, x2, h => ab_X1_chainWhole_7b (ab_X1_chainWhole_7 sv_n) x0 x1 x2 h

def ab_X1_chainWhole (x0 : Nat) (x1 : Int32) (h : vt_S) : Option (Int32 × vt_S) :=
  sv_let (vu_I h 206 x0 0) fun h1 =>
  ab_X1_chainWhole_7 sv_fuel x0 x1 0 h1

def ab_X8_open_50 (h : vt_S) : Option (Unit × vt_S) :=
  some ((), h)

def ab_X8_open (x0 : Nat) (x1 : Int32) (x2 : Int32) (x3 : Int32) (h : vt_S) : Option (Unit × vt_S) :=
  sv_let (vt_I h 910 x0) fun v1 =>
  if 130 ≤ v1 then
    ab_X8_open_50 h
  else
    sv_let (vt_I h 910 x0) fun v3 =>
    (vs_I h 907 x0 v3 x1).bind fun h4 =>
    sv_let (vt_I h4 910 x0) fun v6 =>
    (vs_I h4 908 x0 v6 x2).bind fun h7 =>
    sv_let (vt_I h7 910 x0) fun v9 =>
    (vs_I h7 909 x0 v9 (vp_nar .boolean x3)).bind fun h10 =>
    sv_let (vt_I h10 910 x0) fun v11 =>
    sv_let (vu_I h10 910 x0 (v11 + 1)) fun h12 =>
    ab_X8_open_50 h12

def ab_X8_hang_27 (h : vt_S) : Option (Unit × vt_S) :=
  some ((), h)

def ab_X8_hang (x0 : Nat) (x1 : Int32) (x2 : Int32) (x3 : Int32) (h : vt_S) : Option (Unit × vt_S) :=
  if x2 = ((-1)) then
    some ((), h)
  else
    if x3 = 0 then
      (vs_I h 903 x0 x2 x1).bind fun h2 =>
      ab_X8_hang_27 h2
    else
      (vs_I h 902 x0 x2 x1).bind fun h4 =>
      ab_X8_hang_27 h4

def ab_X12_compareQuotients_160 (h : vt_S) : Option (Int32 × vt_S) :=
  some (0, h)

def ab_X12_compareQuotients_137 (s0 : Int32) (h : vt_S) : Option (Int32 × vt_S) :=
  some (s0, h)

def ab_X12_compareQuotients_125 (x21 : Int64) (h : vt_S) : Option (Int32 × vt_S) :=
  if (lg_cmp x21 0) = 0 then
    ab_X12_compareQuotients_137 ((-1)) h
  else
    ab_X12_compareQuotients_137 1 h

def ab_X12_compareQuotients_111 (k17 : Int64 → Int64 → Int64 → Int64 → Int32 → vt_S → Option (Int32 × vt_S)) (x10 : Int64) (x14 : Int64) (x16 : Int32) (x21 : Int64) (x23 : Int64) (h : vt_S) : Option (Int32 × vt_S) :=
  if (lg_cmp x21 0) = 0 then
    ab_X12_compareQuotients_125 x21 h
  else
    if (lg_cmp x23 0) = 0 then
      ab_X12_compareQuotients_125 x21 h
    else
      k17 x14 x23 x10 x21 (x16 + 1) h

def ab_X12_compareQuotients_74 (s0 : Int32) (h : vt_S) : Option (Int32 × vt_S) :=
  some (s0, h)

def ab_X12_compareQuotients_17b (k17 : Int64 → Int64 → Int64 → Int64 → Int32 → vt_S → Option (Int32 × vt_S)) (x8 : Int64) (x10 : Int64) (x12 : Int64) (x14 : Int64) (x16 : Int32) (h : vt_S) : Option (Int32 × vt_S) :=
  if 200 ≤ x16 then
    ab_X12_compareQuotients_160 h
  else
    if (lg_cmp x10 0) ≤ 0 then
      ab_X12_compareQuotients_160 h
    else
      if (lg_cmp x14 0) ≤ 0 then
        ab_X12_compareQuotients_160 h
      else
        if x10 = 0 then none else
        if x14 = 0 then none else
        if (lg_cmp (x8 / x10) (x12 / x14)) = 0 then
          if (lg_cmp (x8 - ((x8 / x10) * x10)) 0) = 0 then
            if (lg_cmp (x12 - ((x12 / x14) * x14)) 0) = 0 then
              some (0, h)
            else
              ab_X12_compareQuotients_111 k17 x10 x14 x16 (x8 - ((x8 / x10) * x10)) (x12 - ((x12 / x14) * x14)) h
          else
            ab_X12_compareQuotients_111 k17 x10 x14 x16 (x8 - ((x8 / x10) * x10)) (x12 - ((x12 / x14) * x14)) h
        else
          if 0 ≤ (lg_cmp (x8 / x10) (x12 / x14)) then
            ab_X12_compareQuotients_74 1 h
          else
            ab_X12_compareQuotients_74 ((-1)) h

def ab_X12_compareQuotients_17 : Nat → Int64 → Int64 → Int64 → Int64 → Int32 → vt_S → Option (Int32 × vt_S)
  | 0, _, _, _, _, _, _ => none
  | sv_n + 1, x8, x10, x12, x14, x16, h => ab_X12_compareQuotients_17b (ab_X12_compareQuotients_17 sv_n) x8 x10 x12 x14 x16 h

def ab_X12_compareQuotients (x0 : Int64) (x2 : Int64) (x4 : Int64) (x6 : Int64) (h : vt_S) : Option (Int32 × vt_S) :=
  ab_X12_compareQuotients_17 sv_fuel x0 x2 x4 x6 0 h

def ab_X1_sideAt_85 (s0 : Int32) (h : vt_S) : Option (Int32 × vt_S) :=
  some (s0, h)

def ab_X1_sideAt_82 (s0 : Int64) (h : vt_S) : Option (Int32 × vt_S) :=
  vt_b (ab_J13_signum_95d88 s0 h) fun r1 h2 =>
  ab_X1_sideAt_85 r1 h2

def ab_X1_sideAt (x0 : Int64) (x2 : Int64) (x4 : Int64) (x6 : Int64) (h : vt_S) : Option (Int32 × vt_S) :=
  if (lg_cmp x4 0) = 0 then
    vt_b (ab_J13_signum_95d88 x0 h) fun r13 h14 =>
    some (r13, h14)
  else
    if (lg_cmp x4 x6) = 0 then
      vt_b (ab_J13_signum_95d88 x2 h) fun r11 h12 =>
      some (r11, h12)
    else
      vt_b (ab_J13_signum_95d88 x0 h) fun r1 h2 =>
      vt_b (ab_J13_signum_95d88 x2 h2) fun r3 h4 =>
      if (r1 * r3) < 0 then
        sv_let (sv_absl x0) fun r5 =>
        sv_let (sv_absl (x0 - x2)) fun r6 =>
        vt_b (ab_X12_compareQuotients x4 x6 r5 r6 h4) fun r7 h8 =>
        if r7 = 0 then
          ab_X1_sideAt_85 0 h8
        else
          if 0 ≤ r7 then
            ab_X1_sideAt_82 x2 h8
          else
            ab_X1_sideAt_82 x0 h8
      else
        vt_b (ab_J13_signum_95d88 (x0 + x2) h4) fun r9 h10 =>
        some (r9, h10)

def ab_X1_lieOf_107 (s0 : Int32) (h : vt_S) : Option (Int32 × vt_S) :=
  some (s0, h)

def ab_X1_lieOf (x0 : Nat) (x1 : Nat) (x2 : Int32) (x3 : Nat) (h : vt_S) : Option (Int32 × vt_S) :=
  (vl_I h 200 x0 x2).bind fun v3 =>
  (vl_P h 308 x1 v3).bind fun v4 =>
  sv_let (vt_I h 1200 v4) fun v5 =>
  sv_let (vt_I h 1201 v4) fun v6 =>
  vt_b (ab_X11_sideOf x3 v5 v6 h) fun r7 h8 =>
  sv_let (vt_I h8 1202 v4) fun v9 =>
  sv_let (vt_I h8 1203 v4) fun v10 =>
  vt_b (ab_X11_sideOf x3 v9 v10 h8) fun r11 h12 =>
  (vl_J h12 202 x0 x2).bind fun v14 =>
  (vl_J h12 203 x0 x2).bind fun v16 =>
  vt_b (ab_X1_sideAt r7 r11 v14 v16 h12) fun r17 h18 =>
  (vl_J h18 204 x0 x2).bind fun v20 =>
  (vl_J h18 205 x0 x2).bind fun v22 =>
  vt_b (ab_X1_sideAt r7 r11 v20 v22 h18) fun r23 h24 =>
  if 0 ≤ (r17 * r23) then
    vt_b (ab_J6_signum_0f7a4 (r17 + r23) h24) fun r25 h26 =>
    ab_X1_lieOf_107 r25 h26
  else
    ab_X1_lieOf_107 2 h24

def ab_X8_costOf_76 (x4 : Int32) (x5 : Int32) (h : vt_S) : Option (Int32 × vt_S) :=
  sv_let (sv_abs x5) fun r1 =>
  some ((4 * x4) + r1, h)

def ab_X8_costOf_58 (k12 : Nat → Nat → Nat → Int32 → Int32 → Int32 → Int32 → vt_S → Option (Int32 × vt_S)) (x0 : Nat) (x1 : Nat) (x3 : Nat) (x4 : Int32) (x5 : Int32) (x6 : Int32) (x7 : Int32) (h : vt_S) : Option (Int32 × vt_S) :=
  sv_let (vt_P h 900 x0) fun v1 =>
  (vl_I h 201 v1 x6).bind fun v3 =>
  k12 x0 x1 x3 x4 x5 v3 (x7 + 1) h

def ab_X8_costOf_12b (k12 : Nat → Nat → Nat → Int32 → Int32 → Int32 → Int32 → vt_S → Option (Int32 × vt_S)) (x0 : Nat) (x1 : Nat) (x3 : Nat) (x4 : Int32) (x5 : Int32) (x6 : Int32) (x7 : Int32) (h : vt_S) : Option (Int32 × vt_S) :=
  if 16384 ≤ x7 then
    ab_X8_costOf_76 x4 x5 h
  else
    if x6 = ((-1)) then
      ab_X8_costOf_76 x4 x5 h
    else
      sv_let (vt_P h 900 x0) fun v1 =>
      vt_b (ab_X1_lieOf v1 x1 x6 x3 h) fun r2 h3 =>
      if r2 = 2 then
        ab_X8_costOf_58 k12 x0 x1 x3 (x4 + 1) x5 x6 x7 h3
      else
        ab_X8_costOf_58 k12 x0 x1 x3 x4 (x5 + r2) x6 x7 h3

def ab_X8_costOf_12 : Nat → Nat → Nat → Nat → Int32 → Int32 → Int32 → Int32 → vt_S → Option (Int32 × vt_S)
  | 0, _, _, _, _, _, _, _, _ => none
  | sv_n + 1, x0, x1, x3, x4, x5, x6, x7, h => ab_X8_costOf_12b (ab_X8_costOf_12 sv_n) x0 x1 x3 x4 x5 x6 x7 h

def ab_X8_costOf (x0 : Nat) (x1 : Nat) (x2 : Int32) (x3 : Nat) (h : vt_S) : Option (Int32 × vt_S) :=
  ab_X8_costOf_12 sv_fuel x0 x1 x3 0 0 x2 0 h

def ab_X8_bestLine_96 (x3 : Int32) (h : vt_S) : Option (Int32 × vt_S) :=
  some (x3, h)

def ab_X8_bestLine_78 (k20 : Nat → Nat → Int32 → Int32 → Int32 → Int32 → Int32 → vt_S → Option (Int32 × vt_S)) (x0 : Nat) (x1 : Nat) (x2 : Int32) (x3 : Int32) (x4 : Int32) (x5 : Int32) (x6 : Int32) (h : vt_S) : Option (Int32 × vt_S) :=
  sv_let (vt_P h 900 x0) fun v1 =>
  (vl_I h 201 v1 x5).bind fun v3 =>
  k20 x0 x1 x2 x3 x4 v3 (x6 + 1) h

def ab_X8_bestLine_20b (k20 : Nat → Nat → Int32 → Int32 → Int32 → Int32 → Int32 → vt_S → Option (Int32 × vt_S)) (x0 : Nat) (x1 : Nat) (x2 : Int32) (x3 : Int32) (x4 : Int32) (x5 : Int32) (x6 : Int32) (h : vt_S) : Option (Int32 × vt_S) :=
  if 16 ≤ x6 then
    ab_X8_bestLine_96 x3 h
  else
    if x5 = ((-1)) then
      ab_X8_bestLine_96 x3 h
    else
      sv_let (vt_P h 900 x0) fun v2 =>
      (vl_I h 200 v2 x5).bind fun v4 =>
      (vl_P h 308 x1 v4).bind fun v5 =>
      vt_b (ab_X8_costOf x0 x1 x2 v5 h) fun r6 h7 =>
      if x4 ≤ r6 then
        ab_X8_bestLine_78 k20 x0 x1 x2 x3 x4 x5 x6 h7
      else
        sv_let (vt_P h7 900 x0) fun v8 =>
        (vl_I h7 200 v8 x5).bind fun v10 =>
        ab_X8_bestLine_78 k20 x0 x1 x2 v10 r6 x5 x6 h7

def ab_X8_bestLine_20 : Nat → Nat → Nat → Int32 → Int32 → Int32 → Int32 → Int32 → vt_S → Option (Int32 × vt_S)
  | 0, _, _, _, _, _, _, _, _ => none
  | sv_n + 1, x0, x1, x2, x3, x4, x5, x6, h => ab_X8_bestLine_20b (ab_X8_bestLine_20 sv_n) x0 x1 x2 x3 x4 x5 x6 h

def ab_X8_bestLine (x0 : Nat) (x1 : Nat) (x2 : Int32) (h : vt_S) : Option (Int32 × vt_S) :=
  sv_let (vt_P h 900 x0) fun v1 =>
  (vl_I h 200 v1 x2).bind fun v3 =>
  ab_X8_bestLine_20 sv_fuel x0 x1 x2 v3 81920 x2 0 h

def ab_X8_makeRoom (x0 : Nat) (x1 : Int32) (h : vt_S) : Option (Unit × vt_S) :=
  (vg_I h 901 x0 x1).bind fun h4 =>
  (vg_I h4 902 x0 x1).bind fun h8 =>
  (vg_I h8 903 x0 x1).bind fun h12 =>
  (vg_I h12 904 x0 x1).bind fun h16 =>
  (vg_I h16 905 x0 x1).bind fun h20 =>
  (vg_I h20 906 x0 x1).bind fun h24 =>
  some ((), h24)

def ab_X8_addNode_63 (x0 : Nat) (x3 : Int32) (s0 : Nat) (s1 : Int32) (s2 : Int32) (h : vt_S) : Option (Int32 × vt_S) :=
  (vs_I h 906 s0 s1 s2).bind fun h1 =>
  sv_let (vt_I h1 911 x0) fun v2 =>
  sv_let (vu_I h1 911 x0 (v2 + 1)) fun h3 =>
  some (x3, h3)

def ab_X8_addNode_22 (x0 : Nat) (x1 : Int32) (x2 : Int32) (h : vt_S) : Option (Int32 × vt_S) :=
  sv_let (vt_I h 911 x0) fun v1 =>
  (vs_I h 901 x0 v1 x1).bind fun h3 =>
  (vs_I h3 904 x0 v1 0).bind fun h5 =>
  if x2 = ((-1)) then
    ab_X8_addNode_63 x0 v1 x0 v1 0 h5
  else
    (vl_I h5 906 x0 x2).bind fun v8 =>
    ab_X8_addNode_63 x0 v1 x0 v1 (v8 + 1) h5

def ab_X8_addNode (x0 : Nat) (x1 : Int32) (x2 : Int32) (h : vt_S) : Option (Int32 × vt_S) :=
  sv_let (vt_I h 911 x0) fun v1 =>
  sv_let (Int32.ofNat (vt_L h 901 x0)) fun v3 =>
  if v1 = v3 then
    sv_let (vt_I h 911 x0) fun v4 =>
    vt_b (ab_X8_makeRoom x0 (2 * v4) h) fun _ h5 =>
    ab_X8_addNode_22 x0 x1 x2 h5
  else
    ab_X8_addNode_22 x0 x1 x2 h

def ab_X1_cut (x0 : Nat) (x1 : Nat) (x2 : Int32) (x3 : Nat) (h : vt_S) : Option (Int32 × vt_S) :=
  (vl_I h 200 x0 x2).bind fun v3 =>
  (vl_P h 308 x1 v3).bind fun v4 =>
  sv_let (vt_I h 1200 v4) fun v5 =>
  sv_let (vt_I h 1201 v4) fun v6 =>
  vt_b (ab_X11_sideOf x3 v5 v6 h) fun r7 h8 =>
  sv_let (vt_I h8 1202 v4) fun v9 =>
  sv_let (vt_I h8 1203 v4) fun v10 =>
  vt_b (ab_X11_sideOf x3 v9 v10 h8) fun r11 h12 =>
  (vl_I h12 200 x0 x2).bind fun v14 =>
  vt_b (ab_X1_add x0 v14 h12) fun r15 h16 =>
  sv_let (sv_absl r7) fun r18 =>
  (vs_J h16 202 x0 r15 r18).bind fun h19 =>
  sv_let (sv_absl (r7 - r11)) fun r21 =>
  (vs_J h19 203 x0 r15 r21).bind fun h22 =>
  (vl_J h22 204 x0 x2).bind fun v25 =>
  (vs_J h22 204 x0 r15 v25).bind fun h26 =>
  (vl_J h26 205 x0 x2).bind fun v29 =>
  (vs_J h26 205 x0 r15 v29).bind fun h30 =>
  (vl_J h30 202 x0 r15).bind fun v33 =>
  (vs_J h30 204 x0 x2 v33).bind fun h34 =>
  (vl_J h34 203 x0 r15).bind fun v37 =>
  (vs_J h34 205 x0 x2 v37).bind fun h38 =>
  some (r15, h38)

def ab_X8_append_86 (h : vt_S) : Option (Unit × vt_S) :=
  some ((), h)

def ab_X8_append_81 (x0 : Nat) (x1 : Int32) (h : vt_S) : Option (Unit × vt_S) :=
  sv_let (vu_I h 917 x0 x1) fun h1 =>
  ab_X8_append_86 h1

def ab_X8_append_44 (x0 : Nat) (x1 : Int32) (h : vt_S) : Option (Unit × vt_S) :=
  sv_let (vu_I h 915 x0 x1) fun h1 =>
  ab_X8_append_86 h1

def ab_X8_append (x0 : Nat) (x1 : Int32) (x2 : Int32) (h : vt_S) : Option (Unit × vt_S) :=
  sv_let (vt_P h 900 x0) fun v1 =>
  (vs_I h 201 v1 x1 ((-1))).bind fun h3 =>
  if x2 = 1 then
    sv_let (vt_I h3 914 x0) fun v10 =>
    if v10 = ((-1)) then
      sv_let (vu_I h3 914 x0 x1) fun h15 =>
      ab_X8_append_44 x0 x1 h15
    else
      sv_let (vt_P h3 900 x0) fun v11 =>
      sv_let (vt_I h3 915 x0) fun v13 =>
      (vs_I h3 201 v11 v13 x1).bind fun h14 =>
      ab_X8_append_44 x0 x1 h14
  else
    sv_let (vt_I h3 916 x0) fun v4 =>
    if v4 = ((-1)) then
      sv_let (vu_I h3 916 x0 x1) fun h9 =>
      ab_X8_append_81 x0 x1 h9
    else
      sv_let (vt_P h3 900 x0) fun v5 =>
      sv_let (vt_I h3 917 x0) fun v7 =>
      (vs_I h3 201 v5 v7 x1).bind fun h8 =>
      ab_X8_append_81 x0 x1 h8

def ab_X8_split_174 (h : vt_S) : Option (Unit × vt_S) :=
  some ((), h)

def ab_X8_split_164 (k29 : Nat → Nat → Int32 → Nat → Int32 → Int32 → vt_S → Option (Unit × vt_S)) (x0 : Nat) (x1 : Nat) (x3 : Int32) (x4 : Nat) (x6 : Int32) (x7 : Int32) (h : vt_S) : Option (Unit × vt_S) :=
  k29 x0 x1 x3 x4 x7 (x6 + 1) h

def ab_X8_split_29b (k29 : Nat → Nat → Int32 → Nat → Int32 → Int32 → vt_S → Option (Unit × vt_S)) (x0 : Nat) (x1 : Nat) (x3 : Int32) (x4 : Nat) (x5 : Int32) (x6 : Int32) (h : vt_S) : Option (Unit × vt_S) :=
  if 16384 ≤ x6 then
    ab_X8_split_174 h
  else
    if x5 = ((-1)) then
      ab_X8_split_174 h
    else
      sv_let (vt_P h 900 x0) fun v1 =>
      (vl_I h 201 v1 x5).bind fun v3 =>
      sv_let (vt_P h 900 x0) fun v4 =>
      vt_b (ab_X1_lieOf v4 x1 x5 x4 h) fun r5 h6 =>
      if r5 = 0 then
        (vl_I h6 904 x0 x3).bind fun v20 =>
        (vs_I h6 904 x0 x3 (v20 + 1)).bind fun h21 =>
        sv_let (vt_I h21 913 x0) fun v22 =>
        sv_let (vu_I h21 913 x0 (v22 + 1)) fun h23 =>
        ab_X8_split_164 k29 x0 x1 x3 x4 x6 v3 h23
      else
        if r5 = 2 then
          sv_let (vt_P h6 900 x0) fun v8 =>
          vt_b (ab_X1_cut v8 x1 x5 x4 h6) fun r9 h10 =>
          sv_let (vt_P h10 900 x0) fun v11 =>
          vt_b (ab_X1_lieOf v11 x1 x5 x4 h10) fun r12 h13 =>
          vt_b (ab_X8_append x0 x5 r12 h13) fun _ h14 =>
          sv_let (vt_P h14 900 x0) fun v15 =>
          vt_b (ab_X1_lieOf v15 x1 r9 x4 h14) fun r16 h17 =>
          vt_b (ab_X8_append x0 r9 r16 h17) fun _ h18 =>
          ab_X8_split_164 k29 x0 x1 x3 x4 x6 v3 h18
        else
          vt_b (ab_X8_append x0 x5 r5 h6) fun _ h7 =>
          ab_X8_split_164 k29 x0 x1 x3 x4 x6 v3 h7

def ab_X8_split_29 : Nat → Nat → Nat → Int32 → Nat → Int32 → Int32 → vt_S → Option (Unit × vt_S)
  | 0, _, _, _, _, _, _, _ => none
  | sv_n + 1, x0, x1, x3, x4, x5, x6, h => ab_X8_split_29b (ab_X8_split_29 sv_n) x0 x1 x3 x4 x5 x6 h

def ab_X8_split (x0 : Nat) (x1 : Nat) (x2 : Int32) (x3 : Int32) (h : vt_S) : Option (Unit × vt_S) :=
  sv_let (vu_I h 914 x0 ((-1))) fun h1 =>
  sv_let (vu_I h1 916 x0 ((-1))) fun h2 =>
  (vl_I h2 901 x0 x3).bind fun v5 =>
  (vl_P h2 308 x1 v5).bind fun v6 =>
  ab_X8_split_29 sv_fuel x0 x1 x3 v6 x2 0 h2

def ab_X8_sizeOf_14 (s0 : Int32) (h : vt_S) : Option (Int32 × vt_S) :=
  some (s0, h)

def ab_X8_sizeOf (x0 : Nat) (x1 : Int32) (h : vt_S) : Option (Int32 × vt_S) :=
  if 0 ≤ x1 then
    (vl_I h 905 x0 x1).bind fun v2 =>
    ab_X8_sizeOf_14 v2 h
  else
    ab_X8_sizeOf_14 0 h

def ab_X8_countSizes_7b (k7 : Nat → Int32 → vt_S → Option (Unit × vt_S)) (x0 : Nat) (x1 : Int32) (h : vt_S) : Option (Unit × vt_S) :=
  if x1 < 0 then
    some ((), h)
  else
    (vl_I h 902 x0 x1).bind fun v3 =>
    vt_b (ab_X8_sizeOf x0 v3 h) fun r4 h5 =>
    (vl_I h5 903 x0 x1).bind fun v7 =>
    vt_b (ab_X8_sizeOf x0 v7 h5) fun r8 h9 =>
    (vs_I h9 905 x0 x1 ((1 + r4) + r8)).bind fun h10 =>
    k7 x0 (x1 + (-1)) h10

def ab_X8_countSizes_7 : Nat → Nat → Int32 → vt_S → Option (Unit × vt_S)
  | 0, _, _, _ => none
  | sv_n + 1, x0, x1, h => ab_X8_countSizes_7b (ab_X8_countSizes_7 sv_n) x0 x1 h

def ab_X8_countSizes (x0 : Nat) (h : vt_S) : Option (Unit × vt_S) :=
  sv_let (vt_I h 911 x0) fun v1 =>
  ab_X8_countSizes_7 sv_fuel x0 (v1 - 1) h

def ab_X8_grow_186 (x0 : Nat) (h : vt_S) : Option (Unit × vt_S) :=
  vt_b (ab_X8_countSizes x0 h) fun _ h1 =>
  some ((), h1)

def ab_X8_grow_180 (k39 : Nat → Nat → Int32 → vt_S → Option (Unit × vt_S)) (x0 : Nat) (x1 : Nat) (x2 : Int32) (h : vt_S) : Option (Unit × vt_S) :=
  k39 x0 x1 (x2 + 1) h

def ab_X8_grow_39b (k39 : Nat → Nat → Int32 → vt_S → Option (Unit × vt_S)) (x0 : Nat) (x1 : Nat) (x2 : Int32) (h : vt_S) : Option (Unit × vt_S) :=
  if 32768 < x2 then
    ab_X8_grow_186 x0 h
  else
    sv_let (vt_I h 910 x0) fun v1 =>
    if v1 ≤ 0 then
      ab_X8_grow_186 x0 h
    else
      sv_let (vt_I h 910 x0) fun v2 =>
      sv_let (vu_I h 910 x0 (v2 - 1)) fun h3 =>
      sv_let (vt_I h3 910 x0) fun v5 =>
      (vl_I h3 907 x0 v5).bind fun v6 =>
      sv_let (vt_I h3 910 x0) fun v8 =>
      (vl_I h3 908 x0 v8).bind fun v9 =>
      sv_let (vt_I h3 910 x0) fun v11 =>
      (vl_I h3 909 x0 v11).bind fun v12 =>
      if v6 = ((-1)) then
        sv_let (vt_I h3 912 x0) fun v23 =>
        vt_b (ab_X8_hang x0 (((-1)) - v23) v9 v12 h3) fun _ h24 =>
        sv_let (vt_I h24 912 x0) fun v25 =>
        sv_let (vu_I h24 912 x0 (v25 + 1)) fun h26 =>
        ab_X8_grow_180 k39 x0 x1 x2 h26
      else
        vt_b (ab_X8_bestLine x0 x1 v6 h3) fun r13 h14 =>
        vt_b (ab_X8_addNode x0 r13 v9 h14) fun r15 h16 =>
        vt_b (ab_X8_hang x0 r15 v9 v12 h16) fun _ h17 =>
        vt_b (ab_X8_split x0 x1 v6 r15 h17) fun _ h18 =>
        sv_let (vt_I h18 916 x0) fun v19 =>
        vt_b (ab_X8_open x0 v19 r15 0 h18) fun _ h20 =>
        sv_let (vt_I h20 914 x0) fun v21 =>
        vt_b (ab_X8_open x0 v21 r15 1 h20) fun _ h22 =>
        ab_X8_grow_180 k39 x0 x1 x2 h22

def ab_X8_grow_39 : Nat → Nat → Nat → Int32 → vt_S → Option (Unit × vt_S)
  | 0, _, _, _, _ => none
  | sv_n + 1, x0, x1, x2, h => ab_X8_grow_39b (ab_X8_grow_39 sv_n) x0 x1 x2 h

def ab_X8_grow (x0 : Nat) (x1 : Nat) (h : vt_S) : Option (Unit × vt_S) :=
  sv_let (vu_I h 911 x0 0) fun h1 =>
  sv_let (vu_I h1 912 x0 0) fun h2 =>
  sv_let (vu_I h2 913 x0 0) fun h3 =>
  sv_let (vu_I h3 910 x0 0) fun h4 =>
  sv_let (vt_P h4 900 x0) fun v5 =>
  sv_let (vt_I h4 312 x1) fun v6 =>
  vt_b (ab_X1_chainWhole v5 v6 h4) fun r7 h8 =>
  vt_b (ab_X8_open x0 r7 ((-1)) 1 h8) fun _ h9 =>
  ab_X8_grow_39 sv_fuel x0 x1 0 h9

def ab_X7_put (x0 : Nat) (x1 : Int32) (x2 : Int32) (x3 : Int32) (x4 : Int32) (h : vt_S) : Option (Unit × vt_S) :=
  sv_let (vu_I h 800 x0 x1) fun h1 =>
  sv_let (vu_I h1 801 x0 x2) fun h2 =>
  sv_let (vu_I h2 802 x0 x3) fun h3 =>
  sv_let (vu_I h3 803 x0 x4) fun h4 =>
  some ((), h4)

def ab_X7_become (x0 : Nat) (x1 : Nat) (h : vt_S) : Option (Unit × vt_S) :=
  sv_let (vt_I h 800 x1) fun v1 =>
  sv_let (vt_I h 801 x1) fun v2 =>
  sv_let (vt_I h 802 x1) fun v3 =>
  sv_let (vt_I h 803 x1) fun v4 =>
  vt_b (ab_X7_put x0 v1 v2 v3 v4 h) fun _ h5 =>
  some ((), h5)

def ab_X6_endMover (x0 : Nat) (h : vt_S) : Option (Unit × vt_S) :=
  sv_let (vu_I h 709 x0 ((-1))) fun h1 =>
  sv_let (vu_I h1 710 x0 0) fun h2 =>
  sv_let (vu_I h2 711 x0 0) fun h3 =>
  some ((), h3)

def ab_X6_settle (x0 : Nat) (h : vt_S) : Option (Unit × vt_S) :=
  sv_let (vt_I h 700 x0) fun v1 =>
  sv_let (vu_I h 707 x0 v1) fun h2 =>
  sv_let (vt_I h2 701 x0) fun v3 =>
  sv_let (vu_I h2 708 x0 v3) fun h4 =>
  vt_b (ab_X6_endMover x0 h4) fun _ h5 =>
  some ((), h5)

def ab_X2_settle_2b (k2 : Nat → Int32 → vt_S → Option (Unit × vt_S)) (x0 : Nat) (x1 : Int32) (h : vt_S) : Option (Unit × vt_S) :=
  sv_let (vt_I h 311 x0) fun v1 =>
  if v1 ≤ x1 then
    some ((), h)
  else
    (vl_P h 307 x0 x1).bind fun v3 =>
    vt_b (ab_X6_settle v3 h) fun _ h4 =>
    k2 x0 (x1 + 1) h4

def ab_X2_settle_2 : Nat → Nat → Int32 → vt_S → Option (Unit × vt_S)
  | 0, _, _, _ => none
  | sv_n + 1, x0, x1, h => ab_X2_settle_2b (ab_X2_settle_2 sv_n) x0 x1 h

def ab_X2_settle (x0 : Nat) (h : vt_S) : Option (Unit × vt_S) :=
  ab_X2_settle_2 sv_fuel x0 0 h

def ab_X10_begin (x0 : Nat) (x1 : Nat) (x2 : Nat) (h : vt_S) : Option (Unit × vt_S) :=
  sv_let (vu_P h 1101 x0 x1) fun h1 =>
  sv_let (vt_P h1 1101 x0) fun v2 =>
  vt_b (ab_X2_settle v2 h1) fun _ h3 =>
  sv_let (vt_I h3 800 x2) fun v4 =>
  sv_let (vu_I h3 1102 x0 v4) fun h5 =>
  sv_let (vt_I h5 801 x2) fun v6 =>
  sv_let (vu_I h5 1103 x0 v6) fun h7 =>
  sv_let (vt_I h7 802 x2) fun v8 =>
  sv_let (vu_I h7 1104 x0 v8) fun h9 =>
  sv_let (vt_I h9 803 x2) fun v10 =>
  sv_let (vu_I h9 1105 x0 v10) fun h11 =>
  sv_let (vu_I h11 1106 x0 0) fun h12 =>
  some ((), h12)

def ab_X12_loadMap_110 (x0 : Nat) (h : vt_S) : Option (Int32 × vt_S) :=
  sv_let (vt_P h 1302 x0) fun v1 =>
  sv_let (vt_I h 502 v1) fun v2 =>
  some (v2, h)

def ab_X12_loadMap (x0 : Nat) (h : vt_S) : Option (Int32 × vt_S) :=
  sv_let (vt_P h 1302 x0) fun v1 =>
  vt_b (ab_X4_begin v1 h) fun _ h2 =>
  sv_let (vt_P h2 1307 x0) fun v3 =>
  sv_let (vt_P h2 1302 x0) fun v4 =>
  vt_b (ab_X2_read v3 v4 h2) fun _ h5 =>
  sv_let (vt_P h5 1302 x0) fun v6 =>
  vt_b (ab_X4_well v6 h5) fun r7 h8 =>
  if r7 = 0 then
    ab_X12_loadMap_110 x0 h8
  else
    vt_b (ab_X12_swapPlans x0 h8) fun _ h9 =>
    sv_let (vt_I h9 1310 x0) fun v10 =>
    sv_let (vu_I h9 1310 x0 (v10 + 1)) fun h11 =>
    sv_let (vt_P h11 1306 x0) fun v12 =>
    sv_let (vt_P h11 300 v12) fun v13 =>
    sv_let (vt_P h11 1300 x0) fun v14 =>
    vt_b (ab_X0_become v13 v14 h11) fun _ h15 =>
    sv_let (vt_P h15 1303 x0) fun v16 =>
    sv_let (vt_P h15 1306 x0) fun v17 =>
    vt_b (ab_X8_grow v16 v17 h15) fun _ h18 =>
    sv_let (vt_P h18 1308 x0) fun v19 =>
    sv_let (vu_I h18 602 v19 0) fun h20 =>
    sv_let (vt_P h20 1308 x0) fun v21 =>
    sv_let (vt_P h20 600 v21) fun v22 =>
    sv_let (vt_P h20 1306 x0) fun v23 =>
    sv_let (vt_P h20 301 v23) fun v24 =>
    vt_b (ab_X7_become v22 v24 h20) fun _ h25 =>
    sv_let (vt_P h25 1304 x0) fun v26 =>
    sv_let (vt_P h25 1306 x0) fun v27 =>
    sv_let (vt_P h25 1308 x0) fun v28 =>
    sv_let (vt_P h25 600 v28) fun v29 =>
    vt_b (ab_X10_begin v26 v27 v29 h25) fun _ h30 =>
    ab_X12_loadMap_110 x0 h30

def ab_X14_wrong_17 (h : vt_S) : Option (Unit × vt_S) :=
  some ((), h)

def ab_X14_wrong (x0 : Nat) (x1 : Int32) (x2 : Int32) (h : vt_S) : Option (Unit × vt_S) :=
  sv_let (vt_I h 1504 x0) fun v1 =>
  if v1 = 0 then
    sv_let (vu_I h 1504 x0 x1) fun h2 =>
    sv_let (vu_I h2 1505 x0 x2) fun h3 =>
    ab_X14_wrong_17 h3
  else
    ab_X14_wrong_17 h

def ab_X14_add (x0 : Nat) (x1 : Int32) (h : vt_S) : Option (Unit × vt_S) :=
  sv_let (vt_I h 1508 x0) fun v1 =>
  sv_let (vu_I h 1508 x0 ((v1 + x1) - (v1 + x1) / 251 * 251)) fun h2 =>
  sv_let (vt_I h2 1509 x0) fun v3 =>
  sv_let (vt_I h2 1508 x0) fun v4 =>
  sv_let (vu_I h2 1509 x0 ((v3 + v4) - (v3 + v4) / 251 * 251)) fun h5 =>
  some ((), h5)

def ab_X14_next_64 (x0 : Nat) (x3 : Int32) (h : vt_S) : Option (Int32 × vt_S) :=
  vt_b (ab_X14_add x0 x3 h) fun _ h1 =>
  sv_let (vt_I h1 1507 x0) fun v2 =>
  sv_let (vu_I h1 1507 x0 (v2 + 1)) fun h3 =>
  some (x3, h3)

def ab_X14_next_55 (x0 : Nat) (x3 : Int32) (h : vt_S) : Option (Int32 × vt_S) :=
  sv_let (vt_I h 1507 x0) fun v1 =>
  vt_b (ab_X14_wrong x0 3 v1 h) fun _ h2 =>
  ab_X14_next_64 x0 x3 h2

def ab_X14_next (x0 : Nat) (x1 : Int32) (x2 : Int32) (h : vt_S) : Option (Int32 × vt_S) :=
  sv_let (vt_I h 1504 x0) fun v1 =>
  if v1 ≤ 0 then
    sv_let (vt_I h 1507 x0) fun v2 =>
    sv_let (vt_I h 1501 x0) fun v3 =>
    if v2 = v3 then
      sv_let (vt_I h 1501 x0) fun v7 =>
      vt_b (ab_X14_wrong x0 1 v7 h) fun _ h8 =>
      some (0, h8)
    else
      sv_let (vt_I h 1507 x0) fun v5 =>
      (vl_I h 1500 x0 v5).bind fun v6 =>
      if (v6 &&& 255) < x1 then
        ab_X14_next_55 x0 (v6 &&& 255) h
      else
        if (v6 &&& 255) ≤ x2 then
          ab_X14_next_64 x0 (v6 &&& 255) h
        else
          ab_X14_next_55 x0 (v6 &&& 255) h
  else
    some (0, h)

def ab_X14_nextTwo_77 (x4 : Int32) (h : vt_S) : Option (Int32 × vt_S) :=
  some (x4, h)

def ab_X14_nextTwo_71 (x0 : Nat) (x3 : Int32) (x4 : Int32) (h : vt_S) : Option (Int32 × vt_S) :=
  vt_b (ab_X14_wrong x0 3 x3 h) fun _ h1 =>
  ab_X14_nextTwo_77 x4 h1

def ab_X14_nextTwo_50 (x0 : Nat) (x1 : Int32) (x2 : Int32) (x3 : Int32) (s0 : Int32) (h : vt_S) : Option (Int32 × vt_S) :=
  sv_let (vt_I h 1504 x0) fun v1 =>
  if v1 = 0 then
    if s0 < x1 then
      ab_X14_nextTwo_71 x0 x3 s0 h
    else
      if s0 ≤ x2 then
        ab_X14_nextTwo_77 s0 h
      else
        ab_X14_nextTwo_71 x0 x3 s0 h
  else
    ab_X14_nextTwo_77 s0 h

def ab_X14_nextTwo (x0 : Nat) (x1 : Int32) (x2 : Int32) (h : vt_S) : Option (Int32 × vt_S) :=
  sv_let (vt_I h 1507 x0) fun v1 =>
  vt_b (ab_X14_next x0 0 255 h) fun r2 h3 =>
  vt_b (ab_X14_next x0 0 255 h3) fun r4 h5 =>
  if ((r2 * 256) + r4) ≤ 32767 then
    ab_X14_nextTwo_50 x0 x1 x2 v1 ((r2 * 256) + r4) h5
  else
    ab_X14_nextTwo_50 x0 x1 x2 v1 (((r2 * 256) + r4) - 65536) h5

def ab_X14_pair_37 (s0 : Int32) (h : vt_S) : Option (Int32 × vt_S) :=
  some (s0, h)

def ab_X14_pair (f0 : Nat) (x0 : Nat) (x1 : Int32) (h : vt_S) : Option (Int32 × vt_S) :=
  (vl_I h f0 x0 x1).bind fun v1 =>
  (vl_I h f0 x0 (x1 + 1)).bind fun v2 =>
  if (((v1 &&& 255) * 256) + (v2 &&& 255)) ≤ 32767 then
    ab_X14_pair_37 (((v1 &&& 255) * 256) + (v2 &&& 255)) h
  else
    ab_X14_pair_37 ((((v1 &&& 255) * 256) + (v2 &&& 255)) - 65536) h

def ab_X14_readVertex_93 (h : vt_S) : Option (Unit × vt_S) :=
  some ((), h)

def ab_X14_readVertex_87 (k31 : Nat → Int32 → Int32 → Int32 → Int32 → Int32 → vt_S → Option (Unit × vt_S)) (x0 : Nat) (x1 : Int32) (x2 : Int32) (x3 : Int32) (x4 : Int32) (x5 : Int32) (h : vt_S) : Option (Unit × vt_S) :=
  k31 x0 x1 x2 x3 x4 (x5 + 1) h

def ab_X14_readVertex_31b (k31 : Nat → Int32 → Int32 → Int32 → Int32 → Int32 → vt_S → Option (Unit × vt_S)) (x0 : Nat) (x1 : Int32) (x2 : Int32) (x3 : Int32) (x4 : Int32) (x5 : Int32) (h : vt_S) : Option (Unit × vt_S) :=
  if x1 ≤ x5 then
    ab_X14_readVertex_93 h
  else
    sv_let (vt_I h 1504 x0) fun v1 =>
    if v1 = 0 then
      vt_b (ab_X14_pair 1500 x0 (7 + (4 * x5)) h) fun r3 h4 =>
      if r3 = x2 then
        vt_b (ab_X14_pair 1500 x0 (9 + (4 * x5)) h4) fun r6 h7 =>
        if r6 = x4 then
          vt_b (ab_X14_wrong x0 3 x3 h7) fun _ h8 =>
          ab_X14_readVertex_87 k31 x0 x1 x2 x3 x4 x5 h8
        else
          ab_X14_readVertex_87 k31 x0 x1 x2 x3 x4 x5 h7
      else
        ab_X14_readVertex_87 k31 x0 x1 x2 x3 x4 x5 h4
    else
      ab_X14_readVertex_93 h

def ab_X14_readVertex_31 : Nat → Nat → Int32 → Int32 → Int32 → Int32 → Int32 → vt_S → Option (Unit × vt_S)
  | 0, _, _, _, _, _, _, _ => none
  | sv_n + 1, x0, x1, x2, x3, x4, x5, h => ab_X14_readVertex_31b (ab_X14_readVertex_31 sv_n) x0 x1 x2 x3 x4 x5 h

def ab_X14_readVertex (x0 : Nat) (x1 : Int32) (h : vt_S) : Option (Unit × vt_S) :=
  vt_b (ab_X14_nextTwo x0 ((-32768)) 32767 h) fun r1 h2 =>
  sv_let (vt_I h2 1507 x0) fun v3 =>
  vt_b (ab_X14_nextTwo x0 ((-32768)) 32767 h2) fun r4 h5 =>
  ab_X14_readVertex_31 sv_fuel x0 x1 r1 v3 r4 0 h5

def ab_X14_readTexture_47 (h : vt_S) : Option (Unit × vt_S) :=
  some ((), h)

def ab_X14_readTexture_16b (k16 : Nat → Int32 → Int32 → Int32 → vt_S → Option (Unit × vt_S)) (x0 : Nat) (x1 : Int32) (x2 : Int32) (x3 : Int32) (h : vt_S) : Option (Unit × vt_S) :=
  if ((1 : Int32) <<< ((x1 + x2) &&& 31)) ≤ x3 then
    ab_X14_readTexture_47 h
  else
    sv_let (vt_I h 1504 x0) fun v1 =>
    if v1 = 0 then
      vt_b (ab_X14_next x0 0 15 h) fun r2 h3 =>
      k16 x0 x1 x2 (x3 + 1) h3
    else
      ab_X14_readTexture_47 h

def ab_X14_readTexture_16 : Nat → Nat → Int32 → Int32 → Int32 → vt_S → Option (Unit × vt_S)
  | 0, _, _, _, _, _ => none
  | sv_n + 1, x0, x1, x2, x3, h => ab_X14_readTexture_16b (ab_X14_readTexture_16 sv_n) x0 x1 x2 x3 h

def ab_X14_readTexture (x0 : Nat) (h : vt_S) : Option (Unit × vt_S) :=
  vt_b (ab_X14_next x0 0 4 h) fun r1 h2 =>
  vt_b (ab_X14_next x0 0 4 h2) fun r3 h4 =>
  ab_X14_readTexture_16 sv_fuel x0 r1 r3 0 h4

def ab_X14_nextOr_39 (x2 : Int32) (h : vt_S) : Option (Int32 × vt_S) :=
  some (x2, h)

def ab_X14_nextOr (x0 : Nat) (x1 : Int32) (h : vt_S) : Option (Int32 × vt_S) :=
  vt_b (ab_X14_next x0 0 255 h) fun r1 h2 =>
  sv_let (vt_I h2 1504 x0) fun v3 =>
  if v3 = 0 then
    if r1 < x1 then
      ab_X14_nextOr_39 r1 h2
    else
      if r1 = 255 then
        ab_X14_nextOr_39 r1 h2
      else
        sv_let (vt_I h2 1507 x0) fun v4 =>
        vt_b (ab_X14_wrong x0 3 (v4 - 1) h2) fun _ h5 =>
        ab_X14_nextOr_39 r1 h5
  else
    ab_X14_nextOr_39 r1 h2

def ab_X14_readSector_47 (x0 : Nat) (x1 : Int32) (h : vt_S) : Option (Unit × vt_S) :=
  vt_b (ab_X14_next x0 0 (x1 - 1) h) fun r1 h2 =>
  vt_b (ab_X14_nextOr x0 x1 h2) fun r3 h4 =>
  vt_b (ab_X14_next x0 0 15 h4) fun r5 h6 =>
  vt_b (ab_X14_next x0 0 3 h6) fun r7 h8 =>
  vt_b (ab_X14_next x0 0 255 h8) fun r9 h10 =>
  some ((), h10)

def ab_X14_readSector (x0 : Nat) (x1 : Int32) (h : vt_S) : Option (Unit × vt_S) :=
  vt_b (ab_X14_nextTwo x0 ((-1024)) 1024 h) fun r1 h2 =>
  sv_let (vt_I h2 1507 x0) fun v3 =>
  vt_b (ab_X14_nextTwo x0 ((-1024)) 1024 h2) fun r4 h5 =>
  sv_let (vt_I h5 1504 x0) fun v6 =>
  if v6 = 0 then
    if r1 < r4 then
      ab_X14_readSector_47 x0 x1 h5
    else
      vt_b (ab_X14_wrong x0 3 v3 h5) fun _ h7 =>
      ab_X14_readSector_47 x0 x1 h7
  else
    ab_X14_readSector_47 x0 x1 h5

def ab_X14_readWall_119 (k65 : Nat → Int32 → Int32 → Int32 → vt_S → Option (Unit × vt_S)) (x0 : Nat) (x2 : Int32) (x7 : Int32) (x8 : Int32) (h : vt_S) : Option (Unit × vt_S) :=
  k65 x0 x2 x7 (x8 + 1) h

def ab_X14_readWall_65b (k65 : Nat → Int32 → Int32 → Int32 → vt_S → Option (Unit × vt_S)) (x0 : Nat) (x2 : Int32) (x7 : Int32) (x8 : Int32) (h : vt_S) : Option (Unit × vt_S) :=
  if 6 ≤ x8 then
    vt_b (ab_X14_next x0 0 255 h) fun r1 h2 =>
    vt_b (ab_X14_next x0 0 3 h2) fun r3 h4 =>
    vt_b (ab_X14_next x0 0 5 h4) fun r5 h6 =>
    vt_b (ab_X14_next x0 0 255 h6) fun r7 h8 =>
    some ((), h8)
  else
    vt_b (ab_X14_nextOr x0 x2 h) fun r9 h10 =>
    sv_let (vt_I h10 1504 x0) fun v11 =>
    if v11 = 0 then
      if x8 ≤ 2 then
        ab_X14_readWall_119 k65 x0 x2 x7 x8 h10
      else
        if x7 = 255 then
          if r9 = 255 then
            ab_X14_readWall_119 k65 x0 x2 x7 x8 h10
          else
            sv_let (vt_I h10 1507 x0) fun v12 =>
            vt_b (ab_X14_wrong x0 3 (v12 - 1) h10) fun _ h13 =>
            ab_X14_readWall_119 k65 x0 x2 x7 x8 h13
        else
          ab_X14_readWall_119 k65 x0 x2 x7 x8 h10
    else
      ab_X14_readWall_119 k65 x0 x2 x7 x8 h10

def ab_X14_readWall_65 : Nat → Nat → Int32 → Int32 → Int32 → vt_S → Option (Unit × vt_S)
  | 0, _, _, _, _, _ => none
  | sv_n + 1, x0, x2, x7, x8, h => ab_X14_readWall_65b (ab_X14_readWall_65 sv_n) x0 x2 x7 x8 h

def ab_X14_readWall_45 (x0 : Nat) (x2 : Int32) (x3 : Int32) (h : vt_S) : Option (Unit × vt_S) :=
  vt_b (ab_X14_next x0 0 (x3 - 1) h) fun r1 h2 =>
  vt_b (ab_X14_nextOr x0 x3 h2) fun r3 h4 =>
  ab_X14_readWall_65 sv_fuel x0 x2 r3 0 h4

def ab_X14_readWall (x0 : Nat) (x1 : Int32) (x2 : Int32) (x3 : Int32) (h : vt_S) : Option (Unit × vt_S) :=
  vt_b (ab_X14_next x0 0 (x1 - 1) h) fun r1 h2 =>
  vt_b (ab_X14_next x0 0 (x1 - 1) h2) fun r3 h4 =>
  sv_let (vt_I h4 1504 x0) fun v5 =>
  if v5 = 0 then
    if r1 = r3 then
      sv_let (vt_I h4 1507 x0) fun v6 =>
      vt_b (ab_X14_wrong x0 3 (v6 - 1) h4) fun _ h7 =>
      ab_X14_readWall_45 x0 x2 x3 h7
    else
      ab_X14_readWall_45 x0 x2 x3 h4
  else
    ab_X14_readWall_45 x0 x2 x3 h4

def ab_X14_readCheck_32 (h : vt_S) : Option (Unit × vt_S) :=
  some ((), h)

def ab_X14_readCheck (x0 : Nat) (x1 : Int32) (h : vt_S) : Option (Unit × vt_S) :=
  sv_let (vt_I h 1507 x0) fun v1 =>
  vt_b (ab_X14_next x0 0 255 h) fun r2 h3 =>
  sv_let (vt_I h3 1504 x0) fun v4 =>
  if v4 = 0 then
    if r2 = x1 then
      ab_X14_readCheck_32 h3
    else
      vt_b (ab_X14_wrong x0 4 v1 h3) fun _ h5 =>
      ab_X14_readCheck_32 h5
  else
    ab_X14_readCheck_32 h3

def ab_X14_vertexOf (x0 : Nat) (x1 : Int32) (x2 : Int32) (h : vt_S) : Option (Int32 × vt_S) :=
  (vl_I h 1500 x0 (x1 + x2)).bind fun v2 =>
  some (v2 &&& 255, h)

def ab_X14_cross (x0 : Int64) (x2 : Int64) (x4 : Int64) (x6 : Int64) (h : vt_S) : Option (Int64 × vt_S) :=
  some ((x0 * x6) - (x2 * x4), h)

def ab_X14_side_153 (s0 : Int32) (h : vt_S) : Option (Int32 × vt_S) :=
  some (s0, h)

def ab_X14_side (x0 : Nat) (x1 : Int32) (x2 : Int32) (h : vt_S) : Option (Int32 × vt_S) :=
  vt_b (ab_X14_vertexOf x0 x1 0 h) fun r2 h3 =>
  vt_b (ab_X14_pair 1500 x0 (7 + (4 * r2)) h3) fun r4 h5 =>
  vt_b (ab_X14_vertexOf x0 x1 0 h5) fun r7 h8 =>
  vt_b (ab_X14_pair 1500 x0 (9 + (4 * r7)) h8) fun r9 h10 =>
  vt_b (ab_X14_vertexOf x0 x1 1 h10) fun r12 h13 =>
  vt_b (ab_X14_pair 1500 x0 (7 + (4 * r12)) h13) fun r14 h15 =>
  vt_b (ab_X14_vertexOf x0 x1 1 h15) fun r17 h18 =>
  vt_b (ab_X14_pair 1500 x0 (9 + (4 * r17)) h18) fun r19 h20 =>
  vt_b (ab_X14_pair 1500 x0 (7 + (4 * x2)) h20) fun r22 h23 =>
  vt_b (ab_X14_pair 1500 x0 (9 + (4 * x2)) h23) fun r25 h26 =>
  vt_b (ab_X14_cross ((Int32.toInt64 r14) - (Int32.toInt64 r4)) ((Int32.toInt64 r19) - (Int32.toInt64 r9)) ((Int32.toInt64 r22) - (Int32.toInt64 r4)) ((Int32.toInt64 r25) - (Int32.toInt64 r9)) h26) fun r27 h28 =>
  if 0 ≤ (lg_cmp r27 0) then
    if (lg_cmp r27 0) ≤ 0 then
      ab_X14_side_153 0 h28
    else
      ab_X14_side_153 1 h28
  else
    ab_X14_side_153 ((-1)) h28

def ab_X14_lies_35 (h : vt_S) : Option (Int32 × vt_S) :=
  some (0, h)

def ab_X14_lies_156 (s0 : Int32) (h : vt_S) : Option (Int32 × vt_S) :=
  vt_rz s0 h

def ab_X14_lies (x0 : Nat) (x1 : Int32) (x2 : Int32) (h : vt_S) : Option (Int32 × vt_S) :=
  vt_b (ab_X14_vertexOf x0 x1 0 h) fun r1 h2 =>
  vt_b (ab_X14_vertexOf x0 x1 1 h2) fun r3 h4 =>
  if x2 = r1 then
    ab_X14_lies_35 h4
  else
    if x2 = r3 then
      ab_X14_lies_35 h4
    else
      vt_b (ab_X14_side x0 x1 x2 h4) fun r5 h6 =>
      if r5 = 0 then
        vt_b (ab_X14_pair 1500 x0 (7 + (4 * x2)) h6) fun r8 h9 =>
        vt_b (ab_X14_pair 1500 x0 (9 + (4 * x2)) h9) fun r11 h12 =>
        vt_b (ab_X14_pair 1500 x0 (7 + (4 * r1)) h12) fun r14 h15 =>
        vt_b (ab_X14_pair 1500 x0 (7 + (4 * r3)) h15) fun r17 h18 =>
        vt_b (ab_X14_pair 1500 x0 (9 + (4 * r1)) h18) fun r20 h21 =>
        vt_b (ab_X14_pair 1500 x0 (9 + (4 * r3)) h21) fun r23 h24 =>
        if 0 ≤ (lg_cmp ((((Int32.toInt64 r14) - (Int32.toInt64 r8)) * ((Int32.toInt64 r17) - (Int32.toInt64 r8))) + (((Int32.toInt64 r20) - (Int32.toInt64 r11)) * ((Int32.toInt64 r23) - (Int32.toInt64 r11)))) 0) then
          ab_X14_lies_156 0 h24
        else
          ab_X14_lies_156 1 h24
      else
        ab_X14_lies_35 h6

def ab_X14_touch_160 (s0 : Int32) (h : vt_S) : Option (Int32 × vt_S) :=
  vt_rz s0 h

def ab_X14_touch_155 (h : vt_S) : Option (Int32 × vt_S) :=
  ab_X14_touch_160 1 h

def ab_X14_touch_104 (x0 : Nat) (x1 : Int32) (x2 : Int32) (x3 : Int32) (x4 : Int32) (x5 : Int32) (x6 : Int32) (x7 : Int32) (s0 : Int32) (h : vt_S) : Option (Int32 × vt_S) :=
  if x7 = 0 then
    if s0 = 0 then
      vt_b (ab_X14_lies x0 x1 x5 h) fun r1 h2 =>
      if r1 = 0 then
        vt_b (ab_X14_lies x0 x1 x6 h2) fun r3 h4 =>
        if r3 = 0 then
          vt_b (ab_X14_lies x0 x2 x3 h4) fun r5 h6 =>
          if r5 = 0 then
            vt_b (ab_X14_lies x0 x2 x4 h6) fun r7 h8 =>
            if r7 = 0 then
              ab_X14_touch_160 0 h8
            else
              ab_X14_touch_155 h8
          else
            ab_X14_touch_155 h6
        else
          ab_X14_touch_155 h4
      else
        ab_X14_touch_155 h2
    else
      ab_X14_touch_155 h
  else
    ab_X14_touch_155 h

def ab_X14_touch_103 (x0 : Nat) (x1 : Int32) (x2 : Int32) (x3 : Int32) (x4 : Int32) (x5 : Int32) (x6 : Int32) (x7 : Int32) (h : vt_S) : Option (Int32 × vt_S) :=
  ab_X14_touch_104 x0 x1 x2 x3 x4 x5 x6 x7 0 h

def ab_X14_touch_62 (x0 : Nat) (x1 : Int32) (x2 : Int32) (x3 : Int32) (x4 : Int32) (x5 : Int32) (x6 : Int32) (s0 : Int32) (h : vt_S) : Option (Int32 × vt_S) :=
  vt_b (ab_X14_side x0 x1 x5 h) fun r1 h2 =>
  vt_b (ab_X14_side x0 x1 x6 h2) fun r3 h4 =>
  if 0 ≤ (r1 * r3) then
    ab_X14_touch_103 x0 x1 x2 x3 x4 x5 x6 s0 h4
  else
    vt_b (ab_X14_side x0 x2 x3 h4) fun r5 h6 =>
    vt_b (ab_X14_side x0 x2 x4 h6) fun r7 h8 =>
    if 0 ≤ (r5 * r7) then
      ab_X14_touch_103 x0 x1 x2 x3 x4 x5 x6 s0 h8
    else
      ab_X14_touch_104 x0 x1 x2 x3 x4 x5 x6 s0 1 h8

def ab_X14_touch_57 (x0 : Nat) (x1 : Int32) (x2 : Int32) (x3 : Int32) (x4 : Int32) (x5 : Int32) (x6 : Int32) (h : vt_S) : Option (Int32 × vt_S) :=
  ab_X14_touch_62 x0 x1 x2 x3 x4 x5 x6 1 h

def ab_X14_touch_61 (x0 : Nat) (x1 : Int32) (x2 : Int32) (x3 : Int32) (x4 : Int32) (x5 : Int32) (x6 : Int32) (h : vt_S) : Option (Int32 × vt_S) :=
  ab_X14_touch_62 x0 x1 x2 x3 x4 x5 x6 0 h

def ab_X14_touch_43 (x0 : Nat) (x1 : Int32) (x2 : Int32) (x3 : Int32) (x4 : Int32) (x5 : Int32) (x6 : Int32) (h : vt_S) : Option (Int32 × vt_S) :=
  if x4 = x5 then
    ab_X14_touch_57 x0 x1 x2 x3 x4 x5 x6 h
  else
    if x4 = x6 then
      ab_X14_touch_57 x0 x1 x2 x3 x4 x5 x6 h
    else
      ab_X14_touch_61 x0 x1 x2 x3 x4 x5 x6 h

def ab_X14_touch (x0 : Nat) (x1 : Int32) (x2 : Int32) (h : vt_S) : Option (Int32 × vt_S) :=
  vt_b (ab_X14_vertexOf x0 x1 0 h) fun r1 h2 =>
  vt_b (ab_X14_vertexOf x0 x1 1 h2) fun r3 h4 =>
  vt_b (ab_X14_vertexOf x0 x2 0 h4) fun r5 h6 =>
  vt_b (ab_X14_vertexOf x0 x2 1 h6) fun r7 h8 =>
  if r1 = r5 then
    ab_X14_touch_43 x0 x1 x2 r1 r3 r5 r7 h8
  else
    if r1 = r7 then
      ab_X14_touch_43 x0 x1 x2 r1 r3 r5 r7 h8
    else
      ab_X14_touch_61 x0 x1 x2 r1 r3 r5 r7 h8

def ab_X14_readAll_403 (h : vt_S) : Option (Unit × vt_S) :=
  some ((), h)

def ab_X14_readAll_397 (k317 : Nat → Int32 → Int32 → Int32 → vt_S → Option (Unit × vt_S)) (x0 : Nat) (x4 : Int32) (x5 : Int32) (x12 : Int32) (h : vt_S) : Option (Unit × vt_S) :=
  k317 x0 x4 x5 (x12 + 1) h

def ab_X14_readAll_391 (k317 : Nat → Int32 → Int32 → Int32 → vt_S → Option (Unit × vt_S)) (k334 : Nat → Int32 → Int32 → Int32 → Int32 → vt_S → Option (Unit × vt_S)) (x0 : Nat) (x4 : Int32) (x5 : Int32) (x12 : Int32) (x13 : Int32) (h : vt_S) : Option (Unit × vt_S) :=
  k334 x0 x4 x5 x12 (x13 + 1) h

def ab_X14_readAll_334b (k317 : Nat → Int32 → Int32 → Int32 → vt_S → Option (Unit × vt_S)) (k334 : Nat → Int32 → Int32 → Int32 → Int32 → vt_S → Option (Unit × vt_S)) (x0 : Nat) (x4 : Int32) (x5 : Int32) (x12 : Int32) (x13 : Int32) (h : vt_S) : Option (Unit × vt_S) :=
  if x12 ≤ x13 then
    ab_X14_readAll_397 k317 x0 x4 x5 x12 h
  else
    sv_let (vt_I h 1504 x0) fun v1 =>
    if v1 = 0 then
      vt_b (ab_X14_touch x0 (x5 + (14 * x13)) (x5 + (14 * x12)) h) fun r2 h3 =>
      if r2 = 0 then
        ab_X14_readAll_391 k317 k334 x0 x4 x5 x12 x13 h3
      else
        vt_b (ab_X14_wrong x0 6 (x5 + (14 * x12)) h3) fun _ h4 =>
        sv_let (vu_I h4 1506 x0 x12) fun h5 =>
        ab_X14_readAll_391 k317 k334 x0 x4 x5 x12 x13 h5
    else
      ab_X14_readAll_397 k317 x0 x4 x5 x12 h

def ab_X14_readAll_334 (k317 : Nat → Int32 → Int32 → Int32 → vt_S → Option (Unit × vt_S)) : Nat → Nat → Int32 → Int32 → Int32 → Int32 → vt_S → Option (Unit × vt_S)
  | 0, _, _, _, _, _, _ => none
  | sv_n + 1, x0, x4, x5, x12, x13, h => ab_X14_readAll_334b k317 (ab_X14_readAll_334 k317 sv_n) x0 x4 x5 x12 x13 h

def ab_X14_readAll_317b (k317 : Nat → Int32 → Int32 → Int32 → vt_S → Option (Unit × vt_S)) (x0 : Nat) (x4 : Int32) (x5 : Int32) (x12 : Int32) (h : vt_S) : Option (Unit × vt_S) :=
  if x4 ≤ x12 then
    ab_X14_readAll_403 h
  else
    sv_let (vt_I h 1504 x0) fun v1 =>
    if v1 = 0 then
      ab_X14_readAll_334 k317 sv_fuel x0 x4 x5 x12 0 h
    else
      ab_X14_readAll_403 h

def ab_X14_readAll_317 : Nat → Nat → Int32 → Int32 → Int32 → vt_S → Option (Unit × vt_S)
  | 0, _, _, _, _, _ => none
  | sv_n + 1, x0, x4, x5, x12, h => ab_X14_readAll_317b (ab_X14_readAll_317 sv_n) x0 x4 x5 x12 h

def ab_X14_readAll_314 (x0 : Nat) (x4 : Int32) (x5 : Int32) (h : vt_S) : Option (Unit × vt_S) :=
  ab_X14_readAll_317 sv_fuel x0 x4 x5 0 h

def ab_X14_readAll_220 (x0 : Nat) (x3 : Int32) (x4 : Int32) (x5 : Int32) (h : vt_S) : Option (Unit × vt_S) :=
  vt_b (ab_X14_nextTwo x0 ((-32768)) 32767 h) fun r1 h2 =>
  vt_b (ab_X14_nextTwo x0 ((-32768)) 32767 h2) fun r3 h4 =>
  vt_b (ab_X14_next x0 0 63 h4) fun r5 h6 =>
  vt_b (ab_X14_next x0 0 (x3 - 1) h6) fun r7 h8 =>
  sv_let (vt_I h8 1508 x0) fun v9 =>
  sv_let (vt_I h8 1509 x0) fun v10 =>
  vt_b (ab_X14_readCheck x0 v9 h8) fun _ h11 =>
  vt_b (ab_X14_readCheck x0 v10 h11) fun _ h12 =>
  sv_let (vt_I h12 1504 x0) fun v13 =>
  if v13 = 0 then
    sv_let (vt_I h12 1507 x0) fun v14 =>
    sv_let (vt_I h12 1501 x0) fun v15 =>
    if v15 ≤ v14 then
      ab_X14_readAll_314 x0 x4 x5 h12
    else
      sv_let (vt_I h12 1507 x0) fun v16 =>
      vt_b (ab_X14_wrong x0 5 v16 h12) fun _ h17 =>
      ab_X14_readAll_314 x0 x4 x5 h17
  else
    ab_X14_readAll_314 x0 x4 x5 h12

def ab_X14_readAll_193b (k193 : Nat → Int32 → Int32 → Int32 → Int32 → Int32 → Int32 → vt_S → Option (Unit × vt_S)) (x0 : Nat) (x1 : Int32) (x2 : Int32) (x3 : Int32) (x4 : Int32) (x5 : Int32) (x6 : Int32) (h : vt_S) : Option (Unit × vt_S) :=
  if x4 ≤ x6 then
    ab_X14_readAll_220 x0 x3 x4 x5 h
  else
    sv_let (vt_I h 1504 x0) fun v1 =>
    if v1 = 0 then
      vt_b (ab_X14_readWall x0 x1 x2 x3 h) fun _ h2 =>
      k193 x0 x1 x2 x3 x4 x5 (x6 + 1) h2
    else
      ab_X14_readAll_220 x0 x3 x4 x5 h

def ab_X14_readAll_193 : Nat → Nat → Int32 → Int32 → Int32 → Int32 → Int32 → Int32 → vt_S → Option (Unit × vt_S)
  | 0, _, _, _, _, _, _, _, _ => none
  | sv_n + 1, x0, x1, x2, x3, x4, x5, x6, h => ab_X14_readAll_193b (ab_X14_readAll_193 sv_n) x0 x1 x2 x3 x4 x5 x6 h

def ab_X14_readAll_184 (x0 : Nat) (x1 : Int32) (x2 : Int32) (x3 : Int32) (x4 : Int32) (h : vt_S) : Option (Unit × vt_S) :=
  sv_let (vt_I h 1507 x0) fun v1 =>
  ab_X14_readAll_193 sv_fuel x0 x1 x2 x3 x4 v1 0 h

def ab_X14_readAll_160b (k160 : Nat → Int32 → Int32 → Int32 → Int32 → Int32 → vt_S → Option (Unit × vt_S)) (x0 : Nat) (x1 : Int32) (x2 : Int32) (x3 : Int32) (x4 : Int32) (x5 : Int32) (h : vt_S) : Option (Unit × vt_S) :=
  if x3 ≤ x5 then
    ab_X14_readAll_184 x0 x1 x2 x3 x4 h
  else
    sv_let (vt_I h 1504 x0) fun v1 =>
    if v1 = 0 then
      vt_b (ab_X14_readSector x0 x2 h) fun _ h2 =>
      k160 x0 x1 x2 x3 x4 (x5 + 1) h2
    else
      ab_X14_readAll_184 x0 x1 x2 x3 x4 h

def ab_X14_readAll_160 : Nat → Nat → Int32 → Int32 → Int32 → Int32 → Int32 → vt_S → Option (Unit × vt_S)
  | 0, _, _, _, _, _, _, _ => none
  | sv_n + 1, x0, x1, x2, x3, x4, x5, h => ab_X14_readAll_160b (ab_X14_readAll_160 sv_n) x0 x1 x2 x3 x4 x5 h

def ab_X14_readAll_157 (x0 : Nat) (x1 : Int32) (x2 : Int32) (x3 : Int32) (x4 : Int32) (h : vt_S) : Option (Unit × vt_S) :=
  ab_X14_readAll_160 sv_fuel x0 x1 x2 x3 x4 0 h

def ab_X14_readAll_134b (k134 : Nat → Int32 → Int32 → Int32 → Int32 → Int32 → vt_S → Option (Unit × vt_S)) (x0 : Nat) (x1 : Int32) (x2 : Int32) (x3 : Int32) (x4 : Int32) (x5 : Int32) (h : vt_S) : Option (Unit × vt_S) :=
  if x2 ≤ x5 then
    ab_X14_readAll_157 x0 x1 x2 x3 x4 h
  else
    sv_let (vt_I h 1504 x0) fun v1 =>
    if v1 = 0 then
      vt_b (ab_X14_readTexture x0 h) fun _ h2 =>
      k134 x0 x1 x2 x3 x4 (x5 + 1) h2
    else
      ab_X14_readAll_157 x0 x1 x2 x3 x4 h

def ab_X14_readAll_134 : Nat → Nat → Int32 → Int32 → Int32 → Int32 → Int32 → vt_S → Option (Unit × vt_S)
  | 0, _, _, _, _, _, _, _ => none
  | sv_n + 1, x0, x1, x2, x3, x4, x5, h => ab_X14_readAll_134b (ab_X14_readAll_134 sv_n) x0 x1 x2 x3 x4 x5 h

def ab_X14_readAll_131 (x0 : Nat) (x1 : Int32) (x2 : Int32) (x3 : Int32) (x4 : Int32) (h : vt_S) : Option (Unit × vt_S) :=
  ab_X14_readAll_134 sv_fuel x0 x1 x2 x3 x4 0 h

def ab_X14_readAll_106b (k106 : Nat → Int32 → Int32 → Int32 → Int32 → Int32 → vt_S → Option (Unit × vt_S)) (x0 : Nat) (x1 : Int32) (x2 : Int32) (x3 : Int32) (x4 : Int32) (x5 : Int32) (h : vt_S) : Option (Unit × vt_S) :=
  if x1 ≤ x5 then
    ab_X14_readAll_131 x0 x1 x2 x3 x4 h
  else
    sv_let (vt_I h 1504 x0) fun v1 =>
    if v1 = 0 then
      vt_b (ab_X14_readVertex x0 x5 h) fun _ h2 =>
      k106 x0 x1 x2 x3 x4 (x5 + 1) h2
    else
      ab_X14_readAll_131 x0 x1 x2 x3 x4 h

def ab_X14_readAll_106 : Nat → Nat → Int32 → Int32 → Int32 → Int32 → Int32 → vt_S → Option (Unit × vt_S)
  | 0, _, _, _, _, _, _, _ => none
  | sv_n + 1, x0, x1, x2, x3, x4, x5, h => ab_X14_readAll_106b (ab_X14_readAll_106 sv_n) x0 x1 x2 x3 x4 x5 h

def ab_X14_readAll_68 (x0 : Nat) (h : vt_S) : Option (Unit × vt_S) :=
  vt_b (ab_X14_next x0 0 128 h) fun r1 h2 =>
  vt_b (ab_X14_next x0 0 16 h2) fun r3 h4 =>
  vt_b (ab_X14_next x0 1 32 h4) fun r5 h6 =>
  vt_b (ab_X14_next x0 0 128 h6) fun r7 h8 =>
  ab_X14_readAll_106 sv_fuel x0 r1 r3 r5 r7 0 h8

def ab_X14_readAll_62 (k2 : Nat → Int32 → vt_S → Option (Unit × vt_S)) (x0 : Nat) (x1 : Int32) (h : vt_S) : Option (Unit × vt_S) :=
  k2 x0 (x1 + 1) h

def ab_X14_readAll_34 (k2 : Nat → Int32 → vt_S → Option (Unit × vt_S)) (x0 : Nat) (x1 : Int32) (s0 : Int32) (h : vt_S) : Option (Unit × vt_S) :=
  vt_b (ab_X14_next x0 0 255 h) fun r1 h2 =>
  sv_let (vt_I h2 1504 x0) fun v3 =>
  if v3 = 0 then
    if r1 = s0 then
      ab_X14_readAll_62 k2 x0 x1 h2
    else
      vt_b (ab_X14_wrong x0 2 x1 h2) fun _ h4 =>
      ab_X14_readAll_62 k2 x0 x1 h4
  else
    ab_X14_readAll_62 k2 x0 x1 h2

def ab_X14_readAll_2b (k2 : Nat → Int32 → vt_S → Option (Unit × vt_S)) (x0 : Nat) (x1 : Int32) (h : vt_S) : Option (Unit × vt_S) :=
  if 3 ≤ x1 then
    ab_X14_readAll_68 x0 h
  else
    sv_let (vt_I h 1504 x0) fun v1 =>
    if v1 = 0 then
      if x1 = 0 then
        ab_X14_readAll_34 k2 x0 x1 77 h
      else
        if x1 = 1 then
          ab_X14_readAll_34 k2 x0 x1 72 h
        else
          ab_X14_readAll_34 k2 x0 x1 1 h
    else
      ab_X14_readAll_68 x0 h

def ab_X14_readAll_2 : Nat → Nat → Int32 → vt_S → Option (Unit × vt_S)
  | 0, _, _, _ => none
  | sv_n + 1, x0, x1, h => ab_X14_readAll_2b (ab_X14_readAll_2 sv_n) x0 x1 h

def ab_X14_readAll (x0 : Nat) (h : vt_S) : Option (Unit × vt_S) :=
  ab_X14_readAll_2 sv_fuel x0 0 h

def ab_X14_read_77 (x0 : Nat) (h : vt_S) : Option (Int32 × vt_S) :=
  sv_let (vt_I h 1504 x0) fun v1 =>
  some (v1, h)

def ab_X14_read_43b (k43 : Nat → Int32 → vt_S → Option (Int32 × vt_S)) (x0 : Nat) (x1 : Int32) (h : vt_S) : Option (Int32 × vt_S) :=
  sv_let (vt_I h 1501 x0) fun v1 =>
  if v1 ≤ x1 then
    sv_let (vt_I h 1501 x0) fun v2 =>
    sv_let (vu_I h 1503 x0 v2) fun h3 =>
    ab_X14_read_77 x0 h3
  else
    (vl_I h 1500 x0 x1).bind fun v6 =>
    (vs_I h 1502 x0 x1 (vp_nar .byte v6)).bind fun h7 =>
    k43 x0 (x1 + 1) h7

def ab_X14_read_43 : Nat → Nat → Int32 → vt_S → Option (Int32 × vt_S)
  | 0, _, _, _ => none
  | sv_n + 1, x0, x1, h => ab_X14_read_43b (ab_X14_read_43 sv_n) x0 x1 h

def ab_X14_read (x0 : Nat) (h : vt_S) : Option (Int32 × vt_S) :=
  sv_let (vu_I h 1507 x0 0) fun h1 =>
  sv_let (vu_I h1 1508 x0 0) fun h2 =>
  sv_let (vu_I h2 1509 x0 0) fun h3 =>
  sv_let (vu_I h3 1504 x0 0) fun h4 =>
  sv_let (vu_I h4 1505 x0 ((-1))) fun h5 =>
  sv_let (vu_I h5 1506 x0 ((-1))) fun h6 =>
  vt_b (ab_X14_readAll x0 h6) fun _ h7 =>
  sv_let (vt_I h7 1504 x0) fun v8 =>
  if v8 = 0 then
    ab_X14_read_43 sv_fuel x0 0 h7
  else
    ab_X14_read_77 x0 h7

def ab_X13_reset_2b (k2 : Nat → Int32 → vt_S → Option (Unit × vt_S)) (x0 : Nat) (x1 : Int32) (h : vt_S) : Option (Unit × vt_S) :=
  sv_let (vt_I h 1400 x0) fun v1 =>
  if v1 ≤ x1 then
    sv_let (vu_I h 1415 x0 0) fun h2 =>
    sv_let (vu_I h2 1416 x0 ((-1))) fun h3 =>
    sv_let (vu_I h3 1417 x0 0) fun h4 =>
    some ((), h4)
  else
    (vl_I h 1401 x0 x1).bind fun v7 =>
    (vs_I h 1408 x0 x1 v7).bind fun h8 =>
    (vl_I h8 1402 x0 x1).bind fun v11 =>
    (vs_I h8 1409 x0 x1 v11).bind fun h12 =>
    (vs_I h12 1410 x0 x1 ((-1))).bind fun h14 =>
    (vs_I h14 1411 x0 x1 0).bind fun h16 =>
    (vs_I h16 1412 x0 x1 0).bind fun h18 =>
    (vs_I h18 1413 x0 x1 ((-1))).bind fun h20 =>
    k2 x0 (x1 + 1) h20

def ab_X13_reset_2 : Nat → Nat → Int32 → vt_S → Option (Unit × vt_S)
  | 0, _, _, _ => none
  | sv_n + 1, x0, x1, h => ab_X13_reset_2b (ab_X13_reset_2 sv_n) x0 x1 h

def ab_X13_reset (x0 : Nat) (h : vt_S) : Option (Unit × vt_S) :=
  ab_X13_reset_2 sv_fuel x0 0 h

def ab_X13_clear_12b (k12 : Nat → Int32 → vt_S → Option (Unit × vt_S)) (x0 : Nat) (x1 : Int32) (h : vt_S) : Option (Unit × vt_S) :=
  if 1024 ≤ x1 then
    vt_b (ab_X13_reset x0 h) fun _ h1 =>
    some ((), h1)
  else
    (vs_I h 1406 x0 x1 (vp_nar .boolean 0)).bind fun h3 =>
    k12 x0 (x1 + 1) h3

def ab_X13_clear_12 : Nat → Nat → Int32 → vt_S → Option (Unit × vt_S)
  | 0, _, _, _ => none
  | sv_n + 1, x0, x1, h => ab_X13_clear_12b (ab_X13_clear_12 sv_n) x0 x1 h

def ab_X13_clear (x0 : Nat) (h : vt_S) : Option (Unit × vt_S) :=
  sv_let (vu_I h 1400 x0 0) fun h1 =>
  sv_let (vu_I h1 1407 x0 0) fun h2 =>
  ab_X13_clear_12 sv_fuel x0 0 h2

def ab_X14_many_21 (s0 : Int32) (h : vt_S) : Option (Int32 × vt_S) :=
  some (s0, h)

def ab_X14_many (x0 : Nat) (x1 : Int32) (h : vt_S) : Option (Int32 × vt_S) :=
  sv_let (vt_I h 1503 x0) fun v1 =>
  if v1 = 0 then
    ab_X14_many_21 0 h
  else
    (vl_I h 1502 x0 x1).bind fun v3 =>
    ab_X14_many_21 (v3 &&& 255) h

def ab_X17_sectors_19 (s0 : Int32) (h : vt_S) : Option (Int32 × vt_S) :=
  some (s0, h)

def ab_X17_sectors (x0 : Nat) (h : vt_S) : Option (Int32 × vt_S) :=
  sv_let (vt_I h 1809 x0) fun v1 =>
  if v1 = 0 then
    ab_X17_sectors_19 0 h
  else
    sv_let (vt_P h 1801 x0) fun v2 =>
    vt_b (ab_X14_many v2 5 h) fun r3 h4 =>
    ab_X17_sectors_19 r3 h4

def ab_X14_has_18 (s0 : Int32) (h : vt_S) : Option (Int32 × vt_S) :=
  vt_rz s0 h

def ab_X14_has_17 (h : vt_S) : Option (Int32 × vt_S) :=
  ab_X14_has_18 0 h

def ab_X14_has (x0 : Nat) (x1 : Int32) (x2 : Int32) (h : vt_S) : Option (Int32 × vt_S) :=
  if x2 < 0 then
    ab_X14_has_17 h
  else
    vt_b (ab_X14_many x0 x1 h) fun r1 h2 =>
    if r1 ≤ x2 then
      ab_X14_has_17 h2
    else
      ab_X14_has_18 1 h2

def ab_X14_textureAt_13b (k13 : Nat → Int32 → Int32 → Int32 → vt_S → Option (Int32 × vt_S)) (x0 : Nat) (x1 : Int32) (x2 : Int32) (x3 : Int32) (h : vt_S) : Option (Int32 × vt_S) :=
  if x1 ≤ x3 then
    some (x2, h)
  else
    (vl_I h 1502 x0 x2).bind fun v2 =>
    (vl_I h 1502 x0 (x2 + 1)).bind fun v4 =>
    k13 x0 x1 (x2 + (2 + ((1 : Int32) <<< ((v2 + v4) &&& 31)))) (x3 + 1) h

def ab_X14_textureAt_13 : Nat → Nat → Int32 → Int32 → Int32 → vt_S → Option (Int32 × vt_S)
  | 0, _, _, _, _, _ => none
  | sv_n + 1, x0, x1, x2, x3, h => ab_X14_textureAt_13b (ab_X14_textureAt_13 sv_n) x0 x1 x2 x3 h

def ab_X14_textureAt (x0 : Nat) (x1 : Int32) (h : vt_S) : Option (Int32 × vt_S) :=
  vt_b (ab_X14_many x0 3 h) fun r1 h2 =>
  ab_X14_textureAt_13 sv_fuel x0 x1 (7 + (4 * r1)) 0 h2

def ab_X14_sectorAt (x0 : Nat) (x1 : Int32) (h : vt_S) : Option (Int32 × vt_S) :=
  vt_b (ab_X14_many x0 4 h) fun r1 h2 =>
  vt_b (ab_X14_textureAt x0 r1 h2) fun r3 h4 =>
  some (r3 + (9 * x1), h4)

def ab_X14_sector_19 (h : vt_S) : Option (Int32 × vt_S) :=
  some (100000, h)

def ab_X14_sector_62 (s0 : Int32) (h : vt_S) : Option (Int32 × vt_S) :=
  some (s0, h)

def ab_X14_sector (x0 : Nat) (x1 : Int32) (x2 : Int32) (h : vt_S) : Option (Int32 × vt_S) :=
  vt_b (ab_X14_has x0 5 x1 h) fun r1 h2 =>
  if r1 = 0 then
    ab_X14_sector_19 h2
  else
    if x2 < 0 then
      ab_X14_sector_19 h2
    else
      if x2 ≤ 6 then
        vt_b (ab_X14_sectorAt x0 x1 h2) fun r3 h4 =>
        if 2 ≤ x2 then
          (vl_I h4 1502 x0 ((r3 + 2) + x2)).bind fun v6 =>
          ab_X14_sector_62 (v6 &&& 255) h4
        else
          vt_b (ab_X14_pair 1502 x0 (r3 + (2 * x2)) h4) fun r8 h9 =>
          ab_X14_sector_62 r8 h9
      else
        ab_X14_sector_19 h2

def ab_X13_sector_67 (x0 : Nat) (x1 : Int32) (x2 : Int32) (x3 : Int32) (x4 : Int32) (x5 : Int32) (s0 : Int32) (h : vt_S) : Option (Int32 × vt_S) :=
  if s0 = 0 then
    some ((-1), h)
  else
    sv_let (vt_I h 1400 x0) fun v2 =>
    (vs_I h 1401 x0 v2 x1).bind fun h3 =>
    sv_let (vt_I h3 1400 x0) fun v5 =>
    (vs_I h3 1402 x0 v5 x2).bind fun h6 =>
    sv_let (vt_I h6 1400 x0) fun v8 =>
    (vs_I h6 1403 x0 v8 x3).bind fun h9 =>
    sv_let (vt_I h9 1400 x0) fun v11 =>
    (vs_I h9 1404 x0 v11 x4).bind fun h12 =>
    sv_let (vt_I h12 1400 x0) fun v14 =>
    (vs_I h12 1405 x0 v14 x5).bind fun h15 =>
    sv_let (vt_I h15 1400 x0) fun v16 =>
    sv_let (vu_I h15 1400 x0 (v16 + 1)) fun h17 =>
    vt_b (ab_X13_reset x0 h17) fun _ h18 =>
    sv_let (vt_I h18 1400 x0) fun v19 =>
    some (v19 - 1, h18)

def ab_X13_sector_66 (x0 : Nat) (x1 : Int32) (x2 : Int32) (x3 : Int32) (x4 : Int32) (x5 : Int32) (h : vt_S) : Option (Int32 × vt_S) :=
  ab_X13_sector_67 x0 x1 x2 x3 x4 x5 0 h

def ab_X13_sector (x0 : Nat) (x1 : Int32) (x2 : Int32) (x3 : Int32) (x4 : Int32) (x5 : Int32) (h : vt_S) : Option (Int32 × vt_S) :=
  if x1 < ((-1024)) then
    ab_X13_sector_66 x0 x1 x2 x3 x4 x5 h
  else
    if 1024 < x2 then
      ab_X13_sector_66 x0 x1 x2 x3 x4 x5 h
    else
      if x2 ≤ x1 then
        ab_X13_sector_66 x0 x1 x2 x3 x4 x5 h
      else
        if x3 < 0 then
          ab_X13_sector_66 x0 x1 x2 x3 x4 x5 h
        else
          if 16 ≤ x3 then
            ab_X13_sector_66 x0 x1 x2 x3 x4 x5 h
          else
            if x4 < 0 then
              ab_X13_sector_66 x0 x1 x2 x3 x4 x5 h
            else
              if 4 ≤ x4 then
                ab_X13_sector_66 x0 x1 x2 x3 x4 x5 h
              else
                if x5 < 0 then
                  ab_X13_sector_66 x0 x1 x2 x3 x4 x5 h
                else
                  if 256 ≤ x5 then
                    ab_X13_sector_66 x0 x1 x2 x3 x4 x5 h
                  else
                    sv_let (vt_I h 1400 x0) fun v1 =>
                    if 32 ≤ v1 then
                      ab_X13_sector_66 x0 x1 x2 x3 x4 x5 h
                    else
                      ab_X13_sector_67 x0 x1 x2 x3 x4 x5 1 h

def ab_X17_walls (x0 : Nat) (h : vt_S) : Option (Int32 × vt_S) :=
  sv_let (vt_P h 1801 x0) fun v1 =>
  vt_b (ab_X14_many v1 6 h) fun r2 h3 =>
  some (r2, h3)

def ab_X14_wallAt (x0 : Nat) (x1 : Int32) (h : vt_S) : Option (Int32 × vt_S) :=
  vt_b (ab_X14_many x0 5 h) fun r1 h2 =>
  vt_b (ab_X14_sectorAt x0 r1 h2) fun r3 h4 =>
  some (r3 + (14 * x1), h4)

def ab_X14_wall_20 (h : vt_S) : Option (Int32 × vt_S) :=
  some ((-1), h)

def ab_X14_wall_81 (s0 : Int32) (h : vt_S) : Option (Int32 × vt_S) :=
  some (s0, h)

def ab_X14_wall_40 (x0 : Nat) (x2 : Int32) (x3 : Int32) (h : vt_S) : Option (Int32 × vt_S) :=
  if x2 = 10 then
    (vl_I h 1502 x0 (x3 + 10)).bind fun v4 =>
    ab_X14_wall_81 ((v4 &&& 255) / 16) h
  else
    (vl_I h 1502 x0 (x3 + 10)).bind fun v2 =>
    ab_X14_wall_81 ((v2 &&& 255) - (v2 &&& 255) / 16 * 16) h

def ab_X14_wall_100 (s0 : Nat) (s1 : Int32) (s2 : Int32) (h : vt_S) : Option (Int32 × vt_S) :=
  (vl_I h 1502 s0 (s1 + s2)).bind fun v1 =>
  some (v1 &&& 255, h)

def ab_X14_wall (x0 : Nat) (x1 : Int32) (x2 : Int32) (h : vt_S) : Option (Int32 × vt_S) :=
  vt_b (ab_X14_has x0 6 x1 h) fun r1 h2 =>
  if r1 = 0 then
    ab_X14_wall_20 h2
  else
    if x2 < 0 then
      ab_X14_wall_20 h2
    else
      if x2 ≤ 14 then
        vt_b (ab_X14_wallAt x0 x1 h2) fun r3 h4 =>
        if x2 = 10 then
          ab_X14_wall_40 x0 x2 r3 h4
        else
          if x2 = 11 then
            ab_X14_wall_40 x0 x2 r3 h4
          else
            if x2 ≤ 11 then
              ab_X14_wall_100 x0 r3 x2 h4
            else
              ab_X14_wall_100 x0 r3 (x2 - 1) h4
      else
        ab_X14_wall_20 h2

def ab_X13_isSector_17 (s0 : Int32) (h : vt_S) : Option (Int32 × vt_S) :=
  vt_rz s0 h

def ab_X13_isSector_16 (h : vt_S) : Option (Int32 × vt_S) :=
  ab_X13_isSector_17 0 h

def ab_X13_isSector (x0 : Nat) (x1 : Int32) (h : vt_S) : Option (Int32 × vt_S) :=
  if x1 < 0 then
    ab_X13_isSector_16 h
  else
    sv_let (vt_I h 1400 x0) fun v1 =>
    if v1 ≤ x1 then
      ab_X13_isSector_16 h
    else
      ab_X13_isSector_17 1 h

def ab_X13_join_35 (h : vt_S) : Option (Int32 × vt_S) :=
  some (0, h)

def ab_X13_join (x0 : Nat) (x1 : Int32) (x2 : Int32) (h : vt_S) : Option (Int32 × vt_S) :=
  vt_b (ab_X13_isSector x0 x1 h) fun r1 h2 =>
  if r1 = 0 then
    ab_X13_join_35 h2
  else
    vt_b (ab_X13_isSector x0 x2 h2) fun r3 h4 =>
    if r3 = 0 then
      ab_X13_join_35 h4
    else
      if x1 = x2 then
        ab_X13_join_35 h4
      else
        (vl_I h4 1406 x0 ((32 * x1) + x2)).bind fun v6 =>
        if v6 = 0 then
          (vs_I h4 1406 x0 ((32 * x1) + x2) (vp_nar .boolean 1)).bind fun h8 =>
          (vs_I h8 1406 x0 ((32 * x2) + x1) (vp_nar .boolean 1)).bind fun h10 =>
          sv_let (vt_I h10 1407 x0) fun v11 =>
          sv_let (vu_I h10 1407 x0 (v11 + 1)) fun h12 =>
          some (1, h12)
        else
          ab_X13_join_35 h4

def ab_X14_vertex_36 (s0 : Int32) (h : vt_S) : Option (Int32 × vt_S) :=
  some (s0, h)

def ab_X14_vertex_24 (x1 : Int32) (s0 : Nat) (s1 : Int32) (h : vt_S) : Option (Int32 × vt_S) :=
  vt_b (ab_X14_pair 1502 s0 (s1 + (4 * x1)) h) fun r1 h2 =>
  ab_X14_vertex_36 r1 h2

def ab_X14_vertex (x0 : Nat) (x1 : Int32) (x2 : Int32) (h : vt_S) : Option (Int32 × vt_S) :=
  vt_b (ab_X14_has x0 3 x1 h) fun r1 h2 =>
  if r1 = 0 then
    ab_X14_vertex_36 100000 h2
  else
    if x2 = 0 then
      ab_X14_vertex_24 x1 x0 9 h2
    else
      ab_X14_vertex_24 x1 x0 7 h2

def ab_X17_furnish_172 (k116 : Nat → Int32 → vt_S → Option (Unit × vt_S)) (x0 : Nat) (x1 : Int32) (s0 : Int32) (h : vt_S) : Option (Unit × vt_S) :=
  sv_let (vt_P h 1804 x0) fun v1 =>
  sv_let (vt_P h 1801 x0) fun v3 =>
  sv_let (vt_P h 1801 x0) fun v4 =>
  vt_b (ab_X14_wall v4 x1 0 h) fun r5 h6 =>
  vt_b (ab_X14_vertex v3 r5 1 h6) fun r7 h8 =>
  (vs_I h8 1701 v1 x1 r7).bind fun h9 =>
  sv_let (vt_P h9 1804 x0) fun v10 =>
  sv_let (vt_P h9 1801 x0) fun v12 =>
  sv_let (vt_P h9 1801 x0) fun v13 =>
  vt_b (ab_X14_wall v13 x1 0 h9) fun r14 h15 =>
  vt_b (ab_X14_vertex v12 r14 0 h15) fun r16 h17 =>
  (vs_I h17 1702 v10 x1 r16).bind fun h18 =>
  sv_let (vt_P h18 1804 x0) fun v19 =>
  sv_let (vt_P h18 1801 x0) fun v21 =>
  sv_let (vt_P h18 1801 x0) fun v22 =>
  vt_b (ab_X14_wall v22 x1 1 h18) fun r23 h24 =>
  vt_b (ab_X14_vertex v21 r23 1 h24) fun r25 h26 =>
  (vs_I h26 1703 v19 x1 r25).bind fun h27 =>
  sv_let (vt_P h27 1804 x0) fun v28 =>
  sv_let (vt_P h27 1801 x0) fun v30 =>
  sv_let (vt_P h27 1801 x0) fun v31 =>
  vt_b (ab_X14_wall v31 x1 1 h27) fun r32 h33 =>
  vt_b (ab_X14_vertex v30 r32 0 h33) fun r34 h35 =>
  (vs_I h35 1704 v28 x1 r34).bind fun h36 =>
  k116 x0 (x1 + 1) h36

def ab_X17_furnish_171 (k116 : Nat → Int32 → vt_S → Option (Unit × vt_S)) (x0 : Nat) (x1 : Int32) (h : vt_S) : Option (Unit × vt_S) :=
  ab_X17_furnish_172 k116 x0 x1 0 h

def ab_X17_furnish_116b (k116 : Nat → Int32 → vt_S → Option (Unit × vt_S)) (x0 : Nat) (x1 : Int32) (h : vt_S) : Option (Unit × vt_S) :=
  vt_b (ab_X17_walls x0 h) fun r1 h2 =>
  if r1 ≤ x1 then
    sv_let (vt_P h2 1804 x0) fun v3 =>
    (vq_Z h2 1705 v3 0).bind fun h4 =>
    some ((), h4)
  else
    sv_let (vt_P h2 1801 x0) fun v5 =>
    vt_b (ab_X14_wall v5 x1 3 h2) fun r6 h7 =>
    if r6 = 255 then
      ab_X17_furnish_171 k116 x0 x1 h7
    else
      sv_let (vt_P h7 1803 x0) fun v8 =>
      sv_let (vt_P h7 1801 x0) fun v9 =>
      vt_b (ab_X14_wall v9 x1 2 h7) fun r10 h11 =>
      sv_let (vt_P h11 1801 x0) fun v12 =>
      vt_b (ab_X14_wall v12 x1 3 h11) fun r13 h14 =>
      vt_b (ab_X13_join v8 r10 r13 h14) fun r15 h16 =>
      if r15 = 0 then
        ab_X17_furnish_171 k116 x0 x1 h16
      else
        ab_X17_furnish_172 k116 x0 x1 1 h16

def ab_X17_furnish_116 : Nat → Nat → Int32 → vt_S → Option (Unit × vt_S)
  | 0, _, _, _ => none
  | sv_n + 1, x0, x1, h => ab_X17_furnish_116b (ab_X17_furnish_116 sv_n) x0 x1 h

def ab_X17_furnish_107 (k79 : Nat → Int32 → vt_S → Option (Unit × vt_S)) (x0 : Nat) (x1 : Int32) (s0 : Nat) (s1 : Int32) (s2 : Int32) (h : vt_S) : Option (Unit × vt_S) :=
  (vs_I h 1700 s0 s1 (vp_nar .boolean s2)).bind fun h1 =>
  k79 x0 (x1 + 1) h1

def ab_X17_furnish_79b (k79 : Nat → Int32 → vt_S → Option (Unit × vt_S)) (x0 : Nat) (x1 : Int32) (h : vt_S) : Option (Unit × vt_S) :=
  if 128 ≤ x1 then
    ab_X17_furnish_116 sv_fuel x0 0 h
  else
    sv_let (vt_P h 1804 x0) fun v1 =>
    vt_b (ab_X17_walls x0 h) fun r3 h4 =>
    if r3 ≤ x1 then
      ab_X17_furnish_107 k79 x0 x1 v1 x1 0 h4
    else
      ab_X17_furnish_107 k79 x0 x1 v1 x1 1 h4

def ab_X17_furnish_79 : Nat → Nat → Int32 → vt_S → Option (Unit × vt_S)
  | 0, _, _, _ => none
  | sv_n + 1, x0, x1, h => ab_X17_furnish_79b (ab_X17_furnish_79 sv_n) x0 x1 h

def ab_X17_furnish_9b (k9 : Nat → Int32 → vt_S → Option (Unit × vt_S)) (x0 : Nat) (x1 : Int32) (h : vt_S) : Option (Unit × vt_S) :=
  vt_b (ab_X17_sectors x0 h) fun r1 h2 =>
  if r1 ≤ x1 then
    ab_X17_furnish_79 sv_fuel x0 0 h2
  else
    sv_let (vt_P h2 1803 x0) fun v3 =>
    sv_let (vt_P h2 1801 x0) fun v4 =>
    vt_b (ab_X14_sector v4 x1 0 h2) fun r5 h6 =>
    sv_let (vt_P h6 1801 x0) fun v7 =>
    vt_b (ab_X14_sector v7 x1 1 h6) fun r8 h9 =>
    sv_let (vt_P h9 1801 x0) fun v10 =>
    vt_b (ab_X14_sector v10 x1 4 h9) fun r11 h12 =>
    sv_let (vt_P h12 1801 x0) fun v13 =>
    vt_b (ab_X14_sector v13 x1 5 h12) fun r14 h15 =>
    sv_let (vt_P h15 1801 x0) fun v16 =>
    vt_b (ab_X14_sector v16 x1 6 h15) fun r17 h18 =>
    vt_b (ab_X13_sector v3 r5 r8 r11 r14 r17 h18) fun r19 h20 =>
    k9 x0 (x1 + 1) h20

def ab_X17_furnish_9 : Nat → Nat → Int32 → vt_S → Option (Unit × vt_S)
  | 0, _, _, _ => none
  | sv_n + 1, x0, x1, h => ab_X17_furnish_9b (ab_X17_furnish_9 sv_n) x0 x1 h

def ab_X17_furnish (x0 : Nat) (h : vt_S) : Option (Unit × vt_S) :=
  sv_let (vt_P h 1803 x0) fun v1 =>
  vt_b (ab_X13_clear v1 h) fun _ h2 =>
  ab_X17_furnish_9 sv_fuel x0 0 h2

def ab_X14_start_16 (h : vt_S) : Option (Int32 × vt_S) :=
  some (100000, h)

def ab_X14_start_64 (s0 : Int32) (h : vt_S) : Option (Int32 × vt_S) :=
  some (s0, h)

def ab_X14_start (x0 : Nat) (x1 : Int32) (h : vt_S) : Option (Int32 × vt_S) :=
  sv_let (vt_I h 1503 x0) fun v1 =>
  if v1 = 0 then
    ab_X14_start_16 h
  else
    if x1 < 0 then
      ab_X14_start_16 h
    else
      if x1 ≤ 3 then
        vt_b (ab_X14_many x0 6 h) fun r2 h3 =>
        vt_b (ab_X14_wallAt x0 r2 h3) fun r4 h5 =>
        if 2 ≤ x1 then
          (vl_I h5 1502 x0 ((r4 + 2) + x1)).bind fun v7 =>
          ab_X14_start_64 (v7 &&& 255) h5
        else
          vt_b (ab_X14_pair 1502 x0 (r4 + (2 * x1)) h5) fun r9 h10 =>
          ab_X14_start_64 r9 h10
      else
        ab_X14_start_16 h

def ab_X17_begin (x0 : Nat) (h : vt_S) : Option (Unit × vt_S) :=
  sv_let (vt_P h 1802 x0) fun v1 =>
  (vl_I h 1600 v1 0).bind fun v3 =>
  sv_let (vu_I h 1811 x0 v3) fun h4 =>
  sv_let (vt_P h4 1802 x0) fun v5 =>
  (vl_I h4 1600 v5 1).bind fun v7 =>
  sv_let (vu_I h4 1812 x0 v7) fun h8 =>
  sv_let (vt_P h8 1802 x0) fun v9 =>
  (vl_I h8 1600 v9 2).bind fun v11 =>
  sv_let (vu_I h8 1813 x0 v11) fun h12 =>
  sv_let (vt_P h12 1802 x0) fun v13 =>
  (vl_I h12 1600 v13 3).bind fun v15 =>
  sv_let (vu_I h12 1814 x0 v15) fun h16 =>
  sv_let (vt_P h16 1803 x0) fun v17 =>
  vt_b (ab_X13_reset v17 h16) fun _ h18 =>
  some ((), h18)

def ab_X17_loadMap_68b (k68 : Nat → Int32 → vt_S → Option (Int32 × vt_S)) (x0 : Nat) (x1 : Int32) (h : vt_S) : Option (Int32 × vt_S) :=
  if 4 ≤ x1 then
    vt_b (ab_X17_begin x0 h) fun _ h1 =>
    some (0, h1)
  else
    sv_let (vt_P h 1802 x0) fun v2 =>
    sv_let (vt_P h 1801 x0) fun v4 =>
    vt_b (ab_X14_start v4 x1 h) fun r5 h6 =>
    (vs_I h6 1600 v2 x1 r5).bind fun h7 =>
    k68 x0 (x1 + 1) h7

def ab_X17_loadMap_68 : Nat → Nat → Int32 → vt_S → Option (Int32 × vt_S)
  | 0, _, _, _ => none
  | sv_n + 1, x0, x1, h => ab_X17_loadMap_68b (ab_X17_loadMap_68 sv_n) x0 x1 h

def ab_X17_loadMap (x0 : Nat) (h : vt_S) : Option (Int32 × vt_S) :=
  sv_let (vu_I h 1800 x0 0) fun h1 =>
  sv_let (vt_P h1 1801 x0) fun v2 =>
  vt_b (ab_X14_read v2 h1) fun r3 h4 =>
  sv_let (vu_I h4 1807 x0 r3) fun h5 =>
  sv_let (vt_P h5 1801 x0) fun v6 =>
  sv_let (vt_I h5 1505 v6) fun v7 =>
  sv_let (vu_I h5 1808 x0 v7) fun h8 =>
  sv_let (vt_I h8 1807 x0) fun v9 =>
  if v9 ≤ 0 then
    (vq_Z h8 1809 x0 1).bind fun h10 =>
    sv_let (vt_I h10 1810 x0) fun v11 =>
    sv_let (vu_I h10 1810 x0 (v11 + 1)) fun h12 =>
    vt_b (ab_X17_furnish x0 h12) fun _ h13 =>
    sv_let (vt_P h13 1802 x0) fun v14 =>
    sv_let (vu_I h13 1605 v14 0) fun h15 =>
    ab_X17_loadMap_68 sv_fuel x0 0 h15
  else
    sv_let (vt_I h8 1807 x0) fun v16 =>
    some (v16, h8)

def ab_X5_inputOf_9 (x0 : Int32) (x1 : Int32) (x2 : Int32) (s0 : Int32) (h : vt_S) : Option (Int32 × vt_S) :=
  some (((((s0 <<< (24 &&& 31)) + ((x0 + 64) <<< (16 &&& 31))) + ((x1 + 64) <<< (8 &&& 31))) + x2) + 16, h)

def ab_X5_inputOf (x0 : Int32) (x1 : Int32) (x2 : Int32) (x3 : Int32) (h : vt_S) : Option (Int32 × vt_S) :=
  if x3 = 0 then
    ab_X5_inputOf_9 x0 x1 x2 0 h
  else
    ab_X5_inputOf_9 x0 x1 x2 1 h

def ab_X5_readInput_71 (x2 : Int32) (x4 : Int32) (x5 : Int32) (x6 : Int32) (h : vt_S) : Option (Int32 × vt_S) :=
  vt_b (ab_X5_inputOf x4 x5 x6 x2 h) fun r1 h2 =>
  some (r1, h2)

def ab_X5_readInput (x0 : Nat) (x1 : Nat) (x2 : Int32) (x3 : Int32) (h : vt_S) : Option (Int32 × vt_S) :=
  vt_b (ab_X4_within x1 0 128 h) fun r1 h2 =>
  if x3 = 0 then
    ab_X5_readInput_71 x2 (r1 - 64) 0 0 h2
  else
    vt_b (ab_X4_within x1 0 128 h2) fun r3 h4 =>
    sv_let (vt_I h4 501 x1) fun v5 =>
    vt_b (ab_X4_within x1 0 32 h4) fun r6 h7 =>
    if (r3 - 64) = 0 then
      if (r6 - 16) = 0 then
        vt_b (ab_X4_blame x1 3 v5 h7) fun _ h8 =>
        ab_X5_readInput_71 x2 (r1 - 64) (r3 - 64) (r6 - 16) h8
      else
        ab_X5_readInput_71 x2 (r1 - 64) (r3 - 64) (r6 - 16) h7
    else
      ab_X5_readInput_71 x2 (r1 - 64) (r3 - 64) (r6 - 16) h7

def ab_X5_add_40 (x0 : Nat) (x1 : Int32) (h : vt_S) : Option (Unit × vt_S) :=
  sv_let (vt_I h 602 x0) fun v2 =>
  (vs_I h 601 x0 v2 x1).bind fun h3 =>
  sv_let (vt_I h3 602 x0) fun v4 =>
  sv_let (vu_I h3 602 x0 (v4 + 1)) fun h5 =>
  some ((), h5)

def ab_X5_add (x0 : Nat) (x1 : Int32) (h : vt_S) : Option (Unit × vt_S) :=
  sv_let (vt_I h 602 x0) fun v1 =>
  if v1 < 1024 then
    sv_let (vt_I h 602 x0) fun v2 =>
    sv_let (Int32.ofNat (vt_L h 601 x0)) fun v4 =>
    if v2 = v4 then
      sv_let (vt_I h 602 x0) fun v6 =>
      (vg_I h 601 x0 (2 * v6)).bind fun h9 =>
      ab_X5_add_40 x0 x1 h9
    else
      ab_X5_add_40 x0 x1 h
  else
    some ((), h)

def ab_X5_readGroup_166 (s0 : Int32) (h : vt_S) : Option (Int32 × vt_S) :=
  some (s0, h)

def ab_X5_readGroup_153 (x1 : Nat) (x5 : Int32) (h : vt_S) : Option (Int32 × vt_S) :=
  vt_b (ab_X4_well x1 h) fun r1 h2 =>
  if r1 = 0 then
    ab_X5_readGroup_166 0 h2
  else
    ab_X5_readGroup_166 x5 h2

def ab_X5_readGroup_127b (k127 : Nat → Nat → Int32 → Int32 → Int32 → vt_S → Option (Int32 × vt_S)) (x0 : Nat) (x1 : Nat) (x5 : Int32) (x6 : Int32) (x7 : Int32) (h : vt_S) : Option (Int32 × vt_S) :=
  if x5 ≤ x7 then
    ab_X5_readGroup_153 x1 x5 h
  else
    vt_b (ab_X4_well x1 h) fun r1 h2 =>
    if r1 = 0 then
      ab_X5_readGroup_153 x1 x5 h2
    else
      vt_b (ab_X5_add x0 x6 h2) fun _ h3 =>
      k127 x0 x1 x5 x6 (x7 + 1) h3

def ab_X5_readGroup_127 : Nat → Nat → Nat → Int32 → Int32 → Int32 → vt_S → Option (Int32 × vt_S)
  | 0, _, _, _, _, _, _ => none
  | sv_n + 1, x0, x1, x5, x6, x7, h => ab_X5_readGroup_127b (ab_X5_readGroup_127 sv_n) x0 x1 x5 x6 x7 h

def ab_X5_readGroup_124 (x0 : Nat) (x1 : Nat) (x5 : Int32) (x6 : Int32) (h : vt_S) : Option (Int32 × vt_S) :=
  ab_X5_readGroup_127 sv_fuel x0 x1 x5 x6 0 h

def ab_X5_readGroup_84 (x0 : Nat) (x1 : Nat) (x2 : Int32) (x3 : Int32) (x5 : Int32) (s0 : Nat) (s1 : Nat) (s2 : Int32) (s3 : Int32) (h : vt_S) : Option (Int32 × vt_S) :=
  vt_b (ab_X5_readInput s0 s1 s2 s3 h) fun r1 h2 =>
  sv_let (vt_I h2 602 x0) fun v3 =>
  if v3 ≤ 0 then
    ab_X5_readGroup_124 x0 x1 x5 r1 h2
  else
    sv_let (vt_I h2 602 x0) fun v5 =>
    (vl_I h2 601 x0 (v5 - 1)).bind fun v6 =>
    if v6 = r1 then
      if 63 ≤ x2 then
        ab_X5_readGroup_124 x0 x1 x5 r1 h2
      else
        vt_b (ab_X4_blame x1 4 x3 h2) fun _ h7 =>
        ab_X5_readGroup_124 x0 x1 x5 r1 h7
    else
      ab_X5_readGroup_124 x0 x1 x5 r1 h2

def ab_X5_readGroup_70 (x0 : Nat) (x1 : Nat) (x2 : Int32) (x3 : Int32) (x4 : Int32) (x5 : Int32) (s0 : Nat) (s1 : Nat) (s2 : Int32) (h : vt_S) : Option (Int32 × vt_S) :=
  if (x4 &&& 128) = 0 then
    ab_X5_readGroup_84 x0 x1 x2 x3 x5 s0 s1 s2 0 h
  else
    ab_X5_readGroup_84 x0 x1 x2 x3 x5 s0 s1 s2 1 h

def ab_X5_readGroup_55 (x0 : Nat) (x1 : Nat) (x2 : Int32) (x3 : Int32) (x4 : Int32) (x5 : Int32) (h : vt_S) : Option (Int32 × vt_S) :=
  if (x4 &&& 64) = 0 then
    ab_X5_readGroup_70 x0 x1 x2 x3 x4 x5 x0 x1 0 h
  else
    ab_X5_readGroup_70 x0 x1 x2 x3 x4 x5 x0 x1 1 h

def ab_X5_readGroup_36 (x0 : Nat) (x1 : Nat) (x2 : Int32) (x3 : Int32) (x4 : Int32) (x5 : Int32) (h : vt_S) : Option (Int32 × vt_S) :=
  sv_let (vt_I h 602 x0) fun v1 =>
  if (v1 + x5) ≤ 1024 then
    ab_X5_readGroup_55 x0 x1 x2 x3 x4 x5 h
  else
    vt_b (ab_X4_blame x1 5 x3 h) fun _ h2 =>
    ab_X5_readGroup_55 x0 x1 x2 x3 x4 x5 h2

def ab_X5_readGroup (x0 : Nat) (x1 : Nat) (x2 : Int32) (h : vt_S) : Option (Int32 × vt_S) :=
  sv_let (vt_I h 501 x1) fun v1 =>
  vt_b (ab_X4_one x1 h) fun r2 h3 =>
  if r2 = 0 then
    some (0, h3)
  else
    if (r2 &&& 63) = 0 then
      vt_b (ab_X4_blame x1 3 v1 h3) fun _ h4 =>
      ab_X5_readGroup_36 x0 x1 x2 v1 r2 (r2 &&& 63) h4
    else
      ab_X5_readGroup_36 x0 x1 x2 v1 r2 (r2 &&& 63) h3

def ab_X5_checkOf_8b (k8 : Nat → Int32 → Int64 → Int64 → Int32 → vt_S → Option (Int64 × vt_S)) (x0 : Nat) (x1 : Int32) (x2 : Int64) (x4 : Int64) (x6 : Int32) (h : vt_S) : Option (Int64 × vt_S) :=
  if x1 ≤ x6 then
    some ((65536 * x4) + x2, h)
  else
    (vl_I h 100 x0 x6).bind fun v2 =>
    k8 x0 x1 ((x2 + (Int32.toInt64 v2)) - (x2 + (Int32.toInt64 v2)) / 65521 * 65521) ((x4 + ((x2 + (Int32.toInt64 v2)) - (x2 + (Int32.toInt64 v2)) / 65521 * 65521)) - (x4 + ((x2 + (Int32.toInt64 v2)) - (x2 + (Int32.toInt64 v2)) / 65521 * 65521)) / 65521 * 65521) (x6 + 1) h

def ab_X5_checkOf_8 : Nat → Nat → Int32 → Int64 → Int64 → Int32 → vt_S → Option (Int64 × vt_S)
  | 0, _, _, _, _, _, _ => none
  | sv_n + 1, x0, x1, x2, x4, x6, h => ab_X5_checkOf_8b (ab_X5_checkOf_8 sv_n) x0 x1 x2 x4 x6 h

def ab_X5_checkOf (x0 : Nat) (x1 : Int32) (h : vt_S) : Option (Int64 × vt_S) :=
  ab_X5_checkOf_8 sv_fuel x0 x1 1 0 0 h

def ab_X5_readCheck_24b (k24 : Nat → Int64 → Int32 → vt_S → Option (Unit × vt_S)) (x1 : Nat) (x2 : Int64) (x4 : Int32) (h : vt_S) : Option (Unit × vt_S) :=
  if x4 < 0 then
    some ((), h)
  else
    vt_b (ab_X4_expect x1 ((Int64.toInt32 (x2 >>> (Int32.toInt64 x4 &&& 63))) &&& 255) 6 h) fun _ h1 =>
    k24 x1 x2 (x4 + (-8)) h1

def ab_X5_readCheck_24 : Nat → Nat → Int64 → Int32 → vt_S → Option (Unit × vt_S)
  | 0, _, _, _, _ => none
  | sv_n + 1, x1, x2, x4, h => ab_X5_readCheck_24b (ab_X5_readCheck_24 sv_n) x1 x2 x4 h

def ab_X5_readCheck (x0 : Nat) (x1 : Nat) (h : vt_S) : Option (Unit × vt_S) :=
  vt_b (ab_X4_well x1 h) fun r1 h2 =>
  if r1 = 0 then
    some ((), h2)
  else
    sv_let (vt_P h2 500 x1) fun v3 =>
    sv_let (vt_I h2 501 x1) fun v4 =>
    vt_b (ab_X5_checkOf v3 v4 h2) fun r5 h6 =>
    ab_X5_readCheck_24 sv_fuel x1 r5 24 h6

def ab_X5_read_65 (x0 : Nat) (x1 : Nat) (h : vt_S) : Option (Unit × vt_S) :=
  vt_b (ab_X5_readCheck x0 x1 h) fun _ h1 =>
  vt_b (ab_X4_expectEnd x1 7 h1) fun _ h2 =>
  some ((), h2)

def ab_X5_read_41b (k41 : Nat → Nat → Int32 → Int32 → vt_S → Option (Unit × vt_S)) (x0 : Nat) (x1 : Nat) (x2 : Int32) (x3 : Int32) (h : vt_S) : Option (Unit × vt_S) :=
  if 1024 < x3 then
    ab_X5_read_65 x0 x1 h
  else
    if x2 ≤ 0 then
      ab_X5_read_65 x0 x1 h
    else
      vt_b (ab_X5_readGroup x0 x1 x2 h) fun r1 h2 =>
      k41 x0 x1 r1 (x3 + 1) h2

def ab_X5_read_41 : Nat → Nat → Nat → Int32 → Int32 → vt_S → Option (Unit × vt_S)
  | 0, _, _, _, _, _ => none
  | sv_n + 1, x0, x1, x2, x3, h => ab_X5_read_41b (ab_X5_read_41 sv_n) x0 x1 x2 x3 h

def ab_X5_read (x0 : Nat) (x1 : Nat) (h : vt_S) : Option (Unit × vt_S) :=
  vt_b (ab_X4_expect x1 77 2 h) fun _ h1 =>
  vt_b (ab_X4_expect x1 68 2 h1) fun _ h2 =>
  vt_b (ab_X4_expect x1 1 2 h2) fun _ h3 =>
  sv_let (vt_P h3 600 x0) fun v4 =>
  vt_b (ab_X4_readStart x1 v4 256 h3) fun _ h5 =>
  sv_let (vu_I h5 602 x0 0) fun h6 =>
  ab_X5_read_41 sv_fuel x0 x1 63 0 h6

def ab_X12_hasMap_12 (s0 : Int32) (h : vt_S) : Option (Int32 × vt_S) :=
  vt_rz s0 h

def ab_X12_hasMap (x0 : Nat) (h : vt_S) : Option (Int32 × vt_S) :=
  sv_let (vt_I h 1310 x0) fun v1 =>
  if v1 ≤ 0 then
    ab_X12_hasMap_12 0 h
  else
    ab_X12_hasMap_12 1 h

def ab_X12_swapRuns (x0 : Nat) (h : vt_S) : Option (Unit × vt_S) :=
  sv_let (vt_P h 1308 x0) fun v1 =>
  sv_let (vt_P h 1309 x0) fun v2 =>
  sv_let (vu_P h 1308 x0 v2) fun h3 =>
  sv_let (vu_P h3 1309 x0 v1) fun h4 =>
  some ((), h4)

def ab_X12_loadDemo_88 (x0 : Nat) (h : vt_S) : Option (Int32 × vt_S) :=
  sv_let (vt_P h 1302 x0) fun v1 =>
  sv_let (vt_I h 502 v1) fun v2 =>
  some (v2, h)

def ab_X12_loadDemo_56 (x0 : Nat) (h : vt_S) : Option (Int32 × vt_S) :=
  sv_let (vt_P h 1302 x0) fun v1 =>
  vt_b (ab_X4_well v1 h) fun r2 h3 =>
  if r2 = 0 then
    ab_X12_loadDemo_88 x0 h3
  else
    vt_b (ab_X12_swapRuns x0 h3) fun _ h4 =>
    sv_let (vt_P h4 1304 x0) fun v5 =>
    sv_let (vt_P h4 1306 x0) fun v6 =>
    sv_let (vt_P h4 1308 x0) fun v7 =>
    sv_let (vt_P h4 600 v7) fun v8 =>
    vt_b (ab_X10_begin v5 v6 v8 h4) fun _ h9 =>
    ab_X12_loadDemo_88 x0 h9

def ab_X12_loadDemo_45 (x0 : Nat) (h : vt_S) : Option (Int32 × vt_S) :=
  sv_let (vt_P h 1302 x0) fun v1 =>
  vt_b (ab_X4_blame v1 8 8 h) fun _ h2 =>
  ab_X12_loadDemo_56 x0 h2

def ab_X12_loadDemo (x0 : Nat) (h : vt_S) : Option (Int32 × vt_S) :=
  sv_let (vt_P h 1302 x0) fun v1 =>
  vt_b (ab_X4_begin v1 h) fun _ h2 =>
  sv_let (vt_P h2 1309 x0) fun v3 =>
  sv_let (vt_P h2 1302 x0) fun v4 =>
  vt_b (ab_X5_read v3 v4 h2) fun _ h5 =>
  vt_b (ab_X12_hasMap x0 h5) fun r6 h7 =>
  if r6 = 0 then
    ab_X12_loadDemo_45 x0 h7
  else
    sv_let (vt_P h7 1309 x0) fun v8 =>
    sv_let (vt_P h7 600 v8) fun v9 =>
    sv_let (vt_I h7 803 v9) fun v10 =>
    sv_let (vt_P h7 1306 x0) fun v11 =>
    sv_let (vt_I h7 311 v11) fun v12 =>
    if v10 < v12 then
      ab_X12_loadDemo_56 x0 h7
    else
      ab_X12_loadDemo_45 x0 h7

def ab_X15_wrong_17 (h : vt_S) : Option (Unit × vt_S) :=
  some ((), h)

def ab_X15_wrong (x0 : Nat) (x1 : Int32) (x2 : Int32) (h : vt_S) : Option (Unit × vt_S) :=
  sv_let (vt_I h 1617 x0) fun v1 =>
  if v1 = 0 then
    sv_let (vu_I h 1617 x0 x1) fun h2 =>
    sv_let (vu_I h2 1618 x0 x2) fun h3 =>
    ab_X15_wrong_17 h3
  else
    ab_X15_wrong_17 h

def ab_X15_sum (x0 : Nat) (x1 : Int32) (h : vt_S) : Option (Unit × vt_S) :=
  sv_let (vt_I h 1619 x0) fun v1 =>
  sv_let (vu_I h 1619 x0 ((v1 + x1) - (v1 + x1) / 65521 * 65521)) fun h2 =>
  sv_let (vt_I h2 1620 x0) fun v3 =>
  sv_let (vt_I h2 1619 x0) fun v4 =>
  sv_let (vu_I h2 1620 x0 ((v3 + v4) - (v3 + v4) / 65521 * 65521)) fun h5 =>
  some ((), h5)

def ab_X15_next_27 (x0 : Nat) (h : vt_S) : Option (Int32 × vt_S) :=
  sv_let (vt_I h 1617 x0) fun v1 =>
  if v1 ≤ 0 then
    sv_let (vt_I h 1616 x0) fun v3 =>
    (vl_I h 1608 x0 v3).bind fun v4 =>
    sv_let (vt_I h 1616 x0) fun v5 =>
    sv_let (vu_I h 1616 x0 (v5 + 1)) fun h6 =>
    vt_b (ab_X15_sum x0 v4 h6) fun _ h7 =>
    some (v4, h7)
  else
    some (0, h)

def ab_X15_next (x0 : Nat) (h : vt_S) : Option (Int32 × vt_S) :=
  sv_let (vt_I h 1617 x0) fun v1 =>
  if v1 = 0 then
    sv_let (vt_I h 1616 x0) fun v2 =>
    sv_let (vt_I h 1609 x0) fun v3 =>
    if v2 = v3 then
      sv_let (vt_I h 1609 x0) fun v4 =>
      vt_b (ab_X15_wrong x0 1 v4 h) fun _ h5 =>
      ab_X15_next_27 x0 h5
    else
      ab_X15_next_27 x0 h
  else
    ab_X15_next_27 x0 h

def ab_X15_nextTwo_31 (s0 : Int32) (h : vt_S) : Option (Int32 × vt_S) :=
  some (s0, h)

def ab_X15_nextTwo (x0 : Nat) (h : vt_S) : Option (Int32 × vt_S) :=
  vt_b (ab_X15_next x0 h) fun r1 h2 =>
  vt_b (ab_X15_next x0 h2) fun r3 h4 =>
  if ((r1 * 256) + r3) ≤ 32767 then
    ab_X15_nextTwo_31 ((r1 * 256) + r3) h4
  else
    ab_X15_nextTwo_31 (((r1 * 256) + r3) - 65536) h4

def ab_X15_nextUpTo_28 (x2 : Int32) (x3 : Int32) (h : vt_S) : Option (Int32 × vt_S) :=
  some (x3 - x2, h)

def ab_X15_nextUpTo (x0 : Nat) (x1 : Int32) (x2 : Int32) (h : vt_S) : Option (Int32 × vt_S) :=
  vt_b (ab_X15_next x0 h) fun r1 h2 =>
  sv_let (vt_I h2 1617 x0) fun v3 =>
  if v3 = 0 then
    if r1 ≤ x1 then
      ab_X15_nextUpTo_28 x2 r1 h2
    else
      sv_let (vt_I h2 1616 x0) fun v4 =>
      vt_b (ab_X15_wrong x0 3 (v4 - 1) h2) fun _ h5 =>
      ab_X15_nextUpTo_28 x2 r1 h5
  else
    ab_X15_nextUpTo_28 x2 r1 h2

def ab_X15_readGroup_303 (h : vt_S) : Option (Unit × vt_S) :=
  some ((), h)

def ab_X15_readGroup_229b (k229 : Nat → Int32 → Int32 → Int32 → Int32 → Int32 → Int32 → vt_S → Option (Unit × vt_S)) (x0 : Nat) (x4 : Int32) (x5 : Int32) (x6 : Int32) (x7 : Int32) (x8 : Int32) (x11 : Int32) (h : vt_S) : Option (Unit × vt_S) :=
  if x4 ≤ x11 then
    ab_X15_readGroup_303 h
  else
    sv_let (vt_I h 1617 x0) fun v1 =>
    if v1 = 0 then
      sv_let (vt_I h 1615 x0) fun v3 =>
      (vs_I h 1611 x0 v3 x5).bind fun h4 =>
      sv_let (vt_I h4 1615 x0) fun v6 =>
      (vs_I h4 1612 x0 v6 x6).bind fun h7 =>
      sv_let (vt_I h7 1615 x0) fun v9 =>
      (vs_I h7 1613 x0 v9 x7).bind fun h10 =>
      sv_let (vt_I h10 1615 x0) fun v12 =>
      (vs_I h10 1614 x0 v12 (vp_nar .boolean x8)).bind fun h13 =>
      sv_let (vt_I h13 1615 x0) fun v14 =>
      sv_let (vu_I h13 1615 x0 (v14 + 1)) fun h15 =>
      k229 x0 x4 x5 x6 x7 x8 (x11 + 1) h15
    else
      ab_X15_readGroup_303 h

def ab_X15_readGroup_229 : Nat → Nat → Int32 → Int32 → Int32 → Int32 → Int32 → Int32 → vt_S → Option (Unit × vt_S)
  | 0, _, _, _, _, _, _, _, _ => none
  | sv_n + 1, x0, x4, x5, x6, x7, x8, x11, h => ab_X15_readGroup_229b (ab_X15_readGroup_229 sv_n) x0 x4 x5 x6 x7 x8 x11 h

def ab_X15_readGroup_226 (x0 : Nat) (x4 : Int32) (x5 : Int32) (x6 : Int32) (x7 : Int32) (x8 : Int32) (h : vt_S) : Option (Unit × vt_S) :=
  ab_X15_readGroup_229 sv_fuel x0 x4 x5 x6 x7 x8 0 h

def ab_X15_readGroup_213 (x0 : Nat) (x3 : Int32) (x4 : Int32) (x5 : Int32) (x6 : Int32) (x7 : Int32) (x8 : Int32) (s0 : Int32) (h : vt_S) : Option (Unit × vt_S) :=
  if s0 = 0 then
    ab_X15_readGroup_226 x0 x4 x5 x6 x7 x8 h
  else
    vt_b (ab_X15_wrong x0 4 x3 h) fun _ h1 =>
    ab_X15_readGroup_226 x0 x4 x5 x6 x7 x8 h1

def ab_X15_readGroup_212 (x0 : Nat) (x3 : Int32) (x4 : Int32) (x5 : Int32) (x6 : Int32) (x7 : Int32) (x8 : Int32) (h : vt_S) : Option (Unit × vt_S) :=
  ab_X15_readGroup_213 x0 x3 x4 x5 x6 x7 x8 0 h

def ab_X15_readGroup_133 (x0 : Nat) (x2 : Int32) (x3 : Int32) (x4 : Int32) (x5 : Int32) (x6 : Int32) (x7 : Int32) (s0 : Int32) (h : vt_S) : Option (Unit × vt_S) :=
  sv_let (vt_I h 1615 x0) fun v1 =>
  sv_let (vt_I h 1617 x0) fun v2 =>
  if v2 = 0 then
    if x2 ≤ 0 then
      ab_X15_readGroup_212 x0 x3 x4 x5 x6 x7 s0 h
    else
      if 63 ≤ x2 then
        ab_X15_readGroup_212 x0 x3 x4 x5 x6 x7 s0 h
      else
        (vl_I h 1611 x0 (v1 - 1)).bind fun v4 =>
        if v4 = x5 then
          (vl_I h 1612 x0 (v1 - 1)).bind fun v6 =>
          if v6 = x6 then
            (vl_I h 1613 x0 (v1 - 1)).bind fun v8 =>
            if v8 = x7 then
              (vl_I h 1614 x0 (v1 - 1)).bind fun v10 =>
              if v10 = s0 then
                ab_X15_readGroup_213 x0 x3 x4 x5 x6 x7 s0 1 h
              else
                ab_X15_readGroup_212 x0 x3 x4 x5 x6 x7 s0 h
            else
              ab_X15_readGroup_212 x0 x3 x4 x5 x6 x7 s0 h
          else
            ab_X15_readGroup_212 x0 x3 x4 x5 x6 x7 s0 h
        else
          ab_X15_readGroup_212 x0 x3 x4 x5 x6 x7 s0 h
  else
    ab_X15_readGroup_212 x0 x3 x4 x5 x6 x7 s0 h

def ab_X15_readGroup_118 (x0 : Nat) (x1 : Int32) (x2 : Int32) (x3 : Int32) (x4 : Int32) (x5 : Int32) (x6 : Int32) (x7 : Int32) (h : vt_S) : Option (Unit × vt_S) :=
  if ((x1 / 64) - (x1 / 64) / 2 * 2) = 1 then
    ab_X15_readGroup_133 x0 x2 x3 x4 x5 x6 x7 1 h
  else
    ab_X15_readGroup_133 x0 x2 x3 x4 x5 x6 x7 0 h

def ab_X15_readGroup_46 (x0 : Nat) (x1 : Int32) (x2 : Int32) (x3 : Int32) (x4 : Int32) (h : vt_S) : Option (Unit × vt_S) :=
  vt_b (ab_X15_nextUpTo x0 128 64 h) fun r1 h2 =>
  if x1 ≤ 127 then
    ab_X15_readGroup_118 x0 x1 x2 x3 x4 r1 0 0 h2
  else
    vt_b (ab_X15_nextUpTo x0 128 64 h2) fun r3 h4 =>
    vt_b (ab_X15_nextUpTo x0 32 16 h4) fun r5 h6 =>
    sv_let (vt_I h6 1617 x0) fun v7 =>
    if v7 = 0 then
      if r3 = 0 then
        if r5 = 0 then
          sv_let (vt_I h6 1616 x0) fun v8 =>
          vt_b (ab_X15_wrong x0 3 (v8 - 1) h6) fun _ h9 =>
          ab_X15_readGroup_118 x0 x1 x2 x3 x4 r1 r3 r5 h9
        else
          ab_X15_readGroup_118 x0 x1 x2 x3 x4 r1 r3 r5 h6
      else
        ab_X15_readGroup_118 x0 x1 x2 x3 x4 r1 r3 r5 h6
    else
      ab_X15_readGroup_118 x0 x1 x2 x3 x4 r1 r3 r5 h6

def ab_X15_readGroup (x0 : Nat) (x1 : Int32) (x2 : Int32) (h : vt_S) : Option (Unit × vt_S) :=
  sv_let (vt_I h 1616 x0) fun v1 =>
  if (x1 - x1 / 64 * 64) = 0 then
    vt_b (ab_X15_wrong x0 3 (v1 - 1) h) fun _ h4 =>
    ab_X15_readGroup_46 x0 x1 x2 (v1 - 1) (x1 - x1 / 64 * 64) h4
  else
    sv_let (vt_I h 1615 x0) fun v2 =>
    if (v2 + (x1 - x1 / 64 * 64)) ≤ 1024 then
      ab_X15_readGroup_46 x0 x1 x2 (v1 - 1) (x1 - x1 / 64 * 64) h
    else
      vt_b (ab_X15_wrong x0 5 (v1 - 1) h) fun _ h3 =>
      ab_X15_readGroup_46 x0 x1 x2 (v1 - 1) (x1 - x1 / 64 * 64) h3

def ab_X15_readAll_264 (h : vt_S) : Option (Unit × vt_S) :=
  some ((), h)

def ab_X15_readAll_230 (k154 : Nat → Int32 → Int32 → Int32 → vt_S → Option (Unit × vt_S)) (x0 : Nat) (x3 : Int32) (x4 : Int32) (x5 : Int32) (h : vt_S) : Option (Unit × vt_S) :=
  k154 x0 x3 x4 (x5 + 1) h

def ab_X15_readAll_196 (k154 : Nat → Int32 → Int32 → Int32 → vt_S → Option (Unit × vt_S)) (x0 : Nat) (x3 : Int32) (x4 : Int32) (x5 : Int32) (s0 : Int32) (h : vt_S) : Option (Unit × vt_S) :=
  vt_b (ab_X15_next x0 h) fun r1 h2 =>
  sv_let (vt_I h2 1617 x0) fun v3 =>
  if v3 = 0 then
    if r1 = s0 then
      ab_X15_readAll_230 k154 x0 x3 x4 x5 h2
    else
      sv_let (vt_I h2 1616 x0) fun v4 =>
      vt_b (ab_X15_wrong x0 6 (v4 - 1) h2) fun _ h5 =>
      ab_X15_readAll_230 k154 x0 x3 x4 x5 h5
  else
    ab_X15_readAll_230 k154 x0 x3 x4 x5 h2

def ab_X15_readAll_172 (k154 : Nat → Int32 → Int32 → Int32 → vt_S → Option (Unit × vt_S)) (x0 : Nat) (x3 : Int32) (x4 : Int32) (x5 : Int32) (s0 : Int32) (h : vt_S) : Option (Unit × vt_S) :=
  if (x5 - x5 / 2 * 2) = 0 then
    ab_X15_readAll_196 k154 x0 x3 x4 x5 (s0 / 256) h
  else
    ab_X15_readAll_196 k154 x0 x3 x4 x5 (s0 - s0 / 256 * 256) h

def ab_X15_readAll_154b (k154 : Nat → Int32 → Int32 → Int32 → vt_S → Option (Unit × vt_S)) (x0 : Nat) (x3 : Int32) (x4 : Int32) (x5 : Int32) (h : vt_S) : Option (Unit × vt_S) :=
  if 4 ≤ x5 then
    sv_let (vt_I h 1617 x0) fun v1 =>
    if v1 = 0 then
      sv_let (vt_I h 1616 x0) fun v2 =>
      sv_let (vt_I h 1609 x0) fun v3 =>
      if v3 ≤ v2 then
        ab_X15_readAll_264 h
      else
        sv_let (vt_I h 1616 x0) fun v4 =>
        vt_b (ab_X15_wrong x0 7 v4 h) fun _ h5 =>
        ab_X15_readAll_264 h5
    else
      ab_X15_readAll_264 h
  else
    if 2 ≤ x5 then
      ab_X15_readAll_172 k154 x0 x3 x4 x5 x3 h
    else
      ab_X15_readAll_172 k154 x0 x3 x4 x5 x4 h

def ab_X15_readAll_154 : Nat → Nat → Int32 → Int32 → Int32 → vt_S → Option (Unit × vt_S)
  | 0, _, _, _, _, _ => none
  | sv_n + 1, x0, x3, x4, x5, h => ab_X15_readAll_154b (ab_X15_readAll_154 sv_n) x0 x3 x4 x5 h

def ab_X15_readAll_140 (x0 : Nat) (h : vt_S) : Option (Unit × vt_S) :=
  sv_let (vt_I h 1619 x0) fun v1 =>
  sv_let (vt_I h 1620 x0) fun v2 =>
  ab_X15_readAll_154 sv_fuel x0 v1 v2 0 h

def ab_X15_readAll_110b (k110 : Nat → Int32 → Int32 → vt_S → Option (Unit × vt_S)) (x0 : Nat) (x1 : Int32) (x2 : Int32) (h : vt_S) : Option (Unit × vt_S) :=
  if x2 ≤ 0 then
    ab_X15_readAll_140 x0 h
  else
    sv_let (vt_I h 1617 x0) fun v1 =>
    if v1 = 0 then
      vt_b (ab_X15_readGroup x0 x2 x1 h) fun _ h2 =>
      vt_b (ab_X15_next x0 h2) fun r3 h4 =>
      k110 x0 (x2 - x2 / 64 * 64) r3 h4
    else
      ab_X15_readAll_140 x0 h

def ab_X15_readAll_110 : Nat → Nat → Int32 → Int32 → vt_S → Option (Unit × vt_S)
  | 0, _, _, _, _ => none
  | sv_n + 1, x0, x1, x2, h => ab_X15_readAll_110b (ab_X15_readAll_110 sv_n) x0 x1 x2 h

def ab_X15_readAll_49 (k2 : Nat → Int32 → vt_S → Option (Unit × vt_S)) (x0 : Nat) (x1 : Int32) (h : vt_S) : Option (Unit × vt_S) :=
  k2 x0 (x1 + 1) h

def ab_X15_readAll_40 (k2 : Nat → Int32 → vt_S → Option (Unit × vt_S)) (x0 : Nat) (x1 : Int32) (s0 : Int32) (s1 : Int32) (h : vt_S) : Option (Unit × vt_S) :=
  if s0 = s1 then
    ab_X15_readAll_49 k2 x0 x1 h
  else
    vt_b (ab_X15_wrong x0 2 x1 h) fun _ h1 =>
    ab_X15_readAll_49 k2 x0 x1 h1

def ab_X15_readAll_2b (k2 : Nat → Int32 → vt_S → Option (Unit × vt_S)) (x0 : Nat) (x1 : Int32) (h : vt_S) : Option (Unit × vt_S) :=
  if 3 ≤ x1 then
    vt_b (ab_X15_nextTwo x0 h) fun r2 h3 =>
    (vs_I h3 1610 x0 0 r2).bind fun h4 =>
    vt_b (ab_X15_nextTwo x0 h4) fun r6 h7 =>
    (vs_I h7 1610 x0 1 r6).bind fun h8 =>
    vt_b (ab_X15_nextUpTo x0 63 0 h8) fun r10 h11 =>
    (vs_I h11 1610 x0 2 r10).bind fun h12 =>
    vt_b (ab_X15_next x0 h12) fun r14 h15 =>
    (vs_I h15 1610 x0 3 r14).bind fun h16 =>
    sv_let (vu_I h16 1615 x0 0) fun h17 =>
    vt_b (ab_X15_next x0 h17) fun r18 h19 =>
    ab_X15_readAll_110 sv_fuel x0 0 r18 h19
  else
    vt_b (ab_X15_next x0 h) fun r20 h21 =>
    sv_let (vt_I h21 1617 x0) fun v22 =>
    if v22 = 0 then
      if x1 = 0 then
        ab_X15_readAll_40 k2 x0 x1 r20 77 h21
      else
        if x1 = 1 then
          ab_X15_readAll_40 k2 x0 x1 r20 68 h21
        else
          ab_X15_readAll_40 k2 x0 x1 r20 1 h21
    else
      ab_X15_readAll_49 k2 x0 x1 h21

def ab_X15_readAll_2 : Nat → Nat → Int32 → vt_S → Option (Unit × vt_S)
  | 0, _, _, _ => none
  | sv_n + 1, x0, x1, h => ab_X15_readAll_2b (ab_X15_readAll_2 sv_n) x0 x1 h

def ab_X15_readAll (x0 : Nat) (h : vt_S) : Option (Unit × vt_S) :=
  ab_X15_readAll_2 sv_fuel x0 0 h

def ab_X15_read_101b (k101 : Nat → Int32 → vt_S → Option (Int32 × vt_S)) (x0 : Nat) (x2 : Int32) (h : vt_S) : Option (Int32 × vt_S) :=
  sv_let (vt_I h 1605 x0) fun v1 =>
  if v1 ≤ x2 then
    some (0, h)
  else
    (vl_I h 1611 x0 x2).bind fun v4 =>
    (vs_I h 1601 x0 x2 v4).bind fun h5 =>
    (vl_I h5 1612 x0 x2).bind fun v8 =>
    (vs_I h5 1602 x0 x2 v8).bind fun h9 =>
    (vl_I h9 1613 x0 x2).bind fun v12 =>
    (vs_I h9 1603 x0 x2 v12).bind fun h13 =>
    (vl_I h13 1614 x0 x2).bind fun v16 =>
    (vs_I h13 1604 x0 x2 (vp_nar .boolean v16)).bind fun h17 =>
    k101 x0 (x2 + 1) h17

def ab_X15_read_101 : Nat → Nat → Int32 → vt_S → Option (Int32 × vt_S)
  | 0, _, _, _ => none
  | sv_n + 1, x0, x2, h => ab_X15_read_101b (ab_X15_read_101 sv_n) x0 x2 h

def ab_X15_read_68b (k68 : Nat → Int32 → vt_S → Option (Int32 × vt_S)) (x0 : Nat) (x2 : Int32) (h : vt_S) : Option (Int32 × vt_S) :=
  if 4 ≤ x2 then
    sv_let (vt_I h 1615 x0) fun v1 =>
    sv_let (vu_I h 1605 x0 v1) fun h2 =>
    ab_X15_read_101 sv_fuel x0 0 h2
  else
    (vl_I h 1610 x0 x2).bind fun v5 =>
    (vs_I h 1600 x0 x2 v5).bind fun h6 =>
    k68 x0 (x2 + 1) h6

def ab_X15_read_68 : Nat → Nat → Int32 → vt_S → Option (Int32 × vt_S)
  | 0, _, _, _ => none
  | sv_n + 1, x0, x2, h => ab_X15_read_68b (ab_X15_read_68 sv_n) x0 x2 h

def ab_X15_read_54 (x0 : Nat) (h : vt_S) : Option (Int32 × vt_S) :=
  sv_let (vt_I h 1617 x0) fun v1 =>
  if v1 ≤ 0 then
    ab_X15_read_68 sv_fuel x0 0 h
  else
    sv_let (vt_I h 1617 x0) fun v2 =>
    some (v2, h)

def ab_X15_read (x0 : Nat) (x1 : Int32) (h : vt_S) : Option (Int32 × vt_S) :=
  sv_let (vu_I h 1616 x0 0) fun h1 =>
  sv_let (vu_I h1 1617 x0 0) fun h2 =>
  sv_let (vu_I h2 1618 x0 ((-1))) fun h3 =>
  sv_let (vu_I h3 1619 x0 1) fun h4 =>
  sv_let (vu_I h4 1620 x0 0) fun h5 =>
  vt_b (ab_X15_readAll x0 h5) fun _ h6 =>
  sv_let (vt_I h6 1617 x0) fun v7 =>
  if v7 = 0 then
    (vl_I h6 1610 x0 3).bind fun v9 =>
    if v9 < x1 then
      ab_X15_read_54 x0 h6
    else
      vt_b (ab_X15_wrong x0 8 8 h6) fun _ h10 =>
      ab_X15_read_54 x0 h10
  else
    ab_X15_read_54 x0 h6

def ab_X17_loadDemo_97 (x0 : Nat) (h : vt_S) : Option (Int32 × vt_S) :=
  sv_let (vt_I h 1807 x0) fun v1 =>
  some (v1, h)

def ab_X17_loadDemo_7b (k7 : Nat → Int32 → vt_S → Option (Int32 × vt_S)) (x0 : Nat) (x1 : Int32) (h : vt_S) : Option (Int32 × vt_S) :=
  sv_let (vt_P h 1801 x0) fun v1 =>
  sv_let (vt_I h 1501 v1) fun v2 =>
  if v2 ≤ x1 then
    sv_let (vt_P h 1802 x0) fun v3 =>
    sv_let (vt_P h 1801 x0) fun v4 =>
    sv_let (vt_I h 1501 v4) fun v5 =>
    sv_let (vu_I h 1609 v3 v5) fun h6 =>
    sv_let (vt_P h6 1802 x0) fun v7 =>
    vt_b (ab_X17_sectors x0 h6) fun r8 h9 =>
    vt_b (ab_X15_read v7 r8 h9) fun r10 h11 =>
    sv_let (vu_I h11 1807 x0 r10) fun h12 =>
    sv_let (vt_P h12 1802 x0) fun v13 =>
    sv_let (vt_I h12 1618 v13) fun v14 =>
    sv_let (vu_I h12 1808 x0 v14) fun h15 =>
    sv_let (vt_I h15 1807 x0) fun v16 =>
    if v16 = 0 then
      vt_b (ab_X17_begin x0 h15) fun _ h17 =>
      ab_X17_loadDemo_97 x0 h17
    else
      ab_X17_loadDemo_97 x0 h15
  else
    sv_let (vt_P h 1802 x0) fun v18 =>
    sv_let (vt_P h 1801 x0) fun v20 =>
    (vl_I h 1500 v20 x1).bind fun v22 =>
    (vs_I h 1608 v18 x1 (v22 &&& 255)).bind fun h23 =>
    k7 x0 (x1 + 1) h23

def ab_X17_loadDemo_7 : Nat → Nat → Int32 → vt_S → Option (Int32 × vt_S)
  | 0, _, _, _ => none
  | sv_n + 1, x0, x1, h => ab_X17_loadDemo_7b (ab_X17_loadDemo_7 sv_n) x0 x1 h

def ab_X17_loadDemo (x0 : Nat) (h : vt_S) : Option (Int32 × vt_S) :=
  sv_let (vu_I h 1800 x0 0) fun h1 =>
  ab_X17_loadDemo_7 sv_fuel x0 0 h1

def ab_X12_saveMap (x0 : Nat) (h : vt_S) : Option (Int32 × vt_S) :=
  vt_b (ab_X12_hasMap x0 h) fun r1 h2 =>
  if r1 = 0 then
    some ((-1), h2)
  else
    sv_let (vt_P h2 1301 x0) fun v3 =>
    sv_let (vt_P h2 1306 x0) fun v4 =>
    sv_let (vt_P h2 300 v4) fun v5 =>
    vt_b (ab_X0_become v3 v5 h2) fun _ h6 =>
    sv_let (vt_P h6 1301 x0) fun v7 =>
    sv_let (vt_I h6 101 v7) fun v8 =>
    some (v8, h6)

def ab_X17_saveMap_27b (k27 : Nat → Int32 → vt_S → Option (Int32 × vt_S)) (x0 : Nat) (x1 : Int32) (h : vt_S) : Option (Int32 × vt_S) :=
  sv_let (vt_I h 1806 x0) fun v1 =>
  if v1 ≤ x1 then
    sv_let (vt_I h 1806 x0) fun v2 =>
    some (v2, h)
  else
    sv_let (vt_P h 1801 x0) fun v4 =>
    (vl_I h 1502 v4 x1).bind fun v6 =>
    (vs_I h 1805 x0 x1 (v6 &&& 255)).bind fun h7 =>
    k27 x0 (x1 + 1) h7

def ab_X17_saveMap_27 : Nat → Nat → Int32 → vt_S → Option (Int32 × vt_S)
  | 0, _, _, _ => none
  | sv_n + 1, x0, x1, h => ab_X17_saveMap_27b (ab_X17_saveMap_27 sv_n) x0 x1 h

def ab_X17_saveMap (x0 : Nat) (h : vt_S) : Option (Int32 × vt_S) :=
  sv_let (vu_I h 1800 x0 0) fun h1 =>
  sv_let (vt_I h1 1809 x0) fun v2 =>
  if v2 = 0 then
    some ((-1), h1)
  else
    sv_let (vt_P h1 1801 x0) fun v3 =>
    sv_let (vt_I h1 1503 v3) fun v4 =>
    sv_let (vu_I h1 1806 x0 v4) fun h5 =>
    ab_X17_saveMap_27 sv_fuel x0 0 h5

def ab_X0_putPair (x0 : Nat) (x1 : Int32) (h : vt_S) : Option (Unit × vt_S) :=
  vt_b (ab_X0_put x0 (x1 >>> (8 &&& 31)) h) fun _ h1 =>
  vt_b (ab_X0_put x0 x1 h1) fun _ h2 =>
  some ((), h2)

def ab_X5_asideOf (x0 : Int32) (h : vt_S) : Option (Int32 × vt_S) :=
  some (((x0 >>> (8 &&& 31)) &&& 255) - 64, h)

def ab_X5_turnOf (x0 : Int32) (h : vt_S) : Option (Int32 × vt_S) :=
  some ((x0 &&& 255) - 16, h)

def ab_X5_usesOf_12 (s0 : Int32) (h : vt_S) : Option (Int32 × vt_S) :=
  vt_rz s0 h

def ab_X5_usesOf (x0 : Int32) (h : vt_S) : Option (Int32 × vt_S) :=
  if (x0 >>> (24 &&& 31)) = 0 then
    ab_X5_usesOf_12 0 h
  else
    ab_X5_usesOf_12 1 h

def ab_X5_aheadOf (x0 : Int32) (h : vt_S) : Option (Int32 × vt_S) :=
  some (((x0 >>> (16 &&& 31)) &&& 255) - 64, h)

def ab_X5_writeGroup_88 (h : vt_S) : Option (Unit × vt_S) :=
  some ((), h)

def ab_X5_writeGroup_47 (x0 : Nat) (x1 : Int32) (x3 : Int32) (s0 : Nat) (s1 : Int32) (s2 : Int32) (h : vt_S) : Option (Unit × vt_S) :=
  vt_b (ab_X0_put s0 (s1 + s2) h) fun _ h1 =>
  vt_b (ab_X5_aheadOf x1 h1) fun r2 h3 =>
  vt_b (ab_X0_put x0 (r2 + 64) h3) fun _ h4 =>
  if x3 = 0 then
    ab_X5_writeGroup_88 h4
  else
    vt_b (ab_X5_asideOf x1 h4) fun r5 h6 =>
    vt_b (ab_X0_put x0 (r5 + 64) h6) fun _ h7 =>
    vt_b (ab_X5_turnOf x1 h7) fun r8 h9 =>
    vt_b (ab_X0_put x0 (r8 + 16) h9) fun _ h10 =>
    ab_X5_writeGroup_88 h10

def ab_X5_writeGroup_35 (x0 : Nat) (x1 : Int32) (x3 : Int32) (s0 : Nat) (s1 : Int32) (s2 : Int32) (h : vt_S) : Option (Unit × vt_S) :=
  if x3 = 0 then
    ab_X5_writeGroup_47 x0 x1 x3 s0 (s1 + s2) 0 h
  else
    ab_X5_writeGroup_47 x0 x1 x3 s0 (s1 + s2) 128 h

def ab_X5_writeGroup_19 (x0 : Nat) (x1 : Int32) (x2 : Int32) (s0 : Int32) (h : vt_S) : Option (Unit × vt_S) :=
  vt_b (ab_X5_usesOf x1 h) fun r1 h2 =>
  if r1 = 0 then
    ab_X5_writeGroup_35 x0 x1 s0 x0 x2 0 h2
  else
    ab_X5_writeGroup_35 x0 x1 s0 x0 x2 64 h2

def ab_X5_writeGroup_14 (x0 : Nat) (x1 : Int32) (x2 : Int32) (h : vt_S) : Option (Unit × vt_S) :=
  ab_X5_writeGroup_19 x0 x1 x2 1 h

def ab_X5_writeGroup (x0 : Nat) (x1 : Int32) (x2 : Int32) (h : vt_S) : Option (Unit × vt_S) :=
  vt_b (ab_X5_asideOf x1 h) fun r1 h2 =>
  if r1 = 0 then
    vt_b (ab_X5_turnOf x1 h2) fun r3 h4 =>
    if r3 = 0 then
      ab_X5_writeGroup_19 x0 x1 x2 0 h4
    else
      ab_X5_writeGroup_14 x0 x1 x2 h4
  else
    ab_X5_writeGroup_14 x0 x1 x2 h2

def ab_X5_write_151b (k151 : Nat → Int64 → Int32 → vt_S → Option (Unit × vt_S)) (x1 : Nat) (x3 : Int64) (x5 : Int32) (h : vt_S) : Option (Unit × vt_S) :=
  if x5 < 0 then
    some ((), h)
  else
    vt_b (ab_X0_put x1 ((Int64.toInt32 (x3 >>> (Int32.toInt64 x5 &&& 63))) &&& 255) h) fun _ h1 =>
    k151 x1 x3 (x5 + (-8)) h1

def ab_X5_write_151 : Nat → Nat → Int64 → Int32 → vt_S → Option (Unit × vt_S)
  | 0, _, _, _, _ => none
  | sv_n + 1, x1, x3, x5, h => ab_X5_write_151b (ab_X5_write_151 sv_n) x1 x3 x5 h

def ab_X5_write_127 (k70 : Nat → Nat → Int32 → Int32 → vt_S → Option (Unit × vt_S)) (x0 : Nat) (x1 : Nat) (x2 : Int32) (x3 : Int32) (h : vt_S) : Option (Unit × vt_S) :=
  k70 x0 x1 x2 (x3 + 1) h

def ab_X5_write_114 (k70 : Nat → Nat → Int32 → Int32 → vt_S → Option (Unit × vt_S)) (x0 : Nat) (x1 : Nat) (x2 : Int32) (x3 : Int32) (h : vt_S) : Option (Unit × vt_S) :=
  (vl_I h 601 x0 x3).bind fun v2 =>
  vt_b (ab_X5_writeGroup x1 v2 x2 h) fun _ h3 =>
  ab_X5_write_127 k70 x0 x1 0 x3 h3

def ab_X5_write_70b (k70 : Nat → Nat → Int32 → Int32 → vt_S → Option (Unit × vt_S)) (x0 : Nat) (x1 : Nat) (x2 : Int32) (x3 : Int32) (h : vt_S) : Option (Unit × vt_S) :=
  sv_let (vt_I h 602 x0) fun v1 =>
  if v1 ≤ x3 then
    vt_b (ab_X0_put x1 0 h) fun _ h2 =>
    sv_let (vt_I h2 101 x1) fun v3 =>
    vt_b (ab_X5_checkOf x1 v3 h2) fun r4 h5 =>
    ab_X5_write_151 sv_fuel x1 r4 24 h5
  else
    if (x2 + 1) = 63 then
      ab_X5_write_114 k70 x0 x1 (x2 + 1) x3 h
    else
      sv_let (vt_I h 602 x0) fun v6 =>
      if (x3 + 1) = v6 then
        ab_X5_write_114 k70 x0 x1 (x2 + 1) x3 h
      else
        (vl_I h 601 x0 (x3 + 1)).bind fun v8 =>
        (vl_I h 601 x0 x3).bind fun v10 =>
        if v8 = v10 then
          ab_X5_write_127 k70 x0 x1 (x2 + 1) x3 h
        else
          ab_X5_write_114 k70 x0 x1 (x2 + 1) x3 h

def ab_X5_write_70 : Nat → Nat → Nat → Int32 → Int32 → vt_S → Option (Unit × vt_S)
  | 0, _, _, _, _, _ => none
  | sv_n + 1, x0, x1, x2, x3, h => ab_X5_write_70b (ab_X5_write_70 sv_n) x0 x1 x2 x3 h

def ab_X5_write (x0 : Nat) (x1 : Nat) (h : vt_S) : Option (Unit × vt_S) :=
  sv_let (vu_I h 101 x1 0) fun h1 =>
  vt_b (ab_X0_put x1 77 h1) fun _ h2 =>
  vt_b (ab_X0_put x1 68 h2) fun _ h3 =>
  vt_b (ab_X0_put x1 1 h3) fun _ h4 =>
  sv_let (vt_P h4 600 x0) fun v5 =>
  sv_let (vt_I h4 800 v5) fun v6 =>
  vt_b (ab_X0_putPair x1 v6 h4) fun _ h7 =>
  sv_let (vt_P h7 600 x0) fun v8 =>
  sv_let (vt_I h7 801 v8) fun v9 =>
  vt_b (ab_X0_putPair x1 v9 h7) fun _ h10 =>
  sv_let (vt_P h10 600 x0) fun v11 =>
  sv_let (vt_I h10 802 v11) fun v12 =>
  vt_b (ab_X0_put x1 v12 h10) fun _ h13 =>
  sv_let (vt_P h13 600 x0) fun v14 =>
  sv_let (vt_I h13 803 v14) fun v15 =>
  vt_b (ab_X0_put x1 v15 h13) fun _ h16 =>
  ab_X5_write_70 sv_fuel x0 x1 0 0 h16

def ab_X12_saveDemo (x0 : Nat) (h : vt_S) : Option (Int32 × vt_S) :=
  vt_b (ab_X12_hasMap x0 h) fun r1 h2 =>
  if r1 = 0 then
    some ((-1), h2)
  else
    sv_let (vt_P h2 1308 x0) fun v3 =>
    sv_let (vt_P h2 1301 x0) fun v4 =>
    vt_b (ab_X5_write v3 v4 h2) fun _ h5 =>
    sv_let (vt_P h5 1301 x0) fun v6 =>
    sv_let (vt_I h5 101 v6) fun v7 =>
    some (v7, h5)

def ab_X15_put (x0 : Nat) (x1 : Int32) (h : vt_S) : Option (Unit × vt_S) :=
  sv_let (vt_I h 1607 x0) fun v2 =>
  (vs_I h 1606 x0 v2 (x1 &&& 255)).bind fun h3 =>
  sv_let (vt_I h3 1607 x0) fun v4 =>
  sv_let (vu_I h3 1607 x0 (v4 + 1)) fun h5 =>
  some ((), h5)

def ab_X15_run_92 (x2 : Int32) (h : vt_S) : Option (Int32 × vt_S) :=
  some (x2, h)

def ab_X15_run_2b (k2 : Nat → Int32 → Int32 → vt_S → Option (Int32 × vt_S)) (x0 : Nat) (x1 : Int32) (x2 : Int32) (h : vt_S) : Option (Int32 × vt_S) :=
  if 63 ≤ x2 then
    ab_X15_run_92 x2 h
  else
    sv_let (vt_I h 1605 x0) fun v1 =>
    if v1 ≤ (x1 + x2) then
      ab_X15_run_92 x2 h
    else
      (vl_I h 1601 x0 (x1 + x2)).bind fun v3 =>
      (vl_I h 1601 x0 x1).bind fun v5 =>
      if v3 = v5 then
        (vl_I h 1602 x0 (x1 + x2)).bind fun v7 =>
        (vl_I h 1602 x0 x1).bind fun v9 =>
        if v7 = v9 then
          (vl_I h 1603 x0 (x1 + x2)).bind fun v11 =>
          (vl_I h 1603 x0 x1).bind fun v13 =>
          if v11 = v13 then
            (vl_I h 1604 x0 (x1 + x2)).bind fun v15 =>
            (vl_I h 1604 x0 x1).bind fun v17 =>
            if v15 = v17 then
              k2 x0 x1 (x2 + 1) h
            else
              ab_X15_run_92 x2 h
          else
            ab_X15_run_92 x2 h
        else
          ab_X15_run_92 x2 h
      else
        ab_X15_run_92 x2 h

def ab_X15_run_2 : Nat → Nat → Int32 → Int32 → vt_S → Option (Int32 × vt_S)
  | 0, _, _, _, _ => none
  | sv_n + 1, x0, x1, x2, h => ab_X15_run_2b (ab_X15_run_2 sv_n) x0 x1 x2 h

def ab_X15_run (x0 : Nat) (x1 : Int32) (h : vt_S) : Option (Int32 × vt_S) :=
  ab_X15_run_2 sv_fuel x0 x1 1 h

def ab_X15_checkByte_36 (s0 : Int32) (h : vt_S) : Option (Int32 × vt_S) :=
  some (s0, h)

def ab_X15_checkByte_16 (x1 : Int32) (s0 : Int32) (h : vt_S) : Option (Int32 × vt_S) :=
  if (x1 - x1 / 2 * 2) = 0 then
    ab_X15_checkByte_36 (s0 / 256) h
  else
    ab_X15_checkByte_36 (s0 - s0 / 256 * 256) h

def ab_X15_checkByte (x0 : Nat) (x1 : Int32) (h : vt_S) : Option (Int32 × vt_S) :=
  if 2 ≤ x1 then
    sv_let (vt_I h 1619 x0) fun v1 =>
    ab_X15_checkByte_16 x1 v1 h
  else
    sv_let (vt_I h 1620 x0) fun v2 =>
    ab_X15_checkByte_16 x1 v2 h

def ab_X15_write_244b (k244 : Nat → Int32 → vt_S → Option (Int32 × vt_S)) (x0 : Nat) (x2 : Int32) (h : vt_S) : Option (Int32 × vt_S) :=
  if 4 ≤ x2 then
    sv_let (vt_I h 1607 x0) fun v1 =>
    some (v1, h)
  else
    vt_b (ab_X15_checkByte x0 x2 h) fun r2 h3 =>
    vt_b (ab_X15_put x0 r2 h3) fun _ h4 =>
    k244 x0 (x2 + 1) h4

def ab_X15_write_244 : Nat → Nat → Int32 → vt_S → Option (Int32 × vt_S)
  | 0, _, _, _ => none
  | sv_n + 1, x0, x2, h => ab_X15_write_244b (ab_X15_write_244 sv_n) x0 x2 h

def ab_X15_write_218b (k218 : Nat → Int32 → vt_S → Option (Int32 × vt_S)) (x0 : Nat) (x2 : Int32) (h : vt_S) : Option (Int32 × vt_S) :=
  sv_let (vt_I h 1607 x0) fun v1 =>
  if v1 ≤ x2 then
    ab_X15_write_244 sv_fuel x0 0 h
  else
    (vl_I h 1606 x0 x2).bind fun v3 =>
    vt_b (ab_X15_sum x0 v3 h) fun _ h4 =>
    k218 x0 (x2 + 1) h4

def ab_X15_write_218 : Nat → Nat → Int32 → vt_S → Option (Int32 × vt_S)
  | 0, _, _, _ => none
  | sv_n + 1, x0, x2, h => ab_X15_write_218b (ab_X15_write_218 sv_n) x0 x2 h

def ab_X15_write_194 (k80 : Nat → Int32 → vt_S → Option (Int32 × vt_S)) (x0 : Nat) (x1 : Int32) (x2 : Int32) (h : vt_S) : Option (Int32 × vt_S) :=
  k80 x0 (x1 + x2) h

def ab_X15_write_147 (k80 : Nat → Int32 → vt_S → Option (Int32 × vt_S)) (x0 : Nat) (x1 : Int32) (x2 : Int32) (x3 : Int32) (s0 : Nat) (s1 : Int32) (s2 : Int32) (h : vt_S) : Option (Int32 × vt_S) :=
  vt_b (ab_X15_put s0 (s1 + s2) h) fun _ h1 =>
  (vl_I h1 1601 x0 x1).bind fun v3 =>
  vt_b (ab_X15_put x0 (v3 + 64) h1) fun _ h4 =>
  if x3 = 0 then
    ab_X15_write_194 k80 x0 x1 x2 h4
  else
    (vl_I h4 1602 x0 x1).bind fun v6 =>
    vt_b (ab_X15_put x0 (v6 + 64) h4) fun _ h7 =>
    (vl_I h7 1603 x0 x1).bind fun v9 =>
    vt_b (ab_X15_put x0 (v9 + 16) h7) fun _ h10 =>
    ab_X15_write_194 k80 x0 x1 x2 h10

def ab_X15_write_135 (k80 : Nat → Int32 → vt_S → Option (Int32 × vt_S)) (x0 : Nat) (x1 : Int32) (x2 : Int32) (x3 : Int32) (s0 : Nat) (s1 : Int32) (s2 : Int32) (h : vt_S) : Option (Int32 × vt_S) :=
  if x3 = 0 then
    ab_X15_write_147 k80 x0 x1 x2 x3 s0 (s1 + s2) 0 h
  else
    ab_X15_write_147 k80 x0 x1 x2 x3 s0 (s1 + s2) 128 h

def ab_X15_write_117 (k80 : Nat → Int32 → vt_S → Option (Int32 × vt_S)) (x0 : Nat) (x1 : Int32) (x2 : Int32) (s0 : Int32) (h : vt_S) : Option (Int32 × vt_S) :=
  (vl_I h 1604 x0 x1).bind fun v2 =>
  if v2 = 0 then
    ab_X15_write_135 k80 x0 x1 x2 s0 x0 x2 0 h
  else
    ab_X15_write_135 k80 x0 x1 x2 s0 x0 x2 64 h

def ab_X15_write_112 (k80 : Nat → Int32 → vt_S → Option (Int32 × vt_S)) (x0 : Nat) (x1 : Int32) (x2 : Int32) (h : vt_S) : Option (Int32 × vt_S) :=
  ab_X15_write_117 k80 x0 x1 x2 1 h

def ab_X15_write_80b (k80 : Nat → Int32 → vt_S → Option (Int32 × vt_S)) (x0 : Nat) (x1 : Int32) (h : vt_S) : Option (Int32 × vt_S) :=
  sv_let (vt_I h 1605 x0) fun v1 =>
  if v1 ≤ x1 then
    vt_b (ab_X15_put x0 0 h) fun _ h2 =>
    sv_let (vu_I h2 1619 x0 1) fun h3 =>
    sv_let (vu_I h3 1620 x0 0) fun h4 =>
    ab_X15_write_218 sv_fuel x0 0 h4
  else
    vt_b (ab_X15_run x0 x1 h) fun r5 h6 =>
    (vl_I h6 1602 x0 x1).bind fun v8 =>
    if v8 = 0 then
      (vl_I h6 1603 x0 x1).bind fun v10 =>
      if v10 = 0 then
        ab_X15_write_117 k80 x0 x1 r5 0 h6
      else
        ab_X15_write_112 k80 x0 x1 r5 h6
    else
      ab_X15_write_112 k80 x0 x1 r5 h6

def ab_X15_write_80 : Nat → Nat → Int32 → vt_S → Option (Int32 × vt_S)
  | 0, _, _, _ => none
  | sv_n + 1, x0, x1, h => ab_X15_write_80b (ab_X15_write_80 sv_n) x0 x1 h

def ab_X15_write_24b (k24 : Nat → Int32 → vt_S → Option (Int32 × vt_S)) (x0 : Nat) (x1 : Int32) (h : vt_S) : Option (Int32 × vt_S) :=
  if 2 ≤ x1 then
    (vl_I h 1600 x0 2).bind fun v2 =>
    vt_b (ab_X15_put x0 v2 h) fun _ h3 =>
    (vl_I h3 1600 x0 3).bind fun v5 =>
    vt_b (ab_X15_put x0 v5 h3) fun _ h6 =>
    ab_X15_write_80 sv_fuel x0 0 h6
  else
    (vl_I h 1600 x0 x1).bind fun v8 =>
    vt_b (ab_X15_put x0 (v8 >>> (8 &&& 31)) h) fun _ h9 =>
    (vl_I h9 1600 x0 x1).bind fun v11 =>
    vt_b (ab_X15_put x0 v11 h9) fun _ h12 =>
    k24 x0 (x1 + 1) h12

def ab_X15_write_24 : Nat → Nat → Int32 → vt_S → Option (Int32 × vt_S)
  | 0, _, _, _ => none
  | sv_n + 1, x0, x1, h => ab_X15_write_24b (ab_X15_write_24 sv_n) x0 x1 h

def ab_X15_write (x0 : Nat) (h : vt_S) : Option (Int32 × vt_S) :=
  sv_let (vu_I h 1607 x0 0) fun h1 =>
  vt_b (ab_X15_put x0 77 h1) fun _ h2 =>
  vt_b (ab_X15_put x0 68 h2) fun _ h3 =>
  vt_b (ab_X15_put x0 1 h3) fun _ h4 =>
  ab_X15_write_24 sv_fuel x0 0 h4

def ab_X17_saveDemo_27b (k27 : Nat → Int32 → vt_S → Option (Int32 × vt_S)) (x0 : Nat) (x1 : Int32) (h : vt_S) : Option (Int32 × vt_S) :=
  sv_let (vt_I h 1806 x0) fun v1 =>
  if v1 ≤ x1 then
    sv_let (vt_I h 1806 x0) fun v2 =>
    some (v2, h)
  else
    sv_let (vt_P h 1802 x0) fun v4 =>
    (vl_I h 1606 v4 x1).bind fun v6 =>
    (vs_I h 1805 x0 x1 v6).bind fun h7 =>
    k27 x0 (x1 + 1) h7

def ab_X17_saveDemo_27 : Nat → Nat → Int32 → vt_S → Option (Int32 × vt_S)
  | 0, _, _, _ => none
  | sv_n + 1, x0, x1, h => ab_X17_saveDemo_27b (ab_X17_saveDemo_27 sv_n) x0 x1 h

def ab_X17_saveDemo (x0 : Nat) (h : vt_S) : Option (Int32 × vt_S) :=
  sv_let (vu_I h 1800 x0 0) fun h1 =>
  sv_let (vt_I h1 1809 x0) fun v2 =>
  if v2 = 0 then
    some ((-1), h1)
  else
    sv_let (vt_P h1 1802 x0) fun v3 =>
    vt_b (ab_X15_write v3 h1) fun r4 h5 =>
    sv_let (vu_I h5 1806 x0 r4) fun h6 =>
    ab_X17_saveDemo_27 sv_fuel x0 0 h6

def ab_X12_turnBytes (x0 : Nat) (h : vt_S) : Option (Unit × vt_S) :=
  sv_let (vt_P h 1300 x0) fun v1 =>
  sv_let (vt_P h 1301 x0) fun v2 =>
  vt_b (ab_X0_become v1 v2 h) fun _ h3 =>
  some ((), h3)

def ab_X17_turnBytes_18b (k18 : Nat → Int32 → vt_S → Option (Unit × vt_S)) (x0 : Nat) (x1 : Int32) (h : vt_S) : Option (Unit × vt_S) :=
  sv_let (vt_I h 1806 x0) fun v1 =>
  if v1 ≤ x1 then
    some ((), h)
  else
    sv_let (vt_P h 1801 x0) fun v2 =>
    (vl_I h 1805 x0 x1).bind fun v5 =>
    (vs_I h 1500 v2 x1 (vp_nar .byte (Int8.toInt32 (Int32.toInt8 v5)))).bind fun h6 =>
    k18 x0 (x1 + 1) h6

def ab_X17_turnBytes_18 : Nat → Nat → Int32 → vt_S → Option (Unit × vt_S)
  | 0, _, _, _ => none
  | sv_n + 1, x0, x1, h => ab_X17_turnBytes_18b (ab_X17_turnBytes_18 sv_n) x0 x1 h

def ab_X17_turnBytes (x0 : Nat) (h : vt_S) : Option (Unit × vt_S) :=
  sv_let (vu_I h 1800 x0 0) fun h1 =>
  sv_let (vt_P h1 1801 x0) fun v2 =>
  sv_let (vt_I h1 1806 x0) fun v3 =>
  sv_let (vu_I h1 1501 v2 v3) fun h4 =>
  ab_X17_turnBytes_18 sv_fuel x0 0 h4

def ab_X12_isPlace_33 (s0 : Int32) (h : vt_S) : Option (Int32 × vt_S) :=
  vt_rz s0 h

def ab_X12_isPlace_32 (h : vt_S) : Option (Int32 × vt_S) :=
  ab_X12_isPlace_33 0 h

def ab_X12_isPlace (x0 : Int32) (x1 : Int32) (h : vt_S) : Option (Int32 × vt_S) :=
  if x0 < ((-32768)) then
    ab_X12_isPlace_32 h
  else
    if 32767 < x0 then
      ab_X12_isPlace_32 h
    else
      if x1 < ((-32768)) then
        ab_X12_isPlace_32 h
      else
        if 32767 < x1 then
          ab_X12_isPlace_32 h
        else
          ab_X12_isPlace_33 1 h

def ab_X12_isSector_20 (s0 : Int32) (h : vt_S) : Option (Int32 × vt_S) :=
  vt_rz s0 h

def ab_X12_isSector_19 (h : vt_S) : Option (Int32 × vt_S) :=
  ab_X12_isSector_20 0 h

def ab_X12_isSector (x0 : Nat) (x1 : Int32) (h : vt_S) : Option (Int32 × vt_S) :=
  if x1 < 0 then
    ab_X12_isSector_19 h
  else
    sv_let (vt_P h 1306 x0) fun v1 =>
    sv_let (vt_I h 311 v1) fun v2 =>
    if v2 ≤ x1 then
      ab_X12_isSector_19 h
    else
      ab_X12_isSector_20 1 h

def ab_X12_startAt_34 (h : vt_S) : Option (Int32 × vt_S) :=
  some (0, h)

def ab_X12_startAt (x0 : Nat) (x1 : Int32) (x2 : Int32) (x3 : Int32) (x4 : Int32) (h : vt_S) : Option (Int32 × vt_S) :=
  vt_b (ab_X12_hasMap x0 h) fun r1 h2 =>
  if r1 = 0 then
    ab_X12_startAt_34 h2
  else
    vt_b (ab_X12_isPlace x1 x2 h2) fun r3 h4 =>
    if r3 = 0 then
      ab_X12_startAt_34 h4
    else
      if x3 < 0 then
        ab_X12_startAt_34 h4
      else
        if 64 ≤ x3 then
          ab_X12_startAt_34 h4
        else
          vt_b (ab_X12_isSector x0 x4 h4) fun r5 h6 =>
          if r5 = 0 then
            ab_X12_startAt_34 h6
          else
            sv_let (vt_P h6 1308 x0) fun v7 =>
            sv_let (vt_P h6 600 v7) fun v8 =>
            vt_b (ab_X7_put v8 x1 x2 x3 x4 h6) fun _ h9 =>
            sv_let (vt_P h9 1304 x0) fun v10 =>
            sv_let (vt_P h9 1306 x0) fun v11 =>
            sv_let (vt_P h9 1308 x0) fun v12 =>
            sv_let (vt_P h9 600 v12) fun v13 =>
            vt_b (ab_X10_begin v10 v11 v13 h9) fun _ h14 =>
            some (1, h14)

def ab_X15_start_51 (h : vt_S) : Option (Int32 × vt_S) :=
  some (0, h)

def ab_X15_start (x0 : Nat) (x1 : Int32) (x2 : Int32) (x3 : Int32) (x4 : Int32) (h : vt_S) : Option (Int32 × vt_S) :=
  if x1 < ((-32768)) then
    ab_X15_start_51 h
  else
    if 32767 < x1 then
      ab_X15_start_51 h
    else
      if x2 < ((-32768)) then
        ab_X15_start_51 h
      else
        if 32767 < x2 then
          ab_X15_start_51 h
        else
          if x3 < 0 then
            ab_X15_start_51 h
          else
            if 63 < x3 then
              ab_X15_start_51 h
            else
              if x4 < 0 then
                ab_X15_start_51 h
              else
                if x4 ≤ 255 then
                  (vs_I h 1600 x0 0 x1).bind fun h2 =>
                  (vs_I h2 1600 x0 1 x2).bind fun h4 =>
                  (vs_I h4 1600 x0 2 x3).bind fun h6 =>
                  (vs_I h6 1600 x0 3 x4).bind fun h8 =>
                  some (1, h8)
                else
                  ab_X15_start_51 h

def ab_X17_startAt_36 (h : vt_S) : Option (Int32 × vt_S) :=
  some (0, h)

def ab_X17_startAt (x0 : Nat) (x1 : Int32) (x2 : Int32) (x3 : Int32) (x4 : Int32) (h : vt_S) : Option (Int32 × vt_S) :=
  sv_let (vu_I h 1800 x0 0) fun h1 =>
  sv_let (vt_I h1 1809 x0) fun v2 =>
  if v2 = 0 then
    ab_X17_startAt_36 h1
  else
    vt_b (ab_X17_sectors x0 h1) fun r3 h4 =>
    if r3 ≤ x4 then
      ab_X17_startAt_36 h4
    else
      sv_let (vt_P h4 1802 x0) fun v5 =>
      vt_b (ab_X15_start v5 x1 x2 x3 x4 h4) fun r6 h7 =>
      if r6 = 0 then
        ab_X17_startAt_36 h7
      else
        vt_b (ab_X17_begin x0 h7) fun _ h8 =>
        some (1, h8)

def ab_X5_isInput_41 (s0 : Int32) (h : vt_S) : Option (Int32 × vt_S) :=
  vt_rz s0 h

def ab_X5_isInput_40 (h : vt_S) : Option (Int32 × vt_S) :=
  ab_X5_isInput_41 0 h

def ab_X5_isInput (x0 : Int32) (x1 : Int32) (x2 : Int32) (h : vt_S) : Option (Int32 × vt_S) :=
  if x0 < ((-64)) then
    ab_X5_isInput_40 h
  else
    if 64 < x0 then
      ab_X5_isInput_40 h
    else
      if x1 < ((-64)) then
        ab_X5_isInput_40 h
      else
        if 64 < x1 then
          ab_X5_isInput_40 h
        else
          if x2 < ((-16)) then
            ab_X5_isInput_40 h
          else
            if 16 < x2 then
              ab_X5_isInput_40 h
            else
              ab_X5_isInput_41 1 h

def ab_X12_addInput_29 (h : vt_S) : Option (Int32 × vt_S) :=
  some ((-1), h)

def ab_X12_addInput (x0 : Nat) (x1 : Int32) (x2 : Int32) (x3 : Int32) (x4 : Int32) (h : vt_S) : Option (Int32 × vt_S) :=
  vt_b (ab_X12_hasMap x0 h) fun r1 h2 =>
  if r1 = 0 then
    ab_X12_addInput_29 h2
  else
    vt_b (ab_X5_isInput x1 x2 x3 h2) fun r3 h4 =>
    if r3 = 0 then
      ab_X12_addInput_29 h4
    else
      sv_let (vt_P h4 1308 x0) fun v5 =>
      sv_let (vt_I h4 602 v5) fun v6 =>
      if v6 < 1024 then
        sv_let (vt_P h4 1308 x0) fun v7 =>
        vt_b (ab_X5_inputOf x1 x2 x3 x4 h4) fun r8 h9 =>
        vt_b (ab_X5_add v7 r8 h9) fun _ h10 =>
        sv_let (vt_P h10 1308 x0) fun v11 =>
        sv_let (vt_I h10 602 v11) fun v12 =>
        some (v12, h10)
      else
        ab_X12_addInput_29 h4

def ab_X15_isIn_16 (s0 : Int32) (h : vt_S) : Option (Int32 × vt_S) :=
  vt_rz s0 h

def ab_X15_isIn_15 (h : vt_S) : Option (Int32 × vt_S) :=
  ab_X15_isIn_16 0 h

def ab_X15_isIn (x0 : Int32) (x1 : Int32) (h : vt_S) : Option (Int32 × vt_S) :=
  if x0 < (-x1) then
    ab_X15_isIn_15 h
  else
    if x1 < x0 then
      ab_X15_isIn_15 h
    else
      ab_X15_isIn_16 1 h

def ab_X15_record_54 (h : vt_S) : Option (Int32 × vt_S) :=
  some ((-1), h)

def ab_X15_record_59b (k59 : Nat → Int32 → Int32 → Int32 → Int32 → Int32 → Int32 → vt_S → Option (Int32 × vt_S)) (x0 : Nat) (x1 : Int32) (x2 : Int32) (x3 : Int32) (x4 : Int32) (x5 : Int32) (x6 : Int32) (h : vt_S) : Option (Int32 × vt_S) :=
  if x5 ≤ x6 then
    sv_let (vt_I h 1605 x0) fun v1 =>
    some (v1, h)
  else
    sv_let (vt_I h 1605 x0) fun v3 =>
    (vs_I h 1601 x0 v3 x1).bind fun h4 =>
    sv_let (vt_I h4 1605 x0) fun v6 =>
    (vs_I h4 1602 x0 v6 x2).bind fun h7 =>
    sv_let (vt_I h7 1605 x0) fun v9 =>
    (vs_I h7 1603 x0 v9 x3).bind fun h10 =>
    sv_let (vt_I h10 1605 x0) fun v12 =>
    (vs_I h10 1604 x0 v12 (vp_nar .boolean x4)).bind fun h13 =>
    sv_let (vt_I h13 1605 x0) fun v14 =>
    sv_let (vu_I h13 1605 x0 (v14 + 1)) fun h15 =>
    k59 x0 x1 x2 x3 x4 x5 (x6 + 1) h15

def ab_X15_record_59 : Nat → Nat → Int32 → Int32 → Int32 → Int32 → Int32 → Int32 → vt_S → Option (Int32 × vt_S)
  | 0, _, _, _, _, _, _, _, _ => none
  | sv_n + 1, x0, x1, x2, x3, x4, x5, x6, h => ab_X15_record_59b (ab_X15_record_59 sv_n) x0 x1 x2 x3 x4 x5 x6 h

def ab_X15_record (x0 : Nat) (x1 : Int32) (x2 : Int32) (x3 : Int32) (x4 : Int32) (x5 : Int32) (h : vt_S) : Option (Int32 × vt_S) :=
  vt_b (ab_X15_isIn x1 64 h) fun r1 h2 =>
  if r1 = 0 then
    ab_X15_record_54 h2
  else
    vt_b (ab_X15_isIn x2 64 h2) fun r3 h4 =>
    if r3 = 0 then
      ab_X15_record_54 h4
    else
      vt_b (ab_X15_isIn x3 16 h4) fun r5 h6 =>
      if r5 = 0 then
        ab_X15_record_54 h6
      else
        if x5 < 1 then
          ab_X15_record_54 h6
        else
          if 1024 < x5 then
            ab_X15_record_54 h6
          else
            sv_let (vt_I h6 1605 x0) fun v7 =>
            if (v7 + x5) ≤ 1024 then
              ab_X15_record_59 sv_fuel x0 x1 x2 x3 x4 x5 0 h6
            else
              ab_X15_record_54 h6

def ab_X17_addInput_29 (s0 : Int32) (h : vt_S) : Option (Int32 × vt_S) :=
  some (s0, h)

def ab_X17_addInput (x0 : Nat) (x1 : Int32) (x2 : Int32) (x3 : Int32) (x4 : Int32) (h : vt_S) : Option (Int32 × vt_S) :=
  sv_let (vu_I h 1800 x0 0) fun h1 =>
  sv_let (vt_I h1 1809 x0) fun v2 =>
  if v2 = 0 then
    ab_X17_addInput_29 ((-1)) h1
  else
    sv_let (vt_P h1 1802 x0) fun v3 =>
    vt_b (ab_X15_record v3 x1 x2 x3 x4 1 h1) fun r4 h5 =>
    ab_X17_addInput_29 r4 h5

def ab_X12_dropInputs_15 (h : vt_S) : Option (Int32 × vt_S) :=
  some (0, h)

def ab_X12_dropInputs (x0 : Nat) (x1 : Int32) (h : vt_S) : Option (Int32 × vt_S) :=
  if x1 < 0 then
    ab_X12_dropInputs_15 h
  else
    sv_let (vt_P h 1308 x0) fun v1 =>
    sv_let (vt_I h 602 v1) fun v2 =>
    if x1 ≤ v2 then
      sv_let (vt_P h 1308 x0) fun v3 =>
      sv_let (vt_I h 602 v3) fun v4 =>
      sv_let (vu_I h 602 v3 (v4 - x1)) fun h5 =>
      some (1, h5)
    else
      ab_X12_dropInputs_15 h

def ab_X15_undo_12 (h : vt_S) : Option (Int32 × vt_S) :=
  some (0, h)

def ab_X15_undo (x0 : Nat) (x1 : Int32) (h : vt_S) : Option (Int32 × vt_S) :=
  if x1 < 0 then
    ab_X15_undo_12 h
  else
    sv_let (vt_I h 1605 x0) fun v1 =>
    if x1 ≤ v1 then
      sv_let (vt_I h 1605 x0) fun v2 =>
      sv_let (vu_I h 1605 x0 (v2 - x1)) fun h3 =>
      some (1, h3)
    else
      ab_X15_undo_12 h

def ab_X17_dropInputs (x0 : Nat) (x1 : Int32) (h : vt_S) : Option (Int32 × vt_S) :=
  sv_let (vu_I h 1800 x0 0) fun h1 =>
  sv_let (vt_P h1 1802 x0) fun v2 =>
  vt_b (ab_X15_undo v2 x1 h1) fun r3 h4 =>
  vt_rz r3 h4

def ab_X12_cosine (x0 : Int32) (h : vt_S) : Option (Int32 × vt_S) :=
  if 16 < x0 then
    if 32 < x0 then
      if 48 < x0 then
        (sv_sQ (64 - x0)).bind fun v1 =>
        some (v1, h)
      else
        (sv_sQ (x0 - 32)).bind fun v2 =>
        some (-v2, h)
    else
      (sv_sQ (32 - x0)).bind fun v3 =>
      some (-v3, h)
  else
    (sv_sQ x0).bind fun v4 =>
    some (v4, h)

def ab_X12_sine (x0 : Int32) (h : vt_S) : Option (Int32 × vt_S) :=
  vt_b (ab_J9_floorMod_7cf53 (x0 - 16) 64 h) fun r1 h2 =>
  vt_b (ab_X12_cosine r1 h2) fun r3 h4 =>
  some (r3, h4)

def ab_X3_aim (x0 : Nat) (x1 : Int32) (x2 : Int32) (x3 : Int32) (x4 : Int32) (h : vt_S) : Option (Unit × vt_S) :=
  sv_let (vu_I h 407 x0 x1) fun h1 =>
  sv_let (vu_I h1 408 x0 x2) fun h2 =>
  sv_let (vu_I h2 409 x0 x3) fun h3 =>
  sv_let (vu_I h3 410 x0 x4) fun h4 =>
  some ((), h4)

def ab_X3_makeGap_166 (x5 : Int32) (h : vt_S) : Option (Int32 × vt_S) :=
  some (x5, h)

def ab_X3_makeGap_22b (k22 : Nat → Int64 → Int64 → Int32 → Int32 → vt_S → Option (Int32 × vt_S)) (x0 : Nat) (x1 : Int64) (x3 : Int64) (x5 : Int32) (x6 : Int32) (h : vt_S) : Option (Int32 × vt_S) :=
  if x6 ≤ 0 then
    ab_X3_makeGap_166 x5 h
  else
    if x5 ≤ 0 then
      ab_X3_makeGap_166 x5 h
    else
      (vl_J h 402 x0 (x5 - 1)).bind fun v2 =>
      (vl_J h 403 x0 (x5 - 1)).bind fun v4 =>
      vt_b (ab_X12_compareQuotients v2 v4 x1 x3 h) fun r5 h6 =>
      if 0 < r5 then
        (vl_I h6 400 x0 (x5 - 1)).bind fun v9 =>
        (vs_I h6 400 x0 x5 v9).bind fun h10 =>
        (vl_I h10 401 x0 (x5 - 1)).bind fun v13 =>
        (vs_I h10 401 x0 x5 (vp_nar .boolean v13)).bind fun h14 =>
        (vl_J h14 402 x0 (x5 - 1)).bind fun v17 =>
        (vs_J h14 402 x0 x5 v17).bind fun h18 =>
        (vl_J h18 403 x0 (x5 - 1)).bind fun v21 =>
        (vs_J h18 403 x0 x5 v21).bind fun h22 =>
        (vl_J h22 404 x0 (x5 - 1)).bind fun v25 =>
        (vs_J h22 404 x0 x5 v25).bind fun h26 =>
        (vl_J h26 405 x0 (x5 - 1)).bind fun v29 =>
        (vs_J h26 405 x0 x5 v29).bind fun h30 =>
        k22 x0 x1 x3 (x5 + (-1)) (x6 + (-1)) h30
      else
        some (x5, h6)

def ab_X3_makeGap_22 : Nat → Nat → Int64 → Int64 → Int32 → Int32 → vt_S → Option (Int32 × vt_S)
  | 0, _, _, _, _, _, _ => none
  | sv_n + 1, x0, x1, x3, x5, x6, h => ab_X3_makeGap_22b (ab_X3_makeGap_22 sv_n) x0 x1 x3 x5 x6 h

def ab_X3_makeGap (x0 : Nat) (x1 : Int64) (x3 : Int64) (h : vt_S) : Option (Int32 × vt_S) :=
  sv_let (vt_I h 406 x0) fun v1 =>
  sv_let (vt_I h 406 x0) fun v2 =>
  sv_let (vu_I h 406 x0 (v2 + 1)) fun h3 =>
  sv_let (vt_I h3 406 x0) fun v4 =>
  ab_X3_makeGap_22 sv_fuel x0 x1 x3 v1 v4 h3

def ab_X3_meet_189 (h : vt_S) : Option (Unit × vt_S) :=
  some ((), h)

def ab_X3_meet_226 (x0 : Nat) (x4 : Int64) (x6 : Int64) (x10 : Int64) (x12 : Int64) (x14 : Int32) (s0 : Nat) (s1 : Int32) (s2 : Int32) (h : vt_S) : Option (Unit × vt_S) :=
  (vs_I h 401 s0 s1 (vp_nar .boolean s2)).bind fun h1 =>
  (vs_J h1 402 x0 x14 x10).bind fun h3 =>
  (vs_J h3 403 x0 x14 x12).bind fun h5 =>
  (vs_J h5 404 x0 x14 x4).bind fun h7 =>
  (vs_J h7 405 x0 x14 x6).bind fun h9 =>
  some ((), h9)

def ab_X3_meet_159 (x0 : Nat) (x2 : Int32) (x3 : Int32) (x4 : Int64) (x6 : Int64) (x8 : Int64) (s0 : Int64) (h : vt_S) : Option (Unit × vt_S) :=
  sv_let (sv_absl (x6 - x4)) fun r1 =>
  if (lg_cmp s0 0) ≤ 0 then
    ab_X3_meet_189 h
  else
    if (lg_cmp (s0 * (Int32.toInt64 x3)) r1) ≤ 0 then
      vt_b (ab_X3_makeGap x0 s0 r1 h) fun r2 h3 =>
      (vs_I h3 400 x0 r2 x2).bind fun h5 =>
      if 0 ≤ (lg_cmp x8 0) then
        ab_X3_meet_226 x0 x4 x6 s0 r1 r2 x0 r2 0 h5
      else
        ab_X3_meet_226 x0 x4 x6 s0 r1 r2 x0 r2 1 h5
    else
      ab_X3_meet_189 h

def ab_X3_meet_94 (x0 : Nat) (x1 : Nat) (x2 : Int32) (x3 : Int32) (x4 : Int64) (x6 : Int64) (s0 : Int32) (s1 : Int32) (h : vt_S) : Option (Unit × vt_S) :=
  if s0 = s1 then
    some ((), h)
  else
    sv_let (vt_I h 1200 x1) fun v1 =>
    sv_let (vt_I h 407 x0) fun v2 =>
    sv_let (vt_I h 1201 x1) fun v3 =>
    sv_let (vt_I h 408 x0) fun v4 =>
    sv_let (vt_I h 1202 x1) fun v5 =>
    sv_let (vt_I h 1200 x1) fun v6 =>
    sv_let (vt_I h 1203 x1) fun v7 =>
    sv_let (vt_I h 1201 x1) fun v8 =>
    vt_b (ab_X12_cross (Int32.toInt64 (v1 - v2)) (Int32.toInt64 (v3 - v4)) (Int32.toInt64 (v5 - v6)) (Int32.toInt64 (v7 - v8)) h) fun r9 h10 =>
    if (lg_cmp x6 x4) ≤ 0 then
      ab_X3_meet_159 x0 x2 x3 x4 x6 r9 (-r9) h10
    else
      ab_X3_meet_159 x0 x2 x3 x4 x6 r9 r9 h10

def ab_X3_meet_82 (x0 : Nat) (x1 : Nat) (x2 : Int32) (x3 : Int32) (x4 : Int64) (x6 : Int64) (s0 : Int32) (h : vt_S) : Option (Unit × vt_S) :=
  if 0 ≤ (lg_cmp x6 0) then
    ab_X3_meet_94 x0 x1 x2 x3 x4 x6 s0 0 h
  else
    ab_X3_meet_94 x0 x1 x2 x3 x4 x6 s0 1 h

def ab_X3_meet (x0 : Nat) (x1 : Nat) (x2 : Int32) (x3 : Int32) (h : vt_S) : Option (Unit × vt_S) :=
  sv_let (vt_I h 409 x0) fun v1 =>
  sv_let (vt_I h 410 x0) fun v2 =>
  sv_let (vt_I h 1200 x1) fun v3 =>
  sv_let (vt_I h 407 x0) fun v4 =>
  sv_let (vt_I h 1201 x1) fun v5 =>
  sv_let (vt_I h 408 x0) fun v6 =>
  vt_b (ab_X12_cross (Int32.toInt64 v1) (Int32.toInt64 v2) (Int32.toInt64 (v3 - v4)) (Int32.toInt64 (v5 - v6)) h) fun r7 h8 =>
  sv_let (vt_I h8 409 x0) fun v9 =>
  sv_let (vt_I h8 410 x0) fun v10 =>
  sv_let (vt_I h8 1202 x1) fun v11 =>
  sv_let (vt_I h8 407 x0) fun v12 =>
  sv_let (vt_I h8 1203 x1) fun v13 =>
  sv_let (vt_I h8 408 x0) fun v14 =>
  vt_b (ab_X12_cross (Int32.toInt64 v9) (Int32.toInt64 v10) (Int32.toInt64 (v11 - v12)) (Int32.toInt64 (v13 - v14)) h8) fun r15 h16 =>
  if 0 ≤ (lg_cmp r7 0) then
    ab_X3_meet_82 x0 x1 x2 x3 r7 r15 0 h16
  else
    ab_X3_meet_82 x0 x1 x2 x3 r7 r15 1 h16

def ab_X3_meetClose_89 (k30 : Nat → Nat → Int32 → Int32 → Int32 → vt_S → Option (Unit × vt_S)) (x0 : Nat) (x1 : Nat) (x2 : Int32) (x3 : Int32) (x4 : Int32) (h : vt_S) : Option (Unit × vt_S) :=
  k30 x0 x1 x2 x3 (x4 + 1) h

def ab_X3_meetClose_30b (k30 : Nat → Nat → Int32 → Int32 → Int32 → vt_S → Option (Unit × vt_S)) (x0 : Nat) (x1 : Nat) (x2 : Int32) (x3 : Int32) (x4 : Int32) (h : vt_S) : Option (Unit × vt_S) :=
  sv_let (vt_I h 312 x1) fun v1 =>
  if v1 ≤ x4 then
    some ((), h)
  else
    (vl_P h 308 x1 x4).bind fun v3 =>
    sv_let (vt_I h 407 x0) fun v4 =>
    sv_let (vt_I h 408 x0) fun v5 =>
    sv_let (vt_I h 407 x0) fun v6 =>
    sv_let (vt_I h 408 x0) fun v7 =>
    vt_b (ab_X11_reachesBox v3 (v4 - x3) (v5 - x3) (v6 + x3) (v7 + x3) h) fun r8 h9 =>
    if r8 = 0 then
      ab_X3_meetClose_89 k30 x0 x1 x2 x3 x4 h9
    else
      vt_b (ab_X3_meet x0 v3 x4 x2 h9) fun _ h10 =>
      ab_X3_meetClose_89 k30 x0 x1 x2 x3 x4 h10

def ab_X3_meetClose_30 : Nat → Nat → Nat → Int32 → Int32 → Int32 → vt_S → Option (Unit × vt_S)
  | 0, _, _, _, _, _, _ => none
  | sv_n + 1, x0, x1, x2, x3, x4, h => ab_X3_meetClose_30b (ab_X3_meetClose_30 sv_n) x0 x1 x2 x3 x4 h

def ab_X3_meetClose (x0 : Nat) (x1 : Nat) (x2 : Int32) (h : vt_S) : Option (Unit × vt_S) :=
  sv_let (vu_I h 406 x0 0) fun h1 =>
  sv_let (vt_I h1 409 x0) fun v2 =>
  sv_let (sv_abs v2) fun r3 =>
  sv_let (vt_I h1 410 x0) fun v4 =>
  sv_let (sv_abs v4) fun r5 =>
  sv_let (sv_max r3 r5) fun r6 =>
  if x2 = 0 then none else
  ab_X3_meetClose_30 sv_fuel x0 x1 x2 ((r6 / x2) + 1) 0 h1

def ab_X11_sectorOn_15 (s0 : Int32) (h : vt_S) : Option (Int32 × vt_S) :=
  some (s0, h)

def ab_X11_sectorOn (x0 : Nat) (x1 : Int32) (h : vt_S) : Option (Int32 × vt_S) :=
  if x1 = 0 then
    sv_let (vt_I h 1205 x0) fun v1 =>
    ab_X11_sectorOn_15 v1 h
  else
    sv_let (vt_I h 1204 x0) fun v2 =>
    ab_X11_sectorOn_15 v2 h

def ab_X10_stops_101 (s0 : Int32) (h : vt_S) : Option (Int32 × vt_S) :=
  vt_rz s0 h

def ab_X10_stops_96 (h : vt_S) : Option (Int32 × vt_S) :=
  ab_X10_stops_101 1 h

def ab_X10_stops_41 (x3 : Nat) (s0 : Nat) (s1 : Nat) (s2 : Int32) (h : vt_S) : Option (Int32 × vt_S) :=
  vt_b (ab_X11_sectorOn s1 s2 h) fun r1 h2 =>
  (vl_P h2 307 s0 r1).bind fun v3 =>
  sv_let (vt_I h2 708 x3) fun v4 =>
  sv_let (vt_I h2 708 v3) fun v5 =>
  sv_let (sv_min v4 v5) fun r6 =>
  sv_let (vt_I h2 707 x3) fun v7 =>
  sv_let (vt_I h2 707 v3) fun v8 =>
  sv_let (sv_max v7 v8) fun r9 =>
  sv_let (vt_I h2 707 v3) fun v10 =>
  sv_let (vt_I h2 707 x3) fun v11 =>
  if 24 < (v10 - v11) then
    ab_X10_stops_96 h2
  else
    if 56 ≤ (r6 - r9) then
      ab_X10_stops_101 0 h2
    else
      ab_X10_stops_96 h2

def ab_X10_stops (x0 : Nat) (x1 : Nat) (x2 : Int32) (h : vt_S) : Option (Int32 × vt_S) :=
  sv_let (vt_I h 1205 x1) fun v1 =>
  if v1 = ((-1)) then
    some (1, h)
  else
    sv_let (vt_P h 1101 x0) fun v2 =>
    vt_b (ab_X11_sectorOn x1 x2 h) fun r4 h5 =>
    (vl_P h5 307 v2 r4).bind fun v6 =>
    sv_let (vt_P h5 1101 x0) fun v7 =>
    if x2 = 0 then
      ab_X10_stops_41 v6 v7 x1 1 h5
    else
      ab_X10_stops_41 v6 v7 x1 0 h5

def ab_X10_moverByCrossing_38 (h : vt_S) : Option (Int32 × vt_S) :=
  some ((-1), h)

def ab_X10_moverByCrossing (x0 : Int32) (h : vt_S) : Option (Int32 × vt_S) :=
  if x0 = 2 then
    some (1, h)
  else
  if x0 = 3 then
    some (0, h)
  else
  if x0 = 4 then
    ab_X10_moverByCrossing_38 h
  else
  if x0 = 5 then
    some (2, h)
  else
  ab_X10_moverByCrossing_38 h

def ab_X2_neighbourBy_19 (h : vt_S) : Option (Int32 × vt_S) :=
  some ((-1), h)

def ab_X2_neighbourBy_50 (s0 : Int32) (h : vt_S) : Option (Int32 × vt_S) :=
  some (s0, h)

def ab_X2_neighbourBy (x0 : Nat) (x1 : Nat) (x2 : Int32) (h : vt_S) : Option (Int32 × vt_S) :=
  sv_let (vt_I h 1205 x1) fun v1 =>
  if v1 = ((-1)) then
    ab_X2_neighbourBy_19 h
  else
    sv_let (vt_I h 1204 x1) fun v2 =>
    sv_let (vt_I h 1205 x1) fun v3 =>
    if v2 = v3 then
      ab_X2_neighbourBy_19 h
    else
      sv_let (vt_I h 1204 x1) fun v4 =>
      if v4 = x2 then
        sv_let (vt_I h 1205 x1) fun v7 =>
        some (v7, h)
      else
        sv_let (vt_I h 1205 x1) fun v5 =>
        if v5 = x2 then
          sv_let (vt_I h 1204 x1) fun v6 =>
          ab_X2_neighbourBy_50 v6 h
        else
          ab_X2_neighbourBy_50 ((-1)) h

def ab_X2_lowCeiling_72 (s0 : Int32) (h : vt_S) : Option (Int32 × vt_S) :=
  some (s0, h)

def ab_X2_lowCeiling_47 (k5 : Nat → Int32 → Int32 → Int32 → vt_S → Option (Int32 × vt_S)) (x0 : Nat) (x1 : Int32) (x2 : Int32) (x3 : Int32) (h : vt_S) : Option (Int32 × vt_S) :=
  k5 x0 x1 x2 (x3 + 1) h

def ab_X2_lowCeiling_5b (k5 : Nat → Int32 → Int32 → Int32 → vt_S → Option (Int32 × vt_S)) (x0 : Nat) (x1 : Int32) (x2 : Int32) (x3 : Int32) (h : vt_S) : Option (Int32 × vt_S) :=
  sv_let (vt_I h 312 x0) fun v1 =>
  if v1 ≤ x3 then
    if x2 = 100000 then
      (vl_P h 307 x0 x1).bind fun v3 =>
      sv_let (vt_I h 708 v3) fun v4 =>
      ab_X2_lowCeiling_72 v4 h
    else
      ab_X2_lowCeiling_72 x2 h
  else
    (vl_P h 308 x0 x3).bind fun v6 =>
    vt_b (ab_X2_neighbourBy x0 v6 x1 h) fun r7 h8 =>
    if r7 = ((-1)) then
      ab_X2_lowCeiling_47 k5 x0 x1 x2 x3 h8
    else
      (vl_P h8 307 x0 r7).bind fun v10 =>
      sv_let (vt_I h8 708 v10) fun v11 =>
      sv_let (sv_min x2 v11) fun r12 =>
      ab_X2_lowCeiling_47 k5 x0 x1 r12 x3 h8

def ab_X2_lowCeiling_5 : Nat → Nat → Int32 → Int32 → Int32 → vt_S → Option (Int32 × vt_S)
  | 0, _, _, _, _, _ => none
  | sv_n + 1, x0, x1, x2, x3, h => ab_X2_lowCeiling_5b (ab_X2_lowCeiling_5 sv_n) x0 x1 x2 x3 h

def ab_X2_lowCeiling (x0 : Nat) (x1 : Int32) (h : vt_S) : Option (Int32 × vt_S) :=
  ab_X2_lowCeiling_5 sv_fuel x0 x1 100000 0 h

def ab_X6_startMover (x0 : Nat) (x1 : Int32) (x2 : Int32) (x3 : Int32) (h : vt_S) : Option (Unit × vt_S) :=
  sv_let (vu_I h 709 x0 x1) fun h1 =>
  sv_let (vu_I h1 710 x0 x2) fun h2 =>
  sv_let (vu_I h2 712 x0 x3) fun h3 =>
  sv_let (vt_I h3 707 x0) fun v4 =>
  sv_let (vu_I h3 713 x0 v4) fun h5 =>
  sv_let (vu_I h5 711 x0 0) fun h6 =>
  some ((), h6)

def ab_X2_lowFloor_54 (k12 : Nat → Int32 → Int32 → Int32 → vt_S → Option (Int32 × vt_S)) (x0 : Nat) (x1 : Int32) (x2 : Int32) (x3 : Int32) (h : vt_S) : Option (Int32 × vt_S) :=
  k12 x0 x1 x2 (x3 + 1) h

def ab_X2_lowFloor_12b (k12 : Nat → Int32 → Int32 → Int32 → vt_S → Option (Int32 × vt_S)) (x0 : Nat) (x1 : Int32) (x2 : Int32) (x3 : Int32) (h : vt_S) : Option (Int32 × vt_S) :=
  sv_let (vt_I h 312 x0) fun v1 =>
  if v1 ≤ x3 then
    some (x2, h)
  else
    (vl_P h 308 x0 x3).bind fun v3 =>
    vt_b (ab_X2_neighbourBy x0 v3 x1 h) fun r4 h5 =>
    if r4 = ((-1)) then
      ab_X2_lowFloor_54 k12 x0 x1 x2 x3 h5
    else
      (vl_P h5 307 x0 r4).bind fun v7 =>
      sv_let (vt_I h5 707 v7) fun v8 =>
      sv_let (sv_min x2 v8) fun r9 =>
      ab_X2_lowFloor_54 k12 x0 x1 r9 x3 h5

def ab_X2_lowFloor_12 : Nat → Nat → Int32 → Int32 → Int32 → vt_S → Option (Int32 × vt_S)
  | 0, _, _, _, _, _ => none
  | sv_n + 1, x0, x1, x2, x3, h => ab_X2_lowFloor_12b (ab_X2_lowFloor_12 sv_n) x0 x1 x2 x3 h

def ab_X2_lowFloor (x0 : Nat) (x1 : Int32) (h : vt_S) : Option (Int32 × vt_S) :=
  (vl_P h 307 x0 x1).bind fun v2 =>
  sv_let (vt_I h 707 v2) fun v3 =>
  ab_X2_lowFloor_12 sv_fuel x0 x1 v3 0 h

def ab_X2_highFloor_54 (k12 : Nat → Int32 → Int32 → Int32 → vt_S → Option (Int32 × vt_S)) (x0 : Nat) (x1 : Int32) (x2 : Int32) (x3 : Int32) (h : vt_S) : Option (Int32 × vt_S) :=
  k12 x0 x1 x2 (x3 + 1) h

def ab_X2_highFloor_12b (k12 : Nat → Int32 → Int32 → Int32 → vt_S → Option (Int32 × vt_S)) (x0 : Nat) (x1 : Int32) (x2 : Int32) (x3 : Int32) (h : vt_S) : Option (Int32 × vt_S) :=
  sv_let (vt_I h 312 x0) fun v1 =>
  if v1 ≤ x3 then
    some (x2, h)
  else
    (vl_P h 308 x0 x3).bind fun v3 =>
    vt_b (ab_X2_neighbourBy x0 v3 x1 h) fun r4 h5 =>
    if r4 = ((-1)) then
      ab_X2_highFloor_54 k12 x0 x1 x2 x3 h5
    else
      (vl_P h5 307 x0 r4).bind fun v7 =>
      sv_let (vt_I h5 707 v7) fun v8 =>
      sv_let (sv_max x2 v8) fun r9 =>
      ab_X2_highFloor_54 k12 x0 x1 r9 x3 h5

def ab_X2_highFloor_12 : Nat → Nat → Int32 → Int32 → Int32 → vt_S → Option (Int32 × vt_S)
  | 0, _, _, _, _, _ => none
  | sv_n + 1, x0, x1, x2, x3, h => ab_X2_highFloor_12b (ab_X2_highFloor_12 sv_n) x0 x1 x2 x3 h

def ab_X2_highFloor (x0 : Nat) (x1 : Int32) (h : vt_S) : Option (Int32 × vt_S) :=
  (vl_P h 307 x0 x1).bind fun v2 =>
  sv_let (vt_I h 707 v2) fun v3 =>
  ab_X2_highFloor_12 sv_fuel x0 x1 v3 0 h

def ab_X2_startOne_103 (h : vt_S) : Option (Unit × vt_S) :=
  some ((), h)

def ab_X2_startOne (x0 : Nat) (x1 : Int32) (x2 : Int32) (h : vt_S) : Option (Unit × vt_S) :=
  (vl_P h 307 x0 x2).bind fun v2 =>
  sv_let (vt_I h 709 v2) fun v3 =>
  if v3 = ((-1)) then
    if x1 = 0 then
      vt_b (ab_X2_lowCeiling x0 x2 h) fun r12 h13 =>
      sv_let (vt_I h13 708 v2) fun v14 =>
      sv_let (sv_max (r12 - 4) v14) fun r15 =>
      vt_b (ab_X6_startMover v2 0 1 r15 h13) fun _ h16 =>
      ab_X2_startOne_103 h16
    else
      if x1 = 1 then
        vt_b (ab_X2_lowFloor x0 x2 h) fun r9 h10 =>
        vt_b (ab_X6_startMover v2 1 ((-1)) r9 h10) fun _ h11 =>
        ab_X2_startOne_103 h11
      else
        if x1 = 2 then
          vt_b (ab_X2_highFloor x0 x2 h) fun r4 h5 =>
          sv_let (vt_I h5 708 v2) fun v6 =>
          sv_let (sv_min r4 v6) fun r7 =>
          vt_b (ab_X6_startMover v2 2 1 r7 h5) fun _ h8 =>
          ab_X2_startOne_103 h8
        else
          ab_X2_startOne_103 h
  else
    if x1 = 0 then
      sv_let (vt_I h 709 v2) fun v17 =>
      if v17 = 0 then
        sv_let (vu_I h 710 v2 1) fun h18 =>
        ab_X2_startOne_103 h18
      else
        ab_X2_startOne_103 h
    else
      ab_X2_startOne_103 h

def ab_X2_startAll_40 (h : vt_S) : Option (Unit × vt_S) :=
  some ((), h)

def ab_X2_startAll_34 (k2 : Nat → Int32 → Int32 → Int32 → vt_S → Option (Unit × vt_S)) (x0 : Nat) (x1 : Int32) (x2 : Int32) (x3 : Int32) (h : vt_S) : Option (Unit × vt_S) :=
  k2 x0 x1 x2 (x3 + 1) h

def ab_X2_startAll_2b (k2 : Nat → Int32 → Int32 → Int32 → vt_S → Option (Unit × vt_S)) (x0 : Nat) (x1 : Int32) (x2 : Int32) (x3 : Int32) (h : vt_S) : Option (Unit × vt_S) :=
  sv_let (vt_I h 311 x0) fun v1 =>
  if v1 ≤ x3 then
    ab_X2_startAll_40 h
  else
    if x1 = ((-1)) then
      ab_X2_startAll_40 h
    else
      (vl_P h 307 x0 x3).bind fun v3 =>
      sv_let (vt_I h 706 v3) fun v4 =>
      if v4 = x2 then
        vt_b (ab_X2_startOne x0 x1 x3 h) fun _ h5 =>
        ab_X2_startAll_34 k2 x0 x1 x2 x3 h5
      else
        ab_X2_startAll_34 k2 x0 x1 x2 x3 h

def ab_X2_startAll_2 : Nat → Nat → Int32 → Int32 → Int32 → vt_S → Option (Unit × vt_S)
  | 0, _, _, _, _, _ => none
  | sv_n + 1, x0, x1, x2, x3, h => ab_X2_startAll_2b (ab_X2_startAll_2 sv_n) x0 x1 x2 x3 h

def ab_X2_startAll (x0 : Nat) (x1 : Int32) (x2 : Int32) (h : vt_S) : Option (Unit × vt_S) :=
  ab_X2_startAll_2 sv_fuel x0 x1 x2 0 h

def ab_X10_go_57 (h : vt_S) : Option (Int32 × vt_S) :=
  some (0, h)

def ab_X10_go_185 (k135 : Nat → Int32 → vt_S → Option (Int32 × vt_S)) (x0 : Nat) (x3 : Int32) (x4 : Nat) (s0 : Nat) (s1 : Nat) (s2 : Int32) (h : vt_S) : Option (Int32 × vt_S) :=
  vt_b (ab_X11_sectorOn s1 s2 h) fun r1 h2 =>
  sv_let (vu_I h2 1105 s0 r1) fun h3 =>
  sv_let (vt_P h3 1101 x0) fun v4 =>
  sv_let (vt_I h3 1209 x4) fun v5 =>
  vt_b (ab_X10_moverByCrossing v5 h3) fun r6 h7 =>
  sv_let (vt_I h7 1210 x4) fun v8 =>
  vt_b (ab_X2_startAll v4 r6 v8 h7) fun _ h9 =>
  k135 x0 (x3 + 1) h9

def ab_X10_go_135b (k135 : Nat → Int32 → vt_S → Option (Int32 × vt_S)) (x0 : Nat) (x3 : Int32) (h : vt_S) : Option (Int32 × vt_S) :=
  sv_let (vt_P h 1100 x0) fun v1 =>
  sv_let (vt_I h 406 v1) fun v2 =>
  if v2 ≤ x3 then
    some (1, h)
  else
    sv_let (vt_P h 1101 x0) fun v3 =>
    sv_let (vt_P h 1100 x0) fun v5 =>
    (vl_I h 400 v5 x3).bind fun v7 =>
    (vl_P h 308 v3 v7).bind fun v8 =>
    sv_let (vt_P h 1100 x0) fun v9 =>
    (vl_I h 401 v9 x3).bind fun v11 =>
    if v11 = 0 then
      ab_X10_go_185 k135 x0 x3 v8 x0 v8 1 h
    else
      ab_X10_go_185 k135 x0 x3 v8 x0 v8 0 h

def ab_X10_go_135 : Nat → Nat → Int32 → vt_S → Option (Int32 × vt_S)
  | 0, _, _, _ => none
  | sv_n + 1, x0, x3, h => ab_X10_go_135b (ab_X10_go_135 sv_n) x0 x3 h

def ab_X10_go_61b (k61 : Nat → Int32 → Int32 → Int32 → vt_S → Option (Int32 × vt_S)) (x0 : Nat) (x1 : Int32) (x2 : Int32) (x3 : Int32) (h : vt_S) : Option (Int32 × vt_S) :=
  sv_let (vt_P h 1100 x0) fun v1 =>
  sv_let (vt_I h 406 v1) fun v2 =>
  if v2 ≤ x3 then
    sv_let (vt_I h 1102 x0) fun v3 =>
    sv_let (vu_I h 1102 x0 (v3 + x1)) fun h4 =>
    sv_let (vt_I h4 1103 x0) fun v5 =>
    sv_let (vu_I h4 1103 x0 (v5 + x2)) fun h6 =>
    ab_X10_go_135 sv_fuel x0 0 h6
  else
    sv_let (vt_P h 1101 x0) fun v7 =>
    sv_let (vt_P h 1100 x0) fun v9 =>
    (vl_I h 400 v9 x3).bind fun v11 =>
    (vl_P h 308 v7 v11).bind fun v12 =>
    sv_let (vt_P h 1100 x0) fun v13 =>
    (vl_I h 401 v13 x3).bind fun v15 =>
    vt_b (ab_X10_stops x0 v12 v15 h) fun r16 h17 =>
    if r16 = 0 then
      k61 x0 x1 x2 (x3 + 1) h17
    else
      some (0, h17)

def ab_X10_go_61 : Nat → Nat → Int32 → Int32 → Int32 → vt_S → Option (Int32 × vt_S)
  | 0, _, _, _, _, _ => none
  | sv_n + 1, x0, x1, x2, x3, h => ab_X10_go_61b (ab_X10_go_61 sv_n) x0 x1 x2 x3 h

def ab_X10_go (x0 : Nat) (x1 : Int32) (x2 : Int32) (h : vt_S) : Option (Int32 × vt_S) :=
  sv_let (vt_P h 1100 x0) fun v1 =>
  sv_let (vt_I h 1102 x0) fun v2 =>
  sv_let (vt_I h 1103 x0) fun v3 =>
  vt_b (ab_X3_aim v1 v2 v3 x1 x2 h) fun _ h4 =>
  sv_let (vt_P h4 1100 x0) fun v5 =>
  sv_let (vt_P h4 1101 x0) fun v6 =>
  vt_b (ab_X3_meetClose v5 v6 1 h4) fun _ h7 =>
  sv_let (vt_I h7 1102 x0) fun v8 =>
  sv_let (sv_abs (v8 + x1)) fun r9 =>
  if 40000 < r9 then
    ab_X10_go_57 h7
  else
    sv_let (vt_I h7 1103 x0) fun v10 =>
    sv_let (sv_abs (v10 + x2)) fun r11 =>
    if r11 ≤ 40000 then
      ab_X10_go_61 sv_fuel x0 x1 x2 0 h7
    else
      ab_X10_go_57 h7

def ab_X10_use_51 (h : vt_S) : Option (Unit × vt_S) :=
  some ((), h)

def ab_X10_use_121 (h : vt_S) : Option (Unit × vt_S) :=
  some ((), h)

def ab_X10_use_101 (x0 : Nat) (x3 : Nat) (h : vt_S) : Option (Unit × vt_S) :=
  sv_let (vt_I h 1209 x3) fun v1 =>
  if v1 = 4 then
    sv_let (vt_P h 1101 x0) fun v2 =>
    sv_let (vt_I h 1210 x3) fun v3 =>
    vt_b (ab_X2_startAll v2 1 v3 h) fun _ h4 =>
    ab_X10_use_121 h4
  else
    ab_X10_use_121 h

def ab_X10_use (x0 : Nat) (x1 : Int32) (x2 : Int32) (h : vt_S) : Option (Unit × vt_S) :=
  sv_let (vt_P h 1100 x0) fun v1 =>
  sv_let (vt_I h 1102 x0) fun v2 =>
  sv_let (vt_I h 1103 x0) fun v3 =>
  vt_b (ab_X3_aim v1 v2 v3 x1 x2 h) fun _ h4 =>
  sv_let (vt_P h4 1100 x0) fun v5 =>
  sv_let (vt_P h4 1101 x0) fun v6 =>
  vt_b (ab_X3_meetClose v5 v6 4 h4) fun _ h7 =>
  sv_let (vt_P h7 1100 x0) fun v8 =>
  sv_let (vt_I h7 406 v8) fun v9 =>
  if v9 = 0 then
    ab_X10_use_51 h7
  else
    sv_let (vt_P h7 1100 x0) fun v10 =>
    (vl_I h7 401 v10 0).bind fun v12 =>
    if v12 = 0 then
      ab_X10_use_51 h7
    else
      sv_let (vt_P h7 1101 x0) fun v13 =>
      sv_let (vt_P h7 1100 x0) fun v15 =>
      (vl_I h7 400 v15 0).bind fun v17 =>
      (vl_P h7 308 v13 v17).bind fun v18 =>
      sv_let (vt_I h7 1209 v18) fun v19 =>
      if v19 = 1 then
        sv_let (vt_I h7 1205 v18) fun v20 =>
        if v20 = ((-1)) then
          ab_X10_use_101 x0 v18 h7
        else
          sv_let (vt_P h7 1101 x0) fun v21 =>
          sv_let (vt_I h7 1205 v18) fun v22 =>
          vt_b (ab_X2_startOne v21 0 v22 h7) fun _ h23 =>
          ab_X10_use_121 h23
      else
        ab_X10_use_101 x0 v18 h7

def ab_X6_waitOn_33 (h : vt_S) : Option (Unit × vt_S) :=
  some ((), h)

def ab_X6_waitOn_30 (s0 : Nat) (s1 : Int32) (h : vt_S) : Option (Unit × vt_S) :=
  sv_let (vu_I h 710 s0 s1) fun h1 =>
  ab_X6_waitOn_33 h1

def ab_X6_waitOn (x0 : Nat) (h : vt_S) : Option (Unit × vt_S) :=
  sv_let (vt_I h 711 x0) fun v1 =>
  sv_let (vu_I h 711 x0 (v1 - 1)) fun h2 =>
  sv_let (vt_I h2 711 x0) fun v3 =>
  if 0 < v3 then
    ab_X6_waitOn_33 h2
  else
    sv_let (vt_I h2 709 x0) fun v4 =>
    if v4 = 0 then
      ab_X6_waitOn_30 x0 ((-1)) h2
    else
      ab_X6_waitOn_30 x0 1 h2

def ab_X6_waitFor (x0 : Nat) (x1 : Int32) (h : vt_S) : Option (Unit × vt_S) :=
  sv_let (vu_I h 710 x0 0) fun h1 =>
  sv_let (vu_I h1 711 x0 x1) fun h2 =>
  some ((), h2)

def ab_X6_openDoor_35 (h : vt_S) : Option (Unit × vt_S) :=
  some ((), h)

def ab_X6_openDoor (x0 : Nat) (h : vt_S) : Option (Unit × vt_S) :=
  sv_let (vt_I h 708 x0) fun v1 =>
  sv_let (vt_I h 712 x0) fun v2 =>
  sv_let (sv_min (v1 + 8) v2) fun r3 =>
  sv_let (vu_I h 708 x0 r3) fun h4 =>
  sv_let (vt_I h4 708 x0) fun v5 =>
  sv_let (vt_I h4 712 x0) fun v6 =>
  if v5 = v6 then
    vt_b (ab_X6_waitFor x0 20 h4) fun _ h7 =>
    ab_X6_openDoor_35 h7
  else
    ab_X6_openDoor_35 h4

def ab_X6_closeDoor_56 (h : vt_S) : Option (Unit × vt_S) :=
  some ((), h)

def ab_X6_closeDoor_36 (x0 : Nat) (x2 : Int32) (h : vt_S) : Option (Unit × vt_S) :=
  sv_let (vu_I h 708 x0 x2) fun h1 =>
  sv_let (vt_I h1 708 x0) fun v2 =>
  sv_let (vt_I h1 707 x0) fun v3 =>
  if v2 = v3 then
    vt_b (ab_X6_endMover x0 h1) fun _ h4 =>
    ab_X6_closeDoor_56 h4
  else
    ab_X6_closeDoor_56 h1

def ab_X6_closeDoor (x0 : Nat) (x1 : Int32) (h : vt_S) : Option (Unit × vt_S) :=
  sv_let (vt_I h 708 x0) fun v1 =>
  sv_let (vt_I h 707 x0) fun v2 =>
  sv_let (sv_max (v1 - 8) v2) fun r3 =>
  if x1 = 0 then
    ab_X6_closeDoor_36 x0 r3 h
  else
    sv_let (vt_I h 707 x0) fun v4 =>
    if 56 ≤ (r3 - v4) then
      ab_X6_closeDoor_36 x0 r3 h
    else
      sv_let (vu_I h 710 x0 1) fun h5 =>
      some ((), h5)

def ab_X6_sinkLift_34 (h : vt_S) : Option (Unit × vt_S) :=
  some ((), h)

def ab_X6_sinkLift (x0 : Nat) (h : vt_S) : Option (Unit × vt_S) :=
  sv_let (vt_I h 707 x0) fun v1 =>
  sv_let (vt_I h 712 x0) fun v2 =>
  sv_let (sv_max (v1 - 4) v2) fun r3 =>
  sv_let (vu_I h 707 x0 r3) fun h4 =>
  sv_let (vt_I h4 707 x0) fun v5 =>
  sv_let (vt_I h4 712 x0) fun v6 =>
  if v5 = v6 then
    vt_b (ab_X6_waitFor x0 30 h4) fun _ h7 =>
    ab_X6_sinkLift_34 h7
  else
    ab_X6_sinkLift_34 h4

def ab_X6_raiseFloor_47 (h : vt_S) : Option (Unit × vt_S) :=
  some ((), h)

def ab_X6_raiseFloor_29 (x0 : Nat) (x2 : Int32) (x4 : Int32) (h : vt_S) : Option (Unit × vt_S) :=
  sv_let (vu_I h 707 x0 x4) fun h1 =>
  sv_let (vt_I h1 707 x0) fun v2 =>
  if v2 = x2 then
    vt_b (ab_X6_endMover x0 h1) fun _ h3 =>
    ab_X6_raiseFloor_47 h3
  else
    ab_X6_raiseFloor_47 h1

def ab_X6_raiseFloor (x0 : Nat) (x1 : Int32) (x2 : Int32) (x3 : Int32) (h : vt_S) : Option (Unit × vt_S) :=
  sv_let (vt_I h 707 x0) fun v1 =>
  sv_let (sv_min (v1 + x1) x2) fun r2 =>
  if x3 = 0 then
    ab_X6_raiseFloor_29 x0 x2 r2 h
  else
    sv_let (vt_I h 708 x0) fun v3 =>
    if 56 ≤ (v3 - r2) then
      ab_X6_raiseFloor_29 x0 x2 r2 h
    else
      some ((), h)

def ab_X6_tick_104 (h : vt_S) : Option (Unit × vt_S) :=
  some ((), h)

def ab_X6_tick_44 (x0 : Nat) (x1 : Int32) (h : vt_S) : Option (Unit × vt_S) :=
  sv_let (vt_I h 709 x0) fun v1 =>
  if v1 = 0 then
    vt_b (ab_X6_closeDoor x0 x1 h) fun _ h9 =>
    ab_X6_tick_104 h9
  else
    sv_let (vt_I h 710 x0) fun v2 =>
    if 0 ≤ v2 then
      sv_let (vt_I h 709 x0) fun v3 =>
      if v3 = 1 then
        sv_let (vt_I h 713 x0) fun v6 =>
        vt_b (ab_X6_raiseFloor x0 4 v6 x1 h) fun _ h7 =>
        ab_X6_tick_104 h7
      else
        sv_let (vt_I h 712 x0) fun v4 =>
        vt_b (ab_X6_raiseFloor x0 2 v4 x1 h) fun _ h5 =>
        ab_X6_tick_104 h5
    else
      vt_b (ab_X6_sinkLift x0 h) fun _ h8 =>
      ab_X6_tick_104 h8

def ab_X6_tick (x0 : Nat) (x1 : Int32) (h : vt_S) : Option (Unit × vt_S) :=
  sv_let (vt_I h 709 x0) fun v1 =>
  if v1 = ((-1)) then
    some ((), h)
  else
    sv_let (vt_I h 710 x0) fun v2 =>
    if v2 = 0 then
      vt_b (ab_X6_waitOn x0 h) fun _ h6 =>
      ab_X6_tick_104 h6
    else
      sv_let (vt_I h 709 x0) fun v3 =>
      if v3 = 0 then
        sv_let (vt_I h 710 x0) fun v4 =>
        if v4 ≤ 0 then
          ab_X6_tick_44 x0 x1 h
        else
          vt_b (ab_X6_openDoor x0 h) fun _ h5 =>
          ab_X6_tick_104 h5
      else
        ab_X6_tick_44 x0 x1 h

def ab_X2_tick_26 (k2 : Nat → Int32 → Int32 → vt_S → Option (Unit × vt_S)) (x0 : Nat) (x1 : Int32) (x2 : Int32) (s0 : Nat) (s1 : Int32) (h : vt_S) : Option (Unit × vt_S) :=
  vt_b (ab_X6_tick s0 s1 h) fun _ h1 =>
  k2 x0 x1 (x2 + 1) h1

def ab_X2_tick_2b (k2 : Nat → Int32 → Int32 → vt_S → Option (Unit × vt_S)) (x0 : Nat) (x1 : Int32) (x2 : Int32) (h : vt_S) : Option (Unit × vt_S) :=
  sv_let (vt_I h 311 x0) fun v1 =>
  if v1 ≤ x2 then
    some ((), h)
  else
    (vl_P h 307 x0 x2).bind fun v3 =>
    if x2 = x1 then
      ab_X2_tick_26 k2 x0 x1 x2 v3 1 h
    else
      ab_X2_tick_26 k2 x0 x1 x2 v3 0 h

def ab_X2_tick_2 : Nat → Nat → Int32 → Int32 → vt_S → Option (Unit × vt_S)
  | 0, _, _, _, _ => none
  | sv_n + 1, x0, x1, x2, h => ab_X2_tick_2b (ab_X2_tick_2 sv_n) x0 x1 x2 h

def ab_X2_tick (x0 : Nat) (x1 : Int32) (h : vt_S) : Option (Unit × vt_S) :=
  ab_X2_tick_2 sv_fuel x0 x1 0 h

def ab_X10_step_124 (x0 : Nat) (x8 : Int32) (h : vt_S) : Option (Int32 × vt_S) :=
  sv_let (vt_I h 1106 x0) fun v1 =>
  sv_let (vu_I h 1106 x0 (v1 + 1)) fun h2 =>
  sv_let (vt_P h2 1101 x0) fun v3 =>
  sv_let (vt_I h2 1105 x0) fun v4 =>
  vt_b (ab_X2_tick v3 v4 h2) fun _ h5 =>
  some (x8, h5)

def ab_X10_step_111 (x0 : Nat) (x1 : Int32) (x2 : Int32) (x3 : Int32) (x8 : Int32) (h : vt_S) : Option (Int32 × vt_S) :=
  vt_b (ab_X5_usesOf x1 h) fun r1 h2 =>
  if r1 = 0 then
    ab_X10_step_124 x0 x8 h2
  else
    vt_b (ab_X10_use x0 x2 x3 h2) fun _ h3 =>
    ab_X10_step_124 x0 x8 h3

def ab_X10_step_109 (x0 : Nat) (x1 : Int32) (x2 : Int32) (x3 : Int32) (s0 : Int32) (h : vt_S) : Option (Int32 × vt_S) :=
  ab_X10_step_111 x0 x1 x2 x3 s0 h

def ab_X10_step_93 (x0 : Nat) (x1 : Int32) (x2 : Int32) (x3 : Int32) (x6 : Int32) (x7 : Int32) (h : vt_S) : Option (Int32 × vt_S) :=
  vt_b (ab_X10_go x0 x6 x7 h) fun r1 h2 =>
  if r1 = 0 then
    ab_X10_step_109 x0 x1 x2 x3 2 h2
  else
    ab_X10_step_109 x0 x1 x2 x3 1 h2

def ab_X10_step (x0 : Nat) (x1 : Int32) (h : vt_S) : Option (Int32 × vt_S) :=
  sv_let (vt_I h 1104 x0) fun v1 =>
  vt_b (ab_X5_turnOf x1 h) fun r2 h3 =>
  vt_b (ab_J9_floorMod_7cf53 (v1 + r2) 64 h3) fun r4 h5 =>
  sv_let (vu_I h5 1104 x0 r4) fun h6 =>
  sv_let (vt_I h6 1104 x0) fun v7 =>
  vt_b (ab_X12_cosine v7 h6) fun r8 h9 =>
  sv_let (vt_I h9 1104 x0) fun v10 =>
  vt_b (ab_X12_sine v10 h9) fun r11 h12 =>
  vt_b (ab_X5_aheadOf x1 h12) fun r13 h14 =>
  vt_b (ab_X5_asideOf x1 h14) fun r15 h16 =>
  vt_b (ab_J9_floorDiv_7cf53 ((r8 * r13) + (r11 * r15)) 256 h16) fun r17 h18 =>
  vt_b (ab_J9_floorDiv_7cf53 ((r11 * r13) - (r8 * r15)) 256 h18) fun r19 h20 =>
  if r17 = 0 then
    if r19 = 0 then
      ab_X10_step_111 x0 x1 r8 r11 0 h20
    else
      ab_X10_step_93 x0 x1 r8 r11 r17 r19 h20
  else
    ab_X10_step_93 x0 x1 r8 r11 r17 r19 h20

def ab_X12_playTo_22 (h : vt_S) : Option (Int32 × vt_S) :=
  some ((-1), h)

def ab_X12_playTo_74 (k46 : Nat → Int32 → Int32 → Int32 → vt_S → Option (Int32 × vt_S)) (x0 : Nat) (x1 : Int32) (x2 : Int32) (x3 : Int32) (h : vt_S) : Option (Int32 × vt_S) :=
  k46 x0 x1 x2 (x3 + 1) h

def ab_X12_playTo_46b (k46 : Nat → Int32 → Int32 → Int32 → vt_S → Option (Int32 × vt_S)) (x0 : Nat) (x1 : Int32) (x2 : Int32) (x3 : Int32) (h : vt_S) : Option (Int32 × vt_S) :=
  if x1 ≤ x3 then
    some (x2, h)
  else
    sv_let (vt_P h 1304 x0) fun v1 =>
    sv_let (vt_P h 1308 x0) fun v2 =>
    (vl_I h 601 v2 x3).bind fun v4 =>
    vt_b (ab_X10_step v1 v4 h) fun r5 h6 =>
    if r5 = 2 then
      ab_X12_playTo_74 k46 x0 x1 (x2 + 1) x3 h6
    else
      ab_X12_playTo_74 k46 x0 x1 x2 x3 h6

def ab_X12_playTo_46 : Nat → Nat → Int32 → Int32 → Int32 → vt_S → Option (Int32 × vt_S)
  | 0, _, _, _, _, _ => none
  | sv_n + 1, x0, x1, x2, x3, h => ab_X12_playTo_46b (ab_X12_playTo_46 sv_n) x0 x1 x2 x3 h

def ab_X12_playTo (x0 : Nat) (x1 : Int32) (h : vt_S) : Option (Int32 × vt_S) :=
  vt_b (ab_X12_hasMap x0 h) fun r1 h2 =>
  if r1 = 0 then
    ab_X12_playTo_22 h2
  else
    if x1 < 0 then
      ab_X12_playTo_22 h2
    else
      sv_let (vt_P h2 1308 x0) fun v3 =>
      sv_let (vt_I h2 602 v3) fun v4 =>
      if x1 ≤ v4 then
        sv_let (vt_P h2 1304 x0) fun v5 =>
        sv_let (vt_P h2 1306 x0) fun v6 =>
        sv_let (vt_P h2 1308 x0) fun v7 =>
        sv_let (vt_P h2 600 v7) fun v8 =>
        vt_b (ab_X10_begin v5 v6 v8 h2) fun _ h9 =>
        ab_X12_playTo_46 sv_fuel x0 x1 0 0 h9
      else
        ab_X12_playTo_22 h2

def ab_X17_quarter (x0 : Int32) (h : vt_S) : Option (Int32 × vt_S) :=
  if x0 = 0 then
    some (256, h)
  else
  if x0 = 1 then
    some (255, h)
  else
  if x0 = 2 then
    some (251, h)
  else
  if x0 = 3 then
    some (245, h)
  else
  if x0 = 4 then
    some (237, h)
  else
  if x0 = 5 then
    some (226, h)
  else
  if x0 = 6 then
    some (213, h)
  else
  if x0 = 7 then
    some (198, h)
  else
  if x0 = 8 then
    some (181, h)
  else
  if x0 = 9 then
    some (162, h)
  else
  if x0 = 10 then
    some (142, h)
  else
  if x0 = 11 then
    some (121, h)
  else
  if x0 = 12 then
    some (98, h)
  else
  if x0 = 13 then
    some (74, h)
  else
  if x0 = 14 then
    some (50, h)
  else
  if x0 = 15 then
    some (25, h)
  else
  some (0, h)

def ab_X17_cosine_65 (s0 : Int32) (h : vt_S) : Option (Int32 × vt_S) :=
  some (s0, h)

def ab_X17_cosine (x0 : Int32) (h : vt_S) : Option (Int32 × vt_S) :=
  if 16 < (((x0 - x0 / 64 * 64) + 64) - ((x0 - x0 / 64 * 64) + 64) / 64 * 64) then
    if 32 < (((x0 - x0 / 64 * 64) + 64) - ((x0 - x0 / 64 * 64) + 64) / 64 * 64) then
      if 48 < (((x0 - x0 / 64 * 64) + 64) - ((x0 - x0 / 64 * 64) + 64) / 64 * 64) then
        vt_b (ab_X17_quarter (64 - (((x0 - x0 / 64 * 64) + 64) - ((x0 - x0 / 64 * 64) + 64) / 64 * 64)) h) fun r1 h2 =>
        ab_X17_cosine_65 r1 h2
      else
        vt_b (ab_X17_quarter ((((x0 - x0 / 64 * 64) + 64) - ((x0 - x0 / 64 * 64) + 64) / 64 * 64) - 32) h) fun r3 h4 =>
        ab_X17_cosine_65 (-r3) h4
    else
      vt_b (ab_X17_quarter (32 - (((x0 - x0 / 64 * 64) + 64) - ((x0 - x0 / 64 * 64) + 64) / 64 * 64)) h) fun r5 h6 =>
      ab_X17_cosine_65 (-r5) h6
  else
    vt_b (ab_X17_quarter (((x0 - x0 / 64 * 64) + 64) - ((x0 - x0 / 64 * 64) + 64) / 64 * 64) h) fun r7 h8 =>
    ab_X17_cosine_65 r7 h8

def ab_X17_sine (x0 : Int32) (h : vt_S) : Option (Int32 × vt_S) :=
  vt_b (ab_X17_cosine (x0 - 16) h) fun r1 h2 =>
  some (r1, h2)

def ab_X17_down_47 (s0 : Int64) (h : vt_S) : Option (Int64 × vt_S) :=
  some (s0, h)

def ab_X17_down_45 (x4 : Int64) (h : vt_S) : Option (Int64 × vt_S) :=
  ab_X17_down_47 x4 h

def ab_X17_down_35 (x4 : Int64) (s0 : Int32) (s1 : Int32) (h : vt_S) : Option (Int64 × vt_S) :=
  if s0 = s1 then
    ab_X17_down_45 x4 h
  else
    ab_X17_down_47 (x4 - 1) h

def ab_X17_down_24 (x2 : Int64) (x4 : Int64) (s0 : Int32) (h : vt_S) : Option (Int64 × vt_S) :=
  if 0 ≤ (lg_cmp x2 0) then
    ab_X17_down_35 x4 s0 0 h
  else
    ab_X17_down_35 x4 s0 1 h

def ab_X17_down (x0 : Int64) (x2 : Int64) (h : vt_S) : Option (Int64 × vt_S) :=
  if x2 = 0 then none else
  if x2 = 0 then none else
  if (lg_cmp (x0 - x0 / x2 * x2) 0) = 0 then
    ab_X17_down_45 (x0 / x2) h
  else
    if 0 ≤ (lg_cmp x0 0) then
      ab_X17_down_24 x2 (x0 / x2) 0 h
    else
      ab_X17_down_24 x2 (x0 / x2) 1 h

def ab_X17_cross (x0 : Int64) (x2 : Int64) (x4 : Int64) (x6 : Int64) (h : vt_S) : Option (Int64 × vt_S) :=
  some ((x0 * x6) - (x2 * x4), h)

def ab_X17_meets_242 (s0 : Int32) (h : vt_S) : Option (Int32 × vt_S) :=
  vt_rz s0 h

def ab_X17_meets_241 (h : vt_S) : Option (Int32 × vt_S) :=
  ab_X17_meets_242 0 h

def ab_X17_meets_225 (x0 : Nat) (s0 : Int32) (s1 : Int32) (h : vt_S) : Option (Int32 × vt_S) :=
  if s0 = s1 then
    ab_X17_meets_241 h
  else
    sv_let (vt_J h 1817 x0) fun v1 =>
    if (lg_cmp v1 0) ≤ 0 then
      ab_X17_meets_241 h
    else
      ab_X17_meets_242 1 h

def ab_X17_meets_211 (x0 : Nat) (s0 : Int32) (h : vt_S) : Option (Int32 × vt_S) :=
  sv_let (vt_J h 1816 x0) fun v1 =>
  if 0 ≤ (lg_cmp v1 0) then
    ab_X17_meets_225 x0 s0 0 h
  else
    ab_X17_meets_225 x0 s0 1 h

def ab_X17_meets_197 (x0 : Nat) (h : vt_S) : Option (Int32 × vt_S) :=
  sv_let (vt_J h 1815 x0) fun v1 =>
  if 0 ≤ (lg_cmp v1 0) then
    ab_X17_meets_211 x0 0 h
  else
    ab_X17_meets_211 x0 1 h

def ab_X17_meets_167 (x0 : Nat) (s0 : Nat) (s1 : Int32) (h : vt_S) : Option (Int32 × vt_S) :=
  (vq_Z h 1819 s0 s1).bind fun h1 =>
  sv_let (vt_J h1 1818 x0) fun v2 =>
  if 0 ≤ (lg_cmp v2 0) then
    ab_X17_meets_197 x0 h1
  else
    sv_let (vt_J h1 1817 x0) fun v3 =>
    sv_let (vu_J h1 1817 x0 (-v3)) fun h4 =>
    sv_let (vt_J h4 1818 x0) fun v5 =>
    sv_let (vu_J h4 1818 x0 (-v5)) fun h6 =>
    ab_X17_meets_197 x0 h6

def ab_X17_meets (x0 : Nat) (x1 : Int32) (h : vt_S) : Option (Int32 × vt_S) :=
  sv_let (vt_P h 1804 x0) fun v1 =>
  (vl_I h 1701 v1 x1).bind fun v3 =>
  sv_let (vt_P h 1804 x0) fun v4 =>
  (vl_I h 1702 v4 x1).bind fun v6 =>
  sv_let (vt_P h 1804 x0) fun v7 =>
  (vl_I h 1703 v7 x1).bind fun v9 =>
  sv_let (vt_P h 1804 x0) fun v10 =>
  (vl_I h 1704 v10 x1).bind fun v12 =>
  sv_let (vt_J h 1827 x0) fun v13 =>
  sv_let (vt_J h 1828 x0) fun v14 =>
  sv_let (vt_I h 1811 x0) fun v15 =>
  sv_let (vt_I h 1812 x0) fun v16 =>
  vt_b (ab_X17_cross v13 v14 ((Int32.toInt64 v3) - (Int32.toInt64 v15)) ((Int32.toInt64 v6) - (Int32.toInt64 v16)) h) fun r17 h18 =>
  sv_let (vu_J h18 1815 x0 r17) fun h19 =>
  sv_let (vt_J h19 1827 x0) fun v20 =>
  sv_let (vt_J h19 1828 x0) fun v21 =>
  sv_let (vt_I h19 1811 x0) fun v22 =>
  sv_let (vt_I h19 1812 x0) fun v23 =>
  vt_b (ab_X17_cross v20 v21 ((Int32.toInt64 v9) - (Int32.toInt64 v22)) ((Int32.toInt64 v12) - (Int32.toInt64 v23)) h19) fun r24 h25 =>
  sv_let (vu_J h25 1816 x0 r24) fun h26 =>
  sv_let (vt_I h26 1811 x0) fun v27 =>
  sv_let (vt_I h26 1812 x0) fun v28 =>
  vt_b (ab_X17_cross ((Int32.toInt64 v3) - (Int32.toInt64 v27)) ((Int32.toInt64 v6) - (Int32.toInt64 v28)) ((Int32.toInt64 v9) - (Int32.toInt64 v3)) ((Int32.toInt64 v12) - (Int32.toInt64 v6)) h26) fun r29 h30 =>
  sv_let (vu_J h30 1817 x0 r29) fun h31 =>
  sv_let (vt_J h31 1816 x0) fun v32 =>
  sv_let (vt_J h31 1815 x0) fun v33 =>
  sv_let (vu_J h31 1818 x0 (v32 - v33)) fun h34 =>
  sv_let (vt_J h34 1817 x0) fun v35 =>
  if 0 ≤ (lg_cmp v35 0) then
    ab_X17_meets_167 x0 x0 0 h34
  else
    ab_X17_meets_167 x0 x0 1 h34

def ab_X16_order_83 (s0 : Int32) (h : vt_S) : Option (Int32 × vt_S) :=
  some (s0, h)

def ab_X16_order_37 (s0 : Int32) (h : vt_S) : Option (Int32 × vt_S) :=
  some (s0, h)

def ab_X16_order (x0 : Int64) (x2 : Int64) (x4 : Int64) (x6 : Int64) (h : vt_S) : Option (Int32 × vt_S) :=
  vt_b (ab_J9_multiplyHigh_f86c9 x0 x2 h) fun r1 h2 =>
  vt_b (ab_J9_multiplyHigh_f86c9 x4 x6 h2) fun r3 h4 =>
  if (lg_cmp r1 r3) = 0 then
    if (lg_cmp ((x0 * x2) + ((-9223372036854775808))) ((x4 * x6) + ((-9223372036854775808)))) ≤ 0 then
      if 0 ≤ (lg_cmp ((x0 * x2) + ((-9223372036854775808))) ((x4 * x6) + ((-9223372036854775808)))) then
        ab_X16_order_83 0 h4
      else
        ab_X16_order_83 ((-1)) h4
    else
      ab_X16_order_83 1 h4
  else
    if (lg_cmp r1 r3) ≤ 0 then
      ab_X16_order_37 ((-1)) h4
    else
      ab_X16_order_37 1 h4

def ab_X17_gather_134 (k18 : Nat → Int32 → vt_S → Option (Unit × vt_S)) (x0 : Nat) (x5 : Int32) (h : vt_S) : Option (Unit × vt_S) :=
  k18 x0 (x5 + 1) h

def ab_X17_gather_115 (k18 : Nat → Int32 → vt_S → Option (Unit × vt_S)) (x0 : Nat) (x5 : Int32) (x10 : Int32) (h : vt_S) : Option (Unit × vt_S) :=
  (vs_I h 1820 x0 x10 x5).bind fun h2 =>
  sv_let (vt_I h2 1821 x0) fun v3 =>
  sv_let (vu_I h2 1821 x0 (v3 + 1)) fun h4 =>
  ab_X17_gather_134 k18 x0 x5 h4

def ab_X17_gather_54b (k18 : Nat → Int32 → vt_S → Option (Unit × vt_S)) (k54 : Nat → Int32 → Int64 → Int64 → Int32 → vt_S → Option (Unit × vt_S)) (x0 : Nat) (x5 : Int32) (x6 : Int64) (x8 : Int64) (x10 : Int32) (h : vt_S) : Option (Unit × vt_S) :=
  if x10 ≤ 0 then
    ab_X17_gather_115 k18 x0 x5 x10 h
  else
    (vl_I h 1820 x0 (x10 - 1)).bind fun v2 =>
    vt_b (ab_X17_meets x0 v2 h) fun r3 h4 =>
    if r3 = 0 then
      ab_X17_gather_115 k18 x0 x5 x10 h4
    else
      sv_let (vt_J h4 1818 x0) fun v5 =>
      sv_let (vt_J h4 1817 x0) fun v6 =>
      vt_b (ab_X16_order x6 v5 v6 x8 h4) fun r7 h8 =>
      if 0 ≤ r7 then
        ab_X17_gather_115 k18 x0 x5 x10 h8
      else
        (vl_I h8 1820 x0 (x10 - 1)).bind fun v11 =>
        (vs_I h8 1820 x0 x10 v11).bind fun h12 =>
        k54 x0 x5 x6 x8 (x10 + (-1)) h12

def ab_X17_gather_54 (k18 : Nat → Int32 → vt_S → Option (Unit × vt_S)) : Nat → Nat → Int32 → Int64 → Int64 → Int32 → vt_S → Option (Unit × vt_S)
  | 0, _, _, _, _, _, _ => none
  | sv_n + 1, x0, x5, x6, x8, x10, h => ab_X17_gather_54b k18 (ab_X17_gather_54 k18 sv_n) x0 x5 x6 x8 x10 h

def ab_X17_gather_18b (k18 : Nat → Int32 → vt_S → Option (Unit × vt_S)) (x0 : Nat) (x5 : Int32) (h : vt_S) : Option (Unit × vt_S) :=
  vt_b (ab_X17_walls x0 h) fun r1 h2 =>
  if r1 ≤ x5 then
    some ((), h2)
  else
    vt_b (ab_X17_meets x0 x5 h2) fun r3 h4 =>
    if r3 = 0 then
      ab_X17_gather_134 k18 x0 x5 h4
    else
      sv_let (vt_J h4 1817 x0) fun v5 =>
      sv_let (vt_J h4 1818 x0) fun v6 =>
      sv_let (vt_I h4 1821 x0) fun v7 =>
      ab_X17_gather_54 k18 sv_fuel x0 x5 v5 v6 v7 h4

def ab_X17_gather_18 : Nat → Nat → Int32 → vt_S → Option (Unit × vt_S)
  | 0, _, _, _ => none
  | sv_n + 1, x0, x5, h => ab_X17_gather_18b (ab_X17_gather_18 sv_n) x0 x5 h

def ab_X17_gather (x0 : Nat) (x1 : Int64) (x3 : Int64) (h : vt_S) : Option (Unit × vt_S) :=
  sv_let (vu_J h 1827 x0 x1) fun h1 =>
  sv_let (vu_J h1 1828 x0 x3) fun h2 =>
  sv_let (vu_I h2 1821 x0 0) fun h3 =>
  ab_X17_gather_18 sv_fuel x0 0 h3

def ab_X17_wallPart (x0 : Nat) (x1 : Int32) (x2 : Int32) (h : vt_S) : Option (Int32 × vt_S) :=
  sv_let (vt_P h 1801 x0) fun v1 =>
  vt_b (ab_X14_wall v1 x1 x2 h) fun r2 h3 =>
  some (r2, h3)

def ab_X17_sideOf_31 (s0 : Int32) (h : vt_S) : Option (Int32 × vt_S) :=
  some (s0, h)

def ab_X17_sideOf_15 (s0 : Nat) (s1 : Int32) (s2 : Int32) (h : vt_S) : Option (Int32 × vt_S) :=
  vt_b (ab_X17_wallPart s0 s1 s2 h) fun r1 h2 =>
  if r1 = 255 then
    ab_X17_sideOf_31 ((-1)) h2
  else
    ab_X17_sideOf_31 r1 h2

def ab_X17_sideOf (x0 : Nat) (x1 : Int32) (x2 : Int32) (h : vt_S) : Option (Int32 × vt_S) :=
  sv_let (vt_I h 1819 x0) fun v1 =>
  if x2 = v1 then
    ab_X17_sideOf_15 x0 x1 2 h
  else
    ab_X17_sideOf_15 x0 x1 3 h

def ab_X17_stops_22 (h : vt_S) : Option (Int32 × vt_S) :=
  some (1, h)

def ab_X17_stops_151 (s0 : Int32) (h : vt_S) : Option (Int32 × vt_S) :=
  vt_rz s0 h

def ab_X17_stops_146 (h : vt_S) : Option (Int32 × vt_S) :=
  ab_X17_stops_151 1 h

def ab_X17_stops_110 (x0 : Nat) (x2 : Int32) (x3 : Int32) (x4 : Int32) (s0 : Int32) (h : vt_S) : Option (Int32 × vt_S) :=
  sv_let (vt_P h 1803 x0) fun v1 =>
  (vl_I h 1408 v1 x3).bind fun v3 =>
  sv_let (vt_P h 1803 x0) fun v4 =>
  (vl_I h 1408 v4 x2).bind fun v6 =>
  if 24 < (v3 - v6) then
    ab_X17_stops_146 h
  else
    if 56 ≤ (x4 - s0) then
      ab_X17_stops_151 0 h
    else
      ab_X17_stops_146 h

def ab_X17_stops_66 (x0 : Nat) (x2 : Int32) (x3 : Int32) (s0 : Int32) (h : vt_S) : Option (Int32 × vt_S) :=
  sv_let (vt_P h 1803 x0) fun v1 =>
  (vl_I h 1408 v1 x2).bind fun v3 =>
  sv_let (vt_P h 1803 x0) fun v4 =>
  (vl_I h 1408 v4 x3).bind fun v6 =>
  if v3 ≤ v6 then
    sv_let (vt_P h 1803 x0) fun v7 =>
    (vl_I h 1408 v7 x3).bind fun v9 =>
    ab_X17_stops_110 x0 x2 x3 s0 v9 h
  else
    sv_let (vt_P h 1803 x0) fun v10 =>
    (vl_I h 1408 v10 x2).bind fun v12 =>
    ab_X17_stops_110 x0 x2 x3 s0 v12 h

def ab_X17_stops (x0 : Nat) (x1 : Int32) (h : vt_S) : Option (Int32 × vt_S) :=
  vt_b (ab_X17_sideOf x0 x1 1 h) fun r1 h2 =>
  vt_b (ab_X17_sideOf x0 x1 0 h2) fun r3 h4 =>
  if r1 < 0 then
    ab_X17_stops_22 h4
  else
    if 0 ≤ r3 then
      sv_let (vt_P h4 1803 x0) fun v5 =>
      (vl_I h4 1409 v5 r1).bind fun v7 =>
      sv_let (vt_P h4 1803 x0) fun v8 =>
      (vl_I h4 1409 v8 r3).bind fun v10 =>
      if v10 ≤ v7 then
        sv_let (vt_P h4 1803 x0) fun v11 =>
        (vl_I h4 1409 v11 r3).bind fun v13 =>
        ab_X17_stops_66 x0 r1 r3 v13 h4
      else
        sv_let (vt_P h4 1803 x0) fun v14 =>
        (vl_I h4 1409 v14 r1).bind fun v16 =>
        ab_X17_stops_66 x0 r1 r3 v16 h4
    else
      ab_X17_stops_22 h4

def ab_X13_lowCeiling_70 (s0 : Int32) (h : vt_S) : Option (Int32 × vt_S) :=
  some (s0, h)

def ab_X13_lowCeiling_47 (k5 : Nat → Int32 → Int32 → Int32 → vt_S → Option (Int32 × vt_S)) (x0 : Nat) (x1 : Int32) (x3 : Int32) (s0 : Int32) (h : vt_S) : Option (Int32 × vt_S) :=
  k5 x0 x1 s0 (x3 + 1) h

def ab_X13_lowCeiling_46 (k5 : Nat → Int32 → Int32 → Int32 → vt_S → Option (Int32 × vt_S)) (x0 : Nat) (x1 : Int32) (x2 : Int32) (x3 : Int32) (h : vt_S) : Option (Int32 × vt_S) :=
  ab_X13_lowCeiling_47 k5 x0 x1 x3 x2 h

def ab_X13_lowCeiling_5b (k5 : Nat → Int32 → Int32 → Int32 → vt_S → Option (Int32 × vt_S)) (x0 : Nat) (x1 : Int32) (x2 : Int32) (x3 : Int32) (h : vt_S) : Option (Int32 × vt_S) :=
  sv_let (vt_I h 1400 x0) fun v1 =>
  if v1 ≤ x3 then
    if x2 = 100000 then
      (vl_I h 1409 x0 x1).bind fun v3 =>
      ab_X13_lowCeiling_70 v3 h
    else
      ab_X13_lowCeiling_70 x2 h
  else
    (vl_I h 1406 x0 ((32 * x1) + x3)).bind fun v5 =>
    if v5 = 0 then
      ab_X13_lowCeiling_46 k5 x0 x1 x2 x3 h
    else
      (vl_I h 1409 x0 x3).bind fun v7 =>
      if x2 ≤ v7 then
        ab_X13_lowCeiling_46 k5 x0 x1 x2 x3 h
      else
        (vl_I h 1409 x0 x3).bind fun v9 =>
        ab_X13_lowCeiling_47 k5 x0 x1 x3 v9 h

def ab_X13_lowCeiling_5 : Nat → Nat → Int32 → Int32 → Int32 → vt_S → Option (Int32 × vt_S)
  | 0, _, _, _, _, _ => none
  | sv_n + 1, x0, x1, x2, x3, h => ab_X13_lowCeiling_5b (ab_X13_lowCeiling_5 sv_n) x0 x1 x2 x3 h

def ab_X13_lowCeiling (x0 : Nat) (x1 : Int32) (h : vt_S) : Option (Int32 × vt_S) :=
  ab_X13_lowCeiling_5 sv_fuel x0 x1 100000 0 h

def ab_X13_highFloor_51 (k9 : Nat → Int32 → Int32 → Int32 → vt_S → Option (Int32 × vt_S)) (x0 : Nat) (x1 : Int32) (x3 : Int32) (s0 : Int32) (h : vt_S) : Option (Int32 × vt_S) :=
  k9 x0 x1 s0 (x3 + 1) h

def ab_X13_highFloor_50 (k9 : Nat → Int32 → Int32 → Int32 → vt_S → Option (Int32 × vt_S)) (x0 : Nat) (x1 : Int32) (x2 : Int32) (x3 : Int32) (h : vt_S) : Option (Int32 × vt_S) :=
  ab_X13_highFloor_51 k9 x0 x1 x3 x2 h

def ab_X13_highFloor_9b (k9 : Nat → Int32 → Int32 → Int32 → vt_S → Option (Int32 × vt_S)) (x0 : Nat) (x1 : Int32) (x2 : Int32) (x3 : Int32) (h : vt_S) : Option (Int32 × vt_S) :=
  sv_let (vt_I h 1400 x0) fun v1 =>
  if v1 ≤ x3 then
    some (x2, h)
  else
    (vl_I h 1406 x0 ((32 * x1) + x3)).bind fun v3 =>
    if v3 = 0 then
      ab_X13_highFloor_50 k9 x0 x1 x2 x3 h
    else
      (vl_I h 1408 x0 x3).bind fun v5 =>
      if v5 ≤ x2 then
        ab_X13_highFloor_50 k9 x0 x1 x2 x3 h
      else
        (vl_I h 1408 x0 x3).bind fun v7 =>
        ab_X13_highFloor_51 k9 x0 x1 x3 v7 h

def ab_X13_highFloor_9 : Nat → Nat → Int32 → Int32 → Int32 → vt_S → Option (Int32 × vt_S)
  | 0, _, _, _, _, _ => none
  | sv_n + 1, x0, x1, x2, x3, h => ab_X13_highFloor_9b (ab_X13_highFloor_9 sv_n) x0 x1 x2 x3 h

def ab_X13_highFloor (x0 : Nat) (x1 : Int32) (h : vt_S) : Option (Int32 × vt_S) :=
  (vl_I h 1408 x0 x1).bind fun v2 =>
  ab_X13_highFloor_9 sv_fuel x0 x1 v2 0 h

def ab_X13_lowFloor_51 (k9 : Nat → Int32 → Int32 → Int32 → vt_S → Option (Int32 × vt_S)) (x0 : Nat) (x1 : Int32) (x3 : Int32) (s0 : Int32) (h : vt_S) : Option (Int32 × vt_S) :=
  k9 x0 x1 s0 (x3 + 1) h

def ab_X13_lowFloor_50 (k9 : Nat → Int32 → Int32 → Int32 → vt_S → Option (Int32 × vt_S)) (x0 : Nat) (x1 : Int32) (x2 : Int32) (x3 : Int32) (h : vt_S) : Option (Int32 × vt_S) :=
  ab_X13_lowFloor_51 k9 x0 x1 x3 x2 h

def ab_X13_lowFloor_9b (k9 : Nat → Int32 → Int32 → Int32 → vt_S → Option (Int32 × vt_S)) (x0 : Nat) (x1 : Int32) (x2 : Int32) (x3 : Int32) (h : vt_S) : Option (Int32 × vt_S) :=
  sv_let (vt_I h 1400 x0) fun v1 =>
  if v1 ≤ x3 then
    some (x2, h)
  else
    (vl_I h 1406 x0 ((32 * x1) + x3)).bind fun v3 =>
    if v3 = 0 then
      ab_X13_lowFloor_50 k9 x0 x1 x2 x3 h
    else
      (vl_I h 1408 x0 x3).bind fun v5 =>
      if x2 ≤ v5 then
        ab_X13_lowFloor_50 k9 x0 x1 x2 x3 h
      else
        (vl_I h 1408 x0 x3).bind fun v7 =>
        ab_X13_lowFloor_51 k9 x0 x1 x3 v7 h

def ab_X13_lowFloor_9 : Nat → Nat → Int32 → Int32 → Int32 → vt_S → Option (Int32 × vt_S)
  | 0, _, _, _, _, _ => none
  | sv_n + 1, x0, x1, x2, x3, h => ab_X13_lowFloor_9b (ab_X13_lowFloor_9 sv_n) x0 x1 x2 x3 h

def ab_X13_lowFloor (x0 : Nat) (x1 : Int32) (h : vt_S) : Option (Int32 × vt_S) :=
  (vl_I h 1408 x0 x1).bind fun v2 =>
  ab_X13_lowFloor_9 sv_fuel x0 x1 v2 0 h

def ab_X13_begin_17 (h : vt_S) : Option (Int32 × vt_S) :=
  some (0, h)

def ab_X13_begin_223 (s0 : Nat) (s1 : Int32) (s2 : Int32) (h : vt_S) : Option (Int32 × vt_S) :=
  (vs_I h 1413 s0 s1 s2).bind fun h1 =>
  some (1, h1)

def ab_X13_begin_128 (x0 : Nat) (x1 : Int32) (x2 : Int32) (s0 : Nat) (s1 : Int32) (s2 : Int32) (h : vt_S) : Option (Int32 × vt_S) :=
  (vs_I h 1411 s0 s1 s2).bind fun h1 =>
  (vl_I h1 1408 x0 x1).bind fun v4 =>
  (vs_I h1 1414 x0 x1 v4).bind fun h5 =>
  vt_b (ab_X13_lowCeiling x0 x1 h5) fun r6 h7 =>
  vt_b (ab_X13_highFloor x0 x1 h7) fun r8 h9 =>
  if x2 = 0 then
    (vl_I h9 1409 x0 x1).bind fun v18 =>
    if (r6 - 4) ≤ v18 then
      (vl_I h9 1409 x0 x1).bind fun v20 =>
      ab_X13_begin_223 x0 x1 v20 h9
    else
      ab_X13_begin_223 x0 x1 (r6 - 4) h9
  else
    if x2 = 1 then
      vt_b (ab_X13_lowFloor x0 x1 h9) fun r15 h16 =>
      ab_X13_begin_223 x0 x1 r15 h16
    else
      (vl_I h9 1409 x0 x1).bind fun v12 =>
      if v12 ≤ r8 then
        (vl_I h9 1409 x0 x1).bind fun v14 =>
        ab_X13_begin_223 x0 x1 v14 h9
      else
        ab_X13_begin_223 x0 x1 r8 h9

def ab_X13_begin_96 (x3 : Int32) (s0 : Nat) (s1 : Int32) (s2 : Int32) (h : vt_S) : Option (Int32 × vt_S) :=
  (vs_I h 1412 s0 s1 s2).bind fun h1 =>
  vt_rz x3 h1

def ab_X13_begin_76 (x0 : Nat) (x1 : Int32) (x3 : Int32) (s0 : Nat) (s1 : Int32) (s2 : Int32) (h : vt_S) : Option (Int32 × vt_S) :=
  (vs_I h 1411 s0 s1 s2).bind fun h1 =>
  if x3 = 0 then
    (vl_I h1 1412 x0 x1).bind fun v4 =>
    ab_X13_begin_96 x3 x0 x1 v4 h1
  else
    ab_X13_begin_96 x3 x0 x1 0 h1

def ab_X13_begin_56 (x0 : Nat) (x1 : Int32) (s0 : Int32) (h : vt_S) : Option (Int32 × vt_S) :=
  if s0 = 0 then
    (vl_I h 1411 x0 x1).bind fun v3 =>
    ab_X13_begin_76 x0 x1 s0 x0 x1 v3 h
  else
    ab_X13_begin_76 x0 x1 s0 x0 x1 1 h

def ab_X13_begin_55 (x0 : Nat) (x1 : Int32) (h : vt_S) : Option (Int32 × vt_S) :=
  ab_X13_begin_56 x0 x1 0 h

def ab_X13_begin (x0 : Nat) (x1 : Int32) (x2 : Int32) (h : vt_S) : Option (Int32 × vt_S) :=
  vt_b (ab_X13_isSector x0 x1 h) fun r1 h2 =>
  if r1 = 0 then
    ab_X13_begin_17 h2
  else
    if x2 < 0 then
      ab_X13_begin_17 h2
    else
      if x2 ≤ 2 then
        (vl_I h2 1410 x0 x1).bind fun v4 =>
        if v4 < 0 then
          (vs_I h2 1410 x0 x1 x2).bind fun h6 =>
          (vs_I h6 1412 x0 x1 0).bind fun h8 =>
          if x2 = 1 then
            ab_X13_begin_128 x0 x1 x2 x0 x1 ((-1)) h8
          else
            ab_X13_begin_128 x0 x1 x2 x0 x1 1 h8
        else
          if x2 = 0 then
            (vl_I h2 1410 x0 x1).bind fun v11 =>
            if v11 = 0 then
              (vl_I h2 1411 x0 x1).bind fun v13 =>
              if 1 ≤ v13 then
                ab_X13_begin_55 x0 x1 h2
              else
                ab_X13_begin_56 x0 x1 1 h2
            else
              ab_X13_begin_55 x0 x1 h2
          else
            ab_X13_begin_55 x0 x1 h2
      else
        ab_X13_begin_17 h2

def ab_X17_startAll_40 (k2 : Nat → Int32 → Int32 → Int32 → vt_S → Option (Unit × vt_S)) (x0 : Nat) (x1 : Int32) (x2 : Int32) (x3 : Int32) (s0 : Int32) (h : vt_S) : Option (Unit × vt_S) :=
  k2 x0 x1 x2 (x3 + 1) h

def ab_X17_startAll_39 (k2 : Nat → Int32 → Int32 → Int32 → vt_S → Option (Unit × vt_S)) (x0 : Nat) (x1 : Int32) (x2 : Int32) (x3 : Int32) (h : vt_S) : Option (Unit × vt_S) :=
  ab_X17_startAll_40 k2 x0 x1 x2 x3 0 h

def ab_X17_startAll_2b (k2 : Nat → Int32 → Int32 → Int32 → vt_S → Option (Unit × vt_S)) (x0 : Nat) (x1 : Int32) (x2 : Int32) (x3 : Int32) (h : vt_S) : Option (Unit × vt_S) :=
  vt_b (ab_X17_sectors x0 h) fun r1 h2 =>
  if r1 ≤ x3 then
    some ((), h2)
  else
    sv_let (vt_P h2 1803 x0) fun v3 =>
    (vl_I h2 1405 v3 x3).bind fun v5 =>
    if v5 = x1 then
      sv_let (vt_P h2 1803 x0) fun v6 =>
      vt_b (ab_X13_begin v6 x3 x2 h2) fun r7 h8 =>
      if r7 = 0 then
        ab_X17_startAll_39 k2 x0 x1 x2 x3 h8
      else
        ab_X17_startAll_40 k2 x0 x1 x2 x3 1 h8
    else
      ab_X17_startAll_39 k2 x0 x1 x2 x3 h2

def ab_X17_startAll_2 : Nat → Nat → Int32 → Int32 → Int32 → vt_S → Option (Unit × vt_S)
  | 0, _, _, _, _, _ => none
  | sv_n + 1, x0, x1, x2, x3, h => ab_X17_startAll_2b (ab_X17_startAll_2 sv_n) x0 x1 x2 x3 h

def ab_X17_startAll (x0 : Nat) (x1 : Int32) (x2 : Int32) (h : vt_S) : Option (Unit × vt_S) :=
  ab_X17_startAll_2 sv_fuel x0 x1 x2 0 h

def ab_X17_walks_139 (h : vt_S) : Option (Int32 × vt_S) :=
  some (0, h)

def ab_X17_walks_247 (k169 : Nat → Int32 → Int32 → vt_S → Option (Int32 × vt_S)) (x0 : Nat) (x4 : Int32) (x5 : Int32) (h : vt_S) : Option (Int32 × vt_S) :=
  k169 x0 x4 (x5 + 1) h

def ab_X17_walks_244 (k169 : Nat → Int32 → Int32 → vt_S → Option (Int32 × vt_S)) (x0 : Nat) (x4 : Int32) (x5 : Int32) (s0 : Nat) (s1 : Int32) (s2 : Int32) (h : vt_S) : Option (Int32 × vt_S) :=
  vt_b (ab_X17_startAll s0 s1 s2 h) fun _ h1 =>
  ab_X17_walks_247 k169 x0 x4 x5 h1

def ab_X17_walks_209 (k169 : Nat → Int32 → Int32 → vt_S → Option (Int32 × vt_S)) (x0 : Nat) (x4 : Int32) (x5 : Int32) (x6 : Int32) (h : vt_S) : Option (Int32 × vt_S) :=
  (vl_I h 1820 x0 x5).bind fun v2 =>
  vt_b (ab_X17_wallPart x0 v2 14 h) fun r3 h4 =>
  if x6 = 2 then
    ab_X17_walks_244 k169 x0 x4 x5 x0 r3 1 h4
  else
    if x6 = 3 then
      ab_X17_walks_244 k169 x0 x4 x5 x0 r3 0 h4
    else
      ab_X17_walks_244 k169 x0 x4 x5 x0 r3 2 h4

def ab_X17_walks_169b (k169 : Nat → Int32 → Int32 → vt_S → Option (Int32 × vt_S)) (x0 : Nat) (x4 : Int32) (x5 : Int32) (h : vt_S) : Option (Int32 × vt_S) :=
  if x4 ≤ x5 then
    some (1, h)
  else
    (vl_I h 1820 x0 x5).bind fun v2 =>
    vt_b (ab_X17_wallPart x0 v2 13 h) fun r3 h4 =>
    if r3 = 2 then
      ab_X17_walks_209 k169 x0 x4 x5 r3 h4
    else
      if r3 = 3 then
        ab_X17_walks_209 k169 x0 x4 x5 r3 h4
      else
        if r3 = 5 then
          ab_X17_walks_209 k169 x0 x4 x5 r3 h4
        else
          ab_X17_walks_247 k169 x0 x4 x5 h4

def ab_X17_walks_169 : Nat → Nat → Int32 → Int32 → vt_S → Option (Int32 × vt_S)
  | 0, _, _, _, _ => none
  | sv_n + 1, x0, x4, x5, h => ab_X17_walks_169b (ab_X17_walks_169 sv_n) x0 x4 x5 h

def ab_X17_walks_85 (k19 : Nat → Int32 → Int32 → Int32 → Int32 → Int32 → vt_S → Option (Int32 × vt_S)) (x0 : Nat) (x1 : Int32) (x2 : Int32) (x3 : Int32) (x4 : Int32) (x5 : Int32) (h : vt_S) : Option (Int32 × vt_S) :=
  k19 x0 x1 x2 x3 x4 (x5 + 1) h

def ab_X17_walks_19b (k19 : Nat → Int32 → Int32 → Int32 → Int32 → Int32 → vt_S → Option (Int32 × vt_S)) (x0 : Nat) (x1 : Int32) (x2 : Int32) (x3 : Int32) (x4 : Int32) (x5 : Int32) (h : vt_S) : Option (Int32 × vt_S) :=
  sv_let (vt_I h 1821 x0) fun v1 =>
  if v1 ≤ x5 then
    sv_let (vt_I h 1811 x0) fun v2 =>
    if (v2 + x1) < ((-40000)) then
      ab_X17_walks_139 h
    else
      sv_let (vt_I h 1811 x0) fun v3 =>
      if 40000 < (v3 + x1) then
        ab_X17_walks_139 h
      else
        sv_let (vt_I h 1812 x0) fun v4 =>
        if (v4 + x2) < ((-40000)) then
          ab_X17_walks_139 h
        else
          sv_let (vt_I h 1812 x0) fun v5 =>
          if (v5 + x2) ≤ 40000 then
            sv_let (vt_I h 1811 x0) fun v6 =>
            sv_let (vu_I h 1811 x0 (v6 + x1)) fun h7 =>
            sv_let (vt_I h7 1812 x0) fun v8 =>
            sv_let (vu_I h7 1812 x0 (v8 + x2)) fun h9 =>
            sv_let (vu_I h9 1814 x0 x3) fun h10 =>
            ab_X17_walks_169 sv_fuel x0 x4 0 h10
          else
            ab_X17_walks_139 h
  else
    (vl_I h 1820 x0 x5).bind fun v12 =>
    vt_b (ab_X17_meets x0 v12 h) fun r13 h14 =>
    sv_let (vt_J h14 1817 x0) fun v15 =>
    sv_let (vt_J h14 1818 x0) fun v16 =>
    if 0 < (lg_cmp v15 v16) then
      ab_X17_walks_85 k19 x0 x1 x2 x3 x4 x5 h14
    else
      (vl_I h14 1820 x0 x5).bind fun v18 =>
      vt_b (ab_X17_stops x0 v18 h14) fun r19 h20 =>
      if r19 = 0 then
        (vl_I h20 1820 x0 x5).bind fun v22 =>
        vt_b (ab_X17_sideOf x0 v22 0 h20) fun r23 h24 =>
        ab_X17_walks_85 k19 x0 x1 x2 r23 (x4 + 1) x5 h24
      else
        some (0, h20)

def ab_X17_walks_19 : Nat → Nat → Int32 → Int32 → Int32 → Int32 → Int32 → vt_S → Option (Int32 × vt_S)
  | 0, _, _, _, _, _, _, _ => none
  | sv_n + 1, x0, x1, x2, x3, x4, x5, h => ab_X17_walks_19b (ab_X17_walks_19 sv_n) x0 x1 x2 x3 x4 x5 h

def ab_X17_walks (x0 : Nat) (x1 : Int32) (x2 : Int32) (h : vt_S) : Option (Int32 × vt_S) :=
  vt_b (ab_X17_gather x0 (Int32.toInt64 x1) (Int32.toInt64 x2) h) fun _ h1 =>
  sv_let (vt_I h1 1814 x0) fun v2 =>
  ab_X17_walks_19 sv_fuel x0 x1 x2 v2 0 0 h1

def ab_X17_use_63 (h : vt_S) : Option (Unit × vt_S) :=
  some ((), h)

def ab_X17_use_132 (h : vt_S) : Option (Unit × vt_S) :=
  some ((), h)

def ab_X17_use_109 (x0 : Nat) (x1 : Int32) (h : vt_S) : Option (Unit × vt_S) :=
  vt_b (ab_X17_wallPart x0 x1 13 h) fun r1 h2 =>
  if r1 = 4 then
    vt_b (ab_X17_wallPart x0 x1 14 h2) fun r3 h4 =>
    vt_b (ab_X17_startAll x0 r3 1 h4) fun _ h5 =>
    ab_X17_use_132 h5
  else
    ab_X17_use_132 h2

def ab_X17_use (x0 : Nat) (h : vt_S) : Option (Unit × vt_S) :=
  sv_let (vt_I h 1813 x0) fun v1 =>
  vt_b (ab_X17_cosine v1 h) fun r2 h3 =>
  sv_let (vt_I h3 1813 x0) fun v4 =>
  vt_b (ab_X17_sine v4 h3) fun r5 h6 =>
  vt_b (ab_X17_gather x0 (Int32.toInt64 r2) (Int32.toInt64 r5) h6) fun _ h7 =>
  sv_let (vt_I h7 1821 x0) fun v8 =>
  if v8 = 0 then
    ab_X17_use_63 h7
  else
    (vl_I h7 1820 x0 0).bind fun v10 =>
    vt_b (ab_X17_meets x0 v10 h7) fun r11 h12 =>
    if r11 = 0 then
      ab_X17_use_63 h12
    else
      sv_let (vt_J h12 1817 x0) fun v13 =>
      sv_let (vt_J h12 1818 x0) fun v14 =>
      if 0 < (lg_cmp (4 * v13) v14) then
        ab_X17_use_63 h12
      else
        sv_let (vt_I h12 1819 x0) fun v15 =>
        if v15 = 0 then
          ab_X17_use_63 h12
        else
          (vl_I h12 1820 x0 0).bind fun v17 =>
          vt_b (ab_X17_wallPart x0 v17 3 h12) fun r18 h19 =>
          vt_b (ab_X17_wallPart x0 v17 13 h19) fun r20 h21 =>
          if r20 = 1 then
            if r18 = 255 then
              ab_X17_use_109 x0 v17 h21
            else
              sv_let (vt_P h21 1803 x0) fun v22 =>
              vt_b (ab_X13_begin v22 r18 0 h21) fun r23 h24 =>
              ab_X17_use_132 h24
          else
            ab_X17_use_109 x0 v17 h21

def ab_X13_await (x0 : Nat) (x1 : Int32) (x2 : Int32) (h : vt_S) : Option (Unit × vt_S) :=
  (vs_I h 1411 x0 x1 0).bind fun h2 =>
  (vs_I h2 1412 x0 x1 x2).bind fun h4 =>
  some ((), h4)

def ab_X13_end (x0 : Nat) (x1 : Int32) (h : vt_S) : Option (Unit × vt_S) :=
  (vs_I h 1410 x0 x1 ((-1))).bind fun h2 =>
  (vs_I h2 1411 x0 x1 0).bind fun h4 =>
  (vs_I h4 1413 x0 x1 ((-1))).bind fun h6 =>
  some ((), h6)

def ab_X13_stepDoor_157 (h : vt_S) : Option (Unit × vt_S) :=
  some ((), h)

def ab_X13_stepDoor_135 (x0 : Nat) (x1 : Int32) (x2 : Int32) (h : vt_S) : Option (Unit × vt_S) :=
  (vs_I h 1409 x0 x1 x2).bind fun h2 =>
  (vl_I h2 1408 x0 x1).bind fun v4 =>
  if x2 = v4 then
    vt_b (ab_X13_end x0 x1 h2) fun _ h5 =>
    ab_X13_stepDoor_157 h5
  else
    ab_X13_stepDoor_157 h2

def ab_X13_stepDoor_95 (x0 : Nat) (x1 : Int32) (s0 : Int32) (h : vt_S) : Option (Unit × vt_S) :=
  sv_let (vt_I h 1416 x0) fun v1 =>
  if v1 = x1 then
    (vl_I h 1408 x0 x1).bind fun v3 =>
    if 56 ≤ (s0 - v3) then
      ab_X13_stepDoor_135 x0 x1 s0 h
    else
      sv_let (vt_I h 1417 x0) fun v4 =>
      sv_let (vu_I h 1417 x0 (v4 + 1)) fun h5 =>
      (vs_I h5 1411 x0 x1 1).bind fun h7 =>
      some ((), h7)
  else
    ab_X13_stepDoor_135 x0 x1 s0 h

def ab_X13_stepDoor_74 (h : vt_S) : Option (Unit × vt_S) :=
  some ((), h)

def ab_X13_stepDoor_51 (x0 : Nat) (x1 : Int32) (s0 : Nat) (s1 : Int32) (s2 : Int32) (h : vt_S) : Option (Unit × vt_S) :=
  (vs_I h 1409 s0 s1 s2).bind fun h1 =>
  (vl_I h1 1409 x0 x1).bind fun v3 =>
  (vl_I h1 1413 x0 x1).bind fun v5 =>
  if v3 = v5 then
    vt_b (ab_X13_await x0 x1 20 h1) fun _ h6 =>
    ab_X13_stepDoor_74 h6
  else
    ab_X13_stepDoor_74 h1

def ab_X13_stepDoor (x0 : Nat) (x1 : Int32) (h : vt_S) : Option (Unit × vt_S) :=
  (vl_I h 1409 x0 x1).bind fun v2 =>
  (vl_I h 1411 x0 x1).bind fun v4 =>
  (vl_I h 1411 x0 x1).bind fun v6 =>
  if v6 ≤ 0 then
    (vl_I h 1408 x0 x1).bind fun v8 =>
    if v8 ≤ (v2 + (8 * v4)) then
      ab_X13_stepDoor_95 x0 x1 (v2 + (8 * v4)) h
    else
      (vl_I h 1408 x0 x1).bind fun v10 =>
      ab_X13_stepDoor_95 x0 x1 v10 h
  else
    (vl_I h 1413 x0 x1).bind fun v13 =>
    if (v2 + (8 * v4)) ≤ v13 then
      ab_X13_stepDoor_51 x0 x1 x0 x1 (v2 + (8 * v4)) h
    else
      (vl_I h 1413 x0 x1).bind fun v15 =>
      ab_X13_stepDoor_51 x0 x1 x0 x1 v15 h

def ab_X13_rise_78 (h : vt_S) : Option (Unit × vt_S) :=
  some ((), h)

def ab_X13_rise_59 (x0 : Nat) (x1 : Int32) (x3 : Int32) (x4 : Int32) (h : vt_S) : Option (Unit × vt_S) :=
  (vs_I h 1408 x0 x1 x4).bind fun h2 =>
  if x4 = x3 then
    vt_b (ab_X13_end x0 x1 h2) fun _ h3 =>
    ab_X13_rise_78 h3
  else
    ab_X13_rise_78 h2

def ab_X13_rise_24 (x0 : Nat) (x1 : Int32) (x3 : Int32) (s0 : Int32) (h : vt_S) : Option (Unit × vt_S) :=
  sv_let (vt_I h 1416 x0) fun v1 =>
  if v1 = x1 then
    (vl_I h 1409 x0 x1).bind fun v3 =>
    if 56 ≤ (v3 - s0) then
      ab_X13_rise_59 x0 x1 x3 s0 h
    else
      sv_let (vt_I h 1417 x0) fun v4 =>
      sv_let (vu_I h 1417 x0 (v4 + 1)) fun h5 =>
      some ((), h5)
  else
    ab_X13_rise_59 x0 x1 x3 s0 h

def ab_X13_rise (x0 : Nat) (x1 : Int32) (x2 : Int32) (x3 : Int32) (h : vt_S) : Option (Unit × vt_S) :=
  (vl_I h 1408 x0 x1).bind fun v2 =>
  if (v2 + x2) ≤ x3 then
    (vl_I h 1408 x0 x1).bind fun v4 =>
    ab_X13_rise_24 x0 x1 x3 (v4 + x2) h
  else
    ab_X13_rise_24 x0 x1 x3 x3 h

def ab_X13_step_128 (h : vt_S) : Option (Unit × vt_S) :=
  some ((), h)

def ab_X13_step_105 (x0 : Nat) (x1 : Int32) (s0 : Nat) (s1 : Int32) (s2 : Int32) (h : vt_S) : Option (Unit × vt_S) :=
  (vs_I h 1408 s0 s1 s2).bind fun h1 =>
  (vl_I h1 1408 x0 x1).bind fun v3 =>
  (vl_I h1 1413 x0 x1).bind fun v5 =>
  if v3 = v5 then
    vt_b (ab_X13_await x0 x1 30 h1) fun _ h6 =>
    ab_X13_step_128 h6
  else
    ab_X13_step_128 h1

def ab_X13_step (x0 : Nat) (x1 : Int32) (h : vt_S) : Option (Unit × vt_S) :=
  (vl_I h 1410 x0 x1).bind fun v2 =>
  if v2 = 0 then
    vt_b (ab_X13_stepDoor x0 x1 h) fun _ h22 =>
    ab_X13_step_128 h22
  else
    (vl_I h 1410 x0 x1).bind fun v4 =>
    if v4 = 2 then
      (vl_I h 1413 x0 x1).bind fun v20 =>
      vt_b (ab_X13_rise x0 x1 2 v20 h) fun _ h21 =>
      ab_X13_step_128 h21
    else
      (vl_I h 1411 x0 x1).bind fun v6 =>
      if v6 ≤ 0 then
        (vl_I h 1408 x0 x1).bind fun v9 =>
        (vl_I h 1413 x0 x1).bind fun v11 =>
        if v11 ≤ (v9 - 4) then
          (vl_I h 1408 x0 x1).bind fun v13 =>
          ab_X13_step_105 x0 x1 x0 x1 (v13 - 4) h
        else
          (vl_I h 1413 x0 x1).bind fun v15 =>
          ab_X13_step_105 x0 x1 x0 x1 v15 h
      else
        (vl_I h 1414 x0 x1).bind fun v17 =>
        vt_b (ab_X13_rise x0 x1 4 v17 h) fun _ h18 =>
        ab_X13_step_128 h18

def ab_X13_ticks_11 (h : vt_S) : Option (Int32 × vt_S) :=
  some ((-1), h)

def ab_X13_ticks_118 (k15 : Nat → Int32 → Int32 → vt_S → Option (Int32 × vt_S)) (k32 : Nat → Int32 → Int32 → Int32 → vt_S → Option (Int32 × vt_S)) (x0 : Nat) (x1 : Int32) (x2 : Int32) (x3 : Int32) (h : vt_S) : Option (Int32 × vt_S) :=
  k32 x0 x1 x2 (x3 + 1) h

def ab_X13_ticks_104 (k15 : Nat → Int32 → Int32 → vt_S → Option (Int32 × vt_S)) (k32 : Nat → Int32 → Int32 → Int32 → vt_S → Option (Int32 × vt_S)) (x0 : Nat) (x1 : Int32) (x2 : Int32) (x3 : Int32) (h : vt_S) : Option (Int32 × vt_S) :=
  (vl_I h 1410 x0 x3).bind fun v2 =>
  if v2 < 0 then
    ab_X13_ticks_118 k15 k32 x0 x1 x2 x3 h
  else
    vt_b (ab_X13_step x0 x3 h) fun _ h3 =>
    ab_X13_ticks_118 k15 k32 x0 x1 x2 x3 h3

def ab_X13_ticks_100 (k15 : Nat → Int32 → Int32 → vt_S → Option (Int32 × vt_S)) (k32 : Nat → Int32 → Int32 → Int32 → vt_S → Option (Int32 × vt_S)) (x0 : Nat) (x1 : Int32) (x2 : Int32) (x3 : Int32) (s0 : Nat) (s1 : Int32) (s2 : Int32) (h : vt_S) : Option (Int32 × vt_S) :=
  (vs_I h 1411 s0 s1 s2).bind fun h1 =>
  ab_X13_ticks_118 k15 k32 x0 x1 x2 x3 h1

def ab_X13_ticks_32b (k15 : Nat → Int32 → Int32 → vt_S → Option (Int32 × vt_S)) (k32 : Nat → Int32 → Int32 → Int32 → vt_S → Option (Int32 × vt_S)) (x0 : Nat) (x1 : Int32) (x2 : Int32) (x3 : Int32) (h : vt_S) : Option (Int32 × vt_S) :=
  sv_let (vt_I h 1400 x0) fun v1 =>
  if v1 ≤ x3 then
    k15 x0 x1 (x2 + 1) h
  else
    (vl_I h 1410 x0 x3).bind fun v3 =>
    if v3 < 0 then
      ab_X13_ticks_104 k15 k32 x0 x1 x2 x3 h
    else
      (vl_I h 1412 x0 x3).bind fun v5 =>
      if v5 ≤ 0 then
        ab_X13_ticks_104 k15 k32 x0 x1 x2 x3 h
      else
        (vl_I h 1412 x0 x3).bind fun v7 =>
        (vs_I h 1412 x0 x3 (v7 - 1)).bind fun h8 =>
        (vl_I h8 1412 x0 x3).bind fun v11 =>
        if v11 ≤ 0 then
          (vl_I h8 1410 x0 x3).bind fun v13 =>
          if v13 = 0 then
            ab_X13_ticks_100 k15 k32 x0 x1 x2 x3 x0 x3 ((-1)) h8
          else
            ab_X13_ticks_100 k15 k32 x0 x1 x2 x3 x0 x3 1 h8
        else
          ab_X13_ticks_100 k15 k32 x0 x1 x2 x3 x0 x3 0 h8

def ab_X13_ticks_32 (k15 : Nat → Int32 → Int32 → vt_S → Option (Int32 × vt_S)) : Nat → Nat → Int32 → Int32 → Int32 → vt_S → Option (Int32 × vt_S)
  | 0, _, _, _, _, _ => none
  | sv_n + 1, x0, x1, x2, x3, h => ab_X13_ticks_32b k15 (ab_X13_ticks_32 k15 sv_n) x0 x1 x2 x3 h

def ab_X13_ticks_15b (k15 : Nat → Int32 → Int32 → vt_S → Option (Int32 × vt_S)) (x0 : Nat) (x1 : Int32) (x2 : Int32) (h : vt_S) : Option (Int32 × vt_S) :=
  if x1 ≤ x2 then
    sv_let (vt_I h 1415 x0) fun v1 =>
    some (v1, h)
  else
    sv_let (vt_I h 1415 x0) fun v2 =>
    sv_let (vu_I h 1415 x0 (v2 + 1)) fun h3 =>
    ab_X13_ticks_32 k15 sv_fuel x0 x1 x2 0 h3

def ab_X13_ticks_15 : Nat → Nat → Int32 → Int32 → vt_S → Option (Int32 × vt_S)
  | 0, _, _, _, _ => none
  | sv_n + 1, x0, x1, x2, h => ab_X13_ticks_15b (ab_X13_ticks_15 sv_n) x0 x1 x2 h

def ab_X13_ticks (x0 : Nat) (x1 : Int32) (h : vt_S) : Option (Int32 × vt_S) :=
  if x1 < 0 then
    ab_X13_ticks_11 h
  else
    if x1 ≤ 1000 then
      ab_X13_ticks_15 sv_fuel x0 x1 0 h
    else
      ab_X13_ticks_11 h

def ab_X17_go_121 (x0 : Nat) (x7 : Int32) (h : vt_S) : Option (Int32 × vt_S) :=
  sv_let (vt_P h 1803 x0) fun v1 =>
  sv_let (vt_I h 1814 x0) fun v2 =>
  sv_let (vu_I h 1416 v1 v2) fun h3 =>
  sv_let (vt_P h3 1803 x0) fun v4 =>
  vt_b (ab_X13_ticks v4 1 h3) fun r5 h6 =>
  some (x7, h6)

def ab_X17_go_110 (x0 : Nat) (x4 : Int32) (s0 : Int32) (h : vt_S) : Option (Int32 × vt_S) :=
  if x4 = 0 then
    ab_X17_go_121 x0 s0 h
  else
    vt_b (ab_X17_use x0 h) fun _ h1 =>
    ab_X17_go_121 x0 s0 h1

def ab_X17_go_94 (x0 : Nat) (x4 : Int32) (x5 : Int32) (x6 : Int32) (h : vt_S) : Option (Int32 × vt_S) :=
  vt_b (ab_X17_walks x0 x5 x6 h) fun r1 h2 =>
  if r1 = 0 then
    ab_X17_go_110 x0 x4 2 h2
  else
    ab_X17_go_110 x0 x4 1 h2

def ab_X17_go (x0 : Nat) (x1 : Int32) (x2 : Int32) (x3 : Int32) (x4 : Int32) (h : vt_S) : Option (Int32 × vt_S) :=
  sv_let (vt_I h 1813 x0) fun v1 =>
  sv_let (vu_I h 1813 x0 (((v1 + x3) + 64) - ((v1 + x3) + 64) / 64 * 64)) fun h2 =>
  sv_let (vt_I h2 1813 x0) fun v3 =>
  vt_b (ab_X17_cosine v3 h2) fun r4 h5 =>
  sv_let (vt_I h5 1813 x0) fun v6 =>
  vt_b (ab_X17_sine v6 h5) fun r7 h8 =>
  vt_b (ab_X17_down (((Int32.toInt64 r4) * (Int32.toInt64 x1)) + ((Int32.toInt64 r7) * (Int32.toInt64 x2))) 256 h8) fun r9 h10 =>
  sv_let (vt_I h10 1813 x0) fun v11 =>
  vt_b (ab_X17_sine v11 h10) fun r12 h13 =>
  sv_let (vt_I h13 1813 x0) fun v14 =>
  vt_b (ab_X17_cosine v14 h13) fun r15 h16 =>
  vt_b (ab_X17_down (((Int32.toInt64 r12) * (Int32.toInt64 x1)) - ((Int32.toInt64 r15) * (Int32.toInt64 x2))) 256 h16) fun r17 h18 =>
  if (Int64.toInt32 r9) = 0 then
    if (Int64.toInt32 r17) = 0 then
      ab_X17_go_110 x0 x4 0 h18
    else
      ab_X17_go_94 x0 x4 (Int64.toInt32 r9) (Int64.toInt32 r17) h18
  else
    ab_X17_go_94 x0 x4 (Int64.toInt32 r9) (Int64.toInt32 r17) h18

def ab_X17_playTo_27 (h : vt_S) : Option (Int32 × vt_S) :=
  some ((-1), h)

def ab_X17_playTo_92 (k37 : Nat → Int32 → Int32 → Int32 → vt_S → Option (Int32 × vt_S)) (x0 : Nat) (x1 : Int32) (x3 : Int32) (s0 : Int32) (s1 : Int32) (h : vt_S) : Option (Int32 × vt_S) :=
  k37 x0 x1 (s0 + s1) (x3 + 1) h

def ab_X17_playTo_37b (k37 : Nat → Int32 → Int32 → Int32 → vt_S → Option (Int32 × vt_S)) (x0 : Nat) (x1 : Int32) (x2 : Int32) (x3 : Int32) (h : vt_S) : Option (Int32 × vt_S) :=
  if x1 ≤ x3 then
    some (x2, h)
  else
    sv_let (vt_P h 1802 x0) fun v1 =>
    (vl_I h 1601 v1 x3).bind fun v3 =>
    sv_let (vt_P h 1802 x0) fun v4 =>
    (vl_I h 1602 v4 x3).bind fun v6 =>
    sv_let (vt_P h 1802 x0) fun v7 =>
    (vl_I h 1603 v7 x3).bind fun v9 =>
    sv_let (vt_P h 1802 x0) fun v10 =>
    (vl_I h 1604 v10 x3).bind fun v12 =>
    vt_b (ab_X17_go x0 v3 v6 v9 v12 h) fun r13 h14 =>
    if r13 = 2 then
      ab_X17_playTo_92 k37 x0 x1 x3 x2 1 h14
    else
      ab_X17_playTo_92 k37 x0 x1 x3 x2 0 h14

def ab_X17_playTo_37 : Nat → Nat → Int32 → Int32 → Int32 → vt_S → Option (Int32 × vt_S)
  | 0, _, _, _, _, _ => none
  | sv_n + 1, x0, x1, x2, x3, h => ab_X17_playTo_37b (ab_X17_playTo_37 sv_n) x0 x1 x2 x3 h

def ab_X17_playTo (x0 : Nat) (x1 : Int32) (h : vt_S) : Option (Int32 × vt_S) :=
  sv_let (vu_I h 1800 x0 0) fun h1 =>
  sv_let (vt_I h1 1809 x0) fun v2 =>
  if v2 = 0 then
    ab_X17_playTo_27 h1
  else
    if x1 < 0 then
      ab_X17_playTo_27 h1
    else
      sv_let (vt_P h1 1802 x0) fun v3 =>
      sv_let (vt_I h1 1605 v3) fun v4 =>
      if x1 ≤ v4 then
        vt_b (ab_X17_begin x0 h1) fun _ h5 =>
        ab_X17_playTo_37 sv_fuel x0 x1 0 0 h5
      else
        ab_X17_playTo_27 h1

def ab_X12_stepBy_16 (h : vt_S) : Option (Int32 × vt_S) :=
  some ((-1), h)

def ab_X12_stepBy (x0 : Nat) (x1 : Int32) (x2 : Int32) (x3 : Int32) (x4 : Int32) (h : vt_S) : Option (Int32 × vt_S) :=
  vt_b (ab_X12_hasMap x0 h) fun r1 h2 =>
  if r1 = 0 then
    ab_X12_stepBy_16 h2
  else
    vt_b (ab_X5_isInput x1 x2 x3 h2) fun r3 h4 =>
    if r3 = 0 then
      ab_X12_stepBy_16 h4
    else
      sv_let (vt_P h4 1304 x0) fun v5 =>
      vt_b (ab_X5_inputOf x1 x2 x3 x4 h4) fun r6 h7 =>
      vt_b (ab_X10_step v5 r6 h7) fun r8 h9 =>
      some (r8, h9)

def ab_X17_stepBy_64 (s0 : Int32) (h : vt_S) : Option (Int32 × vt_S) :=
  some (s0, h)

def ab_X17_stepBy_44 (x0 : Nat) (x1 : Int32) (x2 : Int32) (x3 : Int32) (x4 : Int32) (s0 : Int32) (h : vt_S) : Option (Int32 × vt_S) :=
  if s0 = 0 then
    ab_X17_stepBy_64 ((-1)) h
  else
    vt_b (ab_X17_go x0 x1 x2 x3 x4 h) fun r1 h2 =>
    ab_X17_stepBy_64 r1 h2

def ab_X17_stepBy_43 (x0 : Nat) (x1 : Int32) (x2 : Int32) (x3 : Int32) (x4 : Int32) (h : vt_S) : Option (Int32 × vt_S) :=
  ab_X17_stepBy_44 x0 x1 x2 x3 x4 0 h

def ab_X17_stepBy (x0 : Nat) (x1 : Int32) (x2 : Int32) (x3 : Int32) (x4 : Int32) (h : vt_S) : Option (Int32 × vt_S) :=
  sv_let (vu_I h 1800 x0 0) fun h1 =>
  sv_let (vt_I h1 1809 x0) fun v2 =>
  if v2 = 0 then
    ab_X17_stepBy_43 x0 x1 x2 x3 x4 h1
  else
    vt_b (ab_X15_isIn x1 64 h1) fun r3 h4 =>
    if r3 = 0 then
      ab_X17_stepBy_43 x0 x1 x2 x3 x4 h4
    else
      vt_b (ab_X15_isIn x2 64 h4) fun r5 h6 =>
      if r5 = 0 then
        ab_X17_stepBy_43 x0 x1 x2 x3 x4 h6
      else
        vt_b (ab_X15_isIn x3 16 h6) fun r7 h8 =>
        if r7 = 0 then
          ab_X17_stepBy_43 x0 x1 x2 x3 x4 h8
        else
          ab_X17_stepBy_44 x0 x1 x2 x3 x4 1 h8

def ab_X10_eye (x0 : Nat) (h : vt_S) : Option (Int32 × vt_S) :=
  sv_let (vt_P h 1101 x0) fun v1 =>
  sv_let (vt_I h 1105 x0) fun v3 =>
  (vl_P h 307 v1 v3).bind fun v4 =>
  sv_let (vt_I h 707 v4) fun v5 =>
  some (v5 + 41, h)

def ab_X12_walkerOf (x0 : Nat) (x1 : Int32) (h : vt_S) : Option (Int32 × vt_S) :=
  vt_b (ab_X12_hasMap x0 h) fun r1 h2 =>
  if r1 = 0 then
    some (100000, h2)
  else
    if x1 = 0 then
      sv_let (vt_P h2 1304 x0) fun v3 =>
      sv_let (vt_I h2 1102 v3) fun v4 =>
      some (v4, h2)
    else
    if x1 = 1 then
      sv_let (vt_P h2 1304 x0) fun v5 =>
      sv_let (vt_I h2 1103 v5) fun v6 =>
      some (v6, h2)
    else
    if x1 = 2 then
      sv_let (vt_P h2 1304 x0) fun v7 =>
      sv_let (vt_I h2 1104 v7) fun v8 =>
      some (v8, h2)
    else
    if x1 = 3 then
      sv_let (vt_P h2 1304 x0) fun v9 =>
      sv_let (vt_I h2 1105 v9) fun v10 =>
      some (v10, h2)
    else
    if x1 = 4 then
      sv_let (vt_P h2 1304 x0) fun v11 =>
      vt_b (ab_X10_eye v11 h2) fun r12 h13 =>
      some (r12, h13)
    else
    if x1 = 5 then
      sv_let (vt_P h2 1304 x0) fun v14 =>
      sv_let (vt_I h2 1106 v14) fun v15 =>
      some (v15, h2)
    else
    some (100000, h2)

def ab_X17_eye (x0 : Nat) (h : vt_S) : Option (Int32 × vt_S) :=
  sv_let (vt_P h 1803 x0) fun v1 =>
  sv_let (vt_I h 1814 x0) fun v3 =>
  (vl_I h 1408 v1 v3).bind fun v4 =>
  some (v4 + 41, h)

def ab_X17_walkerOf (x0 : Nat) (x1 : Int32) (h : vt_S) : Option (Int32 × vt_S) :=
  sv_let (vu_I h 1800 x0 0) fun h1 =>
  sv_let (vt_I h1 1809 x0) fun v2 =>
  if v2 = 0 then
    some (100000, h1)
  else
    if x1 = 0 then
      sv_let (vt_I h1 1811 x0) fun v3 =>
      some (v3, h1)
    else
    if x1 = 1 then
      sv_let (vt_I h1 1812 x0) fun v4 =>
      some (v4, h1)
    else
    if x1 = 2 then
      sv_let (vt_I h1 1813 x0) fun v5 =>
      some (v5, h1)
    else
    if x1 = 3 then
      sv_let (vt_I h1 1814 x0) fun v6 =>
      some (v6, h1)
    else
    if x1 = 4 then
      vt_b (ab_X17_eye x0 h1) fun r7 h8 =>
      some (r7, h8)
    else
    if x1 = 5 then
      sv_let (vt_P h1 1803 x0) fun v9 =>
      sv_let (vt_I h1 1415 v9) fun v10 =>
      some (v10, h1)
    else
    some (100000, h1)

def ab_X2_moverCount_28 (k4 : Nat → Int32 → Int32 → vt_S → Option (Int32 × vt_S)) (x0 : Nat) (x1 : Int32) (x2 : Int32) (h : vt_S) : Option (Int32 × vt_S) :=
  k4 x0 x1 (x2 + 1) h

def ab_X2_moverCount_4b (k4 : Nat → Int32 → Int32 → vt_S → Option (Int32 × vt_S)) (x0 : Nat) (x1 : Int32) (x2 : Int32) (h : vt_S) : Option (Int32 × vt_S) :=
  sv_let (vt_I h 311 x0) fun v1 =>
  if v1 ≤ x2 then
    some (x1, h)
  else
    (vl_P h 307 x0 x2).bind fun v3 =>
    sv_let (vt_I h 709 v3) fun v4 =>
    if v4 = ((-1)) then
      ab_X2_moverCount_28 k4 x0 x1 x2 h
    else
      ab_X2_moverCount_28 k4 x0 (x1 + 1) x2 h

def ab_X2_moverCount_4 : Nat → Nat → Int32 → Int32 → vt_S → Option (Int32 × vt_S)
  | 0, _, _, _, _ => none
  | sv_n + 1, x0, x1, x2, h => ab_X2_moverCount_4b (ab_X2_moverCount_4 sv_n) x0 x1 x2 h

def ab_X2_moverCount (x0 : Nat) (h : vt_S) : Option (Int32 × vt_S) :=
  ab_X2_moverCount_4 sv_fuel x0 0 0 h

def ab_X2_lightIn_53 (s0 : Int32) (h : vt_S) : Option (Int32 × vt_S) :=
  some (s0, h)

def ab_X2_lightIn_71 (s0 : Int32) (h : vt_S) : Option (Int32 × vt_S) :=
  some (s0, h)

def ab_X2_lightIn (x0 : Nat) (x1 : Nat) (x2 : Int32) (h : vt_S) : Option (Int32 × vt_S) :=
  sv_let (vt_I h 705 x1) fun v1 =>
  if v1 = 1 then
    if 4 ≤ (x2 - x2 / 16 * 16) then
      sv_let (vt_I h 704 x1) fun v2 =>
      ab_X2_lightIn_53 (v2 / 2) h
    else
      sv_let (vt_I h 704 x1) fun v3 =>
      ab_X2_lightIn_53 v3 h
  else
  if v1 = 2 then
    if ((x2 / 32) - (x2 / 32) / 2 * 2) = 0 then
      sv_let (vt_I h 704 x1) fun v4 =>
      ab_X2_lightIn_71 v4 h
    else
      ab_X2_lightIn_71 0 h
  else
  if v1 = 3 then
    sv_let (vt_I h 704 x1) fun v5 =>
    vt_b (ab_X2_moverCount x0 h) fun r6 h7 =>
    sv_let (sv_max (v5 - r6) 0) fun r8 =>
    some (r8, h7)
  else
  sv_let (vt_I h 704 x1) fun v9 =>
  some (v9, h)

def ab_X12_sectorOf_15 (h : vt_S) : Option (Int32 × vt_S) :=
  some (100000, h)

def ab_X12_sectorOf (x0 : Nat) (x1 : Int32) (x2 : Int32) (h : vt_S) : Option (Int32 × vt_S) :=
  vt_b (ab_X12_hasMap x0 h) fun r1 h2 =>
  if r1 = 0 then
    ab_X12_sectorOf_15 h2
  else
    vt_b (ab_X12_isSector x0 x1 h2) fun r3 h4 =>
    if r3 = 0 then
      ab_X12_sectorOf_15 h4
    else
      sv_let (vt_P h4 1306 x0) fun v5 =>
      (vl_P h4 307 v5 x1).bind fun v7 =>
      if x2 = 0 then
        sv_let (vt_I h4 707 v7) fun v8 =>
        some (v8, h4)
      else
      if x2 = 1 then
        sv_let (vt_I h4 708 v7) fun v9 =>
        some (v9, h4)
      else
      if x2 = 2 then
        sv_let (vt_P h4 1306 x0) fun v10 =>
        sv_let (vt_P h4 1304 x0) fun v11 =>
        sv_let (vt_I h4 1106 v11) fun v12 =>
        vt_b (ab_X2_lightIn v10 v7 v12 h4) fun r13 h14 =>
        some (r13, h14)
      else
      if x2 = 3 then
        sv_let (vt_I h4 709 v7) fun v15 =>
        some (v15, h4)
      else
      if x2 = 4 then
        sv_let (vt_I h4 710 v7) fun v16 =>
        some (v16, h4)
      else
      some (100000, h4)

def ab_X13_many_27 (k4 : Nat → Int32 → Int32 → vt_S → Option (Int32 × vt_S)) (x0 : Nat) (x2 : Int32) (s0 : Int32) (s1 : Int32) (h : vt_S) : Option (Int32 × vt_S) :=
  k4 x0 (s0 + s1) (x2 + 1) h

def ab_X13_many_4b (k4 : Nat → Int32 → Int32 → vt_S → Option (Int32 × vt_S)) (x0 : Nat) (x1 : Int32) (x2 : Int32) (h : vt_S) : Option (Int32 × vt_S) :=
  sv_let (vt_I h 1400 x0) fun v1 =>
  if v1 ≤ x2 then
    some (x1, h)
  else
    (vl_I h 1410 x0 x2).bind fun v3 =>
    if v3 < 0 then
      ab_X13_many_27 k4 x0 x2 x1 0 h
    else
      ab_X13_many_27 k4 x0 x2 x1 1 h

def ab_X13_many_4 : Nat → Nat → Int32 → Int32 → vt_S → Option (Int32 × vt_S)
  | 0, _, _, _, _ => none
  | sv_n + 1, x0, x1, x2, h => ab_X13_many_4b (ab_X13_many_4 sv_n) x0 x1 x2 h

def ab_X13_many (x0 : Nat) (h : vt_S) : Option (Int32 × vt_S) :=
  ab_X13_many_4 sv_fuel x0 0 0 h

def ab_X13_lightOf_66 (s0 : Int32) (h : vt_S) : Option (Int32 × vt_S) :=
  some (s0, h)

def ab_X13_lightOf_84 (s0 : Int32) (h : vt_S) : Option (Int32 × vt_S) :=
  some (s0, h)

def ab_X13_lightOf_94 (s0 : Int32) (h : vt_S) : Option (Int32 × vt_S) :=
  some (s0, h)

def ab_X13_lightOf (x0 : Nat) (x1 : Int32) (h : vt_S) : Option (Int32 × vt_S) :=
  (vl_I h 1403 x0 x1).bind fun v2 =>
  vt_b (ab_X13_many x0 h) fun r3 h4 =>
  (vl_I h4 1404 x0 x1).bind fun v6 =>
  if v6 = 1 then
    sv_let (vt_I h4 1415 x0) fun v7 =>
    if 4 ≤ (v7 - v7 / 16 * 16) then
      ab_X13_lightOf_66 (v2 / 2) h4
    else
      ab_X13_lightOf_66 v2 h4
  else
  if v6 = 2 then
    sv_let (vt_I h4 1415 x0) fun v8 =>
    if ((v8 / 32) - (v8 / 32) / 2 * 2) = 0 then
      ab_X13_lightOf_84 v2 h4
    else
      ab_X13_lightOf_84 0 h4
  else
  if v6 = 3 then
    if 0 ≤ (v2 - r3) then
      ab_X13_lightOf_94 (v2 - r3) h4
    else
      ab_X13_lightOf_94 0 h4
  else
  some (v2, h4)

def ab_X13_of (x0 : Nat) (x1 : Int32) (x2 : Int32) (h : vt_S) : Option (Int32 × vt_S) :=
  vt_b (ab_X13_isSector x0 x1 h) fun r1 h2 =>
  if r1 = 0 then
    some (100000, h2)
  else
    if x2 = 0 then
      (vl_I h2 1408 x0 x1).bind fun v4 =>
      some (v4, h2)
    else
    if x2 = 1 then
      (vl_I h2 1409 x0 x1).bind fun v6 =>
      some (v6, h2)
    else
    if x2 = 2 then
      vt_b (ab_X13_lightOf x0 x1 h2) fun r7 h8 =>
      some (r7, h8)
    else
    if x2 = 3 then
      (vl_I h2 1410 x0 x1).bind fun v10 =>
      some (v10, h2)
    else
    if x2 = 4 then
      (vl_I h2 1411 x0 x1).bind fun v12 =>
      some (v12, h2)
    else
    if x2 = 5 then
      (vl_I h2 1412 x0 x1).bind fun v14 =>
      some (v14, h2)
    else
    if x2 = 6 then
      vt_b (ab_X13_lowFloor x0 x1 h2) fun r15 h16 =>
      some (r15, h16)
    else
    if x2 = 7 then
      vt_b (ab_X13_highFloor x0 x1 h2) fun r17 h18 =>
      some (r17, h18)
    else
    if x2 = 8 then
      vt_b (ab_X13_lowCeiling x0 x1 h2) fun r19 h20 =>
      some (r19, h20)
    else
    if x2 = 9 then
      (vl_I h2 1413 x0 x1).bind fun v22 =>
      some (v22, h2)
    else
    some (100000, h2)

def ab_X17_sectorOf_41 (s0 : Int32) (h : vt_S) : Option (Int32 × vt_S) :=
  some (s0, h)

def ab_X17_sectorOf_26 (h : vt_S) : Option (Int32 × vt_S) :=
  ab_X17_sectorOf_41 100000 h

def ab_X17_sectorOf (x0 : Nat) (x1 : Int32) (x2 : Int32) (h : vt_S) : Option (Int32 × vt_S) :=
  sv_let (vu_I h 1800 x0 0) fun h1 =>
  if x1 < 0 then
    ab_X17_sectorOf_26 h1
  else
    vt_b (ab_X17_sectors x0 h1) fun r2 h3 =>
    if r2 ≤ x1 then
      ab_X17_sectorOf_26 h3
    else
      if x2 < 0 then
        ab_X17_sectorOf_26 h3
      else
        if x2 ≤ 4 then
          sv_let (vt_P h3 1803 x0) fun v4 =>
          vt_b (ab_X13_of v4 x1 x2 h3) fun r5 h6 =>
          ab_X17_sectorOf_41 r5 h6
        else
          ab_X17_sectorOf_26 h3

def ab_X12_isSeen_22 (s0 : Int32) (h : vt_S) : Option (Int32 × vt_S) :=
  vt_rz s0 h

def ab_X12_isSeen_21 (h : vt_S) : Option (Int32 × vt_S) :=
  ab_X12_isSeen_22 0 h

def ab_X12_isSeen (x0 : Nat) (x1 : Int32) (h : vt_S) : Option (Int32 × vt_S) :=
  vt_b (ab_X12_hasMap x0 h) fun r1 h2 =>
  if r1 = 0 then
    ab_X12_isSeen_21 h2
  else
    if x1 < 0 then
      ab_X12_isSeen_21 h2
    else
      if 64 ≤ x1 then
        ab_X12_isSeen_21 h2
      else
        ab_X12_isSeen_22 1 h2

def ab_X3_meetAll_7b (k7 : Nat → Nat → Int32 → vt_S → Option (Unit × vt_S)) (x0 : Nat) (x1 : Nat) (x2 : Int32) (h : vt_S) : Option (Unit × vt_S) :=
  sv_let (vt_I h 312 x1) fun v1 =>
  if v1 ≤ x2 then
    some ((), h)
  else
    (vl_P h 308 x1 x2).bind fun v3 =>
    vt_b (ab_X3_meet x0 v3 x2 0 h) fun _ h4 =>
    k7 x0 x1 (x2 + 1) h4

def ab_X3_meetAll_7 : Nat → Nat → Nat → Int32 → vt_S → Option (Unit × vt_S)
  | 0, _, _, _, _ => none
  | sv_n + 1, x0, x1, x2, h => ab_X3_meetAll_7b (ab_X3_meetAll_7 sv_n) x0 x1 x2 h

def ab_X3_meetAll (x0 : Nat) (x1 : Nat) (h : vt_S) : Option (Unit × vt_S) :=
  sv_let (vu_I h 406 x0 0) fun h1 =>
  ab_X3_meetAll_7 sv_fuel x0 x1 0 h1

def ab_X9_rowOf (x0 : Nat) (x1 : Int32) (x2 : Int32) (h : vt_S) : Option (Int64 × vt_S) :=
  sv_let (vt_I h 1005 x0) fun v1 =>
  sv_let (vt_P h 1000 x0) fun v2 =>
  (vl_J h 403 v2 x2).bind fun v4 =>
  sv_let (vt_P h 1000 x0) fun v5 =>
  (vl_J h 402 v5 x2).bind fun v7 =>
  vt_b (ab_J9_floorDiv_f86c9 ((Int32.toInt64 (x1 - v1)) * v4) (512 * v7) h) fun r8 h9 =>
  some (24 - r8, h9)

def ab_X9_between (x0 : Int64) (x2 : Int32) (x3 : Int32) (h : vt_S) : Option (Int32 × vt_S) :=
  sv_let (sv_maxl x0 (Int32.toInt64 x2)) fun r1 =>
  sv_let (sv_minl r1 (Int32.toInt64 x3)) fun r2 =>
  some (Int64.toInt32 r2, h)

def ab_X2_texel (x0 : Nat) (x1 : Int32) (x2 : Int64) (x4 : Int64) (h : vt_S) : Option (Int32 × vt_S) :=
  if x1 = ((-1)) then
    some (0, h)
  else
    (vl_I h 304 x0 x1).bind fun v2 =>
    (vl_I h 305 x0 x1).bind fun v4 =>
    sv_let (vt_P h 300 x0) fun v5 =>
    (vl_I h 306 x0 x1).bind fun v8 =>
    (vl_I h 304 x0 x1).bind fun v10 =>
    (vl_I h 100 v5 ((v8 + ((Int64.toInt32 (x4 &&& (Int32.toInt64 (v4 - 1)))) * v10)) + (Int64.toInt32 (x2 &&& (Int32.toInt64 (v2 - 1)))))).bind fun v11 =>
    some (v11, h)

def ab_X9_paintPlane_46 (k3 : Nat → Nat → Int32 → Int32 → Int32 → Int32 → Int32 → vt_S → Option (Unit × vt_S)) (x0 : Nat) (x1 : Nat) (x3 : Int32) (x4 : Int32) (x5 : Int32) (x6 : Int32) (x7 : Int32) (x8 : Int64) (x10 : Int64) (h : vt_S) : Option (Unit × vt_S) :=
  sv_let (vt_P h 1000 x0) fun v1 =>
  sv_let (vt_I h 407 v1) fun v2 =>
  sv_let (vt_P h 1000 x0) fun v3 =>
  sv_let (vt_I h 409 v3) fun v4 =>
  vt_b (ab_J9_floorDiv_f86c9 ((Int32.toInt64 v4) * x8) x10 h) fun r5 h6 =>
  sv_let (vt_P h6 1000 x0) fun v7 =>
  sv_let (vt_I h6 408 v7) fun v8 =>
  sv_let (vt_P h6 1000 x0) fun v9 =>
  sv_let (vt_I h6 410 v9) fun v10 =>
  vt_b (ab_J9_floorDiv_f86c9 ((Int32.toInt64 v10) * x8) x10 h6) fun r11 h12 =>
  vt_b (ab_J9_floorDiv_f86c9 (64 * x8) x10 h12) fun r13 h14 =>
  sv_let (sv_maxl ((Int32.toInt64 x6) - r13) 0) fun r15 =>
  vt_b (ab_X2_texel x1 x5 ((Int32.toInt64 v2) + r5) ((Int32.toInt64 v8) + r11) h14) fun r17 h18 =>
  (vs_I h18 1002 x0 x7 ((16 * r17) + (Int64.toInt32 r15))).bind fun h19 =>
  k3 x0 x1 x3 x4 x5 x6 (x7 + 1) h19

def ab_X9_paintPlane_3b (k3 : Nat → Nat → Int32 → Int32 → Int32 → Int32 → Int32 → vt_S → Option (Unit × vt_S)) (x0 : Nat) (x1 : Nat) (x3 : Int32) (x4 : Int32) (x5 : Int32) (x6 : Int32) (x7 : Int32) (h : vt_S) : Option (Unit × vt_S) :=
  if x3 ≤ x7 then
    some ((), h)
  else
    sv_let (vt_I h 1005 x0) fun v1 =>
    if 0 < (lg_cmp ((Int32.toInt64 (x4 - v1)) * (Int32.toInt64 ((47 - (2 * x7)) * 256))) 0) then
      ab_X9_paintPlane_46 k3 x0 x1 x3 x4 x5 x6 x7 (Int32.toInt64 (x4 - v1)) (Int32.toInt64 ((47 - (2 * x7)) * 256)) h
    else
      ab_X9_paintPlane_46 k3 x0 x1 x3 x4 x5 x6 x7 0 (Int32.toInt64 ((47 - (2 * x7)) * 256)) h

def ab_X9_paintPlane_3 : Nat → Nat → Nat → Int32 → Int32 → Int32 → Int32 → Int32 → vt_S → Option (Unit × vt_S)
  | 0, _, _, _, _, _, _, _, _ => none
  | sv_n + 1, x0, x1, x3, x4, x5, x6, x7, h => ab_X9_paintPlane_3b (ab_X9_paintPlane_3 sv_n) x0 x1 x3 x4 x5 x6 x7 h

def ab_X9_paintPlane (x0 : Nat) (x1 : Nat) (x2 : Int32) (x3 : Int32) (x4 : Int32) (x5 : Int32) (x6 : Int32) (h : vt_S) : Option (Unit × vt_S) :=
  ab_X9_paintPlane_3 sv_fuel x0 x1 x3 x4 x5 x6 x2 h

def ab_X9_markRows_3b (k3 : Nat → Int32 → Int32 → Int32 → vt_S → Option (Unit × vt_S)) (x0 : Nat) (x2 : Int32) (x3 : Int32) (x4 : Int32) (h : vt_S) : Option (Unit × vt_S) :=
  if x2 ≤ x4 then
    some ((), h)
  else
    (vs_I h 1001 x0 x4 x3).bind fun h2 =>
    k3 x0 x2 x3 (x4 + 1) h2

def ab_X9_markRows_3 : Nat → Nat → Int32 → Int32 → Int32 → vt_S → Option (Unit × vt_S)
  | 0, _, _, _, _, _ => none
  | sv_n + 1, x0, x2, x3, x4, h => ab_X9_markRows_3b (ab_X9_markRows_3 sv_n) x0 x2 x3 x4 h

def ab_X9_markRows (x0 : Nat) (x1 : Int32) (x2 : Int32) (x3 : Int32) (h : vt_S) : Option (Unit × vt_S) :=
  ab_X9_markRows_3 sv_fuel x0 x2 x3 x1 h

def ab_X9_paintCeiling_60b (k60 : Nat → Int32 → Int32 → Int32 → vt_S → Option (Unit × vt_S)) (x0 : Nat) (x2 : Int32) (x3 : Int32) (x6 : Int32) (h : vt_S) : Option (Unit × vt_S) :=
  if x2 ≤ x6 then
    sv_let (vt_I h 1006 x0) fun v1 =>
    vt_b (ab_X9_markRows x0 v1 x2 (1536 + x3) h) fun _ h2 =>
    some ((), h2)
  else
    (vs_I h 1002 x0 x6 ((16 * (15 - (x6 / 4))) + 15)).bind fun h4 =>
    k60 x0 x2 x3 (x6 + 1) h4

def ab_X9_paintCeiling_60 : Nat → Nat → Int32 → Int32 → Int32 → vt_S → Option (Unit × vt_S)
  | 0, _, _, _, _, _ => none
  | sv_n + 1, x0, x2, x3, x6, h => ab_X9_paintCeiling_60b (ab_X9_paintCeiling_60 sv_n) x0 x2 x3 x6 h

def ab_X9_paintCeiling (x0 : Nat) (x1 : Nat) (x2 : Int32) (x3 : Int32) (x4 : Int32) (h : vt_S) : Option (Unit × vt_S) :=
  (vl_P h 307 x1 x3).bind fun v2 =>
  sv_let (vt_I h 703 v2) fun v3 =>
  if v3 = ((-1)) then
    sv_let (vt_I h 1006 x0) fun v4 =>
    ab_X9_paintCeiling_60 sv_fuel x0 x2 x3 v4 h
  else
    sv_let (vt_I h 1006 x0) fun v5 =>
    sv_let (vt_I h 708 v2) fun v6 =>
    sv_let (vt_I h 703 v2) fun v7 =>
    vt_b (ab_X9_paintPlane x0 x1 v5 x2 v6 v7 x4 h) fun _ h8 =>
    sv_let (vt_I h8 1006 x0) fun v9 =>
    vt_b (ab_X9_markRows x0 v9 x2 (256 + x3) h8) fun _ h10 =>
    some ((), h10)

def ab_X11_length (x0 : Nat) (h : vt_S) : Option (Int32 × vt_S) :=
  sv_let (vt_I h 1202 x0) fun v1 =>
  sv_let (vt_I h 1200 x0) fun v2 =>
  sv_let (sv_abs (v1 - v2)) fun r3 =>
  sv_let (vt_I h 1203 x0) fun v4 =>
  sv_let (vt_I h 1201 x0) fun v5 =>
  sv_let (sv_abs (v4 - v5)) fun r6 =>
  sv_let (sv_max r3 r6) fun r7 =>
  some (r7, h)

def ab_X9_acrossAt_33 (x0 : Nat) (x1 : Nat) (x2 : Int32) (s0 : Int64) (h : vt_S) : Option (Int64 × vt_S) :=
  vt_b (ab_X11_length x1 h) fun r1 h2 =>
  sv_let (sv_absl s0) fun r3 =>
  sv_let (vt_P h2 1000 x0) fun v4 =>
  (vl_J h2 403 v4 x2).bind fun v6 =>
  if v6 = 0 then none else
  some (((Int32.toInt64 r1) * r3) / v6, h2)

def ab_X9_acrossAt (x0 : Nat) (x1 : Nat) (x2 : Int32) (h : vt_S) : Option (Int64 × vt_S) :=
  sv_let (vt_P h 1000 x0) fun v1 =>
  (vl_I h 401 v1 x2).bind fun v3 =>
  if v3 = 0 then
    sv_let (vt_P h 1000 x0) fun v4 =>
    (vl_J h 405 v4 x2).bind fun v6 =>
    ab_X9_acrossAt_33 x0 x1 x2 v6 h
  else
    sv_let (vt_P h 1000 x0) fun v7 =>
    (vl_J h 404 v7 x2).bind fun v9 =>
    ab_X9_acrossAt_33 x0 x1 x2 v9 h

def ab_X2_heightOf_15 (s0 : Int32) (h : vt_S) : Option (Int32 × vt_S) :=
  some (s0, h)

def ab_X2_heightOf (x0 : Nat) (x1 : Int32) (h : vt_S) : Option (Int32 × vt_S) :=
  if x1 = ((-1)) then
    ab_X2_heightOf_15 0 h
  else
    (vl_I h 305 x0 x1).bind fun v2 =>
    ab_X2_heightOf_15 v2 h

def ab_X9_anchorOf_142 (s0 : Int32) (h : vt_S) : Option (Int32 × vt_S) :=
  some (s0, h)

def ab_X9_anchorOf_123 (s0 : Int32) (h : vt_S) : Option (Int32 × vt_S) :=
  some (s0, h)

def ab_X9_anchorOf_87 (x2 : Nat) (x3 : Int32) (x5 : Int32) (x6 : Nat) (x7 : Int32) (s0 : Nat) (s1 : Nat) (s2 : Int32) (h : vt_S) : Option (Int32 × vt_S) :=
  vt_b (ab_X11_sectorOn s1 s2 h) fun r1 h2 =>
  (vl_P h2 307 s0 r1).bind fun v3 =>
  if x3 = 4 then
    sv_let (vt_I h2 1208 x2) fun v6 =>
    if (v6 &&& 1) = 0 then
      sv_let (vt_I h2 708 v3) fun v7 =>
      ab_X9_anchorOf_123 (v7 + x5) h2
    else
      sv_let (vt_I h2 708 x6) fun v8 =>
      ab_X9_anchorOf_123 v8 h2
  else
    if x7 = 0 then
      sv_let (vt_I h2 707 v3) fun v4 =>
      ab_X9_anchorOf_142 v4 h2
    else
      sv_let (vt_I h2 708 x6) fun v5 =>
      ab_X9_anchorOf_142 v5 h2

def ab_X9_anchorOf_63 (s0 : Int32) (h : vt_S) : Option (Int32 × vt_S) :=
  some (s0, h)

def ab_X9_anchorOf_35 (x0 : Nat) (x1 : Nat) (x2 : Nat) (x3 : Int32) (x4 : Int32) (x5 : Int32) (x6 : Nat) (s0 : Int32) (h : vt_S) : Option (Int32 × vt_S) :=
  if x3 = 3 then
    if s0 = 0 then
      sv_let (vt_I h 708 x6) fun v5 =>
      ab_X9_anchorOf_63 v5 h
    else
      sv_let (vt_I h 707 x6) fun v6 =>
      ab_X9_anchorOf_63 (v6 + x5) h
  else
    sv_let (vt_P h 1000 x0) fun v2 =>
    (vl_I h 401 v2 x4).bind fun v4 =>
    if v4 = 0 then
      ab_X9_anchorOf_87 x2 x3 x5 x6 s0 x1 x2 1 h
    else
      ab_X9_anchorOf_87 x2 x3 x5 x6 s0 x1 x2 0 h

def ab_X9_anchorOf (x0 : Nat) (x1 : Nat) (x2 : Nat) (x3 : Int32) (x4 : Int32) (x5 : Int32) (h : vt_S) : Option (Int32 × vt_S) :=
  sv_let (vt_P h 1000 x0) fun v2 =>
  (vl_I h 401 v2 x4).bind fun v4 =>
  vt_b (ab_X11_sectorOn x2 v4 h) fun r5 h6 =>
  (vl_P h6 307 x1 r5).bind fun v7 =>
  sv_let (vt_I h6 1208 x2) fun v8 =>
  if (v8 &&& 2) = 0 then
    ab_X9_anchorOf_35 x0 x1 x2 x3 x4 x5 v7 0 h6
  else
    ab_X9_anchorOf_35 x0 x1 x2 x3 x4 x5 v7 1 h6

def ab_X9_paintWall_159b (k159 : Nat → Nat → Int32 → Int32 → Int32 → Int32 → Int32 → Int64 → Int64 → Int64 → Int32 → vt_S → Option (Unit × vt_S)) (x0 : Nat) (x1 : Nat) (x2 : Int32) (x3 : Int32) (x4 : Int32) (x5 : Int32) (x9 : Int32) (x10 : Int64) (x12 : Int64) (x14 : Int64) (x16 : Int32) (h : vt_S) : Option (Unit × vt_S) :=
  if x3 ≤ x16 then
    sv_let (vt_P h 1000 x0) fun v1 =>
    (vl_I h 400 v1 x5).bind fun v3 =>
    vt_b (ab_X9_markRows x0 x2 x3 ((256 * x4) + v3) h) fun _ h4 =>
    some ((), h4)
  else
    sv_let (vt_I h 1005 x0) fun v5 =>
    sv_let (vt_P h 1000 x0) fun v6 =>
    (vl_J h 402 v6 x5).bind fun v8 =>
    sv_let (vt_P h 1000 x0) fun v9 =>
    (vl_J h 403 v9 x5).bind fun v11 =>
    vt_b (ab_J9_floorDiv_f86c9 ((Int32.toInt64 ((47 - (2 * x16)) * 256)) * v8) v11 h) fun r12 h13 =>
    vt_b (ab_X2_texel x1 x9 x10 (x12 - ((Int32.toInt64 v5) + r12)) h13) fun r15 h16 =>
    (vs_I h16 1002 x0 x16 ((16 * r15) + (Int64.toInt32 x14))).bind fun h17 =>
    k159 x0 x1 x2 x3 x4 x5 x9 x10 x12 x14 (x16 + 1) h17

def ab_X9_paintWall_159 : Nat → Nat → Nat → Int32 → Int32 → Int32 → Int32 → Int32 → Int64 → Int64 → Int64 → Int32 → vt_S → Option (Unit × vt_S)
  | 0, _, _, _, _, _, _, _, _, _, _, _, _ => none
  | sv_n + 1, x0, x1, x2, x3, x4, x5, x9, x10, x12, x14, x16, h => ab_X9_paintWall_159b (ab_X9_paintWall_159 sv_n) x0 x1 x2 x3 x4 x5 x9 x10 x12 x14 x16 h

def ab_X9_paintWall_73 (x0 : Nat) (x1 : Nat) (x2 : Int32) (x3 : Int32) (x4 : Int32) (x5 : Int32) (x6 : Int32) (x7 : Nat) (s0 : Nat) (s1 : Int32) (h : vt_S) : Option (Unit × vt_S) :=
  (vl_I h 1211 s0 s1).bind fun v1 =>
  vt_b (ab_X9_acrossAt x0 x7 x5 h) fun r2 h3 =>
  sv_let (vt_I h3 1206 x7) fun v4 =>
  vt_b (ab_X2_heightOf x1 v1 h3) fun r5 h6 =>
  vt_b (ab_X9_anchorOf x0 x1 x7 x4 x5 r5 h6) fun r7 h8 =>
  sv_let (vt_I h8 1207 x7) fun v9 =>
  sv_let (vt_P h8 1000 x0) fun v10 =>
  (vl_J h8 402 v10 x5).bind fun v12 =>
  sv_let (vt_P h8 1000 x0) fun v13 =>
  (vl_J h8 403 v13 x5).bind fun v15 =>
  if v15 = 0 then none else
  sv_let (sv_maxl ((Int32.toInt64 x6) - ((64 * v12) / v15)) 0) fun r16 =>
  ab_X9_paintWall_159 sv_fuel x0 x1 x2 x3 x4 x5 v1 (r2 + (Int32.toInt64 v4)) (Int32.toInt64 ((r7 - 1) + v9)) r16 x2 h8

def ab_X9_paintWall_44 (x0 : Nat) (x1 : Nat) (x2 : Int32) (x3 : Int32) (x4 : Int32) (x5 : Int32) (x6 : Int32) (x7 : Nat) (s0 : Int32) (h : vt_S) : Option (Unit × vt_S) :=
  sv_let (vt_P h 1000 x0) fun v2 =>
  (vl_I h 401 v2 x5).bind fun v4 =>
  if v4 = 0 then
    ab_X9_paintWall_73 x0 x1 x2 x3 x4 x5 x6 x7 x7 (s0 + 3) h
  else
    ab_X9_paintWall_73 x0 x1 x2 x3 x4 x5 x6 x7 x7 s0 h

def ab_X9_paintWall (x0 : Nat) (x1 : Nat) (x2 : Int32) (x3 : Int32) (x4 : Int32) (x5 : Int32) (x6 : Int32) (h : vt_S) : Option (Unit × vt_S) :=
  if x2 < x3 then
    sv_let (vt_P h 1000 x0) fun v2 =>
    (vl_I h 400 v2 x5).bind fun v4 =>
    (vl_P h 308 x1 v4).bind fun v5 =>
    if x4 = 4 then
      ab_X9_paintWall_44 x0 x1 x2 x3 x4 x5 x6 v5 0 h
    else
      if x4 = 3 then
        ab_X9_paintWall_44 x0 x1 x2 x3 x4 x5 x6 v5 1 h
      else
        ab_X9_paintWall_44 x0 x1 x2 x3 x4 x5 x6 v5 2 h
  else
    some ((), h)

def ab_X9_paintUpTo_258 (x0 : Nat) (x1 : Nat) (x2 : Int32) (x4 : Int32) (x7 : Int32) (x10 : Int32) (s0 : Int32) (h : vt_S) : Option (Unit × vt_S) :=
  vt_b (ab_X9_paintWall x0 x1 s0 x7 5 x2 x4 h) fun _ h1 =>
  sv_let (vu_I h1 1006 x0 x10) fun h2 =>
  sv_let (vu_I h2 1007 x0 s0) fun h3 =>
  some ((), h3)

def ab_X9_paintUpTo_208 (x0 : Nat) (x1 : Nat) (x2 : Int32) (x4 : Int32) (x5 : Nat) (x6 : Int32) (x7 : Int32) (x9 : Nat) (s0 : Int32) (h : vt_S) : Option (Unit × vt_S) :=
  vt_b (ab_X9_paintWall x0 x1 x6 s0 4 x2 x4 h) fun _ h1 =>
  sv_let (vt_I h1 707 x9) fun v2 =>
  sv_let (vt_I h1 707 x5) fun v3 =>
  if v2 ≤ v3 then
    ab_X9_paintUpTo_258 x0 x1 x2 x4 x7 s0 x7 h1
  else
    sv_let (vt_I h1 707 x9) fun v4 =>
    vt_b (ab_X9_rowOf x0 v4 x2 h1) fun r5 h6 =>
    vt_b (ab_X9_between r5 s0 x7 h6) fun r7 h8 =>
    ab_X9_paintUpTo_258 x0 x1 x2 x4 x7 s0 r7 h8

def ab_X9_paintUpTo_131 (x0 : Nat) (x1 : Nat) (x2 : Int32) (x4 : Int32) (x5 : Nat) (x6 : Int32) (x7 : Int32) (s0 : Nat) (s1 : Int32) (h : vt_S) : Option (Unit × vt_S) :=
  vt_b (ab_X11_sectorOn s0 s1 h) fun r1 h2 =>
  if r1 = ((-1)) then
    vt_b (ab_X9_paintWall x0 x1 x6 x7 3 x2 x4 h2) fun _ h12 =>
    sv_let (vt_I h12 1007 x0) fun v13 =>
    sv_let (vu_I h12 1006 x0 v13) fun h14 =>
    some ((), h14)
  else
    (vl_P h2 307 x1 r1).bind fun v4 =>
    sv_let (vt_I h2 708 v4) fun v5 =>
    sv_let (vt_I h2 708 x5) fun v6 =>
    if v6 ≤ v5 then
      ab_X9_paintUpTo_208 x0 x1 x2 x4 x5 x6 x7 v4 x6 h2
    else
      sv_let (vt_I h2 708 v4) fun v7 =>
      vt_b (ab_X9_rowOf x0 v7 x2 h2) fun r8 h9 =>
      vt_b (ab_X9_between r8 x6 x7 h9) fun r10 h11 =>
      ab_X9_paintUpTo_208 x0 x1 x2 x4 x5 x6 x7 v4 r10 h11

def ab_X9_paintUpTo (x0 : Nat) (x1 : Nat) (x2 : Int32) (x3 : Int32) (x4 : Int32) (h : vt_S) : Option (Unit × vt_S) :=
  (vl_P h 307 x1 x3).bind fun v2 =>
  sv_let (vt_I h 708 v2) fun v3 =>
  vt_b (ab_X9_rowOf x0 v3 x2 h) fun r4 h5 =>
  sv_let (vt_I h5 1006 x0) fun v6 =>
  sv_let (vt_I h5 1007 x0) fun v7 =>
  vt_b (ab_X9_between r4 v6 v7 h5) fun r8 h9 =>
  sv_let (vt_I h9 707 v2) fun v10 =>
  vt_b (ab_X9_rowOf x0 v10 x2 h9) fun r11 h12 =>
  sv_let (vt_I h12 1007 x0) fun v13 =>
  vt_b (ab_X9_between r11 r8 v13 h12) fun r14 h15 =>
  vt_b (ab_X9_paintCeiling x0 x1 r8 x3 x4 h15) fun _ h16 =>
  sv_let (vt_I h16 1007 x0) fun v17 =>
  sv_let (vt_I h16 707 v2) fun v18 =>
  sv_let (vt_I h16 702 v2) fun v19 =>
  vt_b (ab_X9_paintPlane x0 x1 r14 v17 v18 v19 x4 h16) fun _ h20 =>
  sv_let (vt_I h20 1007 x0) fun v21 =>
  vt_b (ab_X9_markRows x0 r14 v21 (512 + x3) h20) fun _ h22 =>
  sv_let (vt_P h22 1000 x0) fun v24 =>
  (vl_I h22 400 v24 x2).bind fun v26 =>
  (vl_P h22 308 x1 v26).bind fun v27 =>
  sv_let (vt_P h22 1000 x0) fun v28 =>
  (vl_I h22 401 v28 x2).bind fun v30 =>
  if v30 = 0 then
    ab_X9_paintUpTo_131 x0 x1 x2 x4 v2 r8 r14 v27 1 h22
  else
    ab_X9_paintUpTo_131 x0 x1 x2 x4 v2 r8 r14 v27 0 h22

def ab_X9_look_244 (h : vt_S) : Option (Unit × vt_S) :=
  some ((), h)

def ab_X9_look_238 (k114 : Nat → Nat → Int32 → vt_S → Option (Unit × vt_S)) (x0 : Nat) (x1 : Nat) (x6 : Int32) (h : vt_S) : Option (Unit × vt_S) :=
  k114 x0 x1 (x6 + 1) h

def ab_X9_look_114b (k114 : Nat → Nat → Int32 → vt_S → Option (Unit × vt_S)) (x0 : Nat) (x1 : Nat) (x6 : Int32) (h : vt_S) : Option (Unit × vt_S) :=
  sv_let (vt_P h 1000 x0) fun v1 =>
  sv_let (vt_I h 406 v1) fun v2 =>
  if v2 ≤ x6 then
    ab_X9_look_244 h
  else
    sv_let (vt_I h 1006 x0) fun v3 =>
    sv_let (vt_I h 1007 x0) fun v4 =>
    if v4 ≤ v3 then
      ab_X9_look_244 h
    else
      sv_let (vt_P h 1101 x1) fun v5 =>
      sv_let (vt_P h 1000 x0) fun v7 =>
      (vl_I h 400 v7 x6).bind fun v9 =>
      (vl_P h 308 v5 v9).bind fun v10 =>
      sv_let (vt_P h 1000 x0) fun v11 =>
      (vl_I h 401 v11 x6).bind fun v13 =>
      vt_b (ab_X11_sectorOn v10 v13 h) fun r14 h15 =>
      if r14 = ((-1)) then
        ab_X9_look_238 k114 x0 x1 x6 h15
      else
        sv_let (vt_I h15 1004 x0) fun v17 =>
        sv_let (vt_P h15 1000 x0) fun v18 =>
        (vl_I h15 400 v18 x6).bind fun v20 =>
        (vs_I h15 1003 x0 v17 v20).bind fun h21 =>
        sv_let (vt_I h21 1004 x0) fun v22 =>
        sv_let (vu_I h21 1004 x0 (v22 + 1)) fun h23 =>
        sv_let (vt_P h23 1101 x1) fun v24 =>
        sv_let (vt_P h23 1101 x1) fun v25 =>
        sv_let (vt_P h23 1101 x1) fun v26 =>
        (vl_P h23 307 v26 r14).bind fun v28 =>
        sv_let (vt_I h23 1106 x1) fun v29 =>
        vt_b (ab_X2_lightIn v25 v28 v29 h23) fun r30 h31 =>
        vt_b (ab_X9_paintUpTo x0 v24 x6 r14 r30 h31) fun _ h32 =>
        ab_X9_look_238 k114 x0 x1 x6 h32

def ab_X9_look_114 : Nat → Nat → Nat → Int32 → vt_S → Option (Unit × vt_S)
  | 0, _, _, _, _ => none
  | sv_n + 1, x0, x1, x6, h => ab_X9_look_114b (ab_X9_look_114 sv_n) x0 x1 x6 h

def ab_X9_look (x0 : Nat) (x1 : Nat) (x2 : Int32) (h : vt_S) : Option (Unit × vt_S) :=
  sv_let (vt_I h 1104 x1) fun v1 =>
  vt_b (ab_X12_cosine v1 h) fun r2 h3 =>
  sv_let (vt_I h3 1104 x1) fun v4 =>
  vt_b (ab_X12_sine v4 h3) fun r5 h6 =>
  sv_let (vt_P h6 1000 x0) fun v7 =>
  sv_let (vt_I h6 1102 x1) fun v8 =>
  sv_let (vt_I h6 1103 x1) fun v9 =>
  vt_b (ab_X3_aim v7 v8 v9 ((64 * r2) + (((2 * x2) - 63) * r5)) ((64 * r5) - (((2 * x2) - 63) * r2)) h6) fun _ h10 =>
  sv_let (vt_P h10 1000 x0) fun v11 =>
  sv_let (vt_P h10 1101 x1) fun v12 =>
  vt_b (ab_X3_meetAll v11 v12 h10) fun _ h13 =>
  sv_let (vf_I h13 1001 x0 0) fun h15 =>
  sv_let (vf_I h15 1002 x0 0) fun h17 =>
  vt_b (ab_X10_eye x1 h17) fun r18 h19 =>
  sv_let (vu_I h19 1005 x0 r18) fun h20 =>
  sv_let (vu_I h20 1006 x0 0) fun h21 =>
  sv_let (vu_I h21 1007 x0 48) fun h22 =>
  sv_let (vu_I h22 1004 x0 0) fun h23 =>
  ab_X9_look_114 sv_fuel x0 x1 0 h23

def ab_X12_pixelAt_18 (h : vt_S) : Option (Int32 × vt_S) :=
  some ((-1), h)

def ab_X12_pixelAt (x0 : Nat) (x1 : Int32) (x2 : Int32) (h : vt_S) : Option (Int32 × vt_S) :=
  vt_b (ab_X12_isSeen x0 x1 h) fun r1 h2 =>
  if r1 = 0 then
    ab_X12_pixelAt_18 h2
  else
    if x2 < 0 then
      ab_X12_pixelAt_18 h2
    else
      if x2 < 48 then
        sv_let (vt_P h2 1305 x0) fun v3 =>
        sv_let (vt_P h2 1304 x0) fun v4 =>
        vt_b (ab_X9_look v3 v4 x1 h2) fun _ h5 =>
        sv_let (vt_P h5 1305 x0) fun v6 =>
        (vl_I h5 1002 v6 x2).bind fun v8 =>
        some (v8, h5)
      else
        ab_X12_pixelAt_18 h2

def ab_X17_isPixel_32 (s0 : Int32) (h : vt_S) : Option (Int32 × vt_S) :=
  vt_rz s0 h

def ab_X17_isPixel_31 (h : vt_S) : Option (Int32 × vt_S) :=
  ab_X17_isPixel_32 0 h

def ab_X17_isPixel (x0 : Nat) (x1 : Int32) (x2 : Int32) (h : vt_S) : Option (Int32 × vt_S) :=
  sv_let (vt_I h 1809 x0) fun v1 =>
  if v1 = 0 then
    ab_X17_isPixel_31 h
  else
    if x1 < 0 then
      ab_X17_isPixel_31 h
    else
      if 64 ≤ x1 then
        ab_X17_isPixel_31 h
      else
        if x2 < 0 then
          ab_X17_isPixel_31 h
        else
          if 48 ≤ x2 then
            ab_X17_isPixel_31 h
          else
            ab_X17_isPixel_32 1 h

def ab_X17_rowOf_56 (s0 : Int32) (h : vt_S) : Option (Int32 × vt_S) :=
  some (s0, h)

def ab_X17_rowOf (x0 : Nat) (x1 : Int32) (x2 : Int32) (x3 : Int32) (h : vt_S) : Option (Int32 × vt_S) :=
  vt_b (ab_X17_eye x0 h) fun r1 h2 =>
  sv_let (vt_J h2 1818 x0) fun v3 =>
  sv_let (vt_J h2 1817 x0) fun v4 =>
  vt_b (ab_X17_down ((Int32.toInt64 (x1 - r1)) * v3) (512 * v4) h2) fun r5 h6 =>
  if 0 ≤ (lg_cmp (24 - r5) (Int32.toInt64 x2)) then
    if (lg_cmp (24 - r5) (Int32.toInt64 x3)) ≤ 0 then
      ab_X17_rowOf_56 (Int64.toInt32 (24 - r5)) h6
    else
      ab_X17_rowOf_56 x3 h6
  else
    ab_X17_rowOf_56 x2 h6

def ab_X14_texture_13 (h : vt_S) : Option (Int32 × vt_S) :=
  some ((-1), h)

def ab_X14_texture_111 (s0 : Int32) (h : vt_S) : Option (Int32 × vt_S) :=
  some (s0, h)

def ab_X14_texture_110 (h : vt_S) : Option (Int32 × vt_S) :=
  ab_X14_texture_111 ((-1)) h

def ab_X14_texture_59 (s0 : Int32) (h : vt_S) : Option (Int32 × vt_S) :=
  some (s0, h)

def ab_X14_texture (x0 : Nat) (x1 : Int32) (x2 : Int32) (h : vt_S) : Option (Int32 × vt_S) :=
  vt_b (ab_X14_has x0 4 x1 h) fun r1 h2 =>
  if r1 = 0 then
    ab_X14_texture_13 h2
  else
    if 0 ≤ x2 then
      vt_b (ab_X14_textureAt x0 x1 h2) fun r3 h4 =>
      (vl_I h4 1502 x0 r3).bind fun v6 =>
      (vl_I h4 1502 x0 (r3 + 1)).bind fun v8 =>
      if 2 ≤ x2 then
        if ((1 : Int32) <<< (v8 &&& 31)) ≤ ((x2 - 2) / 16) then
          ab_X14_texture_110 h4
        else
          if ((1 : Int32) <<< (v6 &&& 31)) ≤ ((x2 - 2) - (x2 - 2) / 16 * 16) then
            ab_X14_texture_110 h4
          else
            (vl_I h4 1502 x0 (((r3 + 2) + (((1 : Int32) <<< (v6 &&& 31)) * ((x2 - 2) / 16))) + ((x2 - 2) - (x2 - 2) / 16 * 16))).bind fun v10 =>
            ab_X14_texture_111 v10 h4
      else
        if x2 = 0 then
          ab_X14_texture_59 ((1 : Int32) <<< (v6 &&& 31)) h4
        else
          ab_X14_texture_59 ((1 : Int32) <<< (v8 &&& 31)) h4
    else
      ab_X14_texture_13 h2

def ab_X17_modulo (x0 : Int64) (x2 : Int32) (h : vt_S) : Option (Int32 × vt_S) :=
  if (Int32.toInt64 x2) = 0 then none else
  if (Int32.toInt64 x2) = 0 then none else
  some (Int64.toInt32 (((x0 - x0 / (Int32.toInt64 x2) * (Int32.toInt64 x2)) + (Int32.toInt64 x2)) - ((x0 - x0 / (Int32.toInt64 x2) * (Int32.toInt64 x2)) + (Int32.toInt64 x2)) / (Int32.toInt64 x2) * (Int32.toInt64 x2)), h)

def ab_X17_texel (x0 : Nat) (x1 : Int32) (x2 : Int64) (x4 : Int64) (h : vt_S) : Option (Int32 × vt_S) :=
  if x1 = 255 then
    some (0, h)
  else
    sv_let (vt_P h 1801 x0) fun v1 =>
    vt_b (ab_X14_texture v1 x1 0 h) fun r2 h3 =>
    sv_let (vt_P h3 1801 x0) fun v4 =>
    vt_b (ab_X14_texture v4 x1 1 h3) fun r5 h6 =>
    sv_let (vt_P h6 1801 x0) fun v7 =>
    vt_b (ab_X17_modulo x4 r5 h6) fun r8 h9 =>
    vt_b (ab_X17_modulo x2 r2 h9) fun r10 h11 =>
    vt_b (ab_X14_texture v7 x1 ((2 + (16 * r8)) + r10) h11) fun r12 h13 =>
    some (r12, h13)

def ab_X17_shade_28 (s0 : Int32) (h : vt_S) : Option (Int32 × vt_S) :=
  some (s0, h)

def ab_X17_shade (x0 : Nat) (x1 : Int32) (x2 : Int64) (h : vt_S) : Option (Int32 × vt_S) :=
  sv_let (vt_P h 1803 x0) fun v1 =>
  vt_b (ab_X13_of v1 x1 2 h) fun r2 h3 =>
  if 0 ≤ (lg_cmp ((Int32.toInt64 r2) - x2) 0) then
    ab_X17_shade_28 (Int64.toInt32 ((Int32.toInt64 r2) - x2)) h3
  else
    ab_X17_shade_28 0 h3

def ab_X17_flat_293 (k80 : Nat → Int32 → Int32 → Int32 → Int32 → Int32 → Int64 → Int32 → vt_S → Option (Unit × vt_S)) (x0 : Nat) (x2 : Int32) (x3 : Int32) (x4 : Int32) (x5 : Int32) (x6 : Int32) (x7 : Int64) (x9 : Int32) (s0 : Nat) (s1 : Int32) (s2 : Int32) (h : vt_S) : Option (Unit × vt_S) :=
  (vs_I h 1825 s0 s1 s2).bind fun h1 =>
  k80 x0 x2 x3 x4 x5 x6 x7 (x9 + 1) h1

def ab_X17_flat_289 (k80 : Nat → Int32 → Int32 → Int32 → Int32 → Int32 → Int64 → Int32 → vt_S → Option (Unit × vt_S)) (x0 : Nat) (x2 : Int32) (x3 : Int32) (x4 : Int32) (x5 : Int32) (x6 : Int32) (x7 : Int64) (x9 : Int32) (s0 : Nat) (s1 : Int32) (s2 : Int32) (s3 : Nat) (s4 : Int32) (s5 : Int64) (h : vt_S) : Option (Unit × vt_S) :=
  vt_b (ab_X17_shade s3 s4 s5 h) fun r1 h2 =>
  ab_X17_flat_293 k80 x0 x2 x3 x4 x5 x6 x7 x9 s0 s1 (s2 + r1) h2

def ab_X17_flat_221 (k80 : Nat → Int32 → Int32 → Int32 → Int32 → Int32 → Int64 → Int32 → vt_S → Option (Unit × vt_S)) (x0 : Nat) (x2 : Int32) (x3 : Int32) (x4 : Int32) (x5 : Int32) (x6 : Int32) (x7 : Int64) (x9 : Int32) (x10 : Int64) (x12 : Int32) (x13 : Int64) (x15 : Int64) (s0 : Nat) (s1 : Int32) (s2 : Int32) (s3 : Int32) (h : vt_S) : Option (Unit × vt_S) :=
  (vs_I h 1824 s0 s1 ((s2 * s3) + x4)).bind fun h1 =>
  if x6 = 0 then
    vt_b (ab_X17_texel x0 x5 x13 x15 h1) fun r3 h4 =>
    if x12 = 0 then
      ab_X17_flat_289 k80 x0 x2 x3 x4 x5 x6 x7 x9 x0 x9 (16 * r3) x0 x4 0 h4
    else
      vt_b (ab_X17_down (64 * x7) x10 h4) fun r5 h6 =>
      ab_X17_flat_289 k80 x0 x2 x3 x4 x5 x6 x7 x9 x0 x9 (16 * r3) x0 x4 r5 h6
  else
    ab_X17_flat_293 k80 x0 x2 x3 x4 x5 x6 x7 x9 x0 x9 ((16 * (15 - (x9 / 4))) + 15) h1

def ab_X17_flat_199 (k80 : Nat → Int32 → Int32 → Int32 → Int32 → Int32 → Int64 → Int32 → vt_S → Option (Unit × vt_S)) (x0 : Nat) (x2 : Int32) (x3 : Int32) (x4 : Int32) (x5 : Int32) (x6 : Int32) (x7 : Int64) (x9 : Int32) (x10 : Int64) (x12 : Int32) (x13 : Int64) (s0 : Int64) (h : vt_S) : Option (Unit × vt_S) :=
  if x6 = 0 then
    ab_X17_flat_221 k80 x0 x2 x3 x4 x5 x6 x7 x9 x10 x12 x13 s0 x0 x9 256 x3 h
  else
    ab_X17_flat_221 k80 x0 x2 x3 x4 x5 x6 x7 x9 x10 x12 x13 s0 x0 x9 256 6 h

def ab_X17_flat_166 (k80 : Nat → Int32 → Int32 → Int32 → Int32 → Int32 → Int64 → Int32 → vt_S → Option (Unit × vt_S)) (x0 : Nat) (x2 : Int32) (x3 : Int32) (x4 : Int32) (x5 : Int32) (x6 : Int32) (x7 : Int64) (x9 : Int32) (x10 : Int64) (x12 : Int32) (s0 : Int64) (h : vt_S) : Option (Unit × vt_S) :=
  if x12 = 0 then
    sv_let (vt_I h 1812 x0) fun v1 =>
    ab_X17_flat_199 k80 x0 x2 x3 x4 x5 x6 x7 x9 x10 x12 s0 (Int32.toInt64 v1) h
  else
    sv_let (vt_I h 1812 x0) fun v2 =>
    sv_let (vt_J h 1828 x0) fun v3 =>
    vt_b (ab_X17_down (v3 * x7) x10 h) fun r4 h5 =>
    ab_X17_flat_199 k80 x0 x2 x3 x4 x5 x6 x7 x9 x10 x12 s0 ((Int32.toInt64 v2) + r4) h5

def ab_X17_flat_133 (k80 : Nat → Int32 → Int32 → Int32 → Int32 → Int32 → Int64 → Int32 → vt_S → Option (Unit × vt_S)) (x0 : Nat) (x2 : Int32) (x3 : Int32) (x4 : Int32) (x5 : Int32) (x6 : Int32) (x7 : Int64) (x9 : Int32) (x10 : Int64) (s0 : Int32) (h : vt_S) : Option (Unit × vt_S) :=
  if s0 = 0 then
    sv_let (vt_I h 1811 x0) fun v1 =>
    ab_X17_flat_166 k80 x0 x2 x3 x4 x5 x6 x7 x9 x10 s0 (Int32.toInt64 v1) h
  else
    sv_let (vt_I h 1811 x0) fun v2 =>
    sv_let (vt_J h 1827 x0) fun v3 =>
    vt_b (ab_X17_down (v3 * x7) x10 h) fun r4 h5 =>
    ab_X17_flat_166 k80 x0 x2 x3 x4 x5 x6 x7 x9 x10 s0 ((Int32.toInt64 v2) + r4) h5

def ab_X17_flat_132 (k80 : Nat → Int32 → Int32 → Int32 → Int32 → Int32 → Int64 → Int32 → vt_S → Option (Unit × vt_S)) (x0 : Nat) (x2 : Int32) (x3 : Int32) (x4 : Int32) (x5 : Int32) (x6 : Int32) (x7 : Int64) (x9 : Int32) (x10 : Int64) (h : vt_S) : Option (Unit × vt_S) :=
  ab_X17_flat_133 k80 x0 x2 x3 x4 x5 x6 x7 x9 x10 0 h

def ab_X17_flat_128 (k80 : Nat → Int32 → Int32 → Int32 → Int32 → Int32 → Int64 → Int32 → vt_S → Option (Unit × vt_S)) (x0 : Nat) (x2 : Int32) (x3 : Int32) (x4 : Int32) (x5 : Int32) (x6 : Int32) (x7 : Int64) (x9 : Int32) (x10 : Int64) (h : vt_S) : Option (Unit × vt_S) :=
  ab_X17_flat_133 k80 x0 x2 x3 x4 x5 x6 x7 x9 x10 1 h

def ab_X17_flat_114 (k80 : Nat → Int32 → Int32 → Int32 → Int32 → Int32 → Int64 → Int32 → vt_S → Option (Unit × vt_S)) (x0 : Nat) (x2 : Int32) (x3 : Int32) (x4 : Int32) (x5 : Int32) (x6 : Int32) (x7 : Int64) (x9 : Int32) (x10 : Int64) (h : vt_S) : Option (Unit × vt_S) :=
  if 0 ≤ (lg_cmp x7 0) then
    ab_X17_flat_132 k80 x0 x2 x3 x4 x5 x6 x7 x9 x10 h
  else
    if 0 ≤ (lg_cmp x10 0) then
      ab_X17_flat_132 k80 x0 x2 x3 x4 x5 x6 x7 x9 x10 h
    else
      ab_X17_flat_128 k80 x0 x2 x3 x4 x5 x6 x7 x9 x10 h

def ab_X17_flat_80b (k80 : Nat → Int32 → Int32 → Int32 → Int32 → Int32 → Int64 → Int32 → vt_S → Option (Unit × vt_S)) (x0 : Nat) (x2 : Int32) (x3 : Int32) (x4 : Int32) (x5 : Int32) (x6 : Int32) (x7 : Int64) (x9 : Int32) (h : vt_S) : Option (Unit × vt_S) :=
  if x2 ≤ x9 then
    some ((), h)
  else
    if (lg_cmp x7 0) ≤ 0 then
      ab_X17_flat_114 k80 x0 x2 x3 x4 x5 x6 x7 x9 (Int32.toInt64 ((47 - (2 * x9)) * 256)) h
    else
      if 0 < (lg_cmp (Int32.toInt64 ((47 - (2 * x9)) * 256)) 0) then
        ab_X17_flat_128 k80 x0 x2 x3 x4 x5 x6 x7 x9 (Int32.toInt64 ((47 - (2 * x9)) * 256)) h
      else
        ab_X17_flat_114 k80 x0 x2 x3 x4 x5 x6 x7 x9 (Int32.toInt64 ((47 - (2 * x9)) * 256)) h

def ab_X17_flat_80 : Nat → Nat → Int32 → Int32 → Int32 → Int32 → Int32 → Int64 → Int32 → vt_S → Option (Unit × vt_S)
  | 0, _, _, _, _, _, _, _, _, _ => none
  | sv_n + 1, x0, x2, x3, x4, x5, x6, x7, x9, h => ab_X17_flat_80b (ab_X17_flat_80 sv_n) x0 x2 x3 x4 x5 x6 x7 x9 h

def ab_X17_flat_69 (x0 : Nat) (x1 : Int32) (x2 : Int32) (x3 : Int32) (x4 : Int32) (x5 : Int32) (x6 : Int32) (s0 : Int32) (h : vt_S) : Option (Unit × vt_S) :=
  vt_b (ab_X17_eye x0 h) fun r1 h2 =>
  ab_X17_flat_80 sv_fuel x0 x2 x3 x4 x5 x6 (Int32.toInt64 (s0 - r1)) x1 h2

def ab_X17_flat_39 (x0 : Nat) (x1 : Int32) (x2 : Int32) (x3 : Int32) (x4 : Int32) (x5 : Int32) (s0 : Int32) (h : vt_S) : Option (Unit × vt_S) :=
  if x3 = 1 then
    sv_let (vt_P h 1803 x0) fun v4 =>
    (vl_I h 1409 v4 x4).bind fun v6 =>
    ab_X17_flat_69 x0 x1 x2 x3 x4 x5 s0 v6 h
  else
    sv_let (vt_P h 1803 x0) fun v1 =>
    (vl_I h 1408 v1 x4).bind fun v3 =>
    ab_X17_flat_69 x0 x1 x2 x3 x4 x5 s0 v3 h

def ab_X17_flat_38 (x0 : Nat) (x1 : Int32) (x2 : Int32) (x3 : Int32) (x4 : Int32) (x5 : Int32) (h : vt_S) : Option (Unit × vt_S) :=
  ab_X17_flat_39 x0 x1 x2 x3 x4 x5 0 h

def ab_X17_flat_16 (x0 : Nat) (x1 : Int32) (x2 : Int32) (x3 : Int32) (x4 : Int32) (s0 : Nat) (s1 : Int32) (s2 : Int32) (h : vt_S) : Option (Unit × vt_S) :=
  vt_b (ab_X14_sector s0 s1 s2 h) fun r1 h2 =>
  if x3 = 1 then
    if r1 = 255 then
      ab_X17_flat_39 x0 x1 x2 x3 x4 r1 1 h2
    else
      ab_X17_flat_38 x0 x1 x2 x3 x4 r1 h2
  else
    ab_X17_flat_38 x0 x1 x2 x3 x4 r1 h2

def ab_X17_flat (x0 : Nat) (x1 : Int32) (x2 : Int32) (x3 : Int32) (x4 : Int32) (h : vt_S) : Option (Unit × vt_S) :=
  sv_let (vt_P h 1801 x0) fun v1 =>
  if x3 = 1 then
    ab_X17_flat_16 x0 x1 x2 x3 x4 v1 x4 3 h
  else
    ab_X17_flat_16 x0 x1 x2 x3 x4 v1 x4 2 h

def ab_X17_part_393b (k393 : Nat → Int32 → Int32 → Int32 → Int32 → Int32 → Int64 → Int32 → Int32 → vt_S → Option (Unit × vt_S)) (x0 : Nat) (x2 : Int32) (x3 : Int32) (x4 : Int32) (x7 : Int32) (x11 : Int32) (x18 : Int64) (x20 : Int32) (x21 : Int32) (h : vt_S) : Option (Unit × vt_S) :=
  if x2 ≤ x21 then
    some ((), h)
  else
    vt_b (ab_X17_eye x0 h) fun r1 h2 =>
    sv_let (vt_J h2 1817 x0) fun v3 =>
    sv_let (vt_J h2 1818 x0) fun v4 =>
    vt_b (ab_X17_down (((Int32.toInt64 (47 - (2 * x21))) * 256) * v3) v4 h2) fun r5 h6 =>
    (vs_I h6 1824 x0 x21 ((256 * x3) + x4)).bind fun h8 =>
    vt_b (ab_X17_wallPart x0 x4 11 h8) fun r10 h11 =>
    vt_b (ab_X17_texel x0 x7 x18 (((Int32.toInt64 (x11 - 1)) - ((Int32.toInt64 r1) + r5)) + (Int32.toInt64 r10)) h11) fun r12 h13 =>
    (vs_I h13 1825 x0 x21 ((16 * r12) + x20)).bind fun h14 =>
    k393 x0 x2 x3 x4 x7 x11 x18 x20 (x21 + 1) h14

def ab_X17_part_393 : Nat → Nat → Int32 → Int32 → Int32 → Int32 → Int32 → Int64 → Int32 → Int32 → vt_S → Option (Unit × vt_S)
  | 0, _, _, _, _, _, _, _, _, _, _ => none
  | sv_n + 1, x0, x2, x3, x4, x7, x11, x18, x20, x21, h => ab_X17_part_393b (ab_X17_part_393 sv_n) x0 x2 x3 x4 x7 x11 x18 x20 x21 h

def ab_X17_part_355 (x0 : Nat) (x1 : Int32) (x2 : Int32) (x3 : Int32) (x4 : Int32) (x5 : Int32) (x7 : Int32) (x11 : Int32) (s0 : Int64) (h : vt_S) : Option (Unit × vt_S) :=
  vt_b (ab_X17_wallPart x0 x4 10 h) fun r1 h2 =>
  sv_let (vt_J h2 1817 x0) fun v3 =>
  sv_let (vt_J h2 1818 x0) fun v4 =>
  vt_b (ab_X17_down (64 * v3) v4 h2) fun r5 h6 =>
  vt_b (ab_X17_shade x0 x5 r5 h6) fun r7 h8 =>
  ab_X17_part_393 sv_fuel x0 x2 x3 x4 x7 x11 (s0 + (Int32.toInt64 r1)) r7 x1 h8

def ab_X17_part_305 (x0 : Nat) (x1 : Int32) (x2 : Int32) (x3 : Int32) (x4 : Int32) (x5 : Int32) (x7 : Int32) (x11 : Int32) (s0 : Int64) (h : vt_S) : Option (Unit × vt_S) :=
  sv_let (vt_I h 1819 x0) fun v1 =>
  if v1 = 0 then
    sv_let (vt_J h 1816 x0) fun v2 =>
    sv_let (vt_J h 1816 x0) fun v3 =>
    sv_let (vt_J h 1815 x0) fun v4 =>
    vt_b (ab_X17_down (s0 * v2) (v3 - v4) h) fun r5 h6 =>
    ab_X17_part_355 x0 x1 x2 x3 x4 x5 x7 x11 r5 h6
  else
    sv_let (vt_J h 1815 x0) fun v7 =>
    sv_let (vt_J h 1815 x0) fun v8 =>
    sv_let (vt_J h 1816 x0) fun v9 =>
    vt_b (ab_X17_down (s0 * v7) (v8 - v9) h) fun r10 h11 =>
    ab_X17_part_355 x0 x1 x2 x3 x4 x5 x7 x11 r10 h11

def ab_X17_part_288 (x0 : Nat) (x1 : Int32) (x2 : Int32) (x3 : Int32) (x4 : Int32) (x5 : Int32) (x7 : Int32) (x11 : Int32) (x12 : Int64) (s0 : Int64) (h : vt_S) : Option (Unit × vt_S) :=
  if (lg_cmp x12 s0) ≤ 0 then
    ab_X17_part_305 x0 x1 x2 x3 x4 x5 x7 x11 s0 h
  else
    ab_X17_part_305 x0 x1 x2 x3 x4 x5 x7 x11 x12 h

def ab_X17_part_271 (x0 : Nat) (x1 : Int32) (x2 : Int32) (x3 : Int32) (x4 : Int32) (x5 : Int32) (x7 : Int32) (x11 : Int32) (x14 : Int64) (s0 : Int64) (h : vt_S) : Option (Unit × vt_S) :=
  if 0 ≤ (lg_cmp x14 0) then
    ab_X17_part_288 x0 x1 x2 x3 x4 x5 x7 x11 s0 x14 h
  else
    ab_X17_part_288 x0 x1 x2 x3 x4 x5 x7 x11 s0 (-x14) h

def ab_X17_part_206 (x0 : Nat) (x1 : Int32) (x2 : Int32) (x3 : Int32) (x4 : Int32) (x5 : Int32) (x7 : Int32) (s0 : Int32) (h : vt_S) : Option (Unit × vt_S) :=
  sv_let (vt_P h 1804 x0) fun v1 =>
  (vl_I h 1703 v1 x4).bind fun v3 =>
  sv_let (vt_P h 1804 x0) fun v4 =>
  (vl_I h 1701 v4 x4).bind fun v6 =>
  sv_let (vt_P h 1804 x0) fun v7 =>
  (vl_I h 1704 v7 x4).bind fun v9 =>
  sv_let (vt_P h 1804 x0) fun v10 =>
  (vl_I h 1702 v10 x4).bind fun v12 =>
  if 0 ≤ (lg_cmp (Int32.toInt64 (v3 - v6)) 0) then
    ab_X17_part_271 x0 x1 x2 x3 x4 x5 x7 s0 (Int32.toInt64 (v9 - v12)) (Int32.toInt64 (v3 - v6)) h
  else
    ab_X17_part_271 x0 x1 x2 x3 x4 x5 x7 s0 (Int32.toInt64 (v9 - v12)) (-(Int32.toInt64 (v3 - v6))) h

def ab_X17_part_110 (x0 : Nat) (x1 : Int32) (x2 : Int32) (x3 : Int32) (x4 : Int32) (x5 : Int32) (x6 : Int32) (x7 : Int32) (x8 : Int32) (s0 : Int32) (h : vt_S) : Option (Unit × vt_S) :=
  sv_let (vt_P h 1803 x0) fun v1 =>
  (vl_I h 1409 v1 x5).bind fun v3 =>
  if x3 = 4 then
    if s0 = 0 then
      sv_let (vt_P h 1803 x0) fun v10 =>
      (vl_I h 1409 v10 x6).bind fun v12 =>
      ab_X17_part_206 x0 x1 x2 x3 x4 x5 x7 (v12 + x8) h
    else
      ab_X17_part_206 x0 x1 x2 x3 x4 x5 x7 v3 h
  else
    if x3 = 3 then
      if s0 = 0 then
        ab_X17_part_206 x0 x1 x2 x3 x4 x5 x7 v3 h
      else
        sv_let (vt_P h 1803 x0) fun v7 =>
        (vl_I h 1408 v7 x5).bind fun v9 =>
        ab_X17_part_206 x0 x1 x2 x3 x4 x5 x7 (v9 + x8) h
    else
      if s0 = 0 then
        sv_let (vt_P h 1803 x0) fun v4 =>
        (vl_I h 1408 v4 x6).bind fun v6 =>
        ab_X17_part_206 x0 x1 x2 x3 x4 x5 x7 v6 h
      else
        ab_X17_part_206 x0 x1 x2 x3 x4 x5 x7 v3 h

def ab_X17_part_101 (x0 : Nat) (x1 : Int32) (x2 : Int32) (x3 : Int32) (x4 : Int32) (x5 : Int32) (x6 : Int32) (x7 : Int32) (x8 : Int32) (s0 : Int32) (s1 : Int32) (h : vt_S) : Option (Unit × vt_S) :=
  if (s0 &&& s1) = 0 then
    ab_X17_part_110 x0 x1 x2 x3 x4 x5 x6 x7 x8 0 h
  else
    ab_X17_part_110 x0 x1 x2 x3 x4 x5 x6 x7 x8 1 h

def ab_X17_part_81 (x0 : Nat) (x1 : Int32) (x2 : Int32) (x3 : Int32) (x4 : Int32) (x5 : Int32) (x6 : Int32) (x7 : Int32) (s0 : Int32) (h : vt_S) : Option (Unit × vt_S) :=
  vt_b (ab_X17_wallPart x0 x4 12 h) fun r1 h2 =>
  if x3 = 4 then
    ab_X17_part_101 x0 x1 x2 x3 x4 x5 x6 x7 s0 r1 1 h2
  else
    ab_X17_part_101 x0 x1 x2 x3 x4 x5 x6 x7 s0 r1 2 h2

def ab_X17_part_53 (x0 : Nat) (x1 : Int32) (x2 : Int32) (x3 : Int32) (x4 : Int32) (x5 : Int32) (x6 : Int32) (s0 : Nat) (s1 : Int32) (s2 : Int32) (s3 : Int32) (h : vt_S) : Option (Unit × vt_S) :=
  vt_b (ab_X17_wallPart s0 s1 (s2 + s3) h) fun r1 h2 =>
  if r1 = 255 then
    ab_X17_part_81 x0 x1 x2 x3 x4 x5 x6 r1 0 h2
  else
    sv_let (vt_P h2 1801 x0) fun v3 =>
    vt_b (ab_X14_texture v3 r1 1 h2) fun r4 h5 =>
    ab_X17_part_81 x0 x1 x2 x3 x4 x5 x6 r1 r4 h5

def ab_X17_part_34 (x0 : Nat) (x1 : Int32) (x2 : Int32) (x3 : Int32) (x4 : Int32) (x5 : Int32) (x6 : Int32) (s0 : Nat) (s1 : Int32) (s2 : Int32) (h : vt_S) : Option (Unit × vt_S) :=
  if x3 = 4 then
    ab_X17_part_53 x0 x1 x2 x3 x4 x5 x6 s0 s1 s2 0 h
  else
    if x3 = 3 then
      ab_X17_part_53 x0 x1 x2 x3 x4 x5 x6 s0 s1 s2 1 h
    else
      ab_X17_part_53 x0 x1 x2 x3 x4 x5 x6 s0 s1 s2 2 h

def ab_X17_part (x0 : Nat) (x1 : Int32) (x2 : Int32) (x3 : Int32) (x4 : Int32) (h : vt_S) : Option (Unit × vt_S) :=
  vt_b (ab_X17_sideOf x0 x4 1 h) fun r1 h2 =>
  vt_b (ab_X17_sideOf x0 x4 0 h2) fun r3 h4 =>
  sv_let (vt_I h4 1819 x0) fun v5 =>
  if v5 = 0 then
    ab_X17_part_34 x0 x1 x2 x3 x4 r1 r3 x0 x4 7 h4
  else
    ab_X17_part_34 x0 x1 x2 x3 x4 r1 r3 x0 x4 4 h4

def ab_X17_column_399 (h : vt_S) : Option (Unit × vt_S) :=
  some ((), h)

def ab_X17_column_393 (k113 : Nat → Int32 → Int32 → Int32 → vt_S → Option (Unit × vt_S)) (x0 : Nat) (x2 : Int32) (x3 : Int32) (x4 : Int32) (h : vt_S) : Option (Unit × vt_S) :=
  k113 x0 x2 x3 (x4 + 1) h

def ab_X17_column_363 (k113 : Nat → Int32 → Int32 → Int32 → vt_S → Option (Unit × vt_S)) (x0 : Nat) (x4 : Int32) (x5 : Int32) (x9 : Int32) (x10 : Int32) (x11 : Int32) (s0 : Int32) (h : vt_S) : Option (Unit × vt_S) :=
  vt_b (ab_X17_part x0 x9 x11 4 x5 h) fun _ h1 =>
  vt_b (ab_X17_part x0 s0 x10 5 x5 h1) fun _ h2 =>
  ab_X17_column_393 k113 x0 x11 s0 x4 h2

def ab_X17_column_315 (k113 : Nat → Int32 → Int32 → Int32 → vt_S → Option (Unit × vt_S)) (x0 : Nat) (x4 : Int32) (x5 : Int32) (x7 : Int32) (x8 : Int32) (x9 : Int32) (x10 : Int32) (s0 : Int32) (h : vt_S) : Option (Unit × vt_S) :=
  sv_let (vt_P h 1803 x0) fun v1 =>
  (vl_I h 1408 v1 x8).bind fun v3 =>
  sv_let (vt_P h 1803 x0) fun v4 =>
  (vl_I h 1408 v4 x7).bind fun v6 =>
  if v3 ≤ v6 then
    ab_X17_column_363 k113 x0 x4 x5 x9 x10 s0 x10 h
  else
    sv_let (vt_P h 1803 x0) fun v7 =>
    (vl_I h 1408 v7 x8).bind fun v9 =>
    vt_b (ab_X17_rowOf x0 v9 s0 x10 h) fun r10 h11 =>
    ab_X17_column_363 k113 x0 x4 x5 x9 x10 s0 r10 h11

def ab_X17_column_113b (k113 : Nat → Int32 → Int32 → Int32 → vt_S → Option (Unit × vt_S)) (x0 : Nat) (x2 : Int32) (x3 : Int32) (x4 : Int32) (h : vt_S) : Option (Unit × vt_S) :=
  sv_let (vt_I h 1821 x0) fun v1 =>
  if v1 ≤ x4 then
    ab_X17_column_399 h
  else
    if x3 ≤ x2 then
      ab_X17_column_399 h
    else
      (vl_I h 1820 x0 x4).bind fun v3 =>
      vt_b (ab_X17_meets x0 v3 h) fun r4 h5 =>
      vt_b (ab_X17_sideOf x0 v3 1 h5) fun r6 h7 =>
      vt_b (ab_X17_sideOf x0 v3 0 h7) fun r8 h9 =>
      if 0 ≤ r6 then
        sv_let (vt_I h9 1823 x0) fun v11 =>
        (vs_I h9 1822 x0 v11 v3).bind fun h12 =>
        sv_let (vt_I h12 1823 x0) fun v13 =>
        sv_let (vu_I h12 1823 x0 (v13 + 1)) fun h14 =>
        sv_let (vt_P h14 1803 x0) fun v15 =>
        (vl_I h14 1409 v15 r6).bind fun v17 =>
        vt_b (ab_X17_rowOf x0 v17 x2 x3 h14) fun r18 h19 =>
        sv_let (vt_P h19 1803 x0) fun v20 =>
        (vl_I h19 1408 v20 r6).bind fun v22 =>
        vt_b (ab_X17_rowOf x0 v22 r18 x3 h19) fun r23 h24 =>
        vt_b (ab_X17_flat x0 x2 r18 1 r6 h24) fun _ h25 =>
        vt_b (ab_X17_flat x0 r23 x3 2 r6 h25) fun _ h26 =>
        if 0 ≤ r8 then
          sv_let (vt_P h26 1803 x0) fun v27 =>
          (vl_I h26 1409 v27 r8).bind fun v29 =>
          sv_let (vt_P h26 1803 x0) fun v30 =>
          (vl_I h26 1409 v30 r6).bind fun v32 =>
          if v32 ≤ v29 then
            ab_X17_column_315 k113 x0 x4 v3 r6 r8 r18 r23 r18 h26
          else
            sv_let (vt_P h26 1803 x0) fun v33 =>
            (vl_I h26 1409 v33 r8).bind fun v35 =>
            vt_b (ab_X17_rowOf x0 v35 r18 r23 h26) fun r36 h37 =>
            ab_X17_column_315 k113 x0 x4 v3 r6 r8 r18 r23 r36 h37
        else
          vt_b (ab_X17_part x0 r18 r23 3 v3 h26) fun _ h38 =>
          ab_X17_column_393 k113 x0 x3 x3 x4 h38
      else
        ab_X17_column_393 k113 x0 x2 x3 x4 h9

def ab_X17_column_113 : Nat → Nat → Int32 → Int32 → Int32 → vt_S → Option (Unit × vt_S)
  | 0, _, _, _, _, _ => none
  | sv_n + 1, x0, x2, x3, x4, h => ab_X17_column_113b (ab_X17_column_113 sv_n) x0 x2 x3 x4 h

def ab_X17_column_81b (k81 : Nat → Int32 → Int32 → Int32 → vt_S → Option (Unit × vt_S)) (x0 : Nat) (x2 : Int32) (x3 : Int32) (x4 : Int32) (h : vt_S) : Option (Unit × vt_S) :=
  if 48 ≤ x4 then
    ab_X17_column_113 sv_fuel x0 x2 x3 0 h
  else
    (vs_I h 1824 x0 x4 0).bind fun h2 =>
    (vs_I h2 1825 x0 x4 0).bind fun h4 =>
    k81 x0 x2 x3 (x4 + 1) h4

def ab_X17_column_81 : Nat → Nat → Int32 → Int32 → Int32 → vt_S → Option (Unit × vt_S)
  | 0, _, _, _, _, _ => none
  | sv_n + 1, x0, x2, x3, x4, h => ab_X17_column_81b (ab_X17_column_81 sv_n) x0 x2 x3 x4 h

def ab_X17_column (x0 : Nat) (x1 : Int32) (h : vt_S) : Option (Unit × vt_S) :=
  sv_let (vt_I h 1813 x0) fun v1 =>
  vt_b (ab_X17_cosine v1 h) fun r2 h3 =>
  sv_let (vt_I h3 1813 x0) fun v4 =>
  vt_b (ab_X17_sine v4 h3) fun r5 h6 =>
  sv_let (vt_I h6 1813 x0) fun v7 =>
  vt_b (ab_X17_sine v7 h6) fun r8 h9 =>
  sv_let (vt_I h9 1813 x0) fun v10 =>
  vt_b (ab_X17_cosine v10 h9) fun r11 h12 =>
  vt_b (ab_X17_gather x0 ((64 * (Int32.toInt64 r2)) + (((2 * (Int32.toInt64 x1)) - 63) * (Int32.toInt64 r5))) ((64 * (Int32.toInt64 r8)) - (((2 * (Int32.toInt64 x1)) - 63) * (Int32.toInt64 r11))) h12) fun _ h13 =>
  sv_let (vu_I h13 1823 x0 0) fun h14 =>
  ab_X17_column_81 sv_fuel x0 0 48 0 h14

def ab_X17_pixelAt (x0 : Nat) (x1 : Int32) (x2 : Int32) (h : vt_S) : Option (Int32 × vt_S) :=
  sv_let (vu_I h 1800 x0 0) fun h1 =>
  vt_b (ab_X17_isPixel x0 x1 x2 h1) fun r2 h3 =>
  if r2 = 0 then
    some ((-1), h3)
  else
    vt_b (ab_X17_column x0 x1 h3) fun _ h4 =>
    (vl_I h4 1825 x0 x2).bind fun v6 =>
    some (v6, h4)

def ab_X12_surfaceAt_18 (h : vt_S) : Option (Int32 × vt_S) :=
  some ((-1), h)

def ab_X12_surfaceAt (x0 : Nat) (x1 : Int32) (x2 : Int32) (h : vt_S) : Option (Int32 × vt_S) :=
  vt_b (ab_X12_isSeen x0 x1 h) fun r1 h2 =>
  if r1 = 0 then
    ab_X12_surfaceAt_18 h2
  else
    if x2 < 0 then
      ab_X12_surfaceAt_18 h2
    else
      if x2 < 48 then
        sv_let (vt_P h2 1305 x0) fun v3 =>
        sv_let (vt_P h2 1304 x0) fun v4 =>
        vt_b (ab_X9_look v3 v4 x1 h2) fun _ h5 =>
        sv_let (vt_P h5 1305 x0) fun v6 =>
        (vl_I h5 1001 v6 x2).bind fun v8 =>
        some (v8, h5)
      else
        ab_X12_surfaceAt_18 h2

def ab_X17_surfaceAt (x0 : Nat) (x1 : Int32) (x2 : Int32) (h : vt_S) : Option (Int32 × vt_S) :=
  sv_let (vu_I h 1800 x0 0) fun h1 =>
  vt_b (ab_X17_isPixel x0 x1 x2 h1) fun r2 h3 =>
  if r2 = 0 then
    some ((-1), h3)
  else
    vt_b (ab_X17_column x0 x1 h3) fun _ h4 =>
    (vl_I h4 1824 x0 x2).bind fun v6 =>
    some (v6, h4)

def ab_X12_metAt_12 (h : vt_S) : Option (Int32 × vt_S) :=
  some ((-1), h)

def ab_X12_metAt_50 (s0 : Int32) (h : vt_S) : Option (Int32 × vt_S) :=
  some (s0, h)

def ab_X12_metAt (x0 : Nat) (x1 : Int32) (x2 : Int32) (h : vt_S) : Option (Int32 × vt_S) :=
  vt_b (ab_X12_isSeen x0 x1 h) fun r1 h2 =>
  if r1 = 0 then
    ab_X12_metAt_12 h2
  else
    if 0 ≤ x2 then
      sv_let (vt_P h2 1305 x0) fun v3 =>
      sv_let (vt_P h2 1304 x0) fun v4 =>
      vt_b (ab_X9_look v3 v4 x1 h2) fun _ h5 =>
      sv_let (vt_P h5 1305 x0) fun v6 =>
      sv_let (vt_I h5 1004 v6) fun v7 =>
      if v7 ≤ x2 then
        ab_X12_metAt_50 ((-1)) h5
      else
        sv_let (vt_P h5 1305 x0) fun v8 =>
        (vl_I h5 1003 v8 x2).bind fun v10 =>
        ab_X12_metAt_50 v10 h5
    else
      ab_X12_metAt_12 h2

def ab_X17_metAt_43 (s0 : Int32) (h : vt_S) : Option (Int32 × vt_S) :=
  some (s0, h)

def ab_X17_metAt_42 (h : vt_S) : Option (Int32 × vt_S) :=
  ab_X17_metAt_43 ((-1)) h

def ab_X17_metAt (x0 : Nat) (x1 : Int32) (x2 : Int32) (h : vt_S) : Option (Int32 × vt_S) :=
  sv_let (vu_I h 1800 x0 0) fun h1 =>
  vt_b (ab_X17_isPixel x0 x1 0 h1) fun r2 h3 =>
  if r2 = 0 then
    some ((-1), h3)
  else
    vt_b (ab_X17_column x0 x1 h3) fun _ h4 =>
    if x2 < 0 then
      ab_X17_metAt_42 h4
    else
      sv_let (vt_I h4 1823 x0) fun v5 =>
      if v5 ≤ x2 then
        ab_X17_metAt_42 h4
      else
        (vl_I h4 1822 x0 x2).bind fun v7 =>
        ab_X17_metAt_43 v7 h4

def ab_X12_frameOf_62b (k36 : Nat → Int64 → Int64 → Int32 → vt_S → Option (Int64 × vt_S)) (k62 : Nat → Int64 → Int64 → Int32 → Int64 → Int32 → vt_S → Option (Int64 × vt_S)) (x0 : Nat) (x1 : Int64) (x3 : Int64) (x5 : Int32) (x6 : Int64) (x8 : Int32) (h : vt_S) : Option (Int64 × vt_S) :=
  if 48 ≤ x8 then
    k36 x0 x1 ((31 * x3) + x6) (x5 + 1) h
  else
    sv_let (vt_P h 1305 x0) fun v1 =>
    (vl_I h 1002 v1 x8).bind fun v3 =>
    k62 x0 x1 x3 x5 ((x1 * x6) + (Int32.toInt64 v3)) (x8 + 1) h

def ab_X12_frameOf_62 (k36 : Nat → Int64 → Int64 → Int32 → vt_S → Option (Int64 × vt_S)) : Nat → Nat → Int64 → Int64 → Int32 → Int64 → Int32 → vt_S → Option (Int64 × vt_S)
  | 0, _, _, _, _, _, _, _ => none
  | sv_n + 1, x0, x1, x3, x5, x6, x8, h => ab_X12_frameOf_62b k36 (ab_X12_frameOf_62 k36 sv_n) x0 x1 x3 x5 x6 x8 h

def ab_X12_frameOf_36b (k36 : Nat → Int64 → Int64 → Int32 → vt_S → Option (Int64 × vt_S)) (x0 : Nat) (x1 : Int64) (x3 : Int64) (x5 : Int32) (h : vt_S) : Option (Int64 × vt_S) :=
  if 64 ≤ x5 then
    some (x3, h)
  else
    sv_let (vt_P h 1305 x0) fun v1 =>
    sv_let (vt_P h 1304 x0) fun v2 =>
    vt_b (ab_X9_look v1 v2 x5 h) fun _ h3 =>
    ab_X12_frameOf_62 k36 sv_fuel x0 x1 x3 x5 0 0 h3

def ab_X12_frameOf_36 : Nat → Nat → Int64 → Int64 → Int32 → vt_S → Option (Int64 × vt_S)
  | 0, _, _, _, _, _ => none
  | sv_n + 1, x0, x1, x3, x5, h => ab_X12_frameOf_36b (ab_X12_frameOf_36 sv_n) x0 x1 x3 x5 h

def ab_X12_frameOf_13b (k13 : Nat → Int64 → Int32 → vt_S → Option (Int64 × vt_S)) (x0 : Nat) (x1 : Int64) (x3 : Int32) (h : vt_S) : Option (Int64 × vt_S) :=
  if 64 ≤ x3 then
    ab_X12_frameOf_36 sv_fuel x0 x1 0 0 h
  else
    k13 x0 (x1 * 31) (x3 + 1) h

def ab_X12_frameOf_13 : Nat → Nat → Int64 → Int32 → vt_S → Option (Int64 × vt_S)
  | 0, _, _, _, _ => none
  | sv_n + 1, x0, x1, x3, h => ab_X12_frameOf_13b (ab_X12_frameOf_13 sv_n) x0 x1 x3 h

def ab_X12_frameOf (x0 : Nat) (h : vt_S) : Option (Int64 × vt_S) :=
  vt_b (ab_X12_hasMap x0 h) fun r1 h2 =>
  if r1 = 0 then
    some (0, h2)
  else
    ab_X12_frameOf_13 sv_fuel x0 1 0 h2

def ab_X17_frameOf_68b (k68 : Nat → Int64 → Int32 → vt_S → Option (Int64 × vt_S)) (x0 : Nat) (x1 : Int64) (x3 : Int32) (h : vt_S) : Option (Int64 × vt_S) :=
  if 3072 ≤ x3 then
    some (x1, h)
  else
    (vl_I h 1826 x0 x3).bind fun v2 =>
    k68 x0 ((31 * x1) + (Int32.toInt64 v2)) (x3 + 1) h

def ab_X17_frameOf_68 : Nat → Nat → Int64 → Int32 → vt_S → Option (Int64 × vt_S)
  | 0, _, _, _, _ => none
  | sv_n + 1, x0, x1, x3, h => ab_X17_frameOf_68b (ab_X17_frameOf_68 sv_n) x0 x1 x3 h

def ab_X17_frameOf_29b (k16 : Nat → Int32 → vt_S → Option (Int64 × vt_S)) (k29 : Nat → Int32 → Int32 → vt_S → Option (Int64 × vt_S)) (x0 : Nat) (x1 : Int32) (x2 : Int32) (h : vt_S) : Option (Int64 × vt_S) :=
  if 48 ≤ x2 then
    k16 x0 (x1 + 1) h
  else
    (vl_I h 1825 x0 x2).bind fun v3 =>
    (vs_I h 1826 x0 ((64 * x2) + x1) v3).bind fun h4 =>
    k29 x0 x1 (x2 + 1) h4

def ab_X17_frameOf_29 (k16 : Nat → Int32 → vt_S → Option (Int64 × vt_S)) : Nat → Nat → Int32 → Int32 → vt_S → Option (Int64 × vt_S)
  | 0, _, _, _, _ => none
  | sv_n + 1, x0, x1, x2, h => ab_X17_frameOf_29b k16 (ab_X17_frameOf_29 k16 sv_n) x0 x1 x2 h

def ab_X17_frameOf_16b (k16 : Nat → Int32 → vt_S → Option (Int64 × vt_S)) (x0 : Nat) (x1 : Int32) (h : vt_S) : Option (Int64 × vt_S) :=
  if 64 ≤ x1 then
    ab_X17_frameOf_68 sv_fuel x0 0 0 h
  else
    vt_b (ab_X17_column x0 x1 h) fun _ h1 =>
    ab_X17_frameOf_29 k16 sv_fuel x0 x1 0 h1

def ab_X17_frameOf_16 : Nat → Nat → Int32 → vt_S → Option (Int64 × vt_S)
  | 0, _, _, _ => none
  | sv_n + 1, x0, x1, h => ab_X17_frameOf_16b (ab_X17_frameOf_16 sv_n) x0 x1 h

def ab_X17_frameOf (x0 : Nat) (h : vt_S) : Option (Int64 × vt_S) :=
  sv_let (vu_I h 1800 x0 0) fun h1 =>
  sv_let (vt_I h1 1809 x0) fun v2 =>
  if v2 = 0 then
    some (0, h1)
  else
    ab_X17_frameOf_16 sv_fuel x0 0 h1

def ab_X12_nodeOf_22 (h : vt_S) : Option (Int32 × vt_S) :=
  some ((-1), h)

def ab_X12_nodeOf (x0 : Nat) (x1 : Int32) (x2 : Int32) (h : vt_S) : Option (Int32 × vt_S) :=
  vt_b (ab_X12_hasMap x0 h) fun r1 h2 =>
  if r1 = 0 then
    ab_X12_nodeOf_22 h2
  else
    if x1 < 0 then
      ab_X12_nodeOf_22 h2
    else
      sv_let (vt_P h2 1303 x0) fun v3 =>
      sv_let (vt_I h2 911 v3) fun v4 =>
      if x1 < v4 then
        if x2 = 0 then
          sv_let (vt_P h2 1303 x0) fun v5 =>
          (vl_I h2 901 v5 x1).bind fun v7 =>
          some (v7, h2)
        else
        if x2 = 1 then
          sv_let (vt_P h2 1303 x0) fun v8 =>
          (vl_I h2 902 v8 x1).bind fun v10 =>
          sv_let (sv_max v10 ((-1))) fun r11 =>
          some (r11, h2)
        else
        if x2 = 2 then
          sv_let (vt_P h2 1303 x0) fun v12 =>
          (vl_I h2 903 v12 x1).bind fun v14 =>
          sv_let (sv_max v14 ((-1))) fun r15 =>
          some (r15, h2)
        else
        if x2 = 3 then
          sv_let (vt_P h2 1303 x0) fun v16 =>
          (vl_I h2 904 v16 x1).bind fun v18 =>
          some (v18, h2)
        else
        if x2 = 4 then
          sv_let (vt_P h2 1303 x0) fun v19 =>
          (vl_I h2 905 v19 x1).bind fun v21 =>
          some (v21, h2)
        else
        if x2 = 5 then
          sv_let (vt_P h2 1303 x0) fun v22 =>
          (vl_I h2 906 v22 x1).bind fun v24 =>
          some (v24, h2)
        else
        some ((-1), h2)
      else
        ab_X12_nodeOf_22 h2

def ab_X16_piece (x0 : Nat) (x1 : Int32) (x2 : Int64) (x4 : Int64) (x6 : Int64) (x8 : Int64) (h : vt_S) : Option (Int32 × vt_S) :=
  sv_let (vt_I h 1711 x0) fun v2 =>
  (vs_I h 1706 x0 v2 x1).bind fun h3 =>
  sv_let (vt_I h3 1711 x0) fun v5 =>
  (vs_J h3 1707 x0 v5 x2).bind fun h6 =>
  sv_let (vt_I h6 1711 x0) fun v8 =>
  (vs_J h6 1708 x0 v8 x4).bind fun h9 =>
  sv_let (vt_I h9 1711 x0) fun v11 =>
  (vs_J h9 1709 x0 v11 x6).bind fun h12 =>
  sv_let (vt_I h12 1711 x0) fun v14 =>
  (vs_J h12 1710 x0 v14 x8).bind fun h15 =>
  sv_let (vt_I h15 1711 x0) fun v16 =>
  sv_let (vu_I h15 1711 x0 (v16 + 1)) fun h17 =>
  sv_let (vt_I h17 1711 x0) fun v18 =>
  some (v18 - 1, h17)

def ab_X16_push (x0 : Nat) (x1 : Int32) (x2 : Int32) (x3 : Int32) (x4 : Int32) (h : vt_S) : Option (Unit × vt_S) :=
  sv_let (vt_I h 1717 x0) fun v2 =>
  (vs_I h 1713 x0 v2 x1).bind fun h3 =>
  sv_let (vt_I h3 1717 x0) fun v5 =>
  (vs_I h3 1714 x0 v5 x2).bind fun h6 =>
  sv_let (vt_I h6 1717 x0) fun v8 =>
  (vs_I h6 1715 x0 v8 x3).bind fun h9 =>
  sv_let (vt_I h9 1717 x0) fun v11 =>
  (vs_I h9 1716 x0 v11 x4).bind fun h12 =>
  sv_let (vt_I h12 1717 x0) fun v13 =>
  sv_let (vu_I h12 1717 x0 (v13 + 1)) fun h14 =>
  some ((), h14)

def ab_X16_cross (x0 : Int64) (x2 : Int64) (x4 : Int64) (x6 : Int64) (h : vt_S) : Option (Int64 × vt_S) :=
  some ((x0 * x6) - (x2 * x4), h)

def ab_X16_sideOf (x0 : Nat) (x1 : Int32) (x2 : Int64) (x4 : Int64) (h : vt_S) : Option (Int64 × vt_S) :=
  (vl_I h 1703 x0 x1).bind fun v2 =>
  (vl_I h 1701 x0 x1).bind fun v4 =>
  (vl_I h 1704 x0 x1).bind fun v6 =>
  (vl_I h 1702 x0 x1).bind fun v8 =>
  (vl_I h 1701 x0 x1).bind fun v10 =>
  (vl_I h 1702 x0 x1).bind fun v12 =>
  vt_b (ab_X16_cross (Int32.toInt64 (v2 - v4)) (Int32.toInt64 (v6 - v8)) (x2 - (Int32.toInt64 v10)) (x4 - (Int32.toInt64 v12)) h) fun r13 h14 =>
  some (r13, h14)

def ab_X16_sideAt (x0 : Nat) (x1 : Int32) (x2 : Int32) (x3 : Int64) (x5 : Int64) (h : vt_S) : Option (Int32 × vt_S) :=
  (vl_I h 1701 x0 x2).bind fun v2 =>
  (vl_I h 1702 x0 x2).bind fun v4 =>
  vt_b (ab_X16_sideOf x0 x1 (Int32.toInt64 v2) (Int32.toInt64 v4) h) fun r5 h6 =>
  (vl_I h6 1703 x0 x2).bind fun v8 =>
  (vl_I h6 1704 x0 x2).bind fun v10 =>
  vt_b (ab_X16_sideOf x0 x1 (Int32.toInt64 v8) (Int32.toInt64 v10) h6) fun r11 h12 =>
  vt_b (ab_X16_order r5 (x5 - x3) (-r11) x3 h12) fun r13 h14 =>
  some (r13, h14)

def ab_X16_lieOf_71 (s0 : Int32) (h : vt_S) : Option (Int32 × vt_S) :=
  some (s0, h)

def ab_X16_lieOf (x0 : Nat) (x1 : Int32) (x2 : Int32) (h : vt_S) : Option (Int32 × vt_S) :=
  (vl_I h 1706 x0 x2).bind fun v2 =>
  (vl_J h 1707 x0 x2).bind fun v4 =>
  (vl_J h 1708 x0 x2).bind fun v6 =>
  vt_b (ab_X16_sideAt x0 x1 v2 v4 v6 h) fun r7 h8 =>
  (vl_J h8 1709 x0 x2).bind fun v10 =>
  (vl_J h8 1710 x0 x2).bind fun v12 =>
  vt_b (ab_X16_sideAt x0 x1 v2 v10 v12 h8) fun r13 h14 =>
  if 0 ≤ (r7 * r13) then
    if r7 = 0 then
      ab_X16_lieOf_71 r13 h14
    else
      ab_X16_lieOf_71 r7 h14
  else
    ab_X16_lieOf_71 2 h14

def ab_X16_bestOf_149 (x3 : Int32) (h : vt_S) : Option (Int32 × vt_S) :=
  some (x3, h)

def ab_X16_bestOf_143 (k9 : Nat → Int32 → Int32 → Int32 → Int32 → Int32 → vt_S → Option (Int32 × vt_S)) (x0 : Nat) (x1 : Int32) (x2 : Int32) (x3 : Int32) (x4 : Int32) (x5 : Int32) (h : vt_S) : Option (Int32 × vt_S) :=
  k9 x0 x1 x2 x3 x4 (x5 + 1) h

def ab_X16_bestOf_126 (k9 : Nat → Int32 → Int32 → Int32 → Int32 → Int32 → vt_S → Option (Int32 × vt_S)) (x0 : Nat) (x1 : Int32) (x2 : Int32) (x3 : Int32) (x4 : Int32) (x5 : Int32) (x6 : Int32) (s0 : Int32) (s1 : Int32) (h : vt_S) : Option (Int32 × vt_S) :=
  if x4 ≤ (s0 + s1) then
    ab_X16_bestOf_143 k9 x0 x1 x2 x3 x4 x5 h
  else
    ab_X16_bestOf_143 k9 x0 x1 x2 x6 (s0 + s1) x5 h

def ab_X16_bestOf_100 (k9 : Nat → Int32 → Int32 → Int32 → Int32 → Int32 → vt_S → Option (Int32 × vt_S)) (k47 : Nat → Int32 → Int32 → Int32 → Int32 → Int32 → Int32 → Int32 → Int32 → Int32 → vt_S → Option (Int32 × vt_S)) (x0 : Nat) (x1 : Int32) (x2 : Int32) (x3 : Int32) (x4 : Int32) (x5 : Int32) (x6 : Int32) (x7 : Int32) (x9 : Int32) (s0 : Int32) (s1 : Int32) (h : vt_S) : Option (Int32 × vt_S) :=
  k47 x0 x1 x2 x3 x4 x5 x6 x7 (s0 + s1) (x9 + 1) h

def ab_X16_bestOf_83 (k9 : Nat → Int32 → Int32 → Int32 → Int32 → Int32 → vt_S → Option (Int32 × vt_S)) (k47 : Nat → Int32 → Int32 → Int32 → Int32 → Int32 → Int32 → Int32 → Int32 → Int32 → vt_S → Option (Int32 × vt_S)) (x0 : Nat) (x1 : Int32) (x2 : Int32) (x3 : Int32) (x4 : Int32) (x5 : Int32) (x6 : Int32) (x8 : Int32) (x9 : Int32) (x10 : Int32) (s0 : Int32) (s1 : Int32) (h : vt_S) : Option (Int32 × vt_S) :=
  if x10 = 2 then
    ab_X16_bestOf_100 k9 k47 x0 x1 x2 x3 x4 x5 x6 (s0 + s1) x9 x8 0 h
  else
    ab_X16_bestOf_100 k9 k47 x0 x1 x2 x3 x4 x5 x6 (s0 + s1) x9 x8 x10 h

def ab_X16_bestOf_47b (k9 : Nat → Int32 → Int32 → Int32 → Int32 → Int32 → vt_S → Option (Int32 × vt_S)) (k47 : Nat → Int32 → Int32 → Int32 → Int32 → Int32 → Int32 → Int32 → Int32 → Int32 → vt_S → Option (Int32 × vt_S)) (x0 : Nat) (x1 : Int32) (x2 : Int32) (x3 : Int32) (x4 : Int32) (x5 : Int32) (x6 : Int32) (x7 : Int32) (x8 : Int32) (x9 : Int32) (h : vt_S) : Option (Int32 × vt_S) :=
  if x2 ≤ x9 then
    if 0 ≤ x8 then
      ab_X16_bestOf_126 k9 x0 x1 x2 x3 x4 x5 x6 (4 * x7) x8 h
    else
      ab_X16_bestOf_126 k9 x0 x1 x2 x3 x4 x5 x6 (4 * x7) (-x8) h
  else
    (vl_I h 1712 x0 (x1 + x9)).bind fun v2 =>
    vt_b (ab_X16_lieOf x0 x6 v2 h) fun r3 h4 =>
    if r3 = 2 then
      ab_X16_bestOf_83 k9 k47 x0 x1 x2 x3 x4 x5 x6 x8 x9 r3 x7 1 h4
    else
      ab_X16_bestOf_83 k9 k47 x0 x1 x2 x3 x4 x5 x6 x8 x9 r3 x7 0 h4

def ab_X16_bestOf_47 (k9 : Nat → Int32 → Int32 → Int32 → Int32 → Int32 → vt_S → Option (Int32 × vt_S)) : Nat → Nat → Int32 → Int32 → Int32 → Int32 → Int32 → Int32 → Int32 → Int32 → Int32 → vt_S → Option (Int32 × vt_S)
  | 0, _, _, _, _, _, _, _, _, _, _, _ => none
  | sv_n + 1, x0, x1, x2, x3, x4, x5, x6, x7, x8, x9, h => ab_X16_bestOf_47b k9 (ab_X16_bestOf_47 k9 sv_n) x0 x1 x2 x3 x4 x5 x6 x7 x8 x9 h

def ab_X16_bestOf_9b (k9 : Nat → Int32 → Int32 → Int32 → Int32 → Int32 → vt_S → Option (Int32 × vt_S)) (x0 : Nat) (x1 : Int32) (x2 : Int32) (x3 : Int32) (x4 : Int32) (x5 : Int32) (h : vt_S) : Option (Int32 × vt_S) :=
  if x2 ≤ x5 then
    ab_X16_bestOf_149 x3 h
  else
    if 16 ≤ x5 then
      ab_X16_bestOf_149 x3 h
    else
      (vl_I h 1712 x0 (x1 + x5)).bind fun v3 =>
      (vl_I h 1706 x0 v3).bind fun v4 =>
      ab_X16_bestOf_47 k9 sv_fuel x0 x1 x2 x3 x4 x5 v4 0 0 0 h

def ab_X16_bestOf_9 : Nat → Nat → Int32 → Int32 → Int32 → Int32 → Int32 → vt_S → Option (Int32 × vt_S)
  | 0, _, _, _, _, _, _, _ => none
  | sv_n + 1, x0, x1, x2, x3, x4, x5, h => ab_X16_bestOf_9b (ab_X16_bestOf_9 sv_n) x0 x1 x2 x3 x4 x5 h

def ab_X16_bestOf (x0 : Nat) (x1 : Int32) (x2 : Int32) (h : vt_S) : Option (Int32 × vt_S) :=
  ab_X16_bestOf_9 sv_fuel x0 x1 x2 0 1073741824 0 h

def ab_X16_part_156 (s0 : Int32) (h : vt_S) : Option (Int32 × vt_S) :=
  some (s0, h)

def ab_X16_part_102 (x0 : Nat) (x1 : Int32) (x4 : Int32) (x5 : Int64) (x7 : Int64) (s0 : Int32) (h : vt_S) : Option (Int32 × vt_S) :=
  if s0 = 0 then
    (vl_J h 1709 x0 x1).bind fun v2 =>
    (vl_J h 1710 x0 x1).bind fun v4 =>
    vt_b (ab_X16_piece x0 x4 x5 x7 v2 v4 h) fun r5 h6 =>
    ab_X16_part_156 r5 h6
  else
    (vl_J h 1707 x0 x1).bind fun v8 =>
    (vl_J h 1708 x0 x1).bind fun v10 =>
    vt_b (ab_X16_piece x0 x4 v8 v10 x5 x7 h) fun r11 h12 =>
    ab_X16_part_156 r11 h12

def ab_X16_part_74 (x0 : Nat) (x1 : Int32) (x2 : Int32) (x3 : Int32) (x4 : Int32) (x5 : Int64) (x7 : Int64) (h : vt_S) : Option (Int32 × vt_S) :=
  (vl_J h 1707 x0 x1).bind fun v2 =>
  (vl_J h 1708 x0 x1).bind fun v4 =>
  vt_b (ab_X16_sideAt x0 x2 x4 v2 v4 h) fun r5 h6 =>
  if r5 = x3 then
    ab_X16_part_102 x0 x1 x4 x5 x7 1 h6
  else
    ab_X16_part_102 x0 x1 x4 x5 x7 0 h6

def ab_X16_part (x0 : Nat) (x1 : Int32) (x2 : Int32) (x3 : Int32) (h : vt_S) : Option (Int32 × vt_S) :=
  (vl_I h 1706 x0 x1).bind fun v2 =>
  (vl_I h 1701 x0 v2).bind fun v4 =>
  (vl_I h 1702 x0 v2).bind fun v6 =>
  vt_b (ab_X16_sideOf x0 x2 (Int32.toInt64 v4) (Int32.toInt64 v6) h) fun r7 h8 =>
  (vl_I h8 1703 x0 v2).bind fun v10 =>
  (vl_I h8 1704 x0 v2).bind fun v12 =>
  vt_b (ab_X16_sideOf x0 x2 (Int32.toInt64 v10) (Int32.toInt64 v12) h8) fun r13 h14 =>
  if 0 ≤ (lg_cmp (r7 - r13) 0) then
    ab_X16_part_74 x0 x1 x2 x3 v2 r7 (r7 - r13) h14
  else
    ab_X16_part_74 x0 x1 x2 x3 v2 (-r7) (-(r7 - r13)) h14

def ab_X16_collect_78 (k6 : Nat → Int32 → Int32 → Int32 → Int32 → Int32 → Int32 → Int32 → vt_S → Option (Int32 × vt_S)) (x0 : Nat) (x1 : Int32) (x2 : Int32) (x3 : Int32) (x4 : Int32) (x5 : Int32) (x6 : Int32) (x7 : Int32) (h : vt_S) : Option (Int32 × vt_S) :=
  k6 x0 x1 x2 x3 x4 x5 x6 (x7 + 1) h

def ab_X16_collect_74 (k6 : Nat → Int32 → Int32 → Int32 → Int32 → Int32 → Int32 → Int32 → vt_S → Option (Int32 × vt_S)) (x0 : Nat) (x1 : Int32) (x2 : Int32) (x3 : Int32) (x4 : Int32) (x5 : Int32) (x6 : Int32) (x7 : Int32) (s0 : Nat) (s1 : Int32) (s2 : Int32) (h : vt_S) : Option (Int32 × vt_S) :=
  (vs_I h 1712 s0 s1 s2).bind fun h1 =>
  ab_X16_collect_78 k6 x0 x1 x2 x3 x4 x5 (x6 + 1) x7 h1

def ab_X16_collect_45 (k6 : Nat → Int32 → Int32 → Int32 → Int32 → Int32 → Int32 → Int32 → vt_S → Option (Int32 × vt_S)) (x0 : Nat) (x1 : Int32) (x2 : Int32) (x3 : Int32) (x4 : Int32) (x5 : Int32) (x6 : Int32) (x7 : Int32) (x8 : Int32) (x9 : Int32) (h : vt_S) : Option (Int32 × vt_S) :=
  if x9 = 2 then
    vt_b (ab_X16_part x0 x8 x3 x4 h) fun r2 h3 =>
    ab_X16_collect_74 k6 x0 x1 x2 x3 x4 x5 x6 x7 x0 (x5 + x6) r2 h3
  else
    ab_X16_collect_74 k6 x0 x1 x2 x3 x4 x5 x6 x7 x0 (x5 + x6) x8 h

def ab_X16_collect_6b (k6 : Nat → Int32 → Int32 → Int32 → Int32 → Int32 → Int32 → Int32 → vt_S → Option (Int32 × vt_S)) (x0 : Nat) (x1 : Int32) (x2 : Int32) (x3 : Int32) (x4 : Int32) (x5 : Int32) (x6 : Int32) (x7 : Int32) (h : vt_S) : Option (Int32 × vt_S) :=
  if x2 ≤ x7 then
    some (x6, h)
  else
    (vl_I h 1712 x0 (x1 + x7)).bind fun v2 =>
    vt_b (ab_X16_lieOf x0 x3 v2 h) fun r3 h4 =>
    if r3 = x4 then
      ab_X16_collect_45 k6 x0 x1 x2 x3 x4 x5 x6 x7 v2 r3 h4
    else
      if r3 = 2 then
        ab_X16_collect_45 k6 x0 x1 x2 x3 x4 x5 x6 x7 v2 r3 h4
      else
        ab_X16_collect_78 k6 x0 x1 x2 x3 x4 x5 x6 x7 h4

def ab_X16_collect_6 : Nat → Nat → Int32 → Int32 → Int32 → Int32 → Int32 → Int32 → Int32 → vt_S → Option (Int32 × vt_S)
  | 0, _, _, _, _, _, _, _, _, _ => none
  | sv_n + 1, x0, x1, x2, x3, x4, x5, x6, x7, h => ab_X16_collect_6b (ab_X16_collect_6 sv_n) x0 x1 x2 x3 x4 x5 x6 x7 h

def ab_X16_collect (x0 : Nat) (x1 : Int32) (x2 : Int32) (x3 : Int32) (x4 : Int32) (x5 : Int32) (h : vt_S) : Option (Int32 × vt_S) :=
  ab_X16_collect_6 sv_fuel x0 x1 x2 x3 x4 x5 0 0 h

def ab_X16_divide_188 (k136 : Nat → Int32 → Int32 → Int32 → Int32 → Int32 → vt_S → Option (Unit × vt_S)) (x0 : Nat) (x1 : Int32) (x2 : Int32) (x6 : Int32) (x7 : Int32) (x8 : Int32) (h : vt_S) : Option (Unit × vt_S) :=
  k136 x0 x1 x2 x6 x7 (x8 + 1) h

def ab_X16_divide_136b (k136 : Nat → Int32 → Int32 → Int32 → Int32 → Int32 → vt_S → Option (Unit × vt_S)) (x0 : Nat) (x1 : Int32) (x2 : Int32) (x6 : Int32) (x7 : Int32) (x8 : Int32) (h : vt_S) : Option (Unit × vt_S) :=
  if x2 ≤ x8 then
    sv_let (vt_I h 1727 x0) fun v2 =>
    (vl_I h 1722 x0 x6).bind fun v4 =>
    (vs_I h 1723 x0 x6 (v2 - v4)).bind fun h5 =>
    vt_b (ab_X16_collect x0 x1 x2 x7 ((-1)) (x1 + x2) h5) fun r6 h7 =>
    vt_b (ab_X16_collect x0 x1 x2 x7 1 ((x1 + x2) + r6) h7) fun r8 h9 =>
    vt_b (ab_X16_push x0 (x1 + x2) r6 x6 1 h9) fun _ h10 =>
    vt_b (ab_X16_push x0 ((x1 + x2) + r6) r8 x6 0 h10) fun _ h11 =>
    some ((), h11)
  else
    (vl_I h 1712 x0 (x1 + x8)).bind fun v13 =>
    vt_b (ab_X16_lieOf x0 x7 v13 h) fun r14 h15 =>
    if r14 = 0 then
      sv_let (vt_I h15 1727 x0) fun v17 =>
      (vl_I h15 1712 x0 (x1 + x8)).bind fun v19 =>
      (vs_I h15 1724 x0 v17 v19).bind fun h20 =>
      sv_let (vt_I h20 1727 x0) fun v21 =>
      sv_let (vu_I h20 1727 x0 (v21 + 1)) fun h22 =>
      ab_X16_divide_188 k136 x0 x1 x2 x6 x7 x8 h22
    else
      ab_X16_divide_188 k136 x0 x1 x2 x6 x7 x8 h15

def ab_X16_divide_136 : Nat → Nat → Int32 → Int32 → Int32 → Int32 → Int32 → vt_S → Option (Unit × vt_S)
  | 0, _, _, _, _, _, _, _ => none
  | sv_n + 1, x0, x1, x2, x6, x7, x8, h => ab_X16_divide_136b (ab_X16_divide_136 sv_n) x0 x1 x2 x6 x7 x8 h

def ab_X16_divide_121 (x0 : Nat) (x1 : Int32) (x2 : Int32) (x6 : Int32) (x7 : Int32) (s0 : Nat) (s1 : Int32) (s2 : Int32) (h : vt_S) : Option (Unit × vt_S) :=
  (vs_I h 1721 s0 s1 s2).bind fun h1 =>
  sv_let (vt_I h1 1727 x0) fun v3 =>
  (vs_I h1 1722 x0 x6 v3).bind fun h4 =>
  ab_X16_divide_136 sv_fuel x0 x1 x2 x6 x7 0 h4

def ab_X16_divide_51 (x0 : Nat) (x1 : Int32) (x2 : Int32) (x3 : Int32) (h : vt_S) : Option (Unit × vt_S) :=
  if x2 = 0 then
    sv_let (vt_I h 1726 x0) fun v11 =>
    sv_let (vu_I h 1726 x0 (v11 + 1)) fun h12 =>
    some ((), h12)
  else
    sv_let (vt_I h 1725 x0) fun v1 =>
    sv_let (vt_I h 1725 x0) fun v2 =>
    sv_let (vu_I h 1725 x0 (v2 + 1)) fun h3 =>
    vt_b (ab_X16_bestOf x0 x1 x2 h3) fun r4 h5 =>
    (vs_I h5 1718 x0 v1 r4).bind fun h7 =>
    if 0 ≤ x3 then
      (vl_I h7 1721 x0 x3).bind fun v10 =>
      ab_X16_divide_121 x0 x1 x2 v1 r4 x0 v1 (v10 + 1) h7
    else
      ab_X16_divide_121 x0 x1 x2 v1 r4 x0 v1 0 h7

def ab_X16_divide_39 (x0 : Nat) (x1 : Int32) (x2 : Int32) (x3 : Int32) (x5 : Int32) (h : vt_S) : Option (Unit × vt_S) :=
  if x3 < 0 then
    ab_X16_divide_51 x0 x1 x2 x3 h
  else
    (vs_I h 1720 x0 x3 x5).bind fun h2 =>
    ab_X16_divide_51 x0 x1 x2 x3 h2

def ab_X16_divide_17 (x0 : Nat) (x1 : Int32) (x2 : Int32) (x3 : Int32) (x4 : Int32) (s0 : Int32) (h : vt_S) : Option (Unit × vt_S) :=
  if x3 < 0 then
    ab_X16_divide_39 x0 x1 x2 x3 s0 h
  else
    if x4 = 0 then
      (vs_I h 1719 x0 x3 s0).bind fun h2 =>
      ab_X16_divide_51 x0 x1 x2 x3 h2
    else
      ab_X16_divide_39 x0 x1 x2 x3 s0 h

def ab_X16_divide (x0 : Nat) (x1 : Int32) (x2 : Int32) (x3 : Int32) (x4 : Int32) (h : vt_S) : Option (Unit × vt_S) :=
  if x2 = 0 then
    sv_let (vt_I h 1726 x0) fun v2 =>
    ab_X16_divide_17 x0 x1 x2 x3 x4 (((-1)) - v2) h
  else
    sv_let (vt_I h 1725 x0) fun v1 =>
    ab_X16_divide_17 x0 x1 x2 x3 x4 v1 h

def ab_X16_make_77b (k77 : Nat → vt_S → Option (Unit × vt_S)) (x0 : Nat) (h : vt_S) : Option (Unit × vt_S) :=
  sv_let (vt_I h 1717 x0) fun v1 =>
  if v1 ≤ 0 then
    some ((), h)
  else
    sv_let (vt_I h 1717 x0) fun v2 =>
    sv_let (vu_I h 1717 x0 (v2 - 1)) fun h3 =>
    sv_let (vt_I h3 1717 x0) fun v5 =>
    (vl_I h3 1713 x0 v5).bind fun v6 =>
    sv_let (vt_I h3 1717 x0) fun v8 =>
    (vl_I h3 1714 x0 v8).bind fun v9 =>
    sv_let (vt_I h3 1717 x0) fun v11 =>
    (vl_I h3 1715 x0 v11).bind fun v12 =>
    sv_let (vt_I h3 1717 x0) fun v14 =>
    (vl_I h3 1716 x0 v14).bind fun v15 =>
    vt_b (ab_X16_divide x0 v6 v9 v12 v15 h3) fun _ h16 =>
    k77 x0 h16

def ab_X16_make_77 : Nat → Nat → vt_S → Option (Unit × vt_S)
  | 0, _, _ => none
  | sv_n + 1, x0, h => ab_X16_make_77b (ab_X16_make_77 sv_n) x0 h

def ab_X16_make_63 (k29 : Nat → Int32 → Int32 → vt_S → Option (Unit × vt_S)) (x0 : Nat) (x1 : Int32) (x2 : Int32) (h : vt_S) : Option (Unit × vt_S) :=
  k29 x0 x1 (x2 + 1) h

def ab_X16_make_29b (k29 : Nat → Int32 → Int32 → vt_S → Option (Unit × vt_S)) (x0 : Nat) (x1 : Int32) (x2 : Int32) (h : vt_S) : Option (Unit × vt_S) :=
  if 128 ≤ x2 then
    vt_b (ab_X16_push x0 0 x1 ((-1)) 0 h) fun _ h1 =>
    ab_X16_make_77 sv_fuel x0 h1
  else
    (vl_I h 1700 x0 x2).bind fun v3 =>
    if v3 = 0 then
      ab_X16_make_63 k29 x0 x1 x2 h
    else
      vt_b (ab_X16_piece x0 x2 0 1 1 1 h) fun r5 h6 =>
      (vs_I h6 1712 x0 x1 r5).bind fun h7 =>
      ab_X16_make_63 k29 x0 (x1 + 1) x2 h7

def ab_X16_make_29 : Nat → Nat → Int32 → Int32 → vt_S → Option (Unit × vt_S)
  | 0, _, _, _, _ => none
  | sv_n + 1, x0, x1, x2, h => ab_X16_make_29b (ab_X16_make_29 sv_n) x0 x1 x2 h

def ab_X16_make (x0 : Nat) (h : vt_S) : Option (Unit × vt_S) :=
  sv_let (vu_I h 1711 x0 0) fun h1 =>
  sv_let (vu_I h1 1725 x0 0) fun h2 =>
  sv_let (vu_I h2 1726 x0 0) fun h3 =>
  sv_let (vu_I h3 1727 x0 0) fun h4 =>
  sv_let (vu_I h4 1717 x0 0) fun h5 =>
  ab_X16_make_29 sv_fuel x0 0 0 h5

def ab_X16_know_16 (h : vt_S) : Option (Unit × vt_S) :=
  some ((), h)

def ab_X16_know (x0 : Nat) (h : vt_S) : Option (Unit × vt_S) :=
  sv_let (vt_I h 1705 x0) fun v1 =>
  if v1 = 0 then
    vt_b (ab_X16_make x0 h) fun _ h2 =>
    (vq_Z h2 1705 x0 1).bind fun h3 =>
    ab_X16_know_16 h3
  else
    ab_X16_know_16 h

def ab_X16_isNode_21 (s0 : Int32) (h : vt_S) : Option (Int32 × vt_S) :=
  vt_rz s0 h

def ab_X16_isNode_20 (h : vt_S) : Option (Int32 × vt_S) :=
  ab_X16_isNode_21 0 h

def ab_X16_isNode (x0 : Nat) (x1 : Int32) (h : vt_S) : Option (Int32 × vt_S) :=
  vt_b (ab_X16_know x0 h) fun _ h1 =>
  if x1 < 0 then
    ab_X16_isNode_20 h1
  else
    sv_let (vt_I h1 1725 x0) fun v2 =>
    if v2 ≤ x1 then
      ab_X16_isNode_20 h1
    else
      ab_X16_isNode_21 1 h1

def ab_X16_within_33 (x1 : Int32) (x2 : Int32) (h : vt_S) : Option (Int32 × vt_S) :=
  some (x2 - x1, h)

def ab_X16_within_4b (k4 : Nat → Int32 → Int32 → vt_S → Option (Int32 × vt_S)) (x0 : Nat) (x1 : Int32) (x2 : Int32) (h : vt_S) : Option (Int32 × vt_S) :=
  sv_let (vt_I h 1725 x0) fun v1 =>
  if v1 ≤ x2 then
    ab_X16_within_33 x1 x2 h
  else
    (vl_I h 1721 x0 x2).bind fun v3 =>
    (vl_I h 1721 x0 x1).bind fun v5 =>
    if v3 ≤ v5 then
      ab_X16_within_33 x1 x2 h
    else
      k4 x0 x1 (x2 + 1) h

def ab_X16_within_4 : Nat → Nat → Int32 → Int32 → vt_S → Option (Int32 × vt_S)
  | 0, _, _, _, _ => none
  | sv_n + 1, x0, x1, x2, h => ab_X16_within_4b (ab_X16_within_4 sv_n) x0 x1 x2 h

def ab_X16_within (x0 : Nat) (x1 : Int32) (h : vt_S) : Option (Int32 × vt_S) :=
  ab_X16_within_4 sv_fuel x0 x1 (x1 + 1) h

def ab_X16_node_74 (s0 : Int32) (h : vt_S) : Option (Int32 × vt_S) :=
  some (s0, h)

def ab_X16_node_94 (s0 : Int32) (h : vt_S) : Option (Int32 × vt_S) :=
  some (s0, h)

def ab_X16_node (x0 : Nat) (x1 : Int32) (x2 : Int32) (h : vt_S) : Option (Int32 × vt_S) :=
  vt_b (ab_X16_isNode x0 x1 h) fun r1 h2 =>
  if r1 = 0 then
    some ((-1), h2)
  else
    if x2 = 0 then
      (vl_I h2 1718 x0 x1).bind fun v4 =>
      some (v4, h2)
    else
    if x2 = 1 then
      (vl_I h2 1719 x0 x1).bind fun v6 =>
      if 0 ≤ v6 then
        (vl_I h2 1719 x0 x1).bind fun v8 =>
        ab_X16_node_74 v8 h2
      else
        ab_X16_node_74 ((-1)) h2
    else
    if x2 = 2 then
      (vl_I h2 1720 x0 x1).bind fun v10 =>
      if 0 ≤ v10 then
        (vl_I h2 1720 x0 x1).bind fun v12 =>
        ab_X16_node_94 v12 h2
      else
        ab_X16_node_94 ((-1)) h2
    else
    if x2 = 3 then
      (vl_I h2 1723 x0 x1).bind fun v14 =>
      some (v14, h2)
    else
    if x2 = 4 then
      vt_b (ab_X16_within x0 x1 h2) fun r15 h16 =>
      some (r15, h16)
    else
    if x2 = 5 then
      (vl_I h2 1721 x0 x1).bind fun v18 =>
      some (v18, h2)
    else
    some ((-1), h2)

def ab_X17_nodeOf_25 (s0 : Int32) (h : vt_S) : Option (Int32 × vt_S) :=
  some (s0, h)

def ab_X17_nodeOf (x0 : Nat) (x1 : Int32) (x2 : Int32) (h : vt_S) : Option (Int32 × vt_S) :=
  sv_let (vu_I h 1800 x0 0) fun h1 =>
  sv_let (vt_I h1 1809 x0) fun v2 =>
  if v2 = 0 then
    ab_X17_nodeOf_25 ((-1)) h1
  else
    sv_let (vt_P h1 1804 x0) fun v3 =>
    vt_b (ab_X16_node v3 x1 x2 h1) fun r4 h5 =>
    ab_X17_nodeOf_25 r4 h5

def ab_X8_leafAround_90 (x4 : Int32) (h : vt_S) : Option (Int32 × vt_S) :=
  some (((-1)) - x4, h)

def ab_X8_leafAround_82 (k17 : Nat → Nat → Int32 → Int32 → Int32 → Int32 → vt_S → Option (Int32 × vt_S)) (x0 : Nat) (x1 : Nat) (x2 : Int32) (x3 : Int32) (x5 : Int32) (s0 : Int32) (h : vt_S) : Option (Int32 × vt_S) :=
  k17 x0 x1 x2 x3 s0 (x5 + 1) h

def ab_X8_leafAround_58 (k17 : Nat → Nat → Int32 → Int32 → Int32 → Int32 → vt_S → Option (Int32 × vt_S)) (x0 : Nat) (x1 : Nat) (x2 : Int32) (x3 : Int32) (x4 : Int32) (x5 : Int32) (s0 : Int32) (h : vt_S) : Option (Int32 × vt_S) :=
  if s0 = 0 then
    (vl_I h 903 x0 x4).bind fun v2 =>
    ab_X8_leafAround_82 k17 x0 x1 x2 x3 x5 v2 h
  else
    (vl_I h 902 x0 x4).bind fun v4 =>
    ab_X8_leafAround_82 k17 x0 x1 x2 x3 x5 v4 h

def ab_X8_leafAround_17b (k17 : Nat → Nat → Int32 → Int32 → Int32 → Int32 → vt_S → Option (Int32 × vt_S)) (x0 : Nat) (x1 : Nat) (x2 : Int32) (x3 : Int32) (x4 : Int32) (x5 : Int32) (h : vt_S) : Option (Int32 × vt_S) :=
  sv_let (vt_I h 911 x0) fun v1 =>
  if v1 ≤ x5 then
    ab_X8_leafAround_90 x4 h
  else
    if x4 < 0 then
      ab_X8_leafAround_90 x4 h
    else
      (vl_I h 901 x0 x4).bind fun v4 =>
      (vl_P h 308 x1 v4).bind fun v5 =>
      vt_b (ab_X11_sideOf v5 x2 x3 h) fun r6 h7 =>
      if (lg_cmp r6 0) ≤ 0 then
        ab_X8_leafAround_58 k17 x0 x1 x2 x3 x4 x5 0 h7
      else
        ab_X8_leafAround_58 k17 x0 x1 x2 x3 x4 x5 1 h7

def ab_X8_leafAround_17 : Nat → Nat → Nat → Int32 → Int32 → Int32 → Int32 → vt_S → Option (Int32 × vt_S)
  | 0, _, _, _, _, _, _, _ => none
  | sv_n + 1, x0, x1, x2, x3, x4, x5, h => ab_X8_leafAround_17b (ab_X8_leafAround_17 sv_n) x0 x1 x2 x3 x4 x5 h

def ab_X8_leafAround_12 (x0 : Nat) (x1 : Nat) (x2 : Int32) (x3 : Int32) (s0 : Int32) (h : vt_S) : Option (Int32 × vt_S) :=
  ab_X8_leafAround_17 sv_fuel x0 x1 x2 x3 s0 0 h

def ab_X8_leafAround (x0 : Nat) (x1 : Nat) (x2 : Int32) (x3 : Int32) (h : vt_S) : Option (Int32 × vt_S) :=
  sv_let (vt_I h 911 x0) fun v1 =>
  if v1 ≤ 0 then
    ab_X8_leafAround_12 x0 x1 x2 x3 ((-1)) h
  else
    ab_X8_leafAround_12 x0 x1 x2 x3 0 h

def ab_X12_leafOf_15 (h : vt_S) : Option (Int32 × vt_S) :=
  some ((-1), h)

def ab_X12_leafOf (x0 : Nat) (x1 : Int32) (x2 : Int32) (h : vt_S) : Option (Int32 × vt_S) :=
  vt_b (ab_X12_hasMap x0 h) fun r1 h2 =>
  if r1 = 0 then
    ab_X12_leafOf_15 h2
  else
    vt_b (ab_X12_isPlace x1 x2 h2) fun r3 h4 =>
    if r3 = 0 then
      ab_X12_leafOf_15 h4
    else
      sv_let (vt_P h4 1303 x0) fun v5 =>
      sv_let (vt_P h4 1306 x0) fun v6 =>
      vt_b (ab_X8_leafAround v5 v6 x1 x2 h4) fun r7 h8 =>
      some (r7, h8)

def ab_X16_isPlace_19 (s0 : Int32) (h : vt_S) : Option (Int32 × vt_S) :=
  vt_rz s0 h

def ab_X16_isPlace_18 (h : vt_S) : Option (Int32 × vt_S) :=
  ab_X16_isPlace_19 0 h

def ab_X16_isPlace (x0 : Int32) (h : vt_S) : Option (Int32 × vt_S) :=
  if x0 < ((-32768)) then
    ab_X16_isPlace_18 h
  else
    if 32767 < x0 then
      ab_X16_isPlace_18 h
    else
      ab_X16_isPlace_19 1 h

def ab_X16_isLeft_24 (s0 : Int32) (h : vt_S) : Option (Int32 × vt_S) :=
  vt_rz s0 h

def ab_X16_isLeft (x0 : Nat) (x1 : Int32) (x2 : Int32) (x3 : Int32) (h : vt_S) : Option (Int32 × vt_S) :=
  (vl_I h 1718 x0 x1).bind fun v2 =>
  vt_b (ab_X16_sideOf x0 v2 (Int32.toInt64 x2) (Int32.toInt64 x3) h) fun r3 h4 =>
  if (lg_cmp r3 0) ≤ 0 then
    ab_X16_isLeft_24 0 h4
  else
    ab_X16_isLeft_24 1 h4

def ab_X16_leaf_14 (h : vt_S) : Option (Int32 × vt_S) :=
  some ((-1), h)

def ab_X16_leaf_62 (k33 : Nat → Int32 → Int32 → Int32 → vt_S → Option (Int32 × vt_S)) (x0 : Nat) (x1 : Int32) (x2 : Int32) (s0 : Int32) (h : vt_S) : Option (Int32 × vt_S) :=
  k33 x0 x1 x2 s0 h

def ab_X16_leaf_33b (k33 : Nat → Int32 → Int32 → Int32 → vt_S → Option (Int32 × vt_S)) (x0 : Nat) (x1 : Int32) (x2 : Int32) (x3 : Int32) (h : vt_S) : Option (Int32 × vt_S) :=
  if x3 < 0 then
    some (((-1)) - x3, h)
  else
    vt_b (ab_X16_isLeft x0 x3 x1 x2 h) fun r1 h2 =>
    if r1 = 0 then
      (vl_I h2 1720 x0 x3).bind fun v4 =>
      ab_X16_leaf_62 k33 x0 x1 x2 v4 h2
    else
      (vl_I h2 1719 x0 x3).bind fun v6 =>
      ab_X16_leaf_62 k33 x0 x1 x2 v6 h2

def ab_X16_leaf_33 : Nat → Nat → Int32 → Int32 → Int32 → vt_S → Option (Int32 × vt_S)
  | 0, _, _, _, _, _ => none
  | sv_n + 1, x0, x1, x2, x3, h => ab_X16_leaf_33b (ab_X16_leaf_33 sv_n) x0 x1 x2 x3 h

def ab_X16_leaf_32 (x0 : Nat) (x1 : Int32) (x2 : Int32) (s0 : Int32) (h : vt_S) : Option (Int32 × vt_S) :=
  ab_X16_leaf_33 sv_fuel x0 x1 x2 s0 h

def ab_X16_leaf (x0 : Nat) (x1 : Int32) (x2 : Int32) (h : vt_S) : Option (Int32 × vt_S) :=
  vt_b (ab_X16_isPlace x1 h) fun r1 h2 =>
  if r1 = 0 then
    ab_X16_leaf_14 h2
  else
    vt_b (ab_X16_isPlace x2 h2) fun r3 h4 =>
    if r3 = 0 then
      ab_X16_leaf_14 h4
    else
      vt_b (ab_X16_know x0 h4) fun _ h5 =>
      sv_let (vt_I h5 1725 x0) fun v6 =>
      if v6 ≤ 0 then
        ab_X16_leaf_32 x0 x1 x2 ((-1)) h5
      else
        ab_X16_leaf_32 x0 x1 x2 0 h5

def ab_X17_leafOf_25 (s0 : Int32) (h : vt_S) : Option (Int32 × vt_S) :=
  some (s0, h)

def ab_X17_leafOf (x0 : Nat) (x1 : Int32) (x2 : Int32) (h : vt_S) : Option (Int32 × vt_S) :=
  sv_let (vu_I h 1800 x0 0) fun h1 =>
  sv_let (vt_I h1 1809 x0) fun v2 =>
  if v2 = 0 then
    ab_X17_leafOf_25 ((-1)) h1
  else
    sv_let (vt_P h1 1804 x0) fun v3 =>
    vt_b (ab_X16_leaf v3 x1 x2 h1) fun r4 h5 =>
    ab_X17_leafOf_25 r4 h5

def ab_X12_byteOf_38 (s0 : Int32) (h : vt_S) : Option (Int32 × vt_S) :=
  some (s0, h)

def ab_X12_byteOf_37 (h : vt_S) : Option (Int32 × vt_S) :=
  ab_X12_byteOf_38 ((-1)) h

def ab_X12_byteOf_15 (x1 : Int32) (s0 : Nat) (h : vt_S) : Option (Int32 × vt_S) :=
  if x1 < 0 then
    ab_X12_byteOf_37 h
  else
    sv_let (vt_I h 101 s0) fun v1 =>
    if v1 ≤ x1 then
      ab_X12_byteOf_37 h
    else
      (vl_I h 100 s0 x1).bind fun v3 =>
      ab_X12_byteOf_38 v3 h

def ab_X12_byteOf (x0 : Nat) (x1 : Int32) (x2 : Int32) (h : vt_S) : Option (Int32 × vt_S) :=
  if x2 = 0 then
    sv_let (vt_P h 1301 x0) fun v1 =>
    ab_X12_byteOf_15 x1 v1 h
  else
    sv_let (vt_P h 1300 x0) fun v2 =>
    ab_X12_byteOf_15 x1 v2 h

def ab_X17_byteOf_31 (h : vt_S) : Option (Int32 × vt_S) :=
  some ((-1), h)

def ab_X17_byteOf_59 (s0 : Int32) (h : vt_S) : Option (Int32 × vt_S) :=
  some (s0, h)

def ab_X17_byteOf_28 (x0 : Nat) (x1 : Int32) (x2 : Int32) (s0 : Int32) (s1 : Int32) (h : vt_S) : Option (Int32 × vt_S) :=
  if s0 < s1 then
    if x2 = 0 then
      (vl_I h 1805 x0 x1).bind fun v2 =>
      ab_X17_byteOf_59 v2 h
    else
      sv_let (vt_P h 1801 x0) fun v3 =>
      (vl_I h 1500 v3 x1).bind fun v5 =>
      ab_X17_byteOf_59 (v5 &&& 255) h
  else
    ab_X17_byteOf_31 h

def ab_X17_byteOf (x0 : Nat) (x1 : Int32) (x2 : Int32) (h : vt_S) : Option (Int32 × vt_S) :=
  sv_let (vu_I h 1800 x0 0) fun h1 =>
  if x1 < 0 then
    ab_X17_byteOf_31 h1
  else
    if x2 = 0 then
      sv_let (vt_I h1 1806 x0) fun v2 =>
      ab_X17_byteOf_28 x0 x1 x2 x1 v2 h1
    else
      sv_let (vt_P h1 1801 x0) fun v3 =>
      sv_let (vt_I h1 1501 v3) fun v4 =>
      ab_X17_byteOf_28 x0 x1 x2 x1 v4 h1

def ab_X12_lookAt_86 (s0 : Int32) (h : vt_S) : Option (Int32 × vt_S) :=
  some (s0, h)

def ab_X12_lookAt_105 (s0 : Int32) (h : vt_S) : Option (Int32 × vt_S) :=
  some (s0, h)

def ab_X12_lookAt_124 (s0 : Int32) (h : vt_S) : Option (Int32 × vt_S) :=
  some (s0, h)

def ab_X12_lookAt_143 (s0 : Int32) (h : vt_S) : Option (Int32 × vt_S) :=
  some (s0, h)

def ab_X12_lookAt_202 (s0 : Int32) (h : vt_S) : Option (Int32 × vt_S) :=
  some (s0, h)

def ab_X12_lookAt_221 (s0 : Int32) (h : vt_S) : Option (Int32 × vt_S) :=
  some (s0, h)

def ab_X12_lookAt_240 (s0 : Int32) (h : vt_S) : Option (Int32 × vt_S) :=
  some (s0, h)

def ab_X12_lookAt (x0 : Nat) (x1 : Int32) (h : vt_S) : Option (Int32 × vt_S) :=
  if x1 = 0 then
    vt_b (ab_X12_hasMap x0 h) fun r1 h2 =>
    if r1 = 0 then
      ab_X12_lookAt_86 ((-1)) h2
    else
      sv_let (vt_P h2 1306 x0) fun v3 =>
      sv_let (vt_I h2 309 v3) fun v4 =>
      ab_X12_lookAt_86 v4 h2
  else
  if x1 = 1 then
    vt_b (ab_X12_hasMap x0 h) fun r5 h6 =>
    if r5 = 0 then
      ab_X12_lookAt_105 ((-1)) h6
    else
      sv_let (vt_P h6 1306 x0) fun v7 =>
      sv_let (vt_I h6 310 v7) fun v8 =>
      ab_X12_lookAt_105 v8 h6
  else
  if x1 = 2 then
    vt_b (ab_X12_hasMap x0 h) fun r9 h10 =>
    if r9 = 0 then
      ab_X12_lookAt_124 ((-1)) h10
    else
      sv_let (vt_P h10 1306 x0) fun v11 =>
      sv_let (vt_I h10 311 v11) fun v12 =>
      ab_X12_lookAt_124 v12 h10
  else
  if x1 = 3 then
    vt_b (ab_X12_hasMap x0 h) fun r13 h14 =>
    if r13 = 0 then
      ab_X12_lookAt_143 ((-1)) h14
    else
      sv_let (vt_P h14 1306 x0) fun v15 =>
      sv_let (vt_I h14 312 v15) fun v16 =>
      ab_X12_lookAt_143 v16 h14
  else
  if x1 = 4 then
    sv_let (vt_P h 1308 x0) fun v17 =>
    sv_let (vt_I h 602 v17) fun v18 =>
    some (v18, h)
  else
  if x1 = 5 then
    sv_let (vt_P h 1300 x0) fun v19 =>
    sv_let (vt_I h 101 v19) fun v20 =>
    some (v20, h)
  else
  if x1 = 6 then
    sv_let (vt_P h 1301 x0) fun v21 =>
    sv_let (vt_I h 101 v21) fun v22 =>
    some (v22, h)
  else
  if x1 = 7 then
    sv_let (vt_P h 1302 x0) fun v23 =>
    sv_let (vt_I h 502 v23) fun v24 =>
    some (v24, h)
  else
  if x1 = 8 then
    sv_let (vt_P h 1302 x0) fun v25 =>
    sv_let (vt_I h 503 v25) fun v26 =>
    some (v26, h)
  else
  if x1 = 9 then
    vt_b (ab_X12_hasMap x0 h) fun r27 h28 =>
    if r27 = 0 then
      ab_X12_lookAt_202 ((-1)) h28
    else
      sv_let (vt_P h28 1303 x0) fun v29 =>
      sv_let (vt_I h28 911 v29) fun v30 =>
      ab_X12_lookAt_202 v30 h28
  else
  if x1 = 10 then
    vt_b (ab_X12_hasMap x0 h) fun r31 h32 =>
    if r31 = 0 then
      ab_X12_lookAt_221 ((-1)) h32
    else
      sv_let (vt_P h32 1303 x0) fun v33 =>
      sv_let (vt_I h32 913 v33) fun v34 =>
      ab_X12_lookAt_221 v34 h32
  else
  if x1 = 11 then
    vt_b (ab_X12_hasMap x0 h) fun r35 h36 =>
    if r35 = 0 then
      ab_X12_lookAt_240 0 h36
    else
      sv_let (vt_P h36 1306 x0) fun v37 =>
      vt_b (ab_X2_moverCount v37 h36) fun r38 h39 =>
      ab_X12_lookAt_240 r38 h39
  else
  if x1 = 12 then
    sv_let (vt_I h 1310 x0) fun v40 =>
    some (v40, h)
  else
  some ((-1), h)

def ab_X17_lookAt_93 (s0 : Int32) (h : vt_S) : Option (Int32 × vt_S) :=
  some (s0, h)

def ab_X17_lookAt_72 (x0 : Nat) (x1 : Int32) (h : vt_S) : Option (Int32 × vt_S) :=
  sv_let (vt_I h 1809 x0) fun v1 =>
  if v1 = 0 then
    ab_X17_lookAt_93 ((-1)) h
  else
    sv_let (vt_P h 1801 x0) fun v2 =>
    vt_b (ab_X14_many v2 (x1 + 3) h) fun r3 h4 =>
    ab_X17_lookAt_93 r3 h4

def ab_X17_lookAt_150 (s0 : Int32) (h : vt_S) : Option (Int32 × vt_S) :=
  some (s0, h)

def ab_X17_lookAt_176 (s0 : Int32) (h : vt_S) : Option (Int32 × vt_S) :=
  some (s0, h)

def ab_X17_lookAt (x0 : Nat) (x1 : Int32) (h : vt_S) : Option (Int32 × vt_S) :=
  sv_let (vu_I h 1800 x0 0) fun h1 =>
  if x1 = 0 then
    ab_X17_lookAt_72 x0 x1 h1
  else
  if x1 = 1 then
    ab_X17_lookAt_72 x0 x1 h1
  else
  if x1 = 2 then
    ab_X17_lookAt_72 x0 x1 h1
  else
  if x1 = 3 then
    ab_X17_lookAt_72 x0 x1 h1
  else
  if x1 = 4 then
    sv_let (vt_P h1 1802 x0) fun v2 =>
    sv_let (vt_I h1 1605 v2) fun v3 =>
    some (v3, h1)
  else
  if x1 = 5 then
    sv_let (vt_P h1 1801 x0) fun v4 =>
    sv_let (vt_I h1 1501 v4) fun v5 =>
    some (v5, h1)
  else
  if x1 = 6 then
    sv_let (vt_I h1 1806 x0) fun v6 =>
    some (v6, h1)
  else
  if x1 = 7 then
    sv_let (vt_I h1 1807 x0) fun v7 =>
    some (v7, h1)
  else
  if x1 = 8 then
    sv_let (vt_I h1 1808 x0) fun v8 =>
    some (v8, h1)
  else
  if x1 = 9 then
    sv_let (vt_P h1 1804 x0) fun v9 =>
    vt_b (ab_X16_know v9 h1) fun _ h10 =>
    sv_let (vt_I h10 1809 x0) fun v11 =>
    if v11 = 0 then
      ab_X17_lookAt_150 ((-1)) h10
    else
      sv_let (vt_P h10 1804 x0) fun v12 =>
      sv_let (vt_I h10 1725 v12) fun v13 =>
      ab_X17_lookAt_150 v13 h10
  else
  if x1 = 10 then
    sv_let (vt_P h1 1804 x0) fun v14 =>
    vt_b (ab_X16_know v14 h1) fun _ h15 =>
    sv_let (vt_I h15 1809 x0) fun v16 =>
    if v16 = 0 then
      ab_X17_lookAt_176 ((-1)) h15
    else
      sv_let (vt_P h15 1804 x0) fun v17 =>
      sv_let (vt_I h15 1727 v17) fun v18 =>
      ab_X17_lookAt_176 v18 h15
  else
  if x1 = 11 then
    sv_let (vt_P h1 1803 x0) fun v19 =>
    vt_b (ab_X13_many v19 h1) fun r20 h21 =>
    some (r20, h21)
  else
  if x1 = 12 then
    sv_let (vt_I h1 1810 x0) fun v22 =>
    some (v22, h1)
  else
  some ((-1), h1)

def ab_L_law_866 (xs : Nat → Int32) (L : Nat) (k18 : Nat → Nat → Int32 → vt_S → Option (Int32 × vt_S)) (x1 : Nat) (x2 : Nat) (x3 : Int32) (h : vt_S) : Option (Int32 × vt_S) :=
  k18 x1 x2 (x3 + 5) h

def ab_L_law_436 (xs : Nat → Int32) (L : Nat) (k18 : Nat → Nat → Int32 → vt_S → Option (Int32 × vt_S)) (x1 : Nat) (x2 : Nat) (x3 : Int32) (s0 : Int32) (s1 : Nat) (s2 : Int32) (s3 : Int32) (s4 : Int32) (s5 : Int32) (h : vt_S) : Option (Int32 × vt_S) :=
  vt_b (ab_X17_addInput s1 s2 s3 s4 s5 h) fun r1 h2 =>
  if s0 = r1 then
    ab_L_law_866 xs L k18 x1 x2 x3 h2
  else
    some (0, h2)

def ab_L_law_404 (xs : Nat → Int32) (L : Nat) (k18 : Nat → Nat → Int32 → vt_S → Option (Int32 × vt_S)) (x1 : Nat) (x2 : Nat) (x3 : Int32) (s0 : Nat) (s1 : Int32) (s2 : Int32) (s3 : Int32) (s4 : Int32) (h : vt_S) : Option (Int32 × vt_S) :=
  vt_b (ab_X12_addInput s0 s1 s2 s3 s4 h) fun r1 h2 =>
  (sv_sc xs L (x3 + 1)).bind fun v3 =>
  (sv_sc xs L (x3 + 2)).bind fun v4 =>
  (sv_sc xs L (x3 + 3)).bind fun v5 =>
  (sv_sc xs L (x3 + 4)).bind fun v6 =>
  if v6 = 0 then
    ab_L_law_436 xs L k18 x1 x2 x3 r1 x2 v3 v4 v5 0 h2
  else
    ab_L_law_436 xs L k18 x1 x2 x3 r1 x2 v3 v4 v5 1 h2

def ab_L_law_551 (xs : Nat → Int32) (L : Nat) (k18 : Nat → Nat → Int32 → vt_S → Option (Int32 × vt_S)) (x1 : Nat) (x2 : Nat) (x3 : Int32) (s0 : Int32) (s1 : Nat) (s2 : Int32) (s3 : Int32) (s4 : Int32) (s5 : Int32) (h : vt_S) : Option (Int32 × vt_S) :=
  vt_b (ab_X17_stepBy s1 s2 s3 s4 s5 h) fun r1 h2 =>
  if s0 = r1 then
    ab_L_law_866 xs L k18 x1 x2 x3 h2
  else
    some (0, h2)

def ab_L_law_519 (xs : Nat → Int32) (L : Nat) (k18 : Nat → Nat → Int32 → vt_S → Option (Int32 × vt_S)) (x1 : Nat) (x2 : Nat) (x3 : Int32) (s0 : Nat) (s1 : Int32) (s2 : Int32) (s3 : Int32) (s4 : Int32) (h : vt_S) : Option (Int32 × vt_S) :=
  vt_b (ab_X12_stepBy s0 s1 s2 s3 s4 h) fun r1 h2 =>
  (sv_sc xs L (x3 + 1)).bind fun v3 =>
  (sv_sc xs L (x3 + 2)).bind fun v4 =>
  (sv_sc xs L (x3 + 3)).bind fun v5 =>
  (sv_sc xs L (x3 + 4)).bind fun v6 =>
  if v6 = 0 then
    ab_L_law_551 xs L k18 x1 x2 x3 r1 x2 v3 v4 v5 0 h2
  else
    ab_L_law_551 xs L k18 x1 x2 x3 r1 x2 v3 v4 v5 1 h2

def ab_L_law_835 (xs : Nat → Int32) (L : Nat) (k18 : Nat → Nat → Int32 → vt_S → Option (Int32 × vt_S)) (x1 : Nat) (x2 : Nat) (x3 : Int32) (s0 : Int32) (s1 : Nat) (s2 : Int32) (s3 : Int32) (h : vt_S) : Option (Int32 × vt_S) :=
  vt_b (ab_X17_byteOf s1 s2 s3 h) fun r1 h2 =>
  if s0 = r1 then
    ab_L_law_866 xs L k18 x1 x2 x3 h2
  else
    some (0, h2)

def ab_L_law_813 (xs : Nat → Int32) (L : Nat) (k18 : Nat → Nat → Int32 → vt_S → Option (Int32 × vt_S)) (x1 : Nat) (x2 : Nat) (x3 : Int32) (s0 : Nat) (s1 : Int32) (s2 : Int32) (h : vt_S) : Option (Int32 × vt_S) :=
  vt_b (ab_X12_byteOf s0 s1 s2 h) fun r1 h2 =>
  (sv_sc xs L (x3 + 1)).bind fun v3 =>
  (sv_sc xs L (x3 + 2)).bind fun v4 =>
  if v4 = 0 then
    ab_L_law_835 xs L k18 x1 x2 x3 r1 x2 v3 0 h2
  else
    ab_L_law_835 xs L k18 x1 x2 x3 r1 x2 v3 1 h2

def ab_L_law_18b (xs : Nat → Int32) (L : Nat) (k18 : Nat → Nat → Int32 → vt_S → Option (Int32 × vt_S)) (x1 : Nat) (x2 : Nat) (x3 : Int32) (h : vt_S) : Option (Int32 × vt_S) :=
  if ((Int32.ofNat L) - 5) < x3 then
    some (1, h)
  else
    (sv_sc xs L x3).bind fun v1 =>
    if (v1 &&& 31) = 0 then
      (sv_sc xs L (x3 + 1)).bind fun v2 =>
      (sv_sc xs L (x3 + 2)).bind fun v3 =>
      (sv_sc xs L (x3 + 3)).bind fun v4 =>
      vt_b (ab_X12_giveBytes x1 (((Int32.toInt64 v2) <<< (Int32.toInt64 32 &&& 63)) ||| ((Int32.toInt64 v3) &&& 4294967295)) v4 h) fun r5 h6 =>
      (sv_sc xs L (x3 + 1)).bind fun v7 =>
      (sv_sc xs L (x3 + 2)).bind fun v8 =>
      (sv_sc xs L (x3 + 3)).bind fun v9 =>
      vt_b (ab_X17_giveBytes x2 (((Int32.toInt64 v7) <<< (Int32.toInt64 32 &&& 63)) ||| ((Int32.toInt64 v8) &&& 4294967295)) v9 h6) fun r10 h11 =>
      if r5 = r10 then
        ab_L_law_866 xs L k18 x1 x2 x3 h11
      else
        some (0, h11)
    else
    if (v1 &&& 31) = 1 then
      (sv_sc xs L (x3 + 1)).bind fun v12 =>
      vt_b (ab_X12_cutBytes x1 v12 h) fun r13 h14 =>
      (sv_sc xs L (x3 + 1)).bind fun v15 =>
      vt_b (ab_X17_cutBytes x2 v15 h14) fun r16 h17 =>
      if r13 = r16 then
        ab_L_law_866 xs L k18 x1 x2 x3 h17
      else
        some (0, h17)
    else
    if (v1 &&& 31) = 2 then
      (sv_sc xs L (x3 + 1)).bind fun v18 =>
      (sv_sc xs L (x3 + 2)).bind fun v19 =>
      vt_b (ab_X12_pokeByte x1 v18 v19 h) fun r20 h21 =>
      (sv_sc xs L (x3 + 1)).bind fun v22 =>
      (sv_sc xs L (x3 + 2)).bind fun v23 =>
      vt_b (ab_X17_pokeByte x2 v22 v23 h21) fun r24 h25 =>
      if r20 = r24 then
        ab_L_law_866 xs L k18 x1 x2 x3 h25
      else
        some (0, h25)
    else
    if (v1 &&& 31) = 3 then
      vt_b (ab_X12_loadMap x1 h) fun r26 h27 =>
      vt_b (ab_X17_loadMap x2 h27) fun r28 h29 =>
      if r26 = r28 then
        ab_L_law_866 xs L k18 x1 x2 x3 h29
      else
        some (0, h29)
    else
    if (v1 &&& 31) = 4 then
      vt_b (ab_X12_loadDemo x1 h) fun r30 h31 =>
      vt_b (ab_X17_loadDemo x2 h31) fun r32 h33 =>
      if r30 = r32 then
        ab_L_law_866 xs L k18 x1 x2 x3 h33
      else
        some (0, h33)
    else
    if (v1 &&& 31) = 5 then
      vt_b (ab_X12_saveMap x1 h) fun r34 h35 =>
      vt_b (ab_X17_saveMap x2 h35) fun r36 h37 =>
      if r34 = r36 then
        ab_L_law_866 xs L k18 x1 x2 x3 h37
      else
        some (0, h37)
    else
    if (v1 &&& 31) = 6 then
      vt_b (ab_X12_saveDemo x1 h) fun r38 h39 =>
      vt_b (ab_X17_saveDemo x2 h39) fun r40 h41 =>
      if r38 = r40 then
        ab_L_law_866 xs L k18 x1 x2 x3 h41
      else
        some (0, h41)
    else
    if (v1 &&& 31) = 7 then
      vt_b (ab_X12_turnBytes x1 h) fun _ h42 =>
      vt_b (ab_X17_turnBytes x2 h42) fun _ h43 =>
      ab_L_law_866 xs L k18 x1 x2 x3 h43
    else
    if (v1 &&& 31) = 8 then
      (sv_sc xs L (x3 + 1)).bind fun v44 =>
      (sv_sc xs L (x3 + 2)).bind fun v45 =>
      (sv_sc xs L (x3 + 3)).bind fun v46 =>
      (sv_sc xs L (x3 + 4)).bind fun v47 =>
      vt_b (ab_X12_startAt x1 v44 v45 v46 v47 h) fun r48 h49 =>
      (sv_sc xs L (x3 + 1)).bind fun v50 =>
      (sv_sc xs L (x3 + 2)).bind fun v51 =>
      (sv_sc xs L (x3 + 3)).bind fun v52 =>
      (sv_sc xs L (x3 + 4)).bind fun v53 =>
      vt_b (ab_X17_startAt x2 v50 v51 v52 v53 h49) fun r54 h55 =>
      if r48 = r54 then
        ab_L_law_866 xs L k18 x1 x2 x3 h55
      else
        some (0, h55)
    else
    if (v1 &&& 31) = 9 then
      (sv_sc xs L (x3 + 1)).bind fun v56 =>
      (sv_sc xs L (x3 + 2)).bind fun v57 =>
      (sv_sc xs L (x3 + 3)).bind fun v58 =>
      (sv_sc xs L (x3 + 4)).bind fun v59 =>
      if v59 = 0 then
        ab_L_law_404 xs L k18 x1 x2 x3 x1 v56 v57 v58 0 h
      else
        ab_L_law_404 xs L k18 x1 x2 x3 x1 v56 v57 v58 1 h
    else
    if (v1 &&& 31) = 10 then
      (sv_sc xs L (x3 + 1)).bind fun v60 =>
      vt_b (ab_X12_dropInputs x1 v60 h) fun r61 h62 =>
      (sv_sc xs L (x3 + 1)).bind fun v63 =>
      vt_b (ab_X17_dropInputs x2 v63 h62) fun r64 h65 =>
      if r61 = r64 then
        ab_L_law_866 xs L k18 x1 x2 x3 h65
      else
        some (0, h65)
    else
    if (v1 &&& 31) = 11 then
      (sv_sc xs L (x3 + 1)).bind fun v66 =>
      vt_b (ab_X12_playTo x1 v66 h) fun r67 h68 =>
      (sv_sc xs L (x3 + 1)).bind fun v69 =>
      vt_b (ab_X17_playTo x2 v69 h68) fun r70 h71 =>
      if r67 = r70 then
        ab_L_law_866 xs L k18 x1 x2 x3 h71
      else
        some (0, h71)
    else
    if (v1 &&& 31) = 12 then
      (sv_sc xs L (x3 + 1)).bind fun v72 =>
      (sv_sc xs L (x3 + 2)).bind fun v73 =>
      (sv_sc xs L (x3 + 3)).bind fun v74 =>
      (sv_sc xs L (x3 + 4)).bind fun v75 =>
      if v75 = 0 then
        ab_L_law_519 xs L k18 x1 x2 x3 x1 v72 v73 v74 0 h
      else
        ab_L_law_519 xs L k18 x1 x2 x3 x1 v72 v73 v74 1 h
    else
    if (v1 &&& 31) = 13 then
      (sv_sc xs L (x3 + 1)).bind fun v76 =>
      vt_b (ab_X12_walkerOf x1 v76 h) fun r77 h78 =>
      (sv_sc xs L (x3 + 1)).bind fun v79 =>
      vt_b (ab_X17_walkerOf x2 v79 h78) fun r80 h81 =>
      if r77 = r80 then
        ab_L_law_866 xs L k18 x1 x2 x3 h81
      else
        some (0, h81)
    else
    if (v1 &&& 31) = 14 then
      (sv_sc xs L (x3 + 1)).bind fun v82 =>
      (sv_sc xs L (x3 + 2)).bind fun v83 =>
      vt_b (ab_X12_sectorOf x1 v82 v83 h) fun r84 h85 =>
      (sv_sc xs L (x3 + 1)).bind fun v86 =>
      (sv_sc xs L (x3 + 2)).bind fun v87 =>
      vt_b (ab_X17_sectorOf x2 v86 v87 h85) fun r88 h89 =>
      if r84 = r88 then
        ab_L_law_866 xs L k18 x1 x2 x3 h89
      else
        some (0, h89)
    else
    if (v1 &&& 31) = 15 then
      (sv_sc xs L (x3 + 1)).bind fun v90 =>
      (sv_sc xs L (x3 + 2)).bind fun v91 =>
      vt_b (ab_X12_pixelAt x1 v90 v91 h) fun r92 h93 =>
      (sv_sc xs L (x3 + 1)).bind fun v94 =>
      (sv_sc xs L (x3 + 2)).bind fun v95 =>
      vt_b (ab_X17_pixelAt x2 v94 v95 h93) fun r96 h97 =>
      if r92 = r96 then
        ab_L_law_866 xs L k18 x1 x2 x3 h97
      else
        some (0, h97)
    else
    if (v1 &&& 31) = 16 then
      (sv_sc xs L (x3 + 1)).bind fun v98 =>
      (sv_sc xs L (x3 + 2)).bind fun v99 =>
      vt_b (ab_X12_surfaceAt x1 v98 v99 h) fun r100 h101 =>
      (sv_sc xs L (x3 + 1)).bind fun v102 =>
      (sv_sc xs L (x3 + 2)).bind fun v103 =>
      vt_b (ab_X17_surfaceAt x2 v102 v103 h101) fun r104 h105 =>
      if r100 = r104 then
        ab_L_law_866 xs L k18 x1 x2 x3 h105
      else
        some (0, h105)
    else
    if (v1 &&& 31) = 17 then
      (sv_sc xs L (x3 + 1)).bind fun v106 =>
      (sv_sc xs L (x3 + 2)).bind fun v107 =>
      vt_b (ab_X12_metAt x1 v106 v107 h) fun r108 h109 =>
      (sv_sc xs L (x3 + 1)).bind fun v110 =>
      (sv_sc xs L (x3 + 2)).bind fun v111 =>
      vt_b (ab_X17_metAt x2 v110 v111 h109) fun r112 h113 =>
      if r108 = r112 then
        ab_L_law_866 xs L k18 x1 x2 x3 h113
      else
        some (0, h113)
    else
    if (v1 &&& 31) = 18 then
      vt_b (ab_X12_frameOf x1 h) fun r114 h115 =>
      vt_b (ab_X17_frameOf x2 h115) fun r116 h117 =>
      if (lg_cmp r114 r116) = 0 then
        ab_L_law_866 xs L k18 x1 x2 x3 h117
      else
        some (0, h117)
    else
    if (v1 &&& 31) = 19 then
      (sv_sc xs L (x3 + 1)).bind fun v118 =>
      (sv_sc xs L (x3 + 2)).bind fun v119 =>
      vt_b (ab_X12_nodeOf x1 v118 v119 h) fun r120 h121 =>
      (sv_sc xs L (x3 + 1)).bind fun v122 =>
      (sv_sc xs L (x3 + 2)).bind fun v123 =>
      vt_b (ab_X17_nodeOf x2 v122 v123 h121) fun r124 h125 =>
      if r120 = r124 then
        ab_L_law_866 xs L k18 x1 x2 x3 h125
      else
        some (0, h125)
    else
    if (v1 &&& 31) = 20 then
      (sv_sc xs L (x3 + 1)).bind fun v126 =>
      (sv_sc xs L (x3 + 2)).bind fun v127 =>
      vt_b (ab_X12_leafOf x1 v126 v127 h) fun r128 h129 =>
      (sv_sc xs L (x3 + 1)).bind fun v130 =>
      (sv_sc xs L (x3 + 2)).bind fun v131 =>
      vt_b (ab_X17_leafOf x2 v130 v131 h129) fun r132 h133 =>
      if r128 = r132 then
        ab_L_law_866 xs L k18 x1 x2 x3 h133
      else
        some (0, h133)
    else
    if (v1 &&& 31) = 21 then
      (sv_sc xs L (x3 + 1)).bind fun v134 =>
      (sv_sc xs L (x3 + 2)).bind fun v135 =>
      if v135 = 0 then
        ab_L_law_813 xs L k18 x1 x2 x3 x1 v134 0 h
      else
        ab_L_law_813 xs L k18 x1 x2 x3 x1 v134 1 h
    else
    if (v1 &&& 31) = 22 then
      (sv_sc xs L (x3 + 1)).bind fun v136 =>
      vt_b (ab_X12_lookAt x1 v136 h) fun r137 h138 =>
      (sv_sc xs L (x3 + 1)).bind fun v139 =>
      vt_b (ab_X17_lookAt x2 v139 h138) fun r140 h141 =>
      if r137 = r140 then
        ab_L_law_866 xs L k18 x1 x2 x3 h141
      else
        some (0, h141)
    else
    ab_L_law_866 xs L k18 x1 x2 x3 h

def ab_L_law_18 (xs : Nat → Int32) (L : Nat) : Nat → Nat → Nat → Int32 → vt_S → Option (Int32 × vt_S)
  | 0, _, _, _, _ => none
  | sv_n + 1, x1, x2, x3, h => ab_L_law_18b xs L (ab_L_law_18 xs L sv_n) x1 x2 x3 h

