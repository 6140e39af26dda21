def fn_J13_signum_95d88 (x0 : Int64) (h : sv_H) : Option (Int32 × sv_H) :=
  some (Int64.toInt32 ((x0 >>> (Int32.toInt64 63 &&& 63)) ||| (UInt64.toInt64 (Int64.toUInt64 (-x0) >>> (Int64.toUInt64 (Int32.toInt64 63) &&& Int64.toUInt64 63)))), h)

def fn_J6_signum_0f7a4 (x0 : Int32) (h : sv_H) : Option (Int32 × sv_H) :=
  some ((x0 >>> (31 &&& 31)) ||| (UInt32.toInt32 (Int32.toUInt32 (-x0) >>> (Int32.toUInt32 31 &&& Int32.toUInt32 31))), h)

def fn_J7_copyOf_59c91 (x0 : Nat) (x1 : Int32) (h : sv_H) : Option (Nat × sv_H) :=
  (sv_len h 901 x0).bind fun v1 =>
  if x1 = v1 then
    none
  else
    sv_na h 901 x1 fun a2 h3 =>
    (sv_len h3 901 x0).bind fun v4 =>
    sv_let (sv_min v4 x1) fun r5 =>
    (sv_copy h3 901 x0 0 a2 0 r5).bind fun h6 =>
    some (a2, h6)

def fn_J7_copyOf_c38d5 (x0 : Nat) (x1 : Int32) (h : sv_H) : Option (Nat × sv_H) :=
  (sv_len h 902 x0).bind fun v1 =>
  if x1 = v1 then
    none
  else
    sv_na h 902 x1 fun a2 h3 =>
    (sv_len h3 902 x0).bind fun v4 =>
    sv_let (sv_min v4 x1) fun r5 =>
    (sv_copy h3 902 x0 0 a2 0 r5).bind fun h6 =>
    some (a2, h6)

def fn_J7_fill_53178_5b (k5 : Nat → Int32 → Int32 → Int32 → sv_H → Option (Unit × sv_H)) (x0 : Nat) (x1 : Int32) (x2 : Int32) (x3 : Int32) (h : sv_H) : Option (Unit × sv_H) :=
  if x3 ≤ x2 then
    some ((), h)
  else
    (sv_sI h x0 x2 x1).bind fun h1 =>
    k5 x0 x1 (x2 + 1) x3 h1

def fn_J7_fill_53178_5 : Nat → Nat → Int32 → Int32 → Int32 → sv_H → Option (Unit × sv_H)
  | 0, _, _, _, _, _ => none
  | sv_n + 1, x0, x1, x2, x3, h => fn_J7_fill_53178_5b (fn_J7_fill_53178_5 sv_n) x0 x1 x2 x3 h

def fn_J7_fill_53178 (x0 : Nat) (x1 : Int32) (h : sv_H) : Option (Unit × sv_H) :=
  (sv_len h 901 x0).bind fun v1 =>
  fn_J7_fill_53178_5 sv_fuel x0 x1 0 v1 h

def fn_J9_floorDiv_7cf53_21 (x2 : Int32) (h : sv_H) : Option (Int32 × sv_H) :=
  some (x2, h)

def fn_J9_floorDiv_7cf53 (x0 : Int32) (x1 : Int32) (h : sv_H) : Option (Int32 × sv_H) :=
  if x1 = 0 then none else
  if 0 ≤ (x0 ^^^ x1) then
    fn_J9_floorDiv_7cf53_21 (x0 / x1) h
  else
    if ((x0 / x1) * x1) = x0 then
      fn_J9_floorDiv_7cf53_21 (x0 / x1) h
    else
      some ((x0 / x1) - 1, h)

def fn_J9_floorDiv_f86c9_27 (x4 : Int64) (h : sv_H) : Option (Int64 × sv_H) :=
  some (x4, h)

def fn_J9_floorDiv_f86c9 (x0 : Int64) (x2 : Int64) (h : sv_H) : Option (Int64 × sv_H) :=
  if x2 = 0 then none else
  if 0 ≤ (lg_cmp (x0 ^^^ x2) 0) then
    fn_J9_floorDiv_f86c9_27 (x0 / x2) h
  else
    if (lg_cmp ((x0 / x2) * x2) x0) = 0 then
      fn_J9_floorDiv_f86c9_27 (x0 / x2) h
    else
      some ((x0 / x2) - 1, h)

def fn_J9_floorMod_7cf53_18 (x2 : Int32) (h : sv_H) : Option (Int32 × sv_H) :=
  some (x2, h)

def fn_J9_floorMod_7cf53 (x0 : Int32) (x1 : Int32) (h : sv_H) : Option (Int32 × sv_H) :=
  if x1 = 0 then none else
  if 0 ≤ (x0 ^^^ x1) then
    fn_J9_floorMod_7cf53_18 (x0 - x0 / x1 * x1) h
  else
    if (x0 - x0 / x1 * x1) = 0 then
      fn_J9_floorMod_7cf53_18 (x0 - x0 / x1 * x1) h
    else
      some ((x0 - x0 / x1 * x1) + x1, h)

def fn_J9_multiplyHigh_f86c9 (x0 : Int64) (x2 : Int64) (h : sv_H) : Option (Int64 × sv_H) :=
  some ((((x0 >>> (Int32.toInt64 32 &&& 63)) * (x2 >>> (Int32.toInt64 32 &&& 63))) + ((((x0 >>> (Int32.toInt64 32 &&& 63)) * (x2 &&& 4294967295)) + (UInt64.toInt64 (Int64.toUInt64 ((x0 &&& 4294967295) * (x2 &&& 4294967295)) >>> (Int64.toUInt64 (Int32.toInt64 32) &&& Int64.toUInt64 63)))) >>> (Int32.toInt64 32 &&& 63))) + ((((((x0 >>> (Int32.toInt64 32 &&& 63)) * (x2 &&& 4294967295)) + (UInt64.toInt64 (Int64.toUInt64 ((x0 &&& 4294967295) * (x2 &&& 4294967295)) >>> (Int64.toUInt64 (Int32.toInt64 32) &&& Int64.toUInt64 63)))) &&& 4294967295) + ((x0 &&& 4294967295) * (x2 >>> (Int32.toInt64 32 &&& 63)))) >>> (Int32.toInt64 32 &&& 63)), h)

def fn_X0_init (x0 : Nat) (h : sv_H) : Option (Unit × sv_H) :=
  sv_kd h 1 x0 (
  sv_na h 901 64 fun a1 h2 =>
  (sv_pP h2 1 100 x0 a1).bind fun h3 =>
  some ((), h3)
  )

def fn_X4_init (x0 : Nat) (x1 : Nat) (h : sv_H) : Option (Unit × sv_H) :=
  sv_kd h 5 x0 (
  (sv_pI h 5 503 x0 ((-1))).bind fun h1 =>
  (sv_pP h1 5 500 x0 x1).bind fun h2 =>
  some ((), h2)
  )

def fn_X1_init (x0 : Nat) (h : sv_H) : Option (Unit × sv_H) :=
  sv_kd h 2 x0 (
  sv_na h 901 128 fun a1 h2 =>
  (sv_pP h2 2 200 x0 a1).bind fun h3 =>
  sv_na h3 901 128 fun a4 h5 =>
  (sv_pP h5 2 201 x0 a4).bind fun h6 =>
  sv_na h6 902 128 fun a7 h8 =>
  (sv_pP h8 2 202 x0 a7).bind fun h9 =>
  sv_na h9 902 128 fun a10 h11 =>
  (sv_pP h11 2 203 x0 a10).bind fun h12 =>
  sv_na h12 902 128 fun a13 h14 =>
  (sv_pP h14 2 204 x0 a13).bind fun h15 =>
  sv_na h15 902 128 fun a16 h17 =>
  (sv_pP h17 2 205 x0 a16).bind fun h18 =>
  some ((), h18)
  )

def fn_X8_init (x0 : Nat) (h : sv_H) : Option (Unit × sv_H) :=
  sv_kd h 9 x0 (
  sv_new h 2 7 fun a1 h2 =>
  sv_b (fn_X1_init a1 h2) fun _ h3 =>
  (sv_pP h3 9 900 x0 a1).bind fun h4 =>
  sv_na h4 901 128 fun a5 h6 =>
  (sv_pP h6 9 901 x0 a5).bind fun h7 =>
  sv_na h7 901 128 fun a8 h9 =>
  (sv_pP h9 9 902 x0 a8).bind fun h10 =>
  sv_na h10 901 128 fun a11 h12 =>
  (sv_pP h12 9 903 x0 a11).bind fun h13 =>
  sv_na h13 901 128 fun a14 h15 =>
  (sv_pP h15 9 904 x0 a14).bind fun h16 =>
  sv_na h16 901 128 fun a17 h18 =>
  (sv_pP h18 9 905 x0 a17).bind fun h19 =>
  sv_na h19 901 128 fun a20 h21 =>
  (sv_pP h21 9 906 x0 a20).bind fun h22 =>
  sv_na h22 901 130 fun a23 h24 =>
  (sv_pP h24 9 907 x0 a23).bind fun h25 =>
  sv_na h25 901 130 fun a26 h27 =>
  (sv_pP h27 9 908 x0 a26).bind fun h28 =>
  sv_na h28 903 130 fun a29 h30 =>
  (sv_pP h30 9 909 x0 a29).bind fun h31 =>
  some ((), h31)
  )

def fn_X7_init (x0 : Nat) (h : sv_H) : Option (Unit × sv_H) :=
  sv_kd h 8 x0 (
  some ((), h)
  )

def fn_X6_init (x0 : Nat) (h : sv_H) : Option (Unit × sv_H) :=
  sv_kd h 7 x0 (
  (sv_pI h 7 709 x0 ((-1))).bind fun h1 =>
  some ((), h1)
  )

def fn_X11_init (x0 : Nat) (h : sv_H) : Option (Unit × sv_H) :=
  sv_kd h 12 x0 (
  sv_na h 901 6 fun a1 h2 =>
  (sv_pP h2 12 1211 x0 a1).bind fun h3 =>
  some ((), h3)
  )

def fn_X2_init_116b (k116 : Nat → Int32 → sv_H → Option (Unit × sv_H)) (x0 : Nat) (x1 : Int32) (h : sv_H) : Option (Unit × sv_H) :=
  if 128 ≤ x1 then
    some ((), h)
  else
    (sv_gP h 3 308 x0).bind fun v1 =>
    sv_new h 12 12 fun a2 h3 =>
    sv_b (fn_X11_init a2 h3) fun _ h4 =>
    (sv_sP 922 h4 v1 x1 a2).bind fun h5 =>
    k116 x0 (x1 + 1) h5

def fn_X2_init_116 : Nat → Nat → Int32 → sv_H → Option (Unit × sv_H)
  | 0, _, _, _ => none
  | sv_n + 1, x0, x1, h => fn_X2_init_116b (fn_X2_init_116 sv_n) x0 x1 h

def fn_X2_init_89b (k89 : Nat → Int32 → sv_H → Option (Unit × sv_H)) (x0 : Nat) (x1 : Int32) (h : sv_H) : Option (Unit × sv_H) :=
  if 32 ≤ x1 then
    fn_X2_init_116 sv_fuel x0 0 h
  else
    (sv_gP h 3 307 x0).bind fun v1 =>
    sv_new h 7 14 fun a2 h3 =>
    sv_b (fn_X6_init a2 h3) fun _ h4 =>
    (sv_sP 917 h4 v1 x1 a2).bind fun h5 =>
    k89 x0 (x1 + 1) h5

def fn_X2_init_89 : Nat → Nat → Int32 → sv_H → Option (Unit × sv_H)
  | 0, _, _, _ => none
  | sv_n + 1, x0, x1, h => fn_X2_init_89b (fn_X2_init_89 sv_n) x0 x1 h

def fn_X2_init (x0 : Nat) (h : sv_H) : Option (Unit × sv_H) :=
  sv_kd h 3 x0 (
  sv_new h 1 2 fun a1 h2 =>
  sv_b (fn_X0_init a1 h2) fun _ h3 =>
  (sv_pP h3 3 300 x0 a1).bind fun h4 =>
  sv_new h4 8 4 fun a5 h6 =>
  sv_b (fn_X7_init a5 h6) fun _ h7 =>
  (sv_pP h7 3 301 x0 a5).bind fun h8 =>
  sv_na h8 901 128 fun a9 h10 =>
  (sv_pP h10 3 302 x0 a9).bind fun h11 =>
  sv_na h11 901 128 fun a12 h13 =>
  (sv_pP h13 3 303 x0 a12).bind fun h14 =>
  sv_na h14 901 16 fun a15 h16 =>
  (sv_pP h16 3 304 x0 a15).bind fun h17 =>
  sv_na h17 901 16 fun a18 h19 =>
  (sv_pP h19 3 305 x0 a18).bind fun h20 =>
  sv_na h20 901 16 fun a21 h22 =>
  (sv_pP h22 3 306 x0 a21).bind fun h23 =>
  sv_na h23 917 32 fun a24 h25 =>
  (sv_pP h25 3 307 x0 a24).bind fun h26 =>
  sv_na h26 922 128 fun a27 h28 =>
  (sv_pP h28 3 308 x0 a27).bind fun h29 =>
  fn_X2_init_89 sv_fuel x0 0 h29
  )

def fn_X3_init (x0 : Nat) (h : sv_H) : Option (Unit × sv_H) :=
  sv_kd h 4 x0 (
  sv_na h 901 128 fun a1 h2 =>
  (sv_pP h2 4 400 x0 a1).bind fun h3 =>
  sv_na h3 903 128 fun a4 h5 =>
  (sv_pP h5 4 401 x0 a4).bind fun h6 =>
  sv_na h6 902 128 fun a7 h8 =>
  (sv_pP h8 4 402 x0 a7).bind fun h9 =>
  sv_na h9 902 128 fun a10 h11 =>
  (sv_pP h11 4 403 x0 a10).bind fun h12 =>
  sv_na h12 902 128 fun a13 h14 =>
  (sv_pP h14 4 404 x0 a13).bind fun h15 =>
  sv_na h15 902 128 fun a16 h17 =>
  (sv_pP h17 4 405 x0 a16).bind fun h18 =>
  some ((), h18)
  )

def fn_X10_init (x0 : Nat) (x1 : Nat) (x2 : Nat) (h : sv_H) : Option (Unit × sv_H) :=
  sv_kd h 11 x0 (
  (sv_pP h 11 1100 x0 x1).bind fun h1 =>
  (sv_pP h1 11 1101 x0 x2).bind fun h2 =>
  some ((), h2)
  )

def fn_X9_init (x0 : Nat) (x1 : Nat) (h : sv_H) : Option (Unit × sv_H) :=
  sv_kd h 10 x0 (
  sv_na h 901 48 fun a1 h2 =>
  (sv_pP h2 10 1001 x0 a1).bind fun h3 =>
  sv_na h3 901 48 fun a4 h5 =>
  (sv_pP h5 10 1002 x0 a4).bind fun h6 =>
  sv_na h6 901 128 fun a7 h8 =>
  (sv_pP h8 10 1003 x0 a7).bind fun h9 =>
  (sv_pP h9 10 1000 x0 x1).bind fun h10 =>
  some ((), h10)
  )

def fn_X5_init (x0 : Nat) (h : sv_H) : Option (Unit × sv_H) :=
  sv_kd h 6 x0 (
  sv_new h 8 4 fun a1 h2 =>
  sv_b (fn_X7_init a1 h2) fun _ h3 =>
  (sv_pP h3 6 600 x0 a1).bind fun h4 =>
  sv_na h4 901 64 fun a5 h6 =>
  (sv_pP h6 6 601 x0 a5).bind fun h7 =>
  some ((), h7)
  )

def fn_X12_init (x0 : Nat) (h : sv_H) : Option (Unit × sv_H) :=
  sv_kd h 13 x0 (
  sv_new h 1 2 fun a1 h2 =>
  sv_b (fn_X0_init a1 h2) fun _ h3 =>
  (sv_pP h3 13 1300 x0 a1).bind fun h4 =>
  sv_new h4 1 2 fun a5 h6 =>
  sv_b (fn_X0_init a5 h6) fun _ h7 =>
  (sv_pP h7 13 1301 x0 a5).bind fun h8 =>
  sv_new h8 5 4 fun a9 h10 =>
  (sv_gP h10 13 1300 x0).bind fun v11 =>
  sv_b (fn_X4_init a9 v11 h10) fun _ h12 =>
  (sv_pP h12 13 1302 x0 a9).bind fun h13 =>
  sv_new h13 9 18 fun a14 h15 =>
  sv_b (fn_X8_init a14 h15) fun _ h16 =>
  (sv_pP h16 13 1303 x0 a14).bind fun h17 =>
  sv_new h17 3 13 fun a18 h19 =>
  sv_b (fn_X2_init a18 h19) fun _ h20 =>
  (sv_pP h20 13 1306 x0 a18).bind fun h21 =>
  sv_new h21 3 13 fun a22 h23 =>
  sv_b (fn_X2_init a22 h23) fun _ h24 =>
  (sv_pP h24 13 1307 x0 a22).bind fun h25 =>
  sv_new h25 4 11 fun a26 h27 =>
  sv_b (fn_X3_init a26 h27) fun _ h28 =>
  sv_new h28 11 7 fun a29 h30 =>
  (sv_gP h30 13 1306 x0).bind fun v31 =>
  sv_b (fn_X10_init a29 a26 v31 h30) fun _ h32 =>
  (sv_pP h32 13 1304 x0 a29).bind fun h33 =>
  sv_new h33 10 8 fun a34 h35 =>
  sv_b (fn_X9_init a34 a26 h35) fun _ h36 =>
  (sv_pP h36 13 1305 x0 a34).bind fun h37 =>
  sv_new h37 6 3 fun a38 h39 =>
  sv_b (fn_X5_init a38 h39) fun _ h40 =>
  (sv_pP h40 13 1308 x0 a38).bind fun h41 =>
  sv_new h41 6 3 fun a42 h43 =>
  sv_b (fn_X5_init a42 h43) fun _ h44 =>
  (sv_pP h44 13 1309 x0 a42).bind fun h45 =>
  some ((), h45)
  )

def fn_X14_init (x0 : Nat) (h : sv_H) : Option (Unit × sv_H) :=
  sv_kd h 15 x0 (
  sv_na h 904 8192 fun a1 h2 =>
  (sv_pP h2 15 1500 x0 a1).bind fun h3 =>
  sv_na h3 904 8192 fun a4 h5 =>
  (sv_pP h5 15 1502 x0 a4).bind fun h6 =>
  (sv_pI h6 15 1505 x0 ((-1))).bind fun h7 =>
  (sv_pI h7 15 1506 x0 ((-1))).bind fun h8 =>
  some ((), h8)
  )

def fn_X15_init (x0 : Nat) (h : sv_H) : Option (Unit × sv_H) :=
  sv_kd h 16 x0 (
  sv_na h 901 4 fun a1 h2 =>
  (sv_pP h2 16 1600 x0 a1).bind fun h3 =>
  sv_na h3 901 1024 fun a4 h5 =>
  (sv_pP h5 16 1601 x0 a4).bind fun h6 =>
  sv_na h6 901 1024 fun a7 h8 =>
  (sv_pP h8 16 1602 x0 a7).bind fun h9 =>
  sv_na h9 901 1024 fun a10 h11 =>
  (sv_pP h11 16 1603 x0 a10).bind fun h12 =>
  sv_na h12 903 1024 fun a13 h14 =>
  (sv_pP h14 16 1604 x0 a13).bind fun h15 =>
  sv_na h15 901 4200 fun a16 h17 =>
  (sv_pP h17 16 1606 x0 a16).bind fun h18 =>
  sv_na h18 901 8192 fun a19 h20 =>
  (sv_pP h20 16 1608 x0 a19).bind fun h21 =>
  sv_na h21 901 4 fun a22 h23 =>
  (sv_pP h23 16 1610 x0 a22).bind fun h24 =>
  sv_na h24 901 1024 fun a25 h26 =>
  (sv_pP h26 16 1611 x0 a25).bind fun h27 =>
  sv_na h27 901 1024 fun a28 h29 =>
  (sv_pP h29 16 1612 x0 a28).bind fun h30 =>
  sv_na h30 901 1024 fun a31 h32 =>
  (sv_pP h32 16 1613 x0 a31).bind fun h33 =>
  sv_na h33 903 1024 fun a34 h35 =>
  (sv_pP h35 16 1614 x0 a34).bind fun h36 =>
  (sv_pI h36 16 1618 x0 ((-1))).bind fun h37 =>
  some ((), h37)
  )

def fn_X13_init (x0 : Nat) (h : sv_H) : Option (Unit × sv_H) :=
  sv_kd h 14 x0 (
  sv_na h 901 32 fun a1 h2 =>
  (sv_pP h2 14 1401 x0 a1).bind fun h3 =>
  sv_na h3 901 32 fun a4 h5 =>
  (sv_pP h5 14 1402 x0 a4).bind fun h6 =>
  sv_na h6 901 32 fun a7 h8 =>
  (sv_pP h8 14 1403 x0 a7).bind fun h9 =>
  sv_na h9 901 32 fun a10 h11 =>
  (sv_pP h11 14 1404 x0 a10).bind fun h12 =>
  sv_na h12 901 32 fun a13 h14 =>
  (sv_pP h14 14 1405 x0 a13).bind fun h15 =>
  sv_na h15 903 1024 fun a16 h17 =>
  (sv_pP h17 14 1406 x0 a16).bind fun h18 =>
  sv_na h18 901 32 fun a19 h20 =>
  (sv_pP h20 14 1408 x0 a19).bind fun h21 =>
  sv_na h21 901 32 fun a22 h23 =>
  (sv_pP h23 14 1409 x0 a22).bind fun h24 =>
  sv_na h24 901 32 fun a25 h26 =>
  (sv_pP h26 14 1410 x0 a25).bind fun h27 =>
  sv_na h27 901 32 fun a28 h29 =>
  (sv_pP h29 14 1411 x0 a28).bind fun h30 =>
  sv_na h30 901 32 fun a31 h32 =>
  (sv_pP h32 14 1412 x0 a31).bind fun h33 =>
  sv_na h33 901 32 fun a34 h35 =>
  (sv_pP h35 14 1413 x0 a34).bind fun h36 =>
  sv_na h36 901 32 fun a37 h38 =>
  (sv_pP h38 14 1414 x0 a37).bind fun h39 =>
  (sv_pI h39 14 1416 x0 ((-1))).bind fun h40 =>
  some ((), h40)
  )

def fn_X16_init (x0 : Nat) (h : sv_H) : Option (Unit × sv_H) :=
  sv_kd h 17 x0 (
  sv_na h 903 128 fun a1 h2 =>
  (sv_pP h2 17 1700 x0 a1).bind fun h3 =>
  sv_na h3 901 128 fun a4 h5 =>
  (sv_pP h5 17 1701 x0 a4).bind fun h6 =>
  sv_na h6 901 128 fun a7 h8 =>
  (sv_pP h8 17 1702 x0 a7).bind fun h9 =>
  sv_na h9 901 128 fun a10 h11 =>
  (sv_pP h11 17 1703 x0 a10).bind fun h12 =>
  sv_na h12 901 128 fun a13 h14 =>
  (sv_pP h14 17 1704 x0 a13).bind fun h15 =>
  sv_na h15 901 16600 fun a16 h17 =>
  (sv_pP h17 17 1706 x0 a16).bind fun h18 =>
  sv_na h18 902 16600 fun a19 h20 =>
  (sv_pP h20 17 1707 x0 a19).bind fun h21 =>
  sv_na h21 902 16600 fun a22 h23 =>
  (sv_pP h23 17 1708 x0 a22).bind fun h24 =>
  sv_na h24 902 16600 fun a25 h26 =>
  (sv_pP h26 17 1709 x0 a25).bind fun h27 =>
  sv_na h27 902 16600 fun a28 h29 =>
  (sv_pP h29 17 1710 x0 a28).bind fun h30 =>
  sv_na h30 901 34000 fun a31 h32 =>
  (sv_pP h32 17 1712 x0 a31).bind fun h33 =>
  sv_na h33 901 280 fun a34 h35 =>
  (sv_pP h35 17 1713 x0 a34).bind fun h36 =>
  sv_na h36 901 280 fun a37 h38 =>
  (sv_pP h38 17 1714 x0 a37).bind fun h39 =>
  sv_na h39 901 280 fun a40 h41 =>
  (sv_pP h41 17 1715 x0 a40).bind fun h42 =>
  sv_na h42 901 280 fun a43 h44 =>
  (sv_pP h44 17 1716 x0 a43).bind fun h45 =>
  sv_na h45 901 8400 fun a46 h47 =>
  (sv_pP h47 17 1718 x0 a46).bind fun h48 =>
  sv_na h48 901 8400 fun a49 h50 =>
  (sv_pP h50 17 1719 x0 a49).bind fun h51 =>
  sv_na h51 901 8400 fun a52 h53 =>
  (sv_pP h53 17 1720 x0 a52).bind fun h54 =>
  sv_na h54 901 8400 fun a55 h56 =>
  (sv_pP h56 17 1721 x0 a55).bind fun h57 =>
  sv_na h57 901 8400 fun a58 h59 =>
  (sv_pP h59 17 1722 x0 a58).bind fun h60 =>
  sv_na h60 901 8400 fun a61 h62 =>
  (sv_pP h62 17 1723 x0 a61).bind fun h63 =>
  sv_na h63 901 16600 fun a64 h65 =>
  (sv_pP h65 17 1724 x0 a64).bind fun h66 =>
  some ((), h66)
  )

def fn_X17_init (x0 : Nat) (h : sv_H) : Option (Unit × sv_H) :=
  sv_kd h 18 x0 (
  sv_new h 15 10 fun a1 h2 =>
  sv_b (fn_X14_init a1 h2) fun _ h3 =>
  (sv_pP h3 18 1801 x0 a1).bind fun h4 =>
  sv_new h4 16 21 fun a5 h6 =>
  sv_b (fn_X15_init a5 h6) fun _ h7 =>
  (sv_pP h7 18 1802 x0 a5).bind fun h8 =>
  sv_new h8 14 18 fun a9 h10 =>
  sv_b (fn_X13_init a9 h10) fun _ h11 =>
  (sv_pP h11 18 1803 x0 a9).bind fun h12 =>
  sv_new h12 17 28 fun a13 h14 =>
  sv_b (fn_X16_init a13 h14) fun _ h15 =>
  (sv_pP h15 18 1804 x0 a13).bind fun h16 =>
  sv_na h16 901 8192 fun a17 h18 =>
  (sv_pP h18 18 1805 x0 a17).bind fun h19 =>
  (sv_pI h19 18 1808 x0 ((-1))).bind fun h20 =>
  sv_na h20 901 128 fun a21 h22 =>
  (sv_pP h22 18 1820 x0 a21).bind fun h23 =>
  sv_na h23 901 128 fun a24 h25 =>
  (sv_pP h25 18 1822 x0 a24).bind fun h26 =>
  sv_na h26 901 48 fun a27 h28 =>
  (sv_pP h28 18 1824 x0 a27).bind fun h29 =>
  sv_na h29 901 48 fun a30 h31 =>
  (sv_pP h31 18 1825 x0 a30).bind fun h32 =>
  sv_na h32 901 3072 fun a33 h34 =>
  (sv_pP h34 18 1826 x0 a33).bind fun h35 =>
  some ((), h35)
  )

def fn_X0_makeRoom_50 (h : sv_H) : Option (Unit × sv_H) :=
  some ((), h)

def fn_X0_makeRoom_29 (x0 : Nat) (x2 : Int32) (h : sv_H) : Option (Unit × sv_H) :=
  (sv_gP h 1 100 x0).bind fun v1 =>
  (sv_len h 901 v1).bind fun v2 =>
  if x2 ≤ v2 then
    fn_X0_makeRoom_50 h
  else
    (sv_gP h 1 100 x0).bind fun v3 =>
    sv_b (fn_J7_copyOf_59c91 v3 x2 h) fun r4 h5 =>
    (sv_pP h5 1 100 x0 r4).bind fun h6 =>
    fn_X0_makeRoom_50 h6

def fn_X0_makeRoom_8b (k8 : Nat → Int32 → Int32 → Int32 → sv_H → Option (Unit × sv_H)) (x0 : Nat) (x1 : Int32) (x2 : Int32) (x3 : Int32) (h : sv_H) : Option (Unit × sv_H) :=
  if 16 ≤ x3 then
    fn_X0_makeRoom_29 x0 x2 h
  else
    if x1 ≤ x2 then
      fn_X0_makeRoom_29 x0 x2 h
    else
      k8 x0 x1 (x2 * 2) (x3 + 1) h

def fn_X0_makeRoom_8 : Nat → Nat → Int32 → Int32 → Int32 → sv_H → Option (Unit × sv_H)
  | 0, _, _, _, _, _ => none
  | sv_n + 1, x0, x1, x2, x3, h => fn_X0_makeRoom_8b (fn_X0_makeRoom_8 sv_n) x0 x1 x2 x3 h

def fn_X0_makeRoom (x0 : Nat) (x1 : Int32) (h : sv_H) : Option (Unit × sv_H) :=
  sv_kd h 1 x0 (
  (sv_gP h 1 100 x0).bind fun v1 =>
  (sv_len h 901 v1).bind fun v2 =>
  fn_X0_makeRoom_8 sv_fuel x0 x1 v2 0 h
  )

def fn_X0_put_44 (h : sv_H) : Option (Unit × sv_H) :=
  some ((), h)

def fn_X0_put (x0 : Nat) (x1 : Int32) (h : sv_H) : Option (Unit × sv_H) :=
  sv_kd h 1 x0 (
  (sv_gI h 1 101 x0).bind fun v1 =>
  if 8192 ≤ v1 then
    fn_X0_put_44 h
  else
    (sv_gI h 1 101 x0).bind fun v2 =>
    sv_b (fn_X0_makeRoom x0 (v2 + 1) h) fun _ h3 =>
    (sv_gP h3 1 100 x0).bind fun v4 =>
    (sv_gI h3 1 101 x0).bind fun v5 =>
    (sv_sI h3 v4 v5 (x1 &&& 255)).bind fun h6 =>
    (sv_gI h6 1 101 x0).bind fun v7 =>
    (sv_pI h6 1 101 x0 (v7 + 1)).bind fun h8 =>
    fn_X0_put_44 h8
  )

def fn_X12_giveBytes_26 (h : sv_H) : Option (Int32 × sv_H) :=
  some (0, h)

def fn_X12_giveBytes_33b (k33 : Nat → Int64 → Int32 → sv_H → Option (Int32 × sv_H)) (x0 : Nat) (x1 : Int64) (x4 : Int32) (h : sv_H) : Option (Int32 × sv_H) :=
  if x4 < 0 then
    some (1, h)
  else
    (sv_gP h 13 1300 x0).bind fun v1 =>
    sv_b (fn_X0_put v1 ((Int64.toInt32 (UInt64.toInt64 (Int64.toUInt64 x1 >>> (Int64.toUInt64 (Int32.toInt64 (8 * x4)) &&& Int64.toUInt64 63)))) &&& 255) h) fun _ h2 =>
    k33 x0 x1 (x4 + (-1)) h2

def fn_X12_giveBytes_33 : Nat → Nat → Int64 → Int32 → sv_H → Option (Int32 × sv_H)
  | 0, _, _, _, _ => none
  | sv_n + 1, x0, x1, x4, h => fn_X12_giveBytes_33b (fn_X12_giveBytes_33 sv_n) x0 x1 x4 h

def fn_X12_giveBytes (x0 : Nat) (x1 : Int64) (x3 : Int32) (h : sv_H) : Option (Int32 × sv_H) :=
  sv_kd h 13 x0 (
  if x3 < 1 then
    fn_X12_giveBytes_26 h
  else
    if 8 < x3 then
      fn_X12_giveBytes_26 h
    else
      (sv_gP h 13 1300 x0).bind fun v1 =>
      (sv_gI h 1 101 v1).bind fun v2 =>
      if (v2 + x3) ≤ 8192 then
        fn_X12_giveBytes_33 sv_fuel x0 x1 (x3 - 1) h
      else
        fn_X12_giveBytes_26 h
  )

def fn_X17_giveBytes_31 (h : sv_H) : Option (Int32 × sv_H) :=
  some (0, h)

def fn_X17_giveBytes_38b (k38 : Nat → Int64 → Int32 → sv_H → Option (Int32 × sv_H)) (x0 : Nat) (x1 : Int64) (x4 : Int32) (h : sv_H) : Option (Int32 × sv_H) :=
  if x4 < 0 then
    some (1, h)
  else
    (sv_gP h 18 1801 x0).bind fun v1 =>
    (sv_gP h 15 1500 v1).bind fun v2 =>
    (sv_gP h 18 1801 x0).bind fun v3 =>
    (sv_gI h 15 1501 v3).bind fun v4 =>
    (sv_sB h v2 v4 (Int8.toInt32 (Int32.toInt8 (Int64.toInt32 (x1 >>> (Int32.toInt64 (8 * x4) &&& 63)))))).bind fun h5 =>
    (sv_gP h5 18 1801 x0).bind fun v6 =>
    (sv_gI h5 15 1501 v6).bind fun v7 =>
    (sv_pI h5 15 1501 v6 (v7 + 1)).bind fun h8 =>
    k38 x0 x1 (x4 + (-1)) h8

def fn_X17_giveBytes_38 : Nat → Nat → Int64 → Int32 → sv_H → Option (Int32 × sv_H)
  | 0, _, _, _, _ => none
  | sv_n + 1, x0, x1, x4, h => fn_X17_giveBytes_38b (fn_X17_giveBytes_38 sv_n) x0 x1 x4 h

def fn_X17_giveBytes (x0 : Nat) (x1 : Int64) (x3 : Int32) (h : sv_H) : Option (Int32 × sv_H) :=
  sv_kd h 18 x0 (
  (sv_pI h 18 1800 x0 0).bind fun h1 =>
  if x3 < 1 then
    fn_X17_giveBytes_31 h1
  else
    if 8 < x3 then
      fn_X17_giveBytes_31 h1
    else
      (sv_gP h1 18 1801 x0).bind fun v2 =>
      (sv_gI h1 15 1501 v2).bind fun v3 =>
      if (v3 + x3) ≤ 8192 then
        fn_X17_giveBytes_38 sv_fuel x0 x1 (x3 - 1) h1
      else
        fn_X17_giveBytes_31 h1
  )

def fn_X12_cutBytes_15 (h : sv_H) : Option (Int32 × sv_H) :=
  some (0, h)

def fn_X12_cutBytes (x0 : Nat) (x1 : Int32) (h : sv_H) : Option (Int32 × sv_H) :=
  sv_kd h 13 x0 (
  if x1 < 0 then
    fn_X12_cutBytes_15 h
  else
    (sv_gP h 13 1300 x0).bind fun v1 =>
    (sv_gI h 1 101 v1).bind fun v2 =>
    if x1 ≤ v2 then
      (sv_gP h 13 1300 x0).bind fun v3 =>
      (sv_pI h 1 101 v3 x1).bind fun h4 =>
      some (1, h4)
    else
      fn_X12_cutBytes_15 h
  )

def fn_X17_cutBytes_20 (h : sv_H) : Option (Int32 × sv_H) :=
  some (0, h)

def fn_X17_cutBytes (x0 : Nat) (x1 : Int32) (h : sv_H) : Option (Int32 × sv_H) :=
  sv_kd h 18 x0 (
  (sv_pI h 18 1800 x0 0).bind fun h1 =>
  if x1 < 0 then
    fn_X17_cutBytes_20 h1
  else
    (sv_gP h1 18 1801 x0).bind fun v2 =>
    (sv_gI h1 15 1501 v2).bind fun v3 =>
    if x1 ≤ v3 then
      (sv_gP h1 18 1801 x0).bind fun v4 =>
      (sv_pI h1 15 1501 v4 x1).bind fun h5 =>
      some (1, h5)
    else
      fn_X17_cutBytes_20 h1
  )

def fn_X12_pokeByte_15 (h : sv_H) : Option (Int32 × sv_H) :=
  some (0, h)

def fn_X12_pokeByte (x0 : Nat) (x1 : Int32) (x2 : Int32) (h : sv_H) : Option (Int32 × sv_H) :=
  sv_kd h 13 x0 (
  if x1 < 0 then
    fn_X12_pokeByte_15 h
  else
    (sv_gP h 13 1300 x0).bind fun v1 =>
    (sv_gI h 1 101 v1).bind fun v2 =>
    if x1 < v2 then
      (sv_gP h 13 1300 x0).bind fun v3 =>
      (sv_gP h 1 100 v3).bind fun v4 =>
      (sv_sI h v4 x1 (x2 &&& 255)).bind fun h5 =>
      some (1, h5)
    else
      fn_X12_pokeByte_15 h
  )

def fn_X17_pokeByte_20 (h : sv_H) : Option (Int32 × sv_H) :=
  some (0, h)

def fn_X17_pokeByte (x0 : Nat) (x1 : Int32) (x2 : Int32) (h : sv_H) : Option (Int32 × sv_H) :=
  sv_kd h 18 x0 (
  (sv_pI h 18 1800 x0 0).bind fun h1 =>
  if x1 < 0 then
    fn_X17_pokeByte_20 h1
  else
    (sv_gP h1 18 1801 x0).bind fun v2 =>
    (sv_gI h1 15 1501 v2).bind fun v3 =>
    if x1 < v3 then
      (sv_gP h1 18 1801 x0).bind fun v4 =>
      (sv_gP h1 15 1500 v4).bind fun v5 =>
      (sv_sB h1 v5 x1 (Int8.toInt32 (Int32.toInt8 x2))).bind fun h6 =>
      some (1, h6)
    else
      fn_X17_pokeByte_20 h1
  )

def fn_X4_begin (x0 : Nat) (h : sv_H) : Option (Unit × sv_H) :=
  sv_kd h 5 x0 (
  (sv_pI h 5 501 x0 0).bind fun h1 =>
  (sv_pI h1 5 502 x0 0).bind fun h2 =>
  (sv_pI h2 5 503 x0 ((-1))).bind fun h3 =>
  some ((), h3)
  )

def fn_X4_blame_17 (h : sv_H) : Option (Unit × sv_H) :=
  some ((), h)

def fn_X4_blame (x0 : Nat) (x1 : Int32) (x2 : Int32) (h : sv_H) : Option (Unit × sv_H) :=
  sv_kd h 5 x0 (
  (sv_gI h 5 502 x0).bind fun v1 =>
  if v1 = 0 then
    (sv_pI h 5 502 x0 x1).bind fun h2 =>
    (sv_pI h2 5 503 x0 x2).bind fun h3 =>
    fn_X4_blame_17 h3
  else
    fn_X4_blame_17 h
  )

def fn_X4_one (x0 : Nat) (h : sv_H) : Option (Int32 × sv_H) :=
  sv_kd h 5 x0 (
  (sv_gI h 5 502 x0).bind fun v1 =>
  if v1 = 0 then
    (sv_gI h 5 501 x0).bind fun v2 =>
    (sv_gP h 5 500 x0).bind fun v3 =>
    (sv_gI h 1 101 v3).bind fun v4 =>
    if v2 < v4 then
      (sv_gP h 5 500 x0).bind fun v5 =>
      (sv_gP h 1 100 v5).bind fun v6 =>
      (sv_gI h 5 501 x0).bind fun v7 =>
      (sv_lI h v6 v7).bind fun v8 =>
      (sv_gI h 5 501 x0).bind fun v9 =>
      (sv_pI h 5 501 x0 (v9 + 1)).bind fun h10 =>
      some (v8, h10)
    else
      (sv_gP h 5 500 x0).bind fun v11 =>
      (sv_gI h 1 101 v11).bind fun v12 =>
      sv_b (fn_X4_blame x0 1 v12 h) fun _ h13 =>
      some (0, h13)
  else
    some (0, h)
  )

def fn_X4_expect_19 (h : sv_H) : Option (Unit × sv_H) :=
  some ((), h)

def fn_X4_expect (x0 : Nat) (x1 : Int32) (x2 : Int32) (h : sv_H) : Option (Unit × sv_H) :=
  sv_kd h 5 x0 (
  (sv_gI h 5 501 x0).bind fun v1 =>
  sv_b (fn_X4_one x0 h) fun r2 h3 =>
  if r2 = x1 then
    fn_X4_expect_19 h3
  else
    sv_b (fn_X4_blame x0 x2 v1 h3) fun _ h4 =>
    fn_X4_expect_19 h4
  )

def fn_X4_bounded_29 (s0 : Int32) (h : sv_H) : Option (Int32 × sv_H) :=
  some (s0, h)

def fn_X4_bounded_17 (x0 : Nat) (x1 : Int32) (x2 : Int32) (h : sv_H) : Option (Int32 × sv_H) :=
  (sv_gI h 5 502 x0).bind fun v1 =>
  if v1 = 0 then
    fn_X4_bounded_29 x1 h
  else
    fn_X4_bounded_29 x2 h

def fn_X4_bounded_10 (x0 : Nat) (x1 : Int32) (x2 : Int32) (x4 : Int32) (h : sv_H) : Option (Int32 × sv_H) :=
  sv_b (fn_X4_blame x0 3 x4 h) fun _ h1 =>
  fn_X4_bounded_17 x0 x1 x2 h1

def fn_X4_bounded (x0 : Nat) (x1 : Int32) (x2 : Int32) (x3 : Int32) (x4 : Int32) (h : sv_H) : Option (Int32 × sv_H) :=
  sv_kd h 5 x0 (
  if x1 < x2 then
    fn_X4_bounded_10 x0 x1 x2 x4 h
  else
    if x1 ≤ x3 then
      fn_X4_bounded_17 x0 x1 x2 h
    else
      fn_X4_bounded_10 x0 x1 x2 x4 h
  )

def fn_X4_within (x0 : Nat) (x1 : Int32) (x2 : Int32) (h : sv_H) : Option (Int32 × sv_H) :=
  sv_kd h 5 x0 (
  (sv_gI h 5 501 x0).bind fun v1 =>
  sv_b (fn_X4_one x0 h) fun r2 h3 =>
  sv_b (fn_X4_bounded x0 r2 x1 x2 v1 h3) fun r4 h5 =>
  some (r4, h5)
  )

def fn_X4_well_12 (s0 : Int32) (h : sv_H) : Option (Int32 × sv_H) :=
  sv_rz s0 h

def fn_X4_well (x0 : Nat) (h : sv_H) : Option (Int32 × sv_H) :=
  sv_kd h 5 x0 (
  (sv_gI h 5 502 x0).bind fun v1 =>
  if v1 = 0 then
    fn_X4_well_12 1 h
  else
    fn_X4_well_12 0 h
  )

def fn_X4_pair (x0 : Nat) (h : sv_H) : Option (Int32 × sv_H) :=
  sv_kd h 5 x0 (
  sv_b (fn_X4_one x0 h) fun r1 h2 =>
  sv_b (fn_X4_one x0 h2) fun r3 h4 =>
  some (Int16.toInt32 (Int32.toInt16 ((256 * r1) + r3)), h4)
  )

def fn_X2_readVertex_56 (k20 : Nat → Nat → Int32 → Int32 → Int32 → Int32 → Int32 → sv_H → Option (Unit × sv_H)) (x0 : Nat) (x1 : Nat) (x2 : Int32) (x3 : Int32) (x4 : Int32) (x5 : Int32) (x6 : Int32) (h : sv_H) : Option (Unit × sv_H) :=
  k20 x0 x1 x2 x3 x4 x5 (x6 + 1) h

def fn_X2_readVertex_20b (k20 : Nat → Nat → Int32 → Int32 → Int32 → Int32 → Int32 → sv_H → Option (Unit × sv_H)) (x0 : Nat) (x1 : Nat) (x2 : Int32) (x3 : Int32) (x4 : Int32) (x5 : Int32) (x6 : Int32) (h : sv_H) : Option (Unit × sv_H) :=
  if x2 ≤ x6 then
    (sv_gP h 3 302 x0).bind fun v1 =>
    (sv_sI h v1 x2 x3).bind fun h2 =>
    (sv_gP h2 3 303 x0).bind fun v3 =>
    (sv_sI h2 v3 x2 x5).bind fun h4 =>
    some ((), h4)
  else
    (sv_gP h 3 302 x0).bind fun v5 =>
    (sv_lI h v5 x6).bind fun v6 =>
    if v6 = x3 then
      (sv_gP h 3 303 x0).bind fun v7 =>
      (sv_lI h v7 x6).bind fun v8 =>
      if v8 = x5 then
        sv_b (fn_X4_blame x1 3 x4 h) fun _ h9 =>
        fn_X2_readVertex_56 k20 x0 x1 x2 x3 x4 x5 x6 h9
      else
        fn_X2_readVertex_56 k20 x0 x1 x2 x3 x4 x5 x6 h
    else
      fn_X2_readVertex_56 k20 x0 x1 x2 x3 x4 x5 x6 h

def fn_X2_readVertex_20 : Nat → Nat → Nat → Int32 → Int32 → Int32 → Int32 → Int32 → sv_H → Option (Unit × sv_H)
  | 0, _, _, _, _, _, _, _, _ => none
  | sv_n + 1, x0, x1, x2, x3, x4, x5, x6, h => fn_X2_readVertex_20b (fn_X2_readVertex_20 sv_n) x0 x1 x2 x3 x4 x5 x6 h

def fn_X2_readVertex (x0 : Nat) (x1 : Nat) (x2 : Int32) (h : sv_H) : Option (Unit × sv_H) :=
  sv_kd h 3 x0 (
  sv_b (fn_X4_pair x1 h) fun r1 h2 =>
  (sv_gI h2 5 501 x1).bind fun v3 =>
  sv_b (fn_X4_pair x1 h2) fun r4 h5 =>
  fn_X2_readVertex_20 sv_fuel x0 x1 x2 r1 v3 r4 0 h5
  )

def fn_X2_readTexture_78 (h : sv_H) : Option (Unit × sv_H) :=
  some ((), h)

def fn_X2_readTexture_40b (k40 : Nat → Nat → Int32 → Int32 → sv_H → Option (Unit × sv_H)) (x0 : Nat) (x1 : Nat) (x2 : Int32) (x3 : Int32) (h : sv_H) : Option (Unit × sv_H) :=
  (sv_gP h 3 304 x0).bind fun v1 =>
  (sv_lI h v1 x2).bind fun v2 =>
  (sv_gP h 3 305 x0).bind fun v3 =>
  (sv_lI h v3 x2).bind fun v4 =>
  if (v2 * v4) ≤ x3 then
    fn_X2_readTexture_78 h
  else
    sv_b (fn_X4_well x1 h) fun r5 h6 =>
    if r5 = 0 then
      fn_X2_readTexture_78 h6
    else
      sv_b (fn_X4_within x1 0 15 h6) fun r7 h8 =>
      k40 x0 x1 x2 (x3 + 1) h8

def fn_X2_readTexture_40 : Nat → Nat → Nat → Int32 → Int32 → sv_H → Option (Unit × sv_H)
  | 0, _, _, _, _, _ => none
  | sv_n + 1, x0, x1, x2, x3, h => fn_X2_readTexture_40b (fn_X2_readTexture_40 sv_n) x0 x1 x2 x3 h

def fn_X2_readTexture (x0 : Nat) (x1 : Nat) (x2 : Int32) (h : sv_H) : Option (Unit × sv_H) :=
  sv_kd h 3 x0 (
  (sv_gP h 3 304 x0).bind fun v1 =>
  sv_b (fn_X4_within x1 0 4 h) fun r2 h3 =>
  (sv_sI h3 v1 x2 ((1 : Int32) <<< (r2 &&& 31))).bind fun h4 =>
  (sv_gP h4 3 305 x0).bind fun v5 =>
  sv_b (fn_X4_within x1 0 4 h4) fun r6 h7 =>
  (sv_sI h7 v5 x2 ((1 : Int32) <<< (r6 &&& 31))).bind fun h8 =>
  (sv_gP h8 3 306 x0).bind fun v9 =>
  (sv_gI h8 5 501 x1).bind fun v10 =>
  (sv_sI h8 v9 x2 v10).bind fun h11 =>
  fn_X2_readTexture_40 sv_fuel x0 x1 x2 0 h11
  )

def fn_X4_pairWithin (x0 : Nat) (x1 : Int32) (x2 : Int32) (h : sv_H) : Option (Int32 × sv_H) :=
  sv_kd h 5 x0 (
  (sv_gI h 5 501 x0).bind fun v1 =>
  sv_b (fn_X4_pair x0 h) fun r2 h3 =>
  sv_b (fn_X4_bounded x0 r2 x1 x2 v1 h3) fun r4 h5 =>
  some (r4, h5)
  )

def fn_X4_numberOrNone (x0 : Nat) (x1 : Int32) (h : sv_H) : Option (Int32 × sv_H) :=
  sv_kd h 5 x0 (
  (sv_gI h 5 501 x0).bind fun v1 =>
  sv_b (fn_X4_one x0 h) fun r2 h3 =>
  if r2 = 255 then
    some ((-1), h3)
  else
    sv_b (fn_X4_bounded x0 r2 0 (x1 - 1) v1 h3) fun r4 h5 =>
    some (r4, h5)
  )

def fn_X2_readSector_50 (x0 : Nat) (x1 : Nat) (x2 : Nat) (h : sv_H) : Option (Unit × sv_H) :=
  (sv_gI h 3 310 x0).bind fun v1 =>
  sv_b (fn_X4_within x1 0 (v1 - 1) h) fun r2 h3 =>
  (sv_pI h3 7 702 x2 r2).bind fun h4 =>
  (sv_gI h4 3 310 x0).bind fun v5 =>
  sv_b (fn_X4_numberOrNone x1 v5 h4) fun r6 h7 =>
  (sv_pI h7 7 703 x2 r6).bind fun h8 =>
  sv_b (fn_X4_within x1 0 15 h8) fun r9 h10 =>
  (sv_pI h10 7 704 x2 r9).bind fun h11 =>
  sv_b (fn_X4_within x1 0 3 h11) fun r12 h13 =>
  (sv_pI h13 7 705 x2 r12).bind fun h14 =>
  sv_b (fn_X4_one x1 h14) fun r15 h16 =>
  (sv_pI h16 7 706 x2 r15).bind fun h17 =>
  some ((), h17)

def fn_X2_readSector (x0 : Nat) (x1 : Nat) (x2 : Nat) (h : sv_H) : Option (Unit × sv_H) :=
  sv_kd h 3 x0 (
  sv_b (fn_X4_pairWithin x1 ((-1024)) 1024 h) fun r1 h2 =>
  (sv_pI h2 7 700 x2 r1).bind fun h3 =>
  (sv_gI h3 5 501 x1).bind fun v4 =>
  sv_b (fn_X4_pairWithin x1 ((-1024)) 1024 h3) fun r5 h6 =>
  (sv_pI h6 7 701 x2 r5).bind fun h7 =>
  (sv_gI h7 7 701 x2).bind fun v8 =>
  (sv_gI h7 7 700 x2).bind fun v9 =>
  if v9 < v8 then
    fn_X2_readSector_50 x0 x1 x2 h7
  else
    sv_b (fn_X4_blame x1 3 v4 h7) fun _ h10 =>
    fn_X2_readSector_50 x0 x1 x2 h10
  )

def fn_X2_readWall_164 (k116 : Nat → Nat → Nat → Int32 → sv_H → Option (Unit × sv_H)) (x0 : Nat) (x1 : Nat) (x2 : Nat) (x6 : Int32) (s0 : Nat) (s1 : Int32) (s2 : Nat) (s3 : Int32) (h : sv_H) : Option (Unit × sv_H) :=
  sv_b (fn_X4_numberOrNone s2 s3 h) fun r1 h2 =>
  (sv_sI h2 s0 s1 r1).bind fun h3 =>
  k116 x0 x1 x2 (x6 + 1) h3

def fn_X2_readWall_142 (k116 : Nat → Nat → Nat → Int32 → sv_H → Option (Unit × sv_H)) (x0 : Nat) (x1 : Nat) (x2 : Nat) (x6 : Int32) (s0 : Int32) (h : sv_H) : Option (Unit × sv_H) :=
  (sv_gP h 12 1211 x2).bind fun v1 =>
  if s0 = 0 then
    fn_X2_readWall_164 k116 x0 x1 x2 x6 v1 x6 x1 0 h
  else
    (sv_gI h 3 310 x0).bind fun v2 =>
    fn_X2_readWall_164 k116 x0 x1 x2 x6 v1 x6 x1 v2 h

def fn_X2_readWall_137 (k116 : Nat → Nat → Nat → Int32 → sv_H → Option (Unit × sv_H)) (x0 : Nat) (x1 : Nat) (x2 : Nat) (x6 : Int32) (h : sv_H) : Option (Unit × sv_H) :=
  fn_X2_readWall_142 k116 x0 x1 x2 x6 1 h

def fn_X2_readWall_116b (k116 : Nat → Nat → Nat → Int32 → sv_H → Option (Unit × sv_H)) (x0 : Nat) (x1 : Nat) (x2 : Nat) (x6 : Int32) (h : sv_H) : Option (Unit × sv_H) :=
  if 6 ≤ x6 then
    sv_b (fn_X4_one x1 h) fun r1 h2 =>
    (sv_pI h2 12 1206 x2 (r1 >>> (4 &&& 31))).bind fun h3 =>
    (sv_pI h3 12 1207 x2 (r1 &&& 15)).bind fun h4 =>
    sv_b (fn_X4_within x1 0 3 h4) fun r5 h6 =>
    (sv_pI h6 12 1208 x2 r5).bind fun h7 =>
    sv_b (fn_X4_within x1 0 5 h7) fun r8 h9 =>
    (sv_pI h9 12 1209 x2 r8).bind fun h10 =>
    sv_b (fn_X4_one x1 h10) fun r11 h12 =>
    (sv_pI h12 12 1210 x2 r11).bind fun h13 =>
    some ((), h13)
  else
    if x6 < 3 then
      fn_X2_readWall_137 k116 x0 x1 x2 x6 h
    else
      (sv_gI h 12 1205 x2).bind fun v14 =>
      if v14 = ((-1)) then
        fn_X2_readWall_142 k116 x0 x1 x2 x6 0 h
      else
        fn_X2_readWall_137 k116 x0 x1 x2 x6 h

def fn_X2_readWall_116 : Nat → Nat → Nat → Nat → Int32 → sv_H → Option (Unit × sv_H)
  | 0, _, _, _, _, _ => none
  | sv_n + 1, x0, x1, x2, x6, h => fn_X2_readWall_116b (fn_X2_readWall_116 sv_n) x0 x1 x2 x6 h

def fn_X2_readWall_44 (x0 : Nat) (x1 : Nat) (x2 : Nat) (x3 : Int32) (x5 : Int32) (h : sv_H) : Option (Unit × sv_H) :=
  (sv_gP h 3 302 x0).bind fun v1 =>
  (sv_lI h v1 x3).bind fun v2 =>
  (sv_pI h 12 1200 x2 v2).bind fun h3 =>
  (sv_gP h3 3 303 x0).bind fun v4 =>
  (sv_lI h3 v4 x3).bind fun v5 =>
  (sv_pI h3 12 1201 x2 v5).bind fun h6 =>
  (sv_gP h6 3 302 x0).bind fun v7 =>
  (sv_lI h6 v7 x5).bind fun v8 =>
  (sv_pI h6 12 1202 x2 v8).bind fun h9 =>
  (sv_gP h9 3 303 x0).bind fun v10 =>
  (sv_lI h9 v10 x5).bind fun v11 =>
  (sv_pI h9 12 1203 x2 v11).bind fun h12 =>
  (sv_gI h12 3 311 x0).bind fun v13 =>
  sv_b (fn_X4_within x1 0 (v13 - 1) h12) fun r14 h15 =>
  (sv_pI h15 12 1204 x2 r14).bind fun h16 =>
  (sv_gI h16 3 311 x0).bind fun v17 =>
  sv_b (fn_X4_numberOrNone x1 v17 h16) fun r18 h19 =>
  (sv_pI h19 12 1205 x2 r18).bind fun h20 =>
  fn_X2_readWall_116 sv_fuel x0 x1 x2 0 h20

def fn_X2_readWall (x0 : Nat) (x1 : Nat) (x2 : Nat) (h : sv_H) : Option (Unit × sv_H) :=
  sv_kd h 3 x0 (
  (sv_gI h 3 309 x0).bind fun v1 =>
  sv_b (fn_X4_within x1 0 (v1 - 1) h) fun r2 h3 =>
  (sv_gI h3 5 501 x1).bind fun v4 =>
  (sv_gI h3 3 309 x0).bind fun v5 =>
  sv_b (fn_X4_within x1 0 (v5 - 1) h3) fun r6 h7 =>
  if r2 = r6 then
    sv_b (fn_X4_blame x1 3 v4 h7) fun _ h8 =>
    fn_X2_readWall_44 x0 x1 x2 r2 r6 h8
  else
    fn_X2_readWall_44 x0 x1 x2 r2 r6 h7
  )

def fn_X4_readStart (x0 : Nat) (x1 : Nat) (x2 : Int32) (h : sv_H) : Option (Unit × sv_H) :=
  sv_kd h 5 x0 (
  sv_b (fn_X4_pair x0 h) fun r1 h2 =>
  (sv_pI h2 8 800 x1 r1).bind fun h3 =>
  sv_b (fn_X4_pair x0 h3) fun r4 h5 =>
  (sv_pI h5 8 801 x1 r4).bind fun h6 =>
  sv_b (fn_X4_within x0 0 63 h6) fun r7 h8 =>
  (sv_pI h8 8 802 x1 r7).bind fun h9 =>
  sv_b (fn_X4_within x0 0 (x2 - 1) h9) fun r10 h11 =>
  (sv_pI h11 8 803 x1 r10).bind fun h12 =>
  some ((), h12)
  )

def fn_X2_readCheck_7b (k7 : Nat → Int32 → Int32 → Int32 → sv_H → Option (Unit × sv_H)) (x1 : Nat) (x2 : Int32) (x3 : Int32) (x4 : Int32) (h : sv_H) : Option (Unit × sv_H) :=
  (sv_gI h 5 501 x1).bind fun v1 =>
  if v1 ≤ x4 then
    sv_b (fn_X4_expect x1 x2 4 h) fun _ h2 =>
    sv_b (fn_X4_expect x1 x3 4 h2) fun _ h3 =>
    some ((), h3)
  else
    (sv_gP h 5 500 x1).bind fun v4 =>
    (sv_gP h 1 100 v4).bind fun v5 =>
    (sv_lI h v5 x4).bind fun v6 =>
    k7 x1 ((x2 + v6) - (x2 + v6) / 251 * 251) ((x3 + ((x2 + v6) - (x2 + v6) / 251 * 251)) - (x3 + ((x2 + v6) - (x2 + v6) / 251 * 251)) / 251 * 251) (x4 + 1) h

def fn_X2_readCheck_7 : Nat → Nat → Int32 → Int32 → Int32 → sv_H → Option (Unit × sv_H)
  | 0, _, _, _, _, _ => none
  | sv_n + 1, x1, x2, x3, x4, h => fn_X2_readCheck_7b (fn_X2_readCheck_7 sv_n) x1 x2 x3 x4 h

def fn_X2_readCheck (x0 : Nat) (x1 : Nat) (h : sv_H) : Option (Unit × sv_H) :=
  sv_kd h 3 x0 (
  fn_X2_readCheck_7 sv_fuel x1 0 0 0 h
  )

def fn_X4_expectEnd_23 (h : sv_H) : Option (Unit × sv_H) :=
  some ((), h)

def fn_X4_expectEnd (x0 : Nat) (x1 : Int32) (h : sv_H) : Option (Unit × sv_H) :=
  sv_kd h 5 x0 (
  (sv_gI h 5 501 x0).bind fun v1 =>
  (sv_gP h 5 500 x0).bind fun v2 =>
  (sv_gI h 1 101 v2).bind fun v3 =>
  if v3 ≤ v1 then
    fn_X4_expectEnd_23 h
  else
    (sv_gI h 5 501 x0).bind fun v4 =>
    sv_b (fn_X4_blame x0 x1 v4 h) fun _ h5 =>
    fn_X4_expectEnd_23 h5
  )

def fn_X12_cross (x0 : Int64) (x2 : Int64) (x4 : Int64) (x6 : Int64) (h : sv_H) : Option (Int64 × sv_H) :=
  some ((x0 * x6) - (x2 * x4), h)

def fn_X11_goesAlong_53 (s0 : Int32) (h : sv_H) : Option (Int32 × sv_H) :=
  sv_rz s0 h

def fn_X11_goesAlong_52 (h : sv_H) : Option (Int32 × sv_H) :=
  fn_X11_goesAlong_53 0 h

def fn_X11_goesAlong (x0 : Int64) (x2 : Int64) (x4 : Int64) (x6 : Int64) (x8 : Int64) (x10 : Int64) (h : sv_H) : Option (Int32 × sv_H) :=
  sv_b (fn_X12_cross (x4 - x0) (x6 - x2) (x8 - x0) (x10 - x2) h) fun r1 h2 =>
  if (lg_cmp r1 0) = 0 then
    if (lg_cmp (((x4 - x0) * (x8 - x0)) + ((x6 - x2) * (x10 - x2))) 0) ≤ 0 then
      fn_X11_goesAlong_52 h2
    else
      fn_X11_goesAlong_53 1 h2
  else
    fn_X11_goesAlong_52 h2

def fn_X11_reachesBox_66 (s0 : Int32) (h : sv_H) : Option (Int32 × sv_H) :=
  sv_rz s0 h

def fn_X11_reachesBox_65 (h : sv_H) : Option (Int32 × sv_H) :=
  fn_X11_reachesBox_66 0 h

def fn_X11_reachesBox (x0 : Nat) (x1 : Int32) (x2 : Int32) (x3 : Int32) (x4 : Int32) (h : sv_H) : Option (Int32 × sv_H) :=
  sv_kd h 12 x0 (
  (sv_gI h 12 1200 x0).bind fun v1 =>
  (sv_gI h 12 1202 x0).bind fun v2 =>
  sv_let (sv_min v1 v2) fun r3 =>
  if x3 < r3 then
    fn_X11_reachesBox_65 h
  else
    (sv_gI h 12 1200 x0).bind fun v4 =>
    (sv_gI h 12 1202 x0).bind fun v5 =>
    sv_let (sv_max v4 v5) fun r6 =>
    if r6 < x1 then
      fn_X11_reachesBox_65 h
    else
      (sv_gI h 12 1201 x0).bind fun v7 =>
      (sv_gI h 12 1203 x0).bind fun v8 =>
      sv_let (sv_min v7 v8) fun r9 =>
      if x4 < r9 then
        fn_X11_reachesBox_65 h
      else
        (sv_gI h 12 1201 x0).bind fun v10 =>
        (sv_gI h 12 1203 x0).bind fun v11 =>
        sv_let (sv_max v10 v11) fun r12 =>
        if r12 < x2 then
          fn_X11_reachesBox_65 h
        else
          fn_X11_reachesBox_66 1 h
  )

def fn_X11_sideOf (x0 : Nat) (x1 : Int32) (x2 : Int32) (h : sv_H) : Option (Int64 × sv_H) :=
  sv_kd h 12 x0 (
  (sv_gI h 12 1202 x0).bind fun v1 =>
  (sv_gI h 12 1200 x0).bind fun v2 =>
  (sv_gI h 12 1201 x0).bind fun v3 =>
  (sv_gI h 12 1203 x0).bind fun v4 =>
  (sv_gI h 12 1201 x0).bind fun v5 =>
  (sv_gI h 12 1200 x0).bind fun v6 =>
  some (((Int32.toInt64 (v1 - v2)) * (Int32.toInt64 (x2 - v3))) - ((Int32.toInt64 (v4 - v5)) * (Int32.toInt64 (x1 - v6))), h)
  )

def fn_X11_lineParts_39 (s0 : Int32) (h : sv_H) : Option (Int32 × sv_H) :=
  sv_rz s0 h

def fn_X11_lineParts (x0 : Nat) (x1 : Nat) (h : sv_H) : Option (Int32 × sv_H) :=
  sv_kd h 12 x0 (
  (sv_gI h 12 1200 x1).bind fun v1 =>
  (sv_gI h 12 1201 x1).bind fun v2 =>
  sv_b (fn_X11_sideOf x0 v1 v2 h) fun r3 h4 =>
  sv_b (fn_J13_signum_95d88 r3 h4) fun r5 h6 =>
  (sv_gI h6 12 1202 x1).bind fun v7 =>
  (sv_gI h6 12 1203 x1).bind fun v8 =>
  sv_b (fn_X11_sideOf x0 v7 v8 h6) fun r9 h10 =>
  sv_b (fn_J13_signum_95d88 r9 h10) fun r11 h12 =>
  if 0 < (r5 * r11) then
    fn_X11_lineParts_39 0 h12
  else
    fn_X11_lineParts_39 1 h12
  )

def fn_X11_touches_72 (s0 : Int32) (h : sv_H) : Option (Int32 × sv_H) :=
  sv_rz s0 h

def fn_X11_touches_71 (h : sv_H) : Option (Int32 × sv_H) :=
  fn_X11_touches_72 0 h

def fn_X11_touches (x0 : Nat) (x1 : Nat) (h : sv_H) : Option (Int32 × sv_H) :=
  sv_kd h 12 x0 (
  (sv_gI h 12 1200 x1).bind fun v1 =>
  (sv_gI h 12 1202 x1).bind fun v2 =>
  sv_let (sv_min v1 v2) fun r3 =>
  (sv_gI h 12 1201 x1).bind fun v4 =>
  (sv_gI h 12 1203 x1).bind fun v5 =>
  sv_let (sv_min v4 v5) fun r6 =>
  (sv_gI h 12 1200 x1).bind fun v7 =>
  (sv_gI h 12 1202 x1).bind fun v8 =>
  sv_let (sv_max v7 v8) fun r9 =>
  (sv_gI h 12 1201 x1).bind fun v10 =>
  (sv_gI h 12 1203 x1).bind fun v11 =>
  sv_let (sv_max v10 v11) fun r12 =>
  sv_b (fn_X11_reachesBox x0 r3 r6 r9 r12 h) fun r13 h14 =>
  if r13 = 0 then
    fn_X11_touches_71 h14
  else
    sv_b (fn_X11_lineParts x0 x1 h14) fun r15 h16 =>
    if r15 = 0 then
      fn_X11_touches_71 h16
    else
      sv_b (fn_X11_lineParts x1 x0 h16) fun r17 h18 =>
      if r17 = 0 then
        fn_X11_touches_71 h18
      else
        fn_X11_touches_72 1 h18
  )

def fn_X11_overlaps_224 (x0 : Nat) (x1 : Nat) (h : sv_H) : Option (Int32 × sv_H) :=
  sv_b (fn_X11_touches x0 x1 h) fun r1 h2 =>
  sv_rz r1 h2

def fn_X11_overlaps_168 (x0 : Nat) (x1 : Nat) (h : sv_H) : Option (Int32 × sv_H) :=
  (sv_gI h 12 1202 x0).bind fun v1 =>
  (sv_gI h 12 1202 x1).bind fun v2 =>
  if v1 = v2 then
    (sv_gI h 12 1203 x0).bind fun v3 =>
    (sv_gI h 12 1203 x1).bind fun v4 =>
    if v3 = v4 then
      (sv_gI h 12 1202 x0).bind fun v5 =>
      (sv_gI h 12 1203 x0).bind fun v6 =>
      (sv_gI h 12 1200 x0).bind fun v7 =>
      (sv_gI h 12 1201 x0).bind fun v8 =>
      (sv_gI h 12 1200 x1).bind fun v9 =>
      (sv_gI h 12 1201 x1).bind fun v10 =>
      sv_b (fn_X11_goesAlong (Int32.toInt64 v5) (Int32.toInt64 v6) (Int32.toInt64 v7) (Int32.toInt64 v8) (Int32.toInt64 v9) (Int32.toInt64 v10) h) fun r11 h12 =>
      sv_rz r11 h12
    else
      fn_X11_overlaps_224 x0 x1 h
  else
    fn_X11_overlaps_224 x0 x1 h

def fn_X11_overlaps_112 (x0 : Nat) (x1 : Nat) (h : sv_H) : Option (Int32 × sv_H) :=
  (sv_gI h 12 1202 x0).bind fun v1 =>
  (sv_gI h 12 1200 x1).bind fun v2 =>
  if v1 = v2 then
    (sv_gI h 12 1203 x0).bind fun v3 =>
    (sv_gI h 12 1201 x1).bind fun v4 =>
    if v3 = v4 then
      (sv_gI h 12 1202 x0).bind fun v5 =>
      (sv_gI h 12 1203 x0).bind fun v6 =>
      (sv_gI h 12 1200 x0).bind fun v7 =>
      (sv_gI h 12 1201 x0).bind fun v8 =>
      (sv_gI h 12 1202 x1).bind fun v9 =>
      (sv_gI h 12 1203 x1).bind fun v10 =>
      sv_b (fn_X11_goesAlong (Int32.toInt64 v5) (Int32.toInt64 v6) (Int32.toInt64 v7) (Int32.toInt64 v8) (Int32.toInt64 v9) (Int32.toInt64 v10) h) fun r11 h12 =>
      sv_rz r11 h12
    else
      fn_X11_overlaps_168 x0 x1 h
  else
    fn_X11_overlaps_168 x0 x1 h

def fn_X11_overlaps_56 (x0 : Nat) (x1 : Nat) (h : sv_H) : Option (Int32 × sv_H) :=
  (sv_gI h 12 1200 x0).bind fun v1 =>
  (sv_gI h 12 1202 x1).bind fun v2 =>
  if v1 = v2 then
    (sv_gI h 12 1201 x0).bind fun v3 =>
    (sv_gI h 12 1203 x1).bind fun v4 =>
    if v3 = v4 then
      (sv_gI h 12 1200 x0).bind fun v5 =>
      (sv_gI h 12 1201 x0).bind fun v6 =>
      (sv_gI h 12 1202 x0).bind fun v7 =>
      (sv_gI h 12 1203 x0).bind fun v8 =>
      (sv_gI h 12 1200 x1).bind fun v9 =>
      (sv_gI h 12 1201 x1).bind fun v10 =>
      sv_b (fn_X11_goesAlong (Int32.toInt64 v5) (Int32.toInt64 v6) (Int32.toInt64 v7) (Int32.toInt64 v8) (Int32.toInt64 v9) (Int32.toInt64 v10) h) fun r11 h12 =>
      sv_rz r11 h12
    else
      fn_X11_overlaps_112 x0 x1 h
  else
    fn_X11_overlaps_112 x0 x1 h

def fn_X11_overlaps (x0 : Nat) (x1 : Nat) (h : sv_H) : Option (Int32 × sv_H) :=
  sv_kd h 12 x0 (
  (sv_gI h 12 1200 x0).bind fun v1 =>
  (sv_gI h 12 1200 x1).bind fun v2 =>
  if v1 = v2 then
    (sv_gI h 12 1201 x0).bind fun v3 =>
    (sv_gI h 12 1201 x1).bind fun v4 =>
    if v3 = v4 then
      (sv_gI h 12 1200 x0).bind fun v5 =>
      (sv_gI h 12 1201 x0).bind fun v6 =>
      (sv_gI h 12 1202 x0).bind fun v7 =>
      (sv_gI h 12 1203 x0).bind fun v8 =>
      (sv_gI h 12 1202 x1).bind fun v9 =>
      (sv_gI h 12 1203 x1).bind fun v10 =>
      sv_b (fn_X11_goesAlong (Int32.toInt64 v5) (Int32.toInt64 v6) (Int32.toInt64 v7) (Int32.toInt64 v8) (Int32.toInt64 v9) (Int32.toInt64 v10) h) fun r11 h12 =>
      sv_rz r11 h12
    else
      fn_X11_overlaps_56 x0 x1 h
  else
    fn_X11_overlaps_56 x0 x1 h
  )

def fn_X2_findOverlap_76 (h : sv_H) : Option (Unit × sv_H) :=
  some ((), h)

def fn_X2_findOverlap_70 (k2 : Nat → Nat → Int32 → Int32 → sv_H → Option (Unit × sv_H)) (x0 : Nat) (x1 : Nat) (x2 : Int32) (x3 : Int32) (h : sv_H) : Option (Unit × sv_H) :=
  k2 x0 x1 x2 (x3 + 1) h

def fn_X2_findOverlap_64 (k2 : Nat → Nat → Int32 → Int32 → sv_H → Option (Unit × sv_H)) (k20 : Nat → Nat → Int32 → Int32 → Int32 → sv_H → Option (Unit × sv_H)) (x0 : Nat) (x1 : Nat) (x2 : Int32) (x3 : Int32) (x4 : Int32) (h : sv_H) : Option (Unit × sv_H) :=
  k20 x0 x1 x2 x3 (x4 + 1) h

def fn_X2_findOverlap_20b (k2 : Nat → Nat → Int32 → Int32 → sv_H → Option (Unit × sv_H)) (k20 : Nat → Nat → Int32 → Int32 → Int32 → sv_H → Option (Unit × sv_H)) (x0 : Nat) (x1 : Nat) (x2 : Int32) (x3 : Int32) (x4 : Int32) (h : sv_H) : Option (Unit × sv_H) :=
  if x3 ≤ x4 then
    fn_X2_findOverlap_70 k2 x0 x1 x2 x3 h
  else
    sv_b (fn_X4_well x1 h) fun r1 h2 =>
    if r1 = 0 then
      fn_X2_findOverlap_70 k2 x0 x1 x2 x3 h2
    else
      (sv_gP h2 3 308 x0).bind fun v3 =>
      (sv_lP 922 h2 v3 x3).bind fun v4 =>
      (sv_gP h2 3 308 x0).bind fun v5 =>
      (sv_lP 922 h2 v5 x4).bind fun v6 =>
      sv_b (fn_X11_overlaps v4 v6 h2) fun r7 h8 =>
      if r7 = 0 then
        fn_X2_findOverlap_64 k2 k20 x0 x1 x2 x3 x4 h8
      else
        sv_b (fn_X4_blame x1 6 (x2 + (14 * x3)) h8) fun _ h9 =>
        fn_X2_findOverlap_64 k2 k20 x0 x1 x2 x3 x4 h9

def fn_X2_findOverlap_20 (k2 : Nat → Nat → Int32 → Int32 → sv_H → Option (Unit × sv_H)) : Nat → Nat → Nat → Int32 → Int32 → Int32 → sv_H → Option (Unit × sv_H)
  | 0, _, _, _, _, _, _ => none
  | sv_n + 1, x0, x1, x2, x3, x4, h => fn_X2_findOverlap_20b k2 (fn_X2_findOverlap_20 k2 sv_n) x0 x1 x2 x3 x4 h

def fn_X2_findOverlap_2b (k2 : Nat → Nat → Int32 → Int32 → sv_H → Option (Unit × sv_H)) (x0 : Nat) (x1 : Nat) (x2 : Int32) (x3 : Int32) (h : sv_H) : Option (Unit × sv_H) :=
  (sv_gI h 3 312 x0).bind fun v1 =>
  if v1 ≤ x3 then
    fn_X2_findOverlap_76 h
  else
    sv_b (fn_X4_well x1 h) fun r2 h3 =>
    if r2 = 0 then
      fn_X2_findOverlap_76 h3
    else
      fn_X2_findOverlap_20 k2 sv_fuel x0 x1 x2 x3 0 h3

def fn_X2_findOverlap_2 : Nat → Nat → Nat → Int32 → Int32 → sv_H → Option (Unit × sv_H)
  | 0, _, _, _, _, _ => none
  | sv_n + 1, x0, x1, x2, x3, h => fn_X2_findOverlap_2b (fn_X2_findOverlap_2 sv_n) x0 x1 x2 x3 h

def fn_X2_findOverlap (x0 : Nat) (x1 : Nat) (x2 : Int32) (h : sv_H) : Option (Unit × sv_H) :=
  sv_kd h 3 x0 (
  fn_X2_findOverlap_2 sv_fuel x0 x1 x2 1 h
  )

def fn_X2_read_197 (x0 : Nat) (x1 : Nat) (x2 : Int32) (h : sv_H) : Option (Unit × sv_H) :=
  (sv_gP h 3 301 x0).bind fun v1 =>
  (sv_gI h 3 311 x0).bind fun v2 =>
  sv_b (fn_X4_readStart x1 v1 v2 h) fun _ h3 =>
  sv_b (fn_X2_readCheck x0 x1 h3) fun _ h4 =>
  sv_b (fn_X4_expectEnd x1 5 h4) fun _ h5 =>
  sv_b (fn_X2_findOverlap x0 x1 x2 h5) fun _ h6 =>
  some ((), h6)

def fn_X2_read_165b (k165 : Nat → Nat → Int32 → Int32 → sv_H → Option (Unit × sv_H)) (x0 : Nat) (x1 : Nat) (x2 : Int32) (x3 : Int32) (h : sv_H) : Option (Unit × sv_H) :=
  (sv_gI h 3 312 x0).bind fun v1 =>
  if v1 ≤ x3 then
    fn_X2_read_197 x0 x1 x2 h
  else
    sv_b (fn_X4_well x1 h) fun r2 h3 =>
    if r2 = 0 then
      fn_X2_read_197 x0 x1 x2 h3
    else
      (sv_gP h3 3 308 x0).bind fun v4 =>
      (sv_lP 922 h3 v4 x3).bind fun v5 =>
      sv_b (fn_X2_readWall x0 x1 v5 h3) fun _ h6 =>
      k165 x0 x1 x2 (x3 + 1) h6

def fn_X2_read_165 : Nat → Nat → Nat → Int32 → Int32 → sv_H → Option (Unit × sv_H)
  | 0, _, _, _, _, _ => none
  | sv_n + 1, x0, x1, x2, x3, h => fn_X2_read_165b (fn_X2_read_165 sv_n) x0 x1 x2 x3 h

def fn_X2_read_158 (x0 : Nat) (x1 : Nat) (h : sv_H) : Option (Unit × sv_H) :=
  (sv_gI h 5 501 x1).bind fun v1 =>
  fn_X2_read_165 sv_fuel x0 x1 v1 0 h

def fn_X2_read_126b (k126 : Nat → Nat → Int32 → sv_H → Option (Unit × sv_H)) (x0 : Nat) (x1 : Nat) (x2 : Int32) (h : sv_H) : Option (Unit × sv_H) :=
  (sv_gI h 3 311 x0).bind fun v1 =>
  if v1 ≤ x2 then
    fn_X2_read_158 x0 x1 h
  else
    sv_b (fn_X4_well x1 h) fun r2 h3 =>
    if r2 = 0 then
      fn_X2_read_158 x0 x1 h3
    else
      (sv_gP h3 3 307 x0).bind fun v4 =>
      (sv_lP 917 h3 v4 x2).bind fun v5 =>
      sv_b (fn_X2_readSector x0 x1 v5 h3) fun _ h6 =>
      k126 x0 x1 (x2 + 1) h6

def fn_X2_read_126 : Nat → Nat → Nat → Int32 → sv_H → Option (Unit × sv_H)
  | 0, _, _, _, _ => none
  | sv_n + 1, x0, x1, x2, h => fn_X2_read_126b (fn_X2_read_126 sv_n) x0 x1 x2 h

def fn_X2_read_124 (x0 : Nat) (x1 : Nat) (h : sv_H) : Option (Unit × sv_H) :=
  fn_X2_read_126 sv_fuel x0 x1 0 h

def fn_X2_read_97b (k97 : Nat → Nat → Int32 → sv_H → Option (Unit × sv_H)) (x0 : Nat) (x1 : Nat) (x2 : Int32) (h : sv_H) : Option (Unit × sv_H) :=
  (sv_gI h 3 310 x0).bind fun v1 =>
  if v1 ≤ x2 then
    fn_X2_read_124 x0 x1 h
  else
    sv_b (fn_X4_well x1 h) fun r2 h3 =>
    if r2 = 0 then
      fn_X2_read_124 x0 x1 h3
    else
      sv_b (fn_X2_readTexture x0 x1 x2 h3) fun _ h4 =>
      k97 x0 x1 (x2 + 1) h4

def fn_X2_read_97 : Nat → Nat → Nat → Int32 → sv_H → Option (Unit × sv_H)
  | 0, _, _, _, _ => none
  | sv_n + 1, x0, x1, x2, h => fn_X2_read_97b (fn_X2_read_97 sv_n) x0 x1 x2 h

def fn_X2_read_95 (x0 : Nat) (x1 : Nat) (h : sv_H) : Option (Unit × sv_H) :=
  fn_X2_read_97 sv_fuel x0 x1 0 h

def fn_X2_read_68b (k68 : Nat → Nat → Int32 → sv_H → Option (Unit × sv_H)) (x0 : Nat) (x1 : Nat) (x2 : Int32) (h : sv_H) : Option (Unit × sv_H) :=
  (sv_gI h 3 309 x0).bind fun v1 =>
  if v1 ≤ x2 then
    fn_X2_read_95 x0 x1 h
  else
    sv_b (fn_X4_well x1 h) fun r2 h3 =>
    if r2 = 0 then
      fn_X2_read_95 x0 x1 h3
    else
      sv_b (fn_X2_readVertex x0 x1 x2 h3) fun _ h4 =>
      k68 x0 x1 (x2 + 1) h4

def fn_X2_read_68 : Nat → Nat → Nat → Int32 → sv_H → Option (Unit × sv_H)
  | 0, _, _, _, _ => none
  | sv_n + 1, x0, x1, x2, h => fn_X2_read_68b (fn_X2_read_68 sv_n) x0 x1 x2 h

def fn_X2_read (x0 : Nat) (x1 : Nat) (h : sv_H) : Option (Unit × sv_H) :=
  sv_kd h 3 x0 (
  sv_b (fn_X4_expect x1 77 2 h) fun _ h1 =>
  sv_b (fn_X4_expect x1 72 2 h1) fun _ h2 =>
  sv_b (fn_X4_expect x1 1 2 h2) fun _ h3 =>
  sv_b (fn_X4_within x1 0 128 h3) fun r4 h5 =>
  (sv_pI h5 3 309 x0 r4).bind fun h6 =>
  sv_b (fn_X4_within x1 0 16 h6) fun r7 h8 =>
  (sv_pI h8 3 310 x0 r7).bind fun h9 =>
  sv_b (fn_X4_within x1 1 32 h9) fun r10 h11 =>
  (sv_pI h11 3 311 x0 r10).bind fun h12 =>
  sv_b (fn_X4_within x1 0 128 h12) fun r13 h14 =>
  (sv_pI h14 3 312 x0 r13).bind fun h15 =>
  fn_X2_read_68 sv_fuel x0 x1 0 h15
  )

def fn_X12_swapPlans (x0 : Nat) (h : sv_H) : Option (Unit × sv_H) :=
  sv_kd h 13 x0 (
  (sv_gP h 13 1306 x0).bind fun v1 =>
  (sv_gP h 13 1307 x0).bind fun v2 =>
  (sv_pP h 13 1306 x0 v2).bind fun h3 =>
  (sv_pP h3 13 1307 x0 v1).bind fun h4 =>
  some ((), h4)
  )

def fn_X0_become (x0 : Nat) (x1 : Nat) (h : sv_H) : Option (Unit × sv_H) :=
  sv_kd h 1 x0 (
  (sv_gI h 1 101 x1).bind fun v1 =>
  sv_b (fn_X0_makeRoom x0 v1 h) fun _ h2 =>
  (sv_gP h2 1 100 x1).bind fun v3 =>
  (sv_gP h2 1 100 x0).bind fun v4 =>
  (sv_gI h2 1 101 x1).bind fun v5 =>
  (sv_copy h2 901 v3 0 v4 0 v5).bind fun h6 =>
  (sv_gI h6 1 101 x1).bind fun v7 =>
  (sv_pI h6 1 101 x0 v7).bind fun h8 =>
  some ((), h8)
  )

def fn_X1_makeRoom (x0 : Nat) (x1 : Int32) (h : sv_H) : Option (Unit × sv_H) :=
  sv_kd h 2 x0 (
  (sv_gP h 2 200 x0).bind fun v1 =>
  sv_b (fn_J7_copyOf_59c91 v1 x1 h) fun r2 h3 =>
  (sv_pP h3 2 200 x0 r2).bind fun h4 =>
  (sv_gP h4 2 201 x0).bind fun v5 =>
  sv_b (fn_J7_copyOf_59c91 v5 x1 h4) fun r6 h7 =>
  (sv_pP h7 2 201 x0 r6).bind fun h8 =>
  (sv_gP h8 2 202 x0).bind fun v9 =>
  sv_b (fn_J7_copyOf_c38d5 v9 x1 h8) fun r10 h11 =>
  (sv_pP h11 2 202 x0 r10).bind fun h12 =>
  (sv_gP h12 2 203 x0).bind fun v13 =>
  sv_b (fn_J7_copyOf_c38d5 v13 x1 h12) fun r14 h15 =>
  (sv_pP h15 2 203 x0 r14).bind fun h16 =>
  (sv_gP h16 2 204 x0).bind fun v17 =>
  sv_b (fn_J7_copyOf_c38d5 v17 x1 h16) fun r18 h19 =>
  (sv_pP h19 2 204 x0 r18).bind fun h20 =>
  (sv_gP h20 2 205 x0).bind fun v21 =>
  sv_b (fn_J7_copyOf_c38d5 v21 x1 h20) fun r22 h23 =>
  (sv_pP h23 2 205 x0 r22).bind fun h24 =>
  some ((), h24)
  )

def fn_X1_add_22 (x0 : Nat) (x1 : Int32) (h : sv_H) : Option (Int32 × sv_H) :=
  (sv_gI h 2 206 x0).bind fun v1 =>
  (sv_gP h 2 200 x0).bind fun v2 =>
  (sv_sI h v2 v1 x1).bind fun h3 =>
  (sv_gP h3 2 201 x0).bind fun v4 =>
  (sv_sI h3 v4 v1 ((-1))).bind fun h5 =>
  (sv_gP h5 2 202 x0).bind fun v6 =>
  (sv_sJ h5 v6 v1 0).bind fun h7 =>
  (sv_gP h7 2 203 x0).bind fun v8 =>
  (sv_sJ h7 v8 v1 1).bind fun h9 =>
  (sv_gP h9 2 204 x0).bind fun v10 =>
  (sv_sJ h9 v10 v1 1).bind fun h11 =>
  (sv_gP h11 2 205 x0).bind fun v12 =>
  (sv_sJ h11 v12 v1 1).bind fun h13 =>
  (sv_gI h13 2 206 x0).bind fun v14 =>
  (sv_pI h13 2 206 x0 (v14 + 1)).bind fun h15 =>
  some (v1, h15)

def fn_X1_add (x0 : Nat) (x1 : Int32) (h : sv_H) : Option (Int32 × sv_H) :=
  sv_kd h 2 x0 (
  (sv_gI h 2 206 x0).bind fun v1 =>
  (sv_gP h 2 200 x0).bind fun v2 =>
  (sv_len h 901 v2).bind fun v3 =>
  if v1 = v3 then
    (sv_gI h 2 206 x0).bind fun v4 =>
    sv_b (fn_X1_makeRoom x0 (2 * v4) h) fun _ h5 =>
    fn_X1_add_22 x0 x1 h5
  else
    fn_X1_add_22 x0 x1 h
  )

def fn_X1_chainWhole_53 (s0 : Int32) (h : sv_H) : Option (Int32 × sv_H) :=
  some (s0, h)

def fn_X1_chainWhole_37 (k7 : Nat → Int32 → Int32 → sv_H → Option (Int32 × sv_H)) (x0 : Nat) (x1 : Int32) (x2 : Int32) (s0 : Nat) (s1 : Int32) (s2 : Int32) (h : sv_H) : Option (Int32 × sv_H) :=
  (sv_sI h s0 s1 s2).bind fun h1 =>
  k7 x0 x1 (x2 + 1) h1

def fn_X1_chainWhole_7b (k7 : Nat → Int32 → Int32 → sv_H → Option (Int32 × sv_H)) (x0 : Nat) (x1 : Int32) (x2 : Int32) (h : sv_H) : Option (Int32 × sv_H) :=
  if x1 ≤ x2 then
    if x1 ≤ 0 then
      fn_X1_chainWhole_53 ((-1)) h
    else
      fn_X1_chainWhole_53 0 h
  else
    sv_b (fn_X1_add x0 x2 h) fun r1 h2 =>
    (sv_gP h2 2 201 x0).bind fun v3 =>
    if x1 ≤ (x2 + 1) then
      fn_X1_chainWhole_37 k7 x0 x1 x2 v3 r1 ((-1)) h2
    else
      fn_X1_chainWhole_37 k7 x0 x1 x2 v3 r1 (r1 + 1) h2

def fn_X1_chainWhole_7 : Nat → Nat → Int32 → Int32 → sv_H → Option (Int32 × sv_H)
  | 0, _, _, _, _ => none
  | sv_n + 1, x0, x1, x2, h => fn_X1_chainWhole_7b (fn_X1_chainWhole_7 sv_n) x0 x1 x2 h

def fn_X1_chainWhole (x0 : Nat) (x1 : Int32) (h : sv_H) : Option (Int32 × sv_H) :=
  sv_kd h 2 x0 (
  (sv_pI h 2 206 x0 0).bind fun h1 =>
  fn_X1_chainWhole_7 sv_fuel x0 x1 0 h1
  )

def fn_X8_open_50 (h : sv_H) : Option (Unit × sv_H) :=
  some ((), h)

def fn_X8_open (x0 : Nat) (x1 : Int32) (x2 : Int32) (x3 : Int32) (h : sv_H) : Option (Unit × sv_H) :=
  sv_kd h 9 x0 (
  (sv_gI h 9 910 x0).bind fun v1 =>
  if 130 ≤ v1 then
    fn_X8_open_50 h
  else
    (sv_gP h 9 907 x0).bind fun v2 =>
    (sv_gI h 9 910 x0).bind fun v3 =>
    (sv_sI h v2 v3 x1).bind fun h4 =>
    (sv_gP h4 9 908 x0).bind fun v5 =>
    (sv_gI h4 9 910 x0).bind fun v6 =>
    (sv_sI h4 v5 v6 x2).bind fun h7 =>
    (sv_gP h7 9 909 x0).bind fun v8 =>
    (sv_gI h7 9 910 x0).bind fun v9 =>
    (sv_sZ h7 v8 v9 x3).bind fun h10 =>
    (sv_gI h10 9 910 x0).bind fun v11 =>
    (sv_pI h10 9 910 x0 (v11 + 1)).bind fun h12 =>
    fn_X8_open_50 h12
  )

def fn_X8_hang_27 (h : sv_H) : Option (Unit × sv_H) :=
  some ((), h)

def fn_X8_hang (x0 : Nat) (x1 : Int32) (x2 : Int32) (x3 : Int32) (h : sv_H) : Option (Unit × sv_H) :=
  sv_kd h 9 x0 (
  if x2 = ((-1)) then
    some ((), h)
  else
    if x3 = 0 then
      (sv_gP h 9 903 x0).bind fun v1 =>
      (sv_sI h v1 x2 x1).bind fun h2 =>
      fn_X8_hang_27 h2
    else
      (sv_gP h 9 902 x0).bind fun v3 =>
      (sv_sI h v3 x2 x1).bind fun h4 =>
      fn_X8_hang_27 h4
  )

def fn_X12_compareQuotients_160 (h : sv_H) : Option (Int32 × sv_H) :=
  some (0, h)

def fn_X12_compareQuotients_137 (s0 : Int32) (h : sv_H) : Option (Int32 × sv_H) :=
  some (s0, h)

def fn_X12_compareQuotients_125 (x21 : Int64) (h : sv_H) : Option (Int32 × sv_H) :=
  if (lg_cmp x21 0) = 0 then
    fn_X12_compareQuotients_137 ((-1)) h
  else
    fn_X12_compareQuotients_137 1 h

def fn_X12_compareQuotients_111 (k17 : Int64 → Int64 → Int64 → Int64 → Int32 → sv_H → Option (Int32 × sv_H)) (x10 : Int64) (x14 : Int64) (x16 : Int32) (x21 : Int64) (x23 : Int64) (h : sv_H) : Option (Int32 × sv_H) :=
  if (lg_cmp x21 0) = 0 then
    fn_X12_compareQuotients_125 x21 h
  else
    if (lg_cmp x23 0) = 0 then
      fn_X12_compareQuotients_125 x21 h
    else
      k17 x14 x23 x10 x21 (x16 + 1) h

def fn_X12_compareQuotients_74 (s0 : Int32) (h : sv_H) : Option (Int32 × sv_H) :=
  some (s0, h)

def fn_X12_compareQuotients_17b (k17 : Int64 → Int64 → Int64 → Int64 → Int32 → sv_H → Option (Int32 × sv_H)) (x8 : Int64) (x10 : Int64) (x12 : Int64) (x14 : Int64) (x16 : Int32) (h : sv_H) : Option (Int32 × sv_H) :=
  if 200 ≤ x16 then
    fn_X12_compareQuotients_160 h
  else
    if (lg_cmp x10 0) ≤ 0 then
      fn_X12_compareQuotients_160 h
    else
      if (lg_cmp x14 0) ≤ 0 then
        fn_X12_compareQuotients_160 h
      else
        if x10 = 0 then none else
        if x14 = 0 then none else
        if (lg_cmp (x8 / x10) (x12 / x14)) = 0 then
          if (lg_cmp (x8 - ((x8 / x10) * x10)) 0) = 0 then
            if (lg_cmp (x12 - ((x12 / x14) * x14)) 0) = 0 then
              some (0, h)
            else
              fn_X12_compareQuotients_111 k17 x10 x14 x16 (x8 - ((x8 / x10) * x10)) (x12 - ((x12 / x14) * x14)) h
          else
            fn_X12_compareQuotients_111 k17 x10 x14 x16 (x8 - ((x8 / x10) * x10)) (x12 - ((x12 / x14) * x14)) h
        else
          if 0 ≤ (lg_cmp (x8 / x10) (x12 / x14)) then
            fn_X12_compareQuotients_74 1 h
          else
            fn_X12_compareQuotients_74 ((-1)) h

def fn_X12_compareQuotients_17 : Nat → Int64 → Int64 → Int64 → Int64 → Int32 → sv_H → Option (Int32 × sv_H)
  | 0, _, _, _, _, _, _ => none
  | sv_n + 1, x8, x10, x12, x14, x16, h => fn_X12_compareQuotients_17b (fn_X12_compareQuotients_17 sv_n) x8 x10 x12 x14 x16 h

def fn_X12_compareQuotients (x0 : Int64) (x2 : Int64) (x4 : Int64) (x6 : Int64) (h : sv_H) : Option (Int32 × sv_H) :=
  fn_X12_compareQuotients_17 sv_fuel x0 x2 x4 x6 0 h

def fn_X1_sideAt_85 (s0 : Int32) (h : sv_H) : Option (Int32 × sv_H) :=
  some (s0, h)

def fn_X1_sideAt_82 (s0 : Int64) (h : sv_H) : Option (Int32 × sv_H) :=
  sv_b (fn_J13_signum_95d88 s0 h) fun r1 h2 =>
  fn_X1_sideAt_85 r1 h2

def fn_X1_sideAt (x0 : Int64) (x2 : Int64) (x4 : Int64) (x6 : Int64) (h : sv_H) : Option (Int32 × sv_H) :=
  if (lg_cmp x4 0) = 0 then
    sv_b (fn_J13_signum_95d88 x0 h) fun r13 h14 =>
    some (r13, h14)
  else
    if (lg_cmp x4 x6) = 0 then
      sv_b (fn_J13_signum_95d88 x2 h) fun r11 h12 =>
      some (r11, h12)
    else
      sv_b (fn_J13_signum_95d88 x0 h) fun r1 h2 =>
      sv_b (fn_J13_signum_95d88 x2 h2) fun r3 h4 =>
      if (r1 * r3) < 0 then
        sv_let (sv_absl x0) fun r5 =>
        sv_let (sv_absl (x0 - x2)) fun r6 =>
        sv_b (fn_X12_compareQuotients x4 x6 r5 r6 h4) fun r7 h8 =>
        if r7 = 0 then
          fn_X1_sideAt_85 0 h8
        else
          if 0 ≤ r7 then
            fn_X1_sideAt_82 x2 h8
          else
            fn_X1_sideAt_82 x0 h8
      else
        sv_b (fn_J13_signum_95d88 (x0 + x2) h4) fun r9 h10 =>
        some (r9, h10)

def fn_X1_lieOf_107 (s0 : Int32) (h : sv_H) : Option (Int32 × sv_H) :=
  some (s0, h)

def fn_X1_lieOf (x0 : Nat) (x1 : Nat) (x2 : Int32) (x3 : Nat) (h : sv_H) : Option (Int32 × sv_H) :=
  sv_kd h 2 x0 (
  (sv_gP h 3 308 x1).bind fun v1 =>
  (sv_gP h 2 200 x0).bind fun v2 =>
  (sv_lI h v2 x2).bind fun v3 =>
  (sv_lP 922 h v1 v3).bind fun v4 =>
  (sv_gI h 12 1200 v4).bind fun v5 =>
  (sv_gI h 12 1201 v4).bind fun v6 =>
  sv_b (fn_X11_sideOf x3 v5 v6 h) fun r7 h8 =>
  (sv_gI h8 12 1202 v4).bind fun v9 =>
  (sv_gI h8 12 1203 v4).bind fun v10 =>
  sv_b (fn_X11_sideOf x3 v9 v10 h8) fun r11 h12 =>
  (sv_gP h12 2 202 x0).bind fun v13 =>
  (sv_lJ h12 v13 x2).bind fun v14 =>
  (sv_gP h12 2 203 x0).bind fun v15 =>
  (sv_lJ h12 v15 x2).bind fun v16 =>
  sv_b (fn_X1_sideAt r7 r11 v14 v16 h12) fun r17 h18 =>
  (sv_gP h18 2 204 x0).bind fun v19 =>
  (sv_lJ h18 v19 x2).bind fun v20 =>
  (sv_gP h18 2 205 x0).bind fun v21 =>
  (sv_lJ h18 v21 x2).bind fun v22 =>
  sv_b (fn_X1_sideAt r7 r11 v20 v22 h18) fun r23 h24 =>
  if 0 ≤ (r17 * r23) then
    sv_b (fn_J6_signum_0f7a4 (r17 + r23) h24) fun r25 h26 =>
    fn_X1_lieOf_107 r25 h26
  else
    fn_X1_lieOf_107 2 h24
  )

def fn_X8_costOf_76 (x4 : Int32) (x5 : Int32) (h : sv_H) : Option (Int32 × sv_H) :=
  sv_let (sv_abs x5) fun r1 =>
  some ((4 * x4) + r1, h)

def fn_X8_costOf_58 (k12 : Nat → Nat → Nat → Int32 → Int32 → Int32 → Int32 → sv_H → Option (Int32 × sv_H)) (x0 : Nat) (x1 : Nat) (x3 : Nat) (x4 : Int32) (x5 : Int32) (x6 : Int32) (x7 : Int32) (h : sv_H) : Option (Int32 × sv_H) :=
  (sv_gP h 9 900 x0).bind fun v1 =>
  (sv_gP h 2 201 v1).bind fun v2 =>
  (sv_lI h v2 x6).bind fun v3 =>
  k12 x0 x1 x3 x4 x5 v3 (x7 + 1) h

def fn_X8_costOf_12b (k12 : Nat → Nat → Nat → Int32 → Int32 → Int32 → Int32 → sv_H → Option (Int32 × sv_H)) (x0 : Nat) (x1 : Nat) (x3 : Nat) (x4 : Int32) (x5 : Int32) (x6 : Int32) (x7 : Int32) (h : sv_H) : Option (Int32 × sv_H) :=
  if 16384 ≤ x7 then
    fn_X8_costOf_76 x4 x5 h
  else
    if x6 = ((-1)) then
      fn_X8_costOf_76 x4 x5 h
    else
      (sv_gP h 9 900 x0).bind fun v1 =>
      sv_b (fn_X1_lieOf v1 x1 x6 x3 h) fun r2 h3 =>
      if r2 = 2 then
        fn_X8_costOf_58 k12 x0 x1 x3 (x4 + 1) x5 x6 x7 h3
      else
        fn_X8_costOf_58 k12 x0 x1 x3 x4 (x5 + r2) x6 x7 h3

def fn_X8_costOf_12 : Nat → Nat → Nat → Nat → Int32 → Int32 → Int32 → Int32 → sv_H → Option (Int32 × sv_H)
  | 0, _, _, _, _, _, _, _, _ => none
  | sv_n + 1, x0, x1, x3, x4, x5, x6, x7, h => fn_X8_costOf_12b (fn_X8_costOf_12 sv_n) x0 x1 x3 x4 x5 x6 x7 h

def fn_X8_costOf (x0 : Nat) (x1 : Nat) (x2 : Int32) (x3 : Nat) (h : sv_H) : Option (Int32 × sv_H) :=
  sv_kd h 9 x0 (
  fn_X8_costOf_12 sv_fuel x0 x1 x3 0 0 x2 0 h
  )

def fn_X8_bestLine_96 (x3 : Int32) (h : sv_H) : Option (Int32 × sv_H) :=
  some (x3, h)

def fn_X8_bestLine_78 (k20 : Nat → Nat → Int32 → Int32 → Int32 → Int32 → Int32 → sv_H → Option (Int32 × sv_H)) (x0 : Nat) (x1 : Nat) (x2 : Int32) (x3 : Int32) (x4 : Int32) (x5 : Int32) (x6 : Int32) (h : sv_H) : Option (Int32 × sv_H) :=
  (sv_gP h 9 900 x0).bind fun v1 =>
  (sv_gP h 2 201 v1).bind fun v2 =>
  (sv_lI h v2 x5).bind fun v3 =>
  k20 x0 x1 x2 x3 x4 v3 (x6 + 1) h

def fn_X8_bestLine_20b (k20 : Nat → Nat → Int32 → Int32 → Int32 → Int32 → Int32 → sv_H → Option (Int32 × sv_H)) (x0 : Nat) (x1 : Nat) (x2 : Int32) (x3 : Int32) (x4 : Int32) (x5 : Int32) (x6 : Int32) (h : sv_H) : Option (Int32 × sv_H) :=
  if 16 ≤ x6 then
    fn_X8_bestLine_96 x3 h
  else
    if x5 = ((-1)) then
      fn_X8_bestLine_96 x3 h
    else
      (sv_gP h 3 308 x1).bind fun v1 =>
      (sv_gP h 9 900 x0).bind fun v2 =>
      (sv_gP h 2 200 v2).bind fun v3 =>
      (sv_lI h v3 x5).bind fun v4 =>
      (sv_lP 922 h v1 v4).bind fun v5 =>
      sv_b (fn_X8_costOf x0 x1 x2 v5 h) fun r6 h7 =>
      if x4 ≤ r6 then
        fn_X8_bestLine_78 k20 x0 x1 x2 x3 x4 x5 x6 h7
      else
        (sv_gP h7 9 900 x0).bind fun v8 =>
        (sv_gP h7 2 200 v8).bind fun v9 =>
        (sv_lI h7 v9 x5).bind fun v10 =>
        fn_X8_bestLine_78 k20 x0 x1 x2 v10 r6 x5 x6 h7

def fn_X8_bestLine_20 : Nat → Nat → Nat → Int32 → Int32 → Int32 → Int32 → Int32 → sv_H → Option (Int32 × sv_H)
  | 0, _, _, _, _, _, _, _, _ => none
  | sv_n + 1, x0, x1, x2, x3, x4, x5, x6, h => fn_X8_bestLine_20b (fn_X8_bestLine_20 sv_n) x0 x1 x2 x3 x4 x5 x6 h

def fn_X8_bestLine (x0 : Nat) (x1 : Nat) (x2 : Int32) (h : sv_H) : Option (Int32 × sv_H) :=
  sv_kd h 9 x0 (
  (sv_gP h 9 900 x0).bind fun v1 =>
  (sv_gP h 2 200 v1).bind fun v2 =>
  (sv_lI h v2 x2).bind fun v3 =>
  fn_X8_bestLine_20 sv_fuel x0 x1 x2 v3 81920 x2 0 h
  )

def fn_X8_makeRoom (x0 : Nat) (x1 : Int32) (h : sv_H) : Option (Unit × sv_H) :=
  sv_kd h 9 x0 (
  (sv_gP h 9 901 x0).bind fun v1 =>
  sv_b (fn_J7_copyOf_59c91 v1 x1 h) fun r2 h3 =>
  (sv_pP h3 9 901 x0 r2).bind fun h4 =>
  (sv_gP h4 9 902 x0).bind fun v5 =>
  sv_b (fn_J7_copyOf_59c91 v5 x1 h4) fun r6 h7 =>
  (sv_pP h7 9 902 x0 r6).bind fun h8 =>
  (sv_gP h8 9 903 x0).bind fun v9 =>
  sv_b (fn_J7_copyOf_59c91 v9 x1 h8) fun r10 h11 =>
  (sv_pP h11 9 903 x0 r10).bind fun h12 =>
  (sv_gP h12 9 904 x0).bind fun v13 =>
  sv_b (fn_J7_copyOf_59c91 v13 x1 h12) fun r14 h15 =>
  (sv_pP h15 9 904 x0 r14).bind fun h16 =>
  (sv_gP h16 9 905 x0).bind fun v17 =>
  sv_b (fn_J7_copyOf_59c91 v17 x1 h16) fun r18 h19 =>
  (sv_pP h19 9 905 x0 r18).bind fun h20 =>
  (sv_gP h20 9 906 x0).bind fun v21 =>
  sv_b (fn_J7_copyOf_59c91 v21 x1 h20) fun r22 h23 =>
  (sv_pP h23 9 906 x0 r22).bind fun h24 =>
  some ((), h24)
  )

def fn_X8_addNode_63 (x0 : Nat) (x3 : Int32) (s0 : Nat) (s1 : Int32) (s2 : Int32) (h : sv_H) : Option (Int32 × sv_H) :=
  (sv_sI h s0 s1 s2).bind fun h1 =>
  (sv_gI h1 9 911 x0).bind fun v2 =>
  (sv_pI h1 9 911 x0 (v2 + 1)).bind fun h3 =>
  some (x3, h3)

def fn_X8_addNode_22 (x0 : Nat) (x1 : Int32) (x2 : Int32) (h : sv_H) : Option (Int32 × sv_H) :=
  (sv_gI h 9 911 x0).bind fun v1 =>
  (sv_gP h 9 901 x0).bind fun v2 =>
  (sv_sI h v2 v1 x1).bind fun h3 =>
  (sv_gP h3 9 904 x0).bind fun v4 =>
  (sv_sI h3 v4 v1 0).bind fun h5 =>
  (sv_gP h5 9 906 x0).bind fun v6 =>
  if x2 = ((-1)) then
    fn_X8_addNode_63 x0 v1 v6 v1 0 h5
  else
    (sv_gP h5 9 906 x0).bind fun v7 =>
    (sv_lI h5 v7 x2).bind fun v8 =>
    fn_X8_addNode_63 x0 v1 v6 v1 (v8 + 1) h5

def fn_X8_addNode (x0 : Nat) (x1 : Int32) (x2 : Int32) (h : sv_H) : Option (Int32 × sv_H) :=
  sv_kd h 9 x0 (
  (sv_gI h 9 911 x0).bind fun v1 =>
  (sv_gP h 9 901 x0).bind fun v2 =>
  (sv_len h 901 v2).bind fun v3 =>
  if v1 = v3 then
    (sv_gI h 9 911 x0).bind fun v4 =>
    sv_b (fn_X8_makeRoom x0 (2 * v4) h) fun _ h5 =>
    fn_X8_addNode_22 x0 x1 x2 h5
  else
    fn_X8_addNode_22 x0 x1 x2 h
  )

def fn_X1_cut (x0 : Nat) (x1 : Nat) (x2 : Int32) (x3 : Nat) (h : sv_H) : Option (Int32 × sv_H) :=
  sv_kd h 2 x0 (
  (sv_gP h 3 308 x1).bind fun v1 =>
  (sv_gP h 2 200 x0).bind fun v2 =>
  (sv_lI h v2 x2).bind fun v3 =>
  (sv_lP 922 h v1 v3).bind fun v4 =>
  (sv_gI h 12 1200 v4).bind fun v5 =>
  (sv_gI h 12 1201 v4).bind fun v6 =>
  sv_b (fn_X11_sideOf x3 v5 v6 h) fun r7 h8 =>
  (sv_gI h8 12 1202 v4).bind fun v9 =>
  (sv_gI h8 12 1203 v4).bind fun v10 =>
  sv_b (fn_X11_sideOf x3 v9 v10 h8) fun r11 h12 =>
  (sv_gP h12 2 200 x0).bind fun v13 =>
  (sv_lI h12 v13 x2).bind fun v14 =>
  sv_b (fn_X1_add x0 v14 h12) fun r15 h16 =>
  (sv_gP h16 2 202 x0).bind fun v17 =>
  sv_let (sv_absl r7) fun r18 =>
  (sv_sJ h16 v17 r15 r18).bind fun h19 =>
  (sv_gP h19 2 203 x0).bind fun v20 =>
  sv_let (sv_absl (r7 - r11)) fun r21 =>
  (sv_sJ h19 v20 r15 r21).bind fun h22 =>
  (sv_gP h22 2 204 x0).bind fun v23 =>
  (sv_gP h22 2 204 x0).bind fun v24 =>
  (sv_lJ h22 v24 x2).bind fun v25 =>
  (sv_sJ h22 v23 r15 v25).bind fun h26 =>
  (sv_gP h26 2 205 x0).bind fun v27 =>
  (sv_gP h26 2 205 x0).bind fun v28 =>
  (sv_lJ h26 v28 x2).bind fun v29 =>
  (sv_sJ h26 v27 r15 v29).bind fun h30 =>
  (sv_gP h30 2 204 x0).bind fun v31 =>
  (sv_gP h30 2 202 x0).bind fun v32 =>
  (sv_lJ h30 v32 r15).bind fun v33 =>
  (sv_sJ h30 v31 x2 v33).bind fun h34 =>
  (sv_gP h34 2 205 x0).bind fun v35 =>
  (sv_gP h34 2 203 x0).bind fun v36 =>
  (sv_lJ h34 v36 r15).bind fun v37 =>
  (sv_sJ h34 v35 x2 v37).bind fun h38 =>
  some (r15, h38)
  )

def fn_X8_append_86 (h : sv_H) : Option (Unit × sv_H) :=
  some ((), h)

def fn_X8_append_81 (x0 : Nat) (x1 : Int32) (h : sv_H) : Option (Unit × sv_H) :=
  (sv_pI h 9 917 x0 x1).bind fun h1 =>
  fn_X8_append_86 h1

def fn_X8_append_44 (x0 : Nat) (x1 : Int32) (h : sv_H) : Option (Unit × sv_H) :=
  (sv_pI h 9 915 x0 x1).bind fun h1 =>
  fn_X8_append_86 h1

def fn_X8_append (x0 : Nat) (x1 : Int32) (x2 : Int32) (h : sv_H) : Option (Unit × sv_H) :=
  sv_kd h 9 x0 (
  (sv_gP h 9 900 x0).bind fun v1 =>
  (sv_gP h 2 201 v1).bind fun v2 =>
  (sv_sI h v2 x1 ((-1))).bind fun h3 =>
  if x2 = 1 then
    (sv_gI h3 9 914 x0).bind fun v10 =>
    if v10 = ((-1)) then
      (sv_pI h3 9 914 x0 x1).bind fun h15 =>
      fn_X8_append_44 x0 x1 h15
    else
      (sv_gP h3 9 900 x0).bind fun v11 =>
      (sv_gP h3 2 201 v11).bind fun v12 =>
      (sv_gI h3 9 915 x0).bind fun v13 =>
      (sv_sI h3 v12 v13 x1).bind fun h14 =>
      fn_X8_append_44 x0 x1 h14
  else
    (sv_gI h3 9 916 x0).bind fun v4 =>
    if v4 = ((-1)) then
      (sv_pI h3 9 916 x0 x1).bind fun h9 =>
      fn_X8_append_81 x0 x1 h9
    else
      (sv_gP h3 9 900 x0).bind fun v5 =>
      (sv_gP h3 2 201 v5).bind fun v6 =>
      (sv_gI h3 9 917 x0).bind fun v7 =>
      (sv_sI h3 v6 v7 x1).bind fun h8 =>
      fn_X8_append_81 x0 x1 h8
  )

def fn_X8_split_174 (h : sv_H) : Option (Unit × sv_H) :=
  some ((), h)

def fn_X8_split_164 (k29 : Nat → Nat → Int32 → Nat → Int32 → Int32 → sv_H → Option (Unit × sv_H)) (x0 : Nat) (x1 : Nat) (x3 : Int32) (x4 : Nat) (x6 : Int32) (x7 : Int32) (h : sv_H) : Option (Unit × sv_H) :=
  k29 x0 x1 x3 x4 x7 (x6 + 1) h

def fn_X8_split_29b (k29 : Nat → Nat → Int32 → Nat → Int32 → Int32 → sv_H → Option (Unit × sv_H)) (x0 : Nat) (x1 : Nat) (x3 : Int32) (x4 : Nat) (x5 : Int32) (x6 : Int32) (h : sv_H) : Option (Unit × sv_H) :=
  if 16384 ≤ x6 then
    fn_X8_split_174 h
  else
    if x5 = ((-1)) then
      fn_X8_split_174 h
    else
      (sv_gP h 9 900 x0).bind fun v1 =>
      (sv_gP h 2 201 v1).bind fun v2 =>
      (sv_lI h v2 x5).bind fun v3 =>
      (sv_gP h 9 900 x0).bind fun v4 =>
      sv_b (fn_X1_lieOf v4 x1 x5 x4 h) fun r5 h6 =>
      if r5 = 0 then
        (sv_gP h6 9 904 x0).bind fun v19 =>
        (sv_lI h6 v19 x3).bind fun v20 =>
        (sv_sI h6 v19 x3 (v20 + 1)).bind fun h21 =>
        (sv_gI h21 9 913 x0).bind fun v22 =>
        (sv_pI h21 9 913 x0 (v22 + 1)).bind fun h23 =>
        fn_X8_split_164 k29 x0 x1 x3 x4 x6 v3 h23
      else
        if r5 = 2 then
          (sv_gP h6 9 900 x0).bind fun v8 =>
          sv_b (fn_X1_cut v8 x1 x5 x4 h6) fun r9 h10 =>
          (sv_gP h10 9 900 x0).bind fun v11 =>
          sv_b (fn_X1_lieOf v11 x1 x5 x4 h10) fun r12 h13 =>
          sv_b (fn_X8_append x0 x5 r12 h13) fun _ h14 =>
          (sv_gP h14 9 900 x0).bind fun v15 =>
          sv_b (fn_X1_lieOf v15 x1 r9 x4 h14) fun r16 h17 =>
          sv_b (fn_X8_append x0 r9 r16 h17) fun _ h18 =>
          fn_X8_split_164 k29 x0 x1 x3 x4 x6 v3 h18
        else
          sv_b (fn_X8_append x0 x5 r5 h6) fun _ h7 =>
          fn_X8_split_164 k29 x0 x1 x3 x4 x6 v3 h7

def fn_X8_split_29 : Nat → Nat → Nat → Int32 → Nat → Int32 → Int32 → sv_H → Option (Unit × sv_H)
  | 0, _, _, _, _, _, _, _ => none
  | sv_n + 1, x0, x1, x3, x4, x5, x6, h => fn_X8_split_29b (fn_X8_split_29 sv_n) x0 x1 x3 x4 x5 x6 h

def fn_X8_split (x0 : Nat) (x1 : Nat) (x2 : Int32) (x3 : Int32) (h : sv_H) : Option (Unit × sv_H) :=
  sv_kd h 9 x0 (
  (sv_pI h 9 914 x0 ((-1))).bind fun h1 =>
  (sv_pI h1 9 916 x0 ((-1))).bind fun h2 =>
  (sv_gP h2 3 308 x1).bind fun v3 =>
  (sv_gP h2 9 901 x0).bind fun v4 =>
  (sv_lI h2 v4 x3).bind fun v5 =>
  (sv_lP 922 h2 v3 v5).bind fun v6 =>
  fn_X8_split_29 sv_fuel x0 x1 x3 v6 x2 0 h2
  )

def fn_X8_sizeOf_14 (s0 : Int32) (h : sv_H) : Option (Int32 × sv_H) :=
  some (s0, h)

def fn_X8_sizeOf (x0 : Nat) (x1 : Int32) (h : sv_H) : Option (Int32 × sv_H) :=
  sv_kd h 9 x0 (
  if 0 ≤ x1 then
    (sv_gP h 9 905 x0).bind fun v1 =>
    (sv_lI h v1 x1).bind fun v2 =>
    fn_X8_sizeOf_14 v2 h
  else
    fn_X8_sizeOf_14 0 h
  )

def fn_X8_countSizes_7b (k7 : Nat → Int32 → sv_H → Option (Unit × sv_H)) (x0 : Nat) (x1 : Int32) (h : sv_H) : Option (Unit × sv_H) :=
  if x1 < 0 then
    some ((), h)
  else
    (sv_gP h 9 905 x0).bind fun v1 =>
    (sv_gP h 9 902 x0).bind fun v2 =>
    (sv_lI h v2 x1).bind fun v3 =>
    sv_b (fn_X8_sizeOf x0 v3 h) fun r4 h5 =>
    (sv_gP h5 9 903 x0).bind fun v6 =>
    (sv_lI h5 v6 x1).bind fun v7 =>
    sv_b (fn_X8_sizeOf x0 v7 h5) fun r8 h9 =>
    (sv_sI h9 v1 x1 ((1 + r4) + r8)).bind fun h10 =>
    k7 x0 (x1 + (-1)) h10

def fn_X8_countSizes_7 : Nat → Nat → Int32 → sv_H → Option (Unit × sv_H)
  | 0, _, _, _ => none
  | sv_n + 1, x0, x1, h => fn_X8_countSizes_7b (fn_X8_countSizes_7 sv_n) x0 x1 h

def fn_X8_countSizes (x0 : Nat) (h : sv_H) : Option (Unit × sv_H) :=
  sv_kd h 9 x0 (
  (sv_gI h 9 911 x0).bind fun v1 =>
  fn_X8_countSizes_7 sv_fuel x0 (v1 - 1) h
  )

def fn_X8_grow_186 (x0 : Nat) (h : sv_H) : Option (Unit × sv_H) :=
  sv_b (fn_X8_countSizes x0 h) fun _ h1 =>
  some ((), h1)

def fn_X8_grow_180 (k39 : Nat → Nat → Int32 → sv_H → Option (Unit × sv_H)) (x0 : Nat) (x1 : Nat) (x2 : Int32) (h : sv_H) : Option (Unit × sv_H) :=
  k39 x0 x1 (x2 + 1) h

def fn_X8_grow_39b (k39 : Nat → Nat → Int32 → sv_H → Option (Unit × sv_H)) (x0 : Nat) (x1 : Nat) (x2 : Int32) (h : sv_H) : Option (Unit × sv_H) :=
  if 32768 < x2 then
    fn_X8_grow_186 x0 h
  else
    (sv_gI h 9 910 x0).bind fun v1 =>
    if v1 ≤ 0 then
      fn_X8_grow_186 x0 h
    else
      (sv_gI h 9 910 x0).bind fun v2 =>
      (sv_pI h 9 910 x0 (v2 - 1)).bind fun h3 =>
      (sv_gP h3 9 907 x0).bind fun v4 =>
      (sv_gI h3 9 910 x0).bind fun v5 =>
      (sv_lI h3 v4 v5).bind fun v6 =>
      (sv_gP h3 9 908 x0).bind fun v7 =>
      (sv_gI h3 9 910 x0).bind fun v8 =>
      (sv_lI h3 v7 v8).bind fun v9 =>
      (sv_gP h3 9 909 x0).bind fun v10 =>
      (sv_gI h3 9 910 x0).bind fun v11 =>
      (sv_lZ h3 v10 v11).bind fun v12 =>
      if v6 = ((-1)) then
        (sv_gI h3 9 912 x0).bind fun v23 =>
        sv_b (fn_X8_hang x0 (((-1)) - v23) v9 v12 h3) fun _ h24 =>
        (sv_gI h24 9 912 x0).bind fun v25 =>
        (sv_pI h24 9 912 x0 (v25 + 1)).bind fun h26 =>
        fn_X8_grow_180 k39 x0 x1 x2 h26
      else
        sv_b (fn_X8_bestLine x0 x1 v6 h3) fun r13 h14 =>
        sv_b (fn_X8_addNode x0 r13 v9 h14) fun r15 h16 =>
        sv_b (fn_X8_hang x0 r15 v9 v12 h16) fun _ h17 =>
        sv_b (fn_X8_split x0 x1 v6 r15 h17) fun _ h18 =>
        (sv_gI h18 9 916 x0).bind fun v19 =>
        sv_b (fn_X8_open x0 v19 r15 0 h18) fun _ h20 =>
        (sv_gI h20 9 914 x0).bind fun v21 =>
        sv_b (fn_X8_open x0 v21 r15 1 h20) fun _ h22 =>
        fn_X8_grow_180 k39 x0 x1 x2 h22

def fn_X8_grow_39 : Nat → Nat → Nat → Int32 → sv_H → Option (Unit × sv_H)
  | 0, _, _, _, _ => none
  | sv_n + 1, x0, x1, x2, h => fn_X8_grow_39b (fn_X8_grow_39 sv_n) x0 x1 x2 h

def fn_X8_grow (x0 : Nat) (x1 : Nat) (h : sv_H) : Option (Unit × sv_H) :=
  sv_kd h 9 x0 (
  (sv_pI h 9 911 x0 0).bind fun h1 =>
  (sv_pI h1 9 912 x0 0).bind fun h2 =>
  (sv_pI h2 9 913 x0 0).bind fun h3 =>
  (sv_pI h3 9 910 x0 0).bind fun h4 =>
  (sv_gP h4 9 900 x0).bind fun v5 =>
  (sv_gI h4 3 312 x1).bind fun v6 =>
  sv_b (fn_X1_chainWhole v5 v6 h4) fun r7 h8 =>
  sv_b (fn_X8_open x0 r7 ((-1)) 1 h8) fun _ h9 =>
  fn_X8_grow_39 sv_fuel x0 x1 0 h9
  )

def fn_X7_put (x0 : Nat) (x1 : Int32) (x2 : Int32) (x3 : Int32) (x4 : Int32) (h : sv_H) : Option (Unit × sv_H) :=
  sv_kd h 8 x0 (
  (sv_pI h 8 800 x0 x1).bind fun h1 =>
  (sv_pI h1 8 801 x0 x2).bind fun h2 =>
  (sv_pI h2 8 802 x0 x3).bind fun h3 =>
  (sv_pI h3 8 803 x0 x4).bind fun h4 =>
  some ((), h4)
  )

def fn_X7_become (x0 : Nat) (x1 : Nat) (h : sv_H) : Option (Unit × sv_H) :=
  sv_kd h 8 x0 (
  (sv_gI h 8 800 x1).bind fun v1 =>
  (sv_gI h 8 801 x1).bind fun v2 =>
  (sv_gI h 8 802 x1).bind fun v3 =>
  (sv_gI h 8 803 x1).bind fun v4 =>
  sv_b (fn_X7_put x0 v1 v2 v3 v4 h) fun _ h5 =>
  some ((), h5)
  )

def fn_X6_endMover (x0 : Nat) (h : sv_H) : Option (Unit × sv_H) :=
  sv_kd h 7 x0 (
  (sv_pI h 7 709 x0 ((-1))).bind fun h1 =>
  (sv_pI h1 7 710 x0 0).bind fun h2 =>
  (sv_pI h2 7 711 x0 0).bind fun h3 =>
  some ((), h3)
  )

def fn_X6_settle (x0 : Nat) (h : sv_H) : Option (Unit × sv_H) :=
  sv_kd h 7 x0 (
  (sv_gI h 7 700 x0).bind fun v1 =>
  (sv_pI h 7 707 x0 v1).bind fun h2 =>
  (sv_gI h2 7 701 x0).bind fun v3 =>
  (sv_pI h2 7 708 x0 v3).bind fun h4 =>
  sv_b (fn_X6_endMover x0 h4) fun _ h5 =>
  some ((), h5)
  )

def fn_X2_settle_2b (k2 : Nat → Int32 → sv_H → Option (Unit × sv_H)) (x0 : Nat) (x1 : Int32) (h : sv_H) : Option (Unit × sv_H) :=
  (sv_gI h 3 311 x0).bind fun v1 =>
  if v1 ≤ x1 then
    some ((), h)
  else
    (sv_gP h 3 307 x0).bind fun v2 =>
    (sv_lP 917 h v2 x1).bind fun v3 =>
    sv_b (fn_X6_settle v3 h) fun _ h4 =>
    k2 x0 (x1 + 1) h4

def fn_X2_settle_2 : Nat → Nat → Int32 → sv_H → Option (Unit × sv_H)
  | 0, _, _, _ => none
  | sv_n + 1, x0, x1, h => fn_X2_settle_2b (fn_X2_settle_2 sv_n) x0 x1 h

def fn_X2_settle (x0 : Nat) (h : sv_H) : Option (Unit × sv_H) :=
  sv_kd h 3 x0 (
  fn_X2_settle_2 sv_fuel x0 0 h
  )

def fn_X10_begin (x0 : Nat) (x1 : Nat) (x2 : Nat) (h : sv_H) : Option (Unit × sv_H) :=
  sv_kd h 11 x0 (
  (sv_pP h 11 1101 x0 x1).bind fun h1 =>
  (sv_gP h1 11 1101 x0).bind fun v2 =>
  sv_b (fn_X2_settle v2 h1) fun _ h3 =>
  (sv_gI h3 8 800 x2).bind fun v4 =>
  (sv_pI h3 11 1102 x0 v4).bind fun h5 =>
  (sv_gI h5 8 801 x2).bind fun v6 =>
  (sv_pI h5 11 1103 x0 v6).bind fun h7 =>
  (sv_gI h7 8 802 x2).bind fun v8 =>
  (sv_pI h7 11 1104 x0 v8).bind fun h9 =>
  (sv_gI h9 8 803 x2).bind fun v10 =>
  (sv_pI h9 11 1105 x0 v10).bind fun h11 =>
  (sv_pI h11 11 1106 x0 0).bind fun h12 =>
  some ((), h12)
  )

def fn_X12_loadMap_110 (x0 : Nat) (h : sv_H) : Option (Int32 × sv_H) :=
  (sv_gP h 13 1302 x0).bind fun v1 =>
  (sv_gI h 5 502 v1).bind fun v2 =>
  some (v2, h)

def fn_X12_loadMap (x0 : Nat) (h : sv_H) : Option (Int32 × sv_H) :=
  sv_kd h 13 x0 (
  (sv_gP h 13 1302 x0).bind fun v1 =>
  sv_b (fn_X4_begin v1 h) fun _ h2 =>
  (sv_gP h2 13 1307 x0).bind fun v3 =>
  (sv_gP h2 13 1302 x0).bind fun v4 =>
  sv_b (fn_X2_read v3 v4 h2) fun _ h5 =>
  (sv_gP h5 13 1302 x0).bind fun v6 =>
  sv_b (fn_X4_well v6 h5) fun r7 h8 =>
  if r7 = 0 then
    fn_X12_loadMap_110 x0 h8
  else
    sv_b (fn_X12_swapPlans x0 h8) fun _ h9 =>
    (sv_gI h9 13 1310 x0).bind fun v10 =>
    (sv_pI h9 13 1310 x0 (v10 + 1)).bind fun h11 =>
    (sv_gP h11 13 1306 x0).bind fun v12 =>
    (sv_gP h11 3 300 v12).bind fun v13 =>
    (sv_gP h11 13 1300 x0).bind fun v14 =>
    sv_b (fn_X0_become v13 v14 h11) fun _ h15 =>
    (sv_gP h15 13 1303 x0).bind fun v16 =>
    (sv_gP h15 13 1306 x0).bind fun v17 =>
    sv_b (fn_X8_grow v16 v17 h15) fun _ h18 =>
    (sv_gP h18 13 1308 x0).bind fun v19 =>
    (sv_pI h18 6 602 v19 0).bind fun h20 =>
    (sv_gP h20 13 1308 x0).bind fun v21 =>
    (sv_gP h20 6 600 v21).bind fun v22 =>
    (sv_gP h20 13 1306 x0).bind fun v23 =>
    (sv_gP h20 3 301 v23).bind fun v24 =>
    sv_b (fn_X7_become v22 v24 h20) fun _ h25 =>
    (sv_gP h25 13 1304 x0).bind fun v26 =>
    (sv_gP h25 13 1306 x0).bind fun v27 =>
    (sv_gP h25 13 1308 x0).bind fun v28 =>
    (sv_gP h25 6 600 v28).bind fun v29 =>
    sv_b (fn_X10_begin v26 v27 v29 h25) fun _ h30 =>
    fn_X12_loadMap_110 x0 h30
  )

def fn_X14_wrong_17 (h : sv_H) : Option (Unit × sv_H) :=
  some ((), h)

def fn_X14_wrong (x0 : Nat) (x1 : Int32) (x2 : Int32) (h : sv_H) : Option (Unit × sv_H) :=
  sv_kd h 15 x0 (
  (sv_gI h 15 1504 x0).bind fun v1 =>
  if v1 = 0 then
    (sv_pI h 15 1504 x0 x1).bind fun h2 =>
    (sv_pI h2 15 1505 x0 x2).bind fun h3 =>
    fn_X14_wrong_17 h3
  else
    fn_X14_wrong_17 h
  )

def fn_X14_add (x0 : Nat) (x1 : Int32) (h : sv_H) : Option (Unit × sv_H) :=
  sv_kd h 15 x0 (
  (sv_gI h 15 1508 x0).bind fun v1 =>
  (sv_pI h 15 1508 x0 ((v1 + x1) - (v1 + x1) / 251 * 251)).bind fun h2 =>
  (sv_gI h2 15 1509 x0).bind fun v3 =>
  (sv_gI h2 15 1508 x0).bind fun v4 =>
  (sv_pI h2 15 1509 x0 ((v3 + v4) - (v3 + v4) / 251 * 251)).bind fun h5 =>
  some ((), h5)
  )

def fn_X14_next_64 (x0 : Nat) (x3 : Int32) (h : sv_H) : Option (Int32 × sv_H) :=
  sv_b (fn_X14_add x0 x3 h) fun _ h1 =>
  (sv_gI h1 15 1507 x0).bind fun v2 =>
  (sv_pI h1 15 1507 x0 (v2 + 1)).bind fun h3 =>
  some (x3, h3)

def fn_X14_next_55 (x0 : Nat) (x3 : Int32) (h : sv_H) : Option (Int32 × sv_H) :=
  (sv_gI h 15 1507 x0).bind fun v1 =>
  sv_b (fn_X14_wrong x0 3 v1 h) fun _ h2 =>
  fn_X14_next_64 x0 x3 h2

def fn_X14_next (x0 : Nat) (x1 : Int32) (x2 : Int32) (h : sv_H) : Option (Int32 × sv_H) :=
  sv_kd h 15 x0 (
  (sv_gI h 15 1504 x0).bind fun v1 =>
  if v1 ≤ 0 then
    (sv_gI h 15 1507 x0).bind fun v2 =>
    (sv_gI h 15 1501 x0).bind fun v3 =>
    if v2 = v3 then
      (sv_gI h 15 1501 x0).bind fun v7 =>
      sv_b (fn_X14_wrong x0 1 v7 h) fun _ h8 =>
      some (0, h8)
    else
      (sv_gP h 15 1500 x0).bind fun v4 =>
      (sv_gI h 15 1507 x0).bind fun v5 =>
      (sv_lB h v4 v5).bind fun v6 =>
      if (v6 &&& 255) < x1 then
        fn_X14_next_55 x0 (v6 &&& 255) h
      else
        if (v6 &&& 255) ≤ x2 then
          fn_X14_next_64 x0 (v6 &&& 255) h
        else
          fn_X14_next_55 x0 (v6 &&& 255) h
  else
    some (0, h)
  )

def fn_X14_nextTwo_77 (x4 : Int32) (h : sv_H) : Option (Int32 × sv_H) :=
  some (x4, h)

def fn_X14_nextTwo_71 (x0 : Nat) (x3 : Int32) (x4 : Int32) (h : sv_H) : Option (Int32 × sv_H) :=
  sv_b (fn_X14_wrong x0 3 x3 h) fun _ h1 =>
  fn_X14_nextTwo_77 x4 h1

def fn_X14_nextTwo_50 (x0 : Nat) (x1 : Int32) (x2 : Int32) (x3 : Int32) (s0 : Int32) (h : sv_H) : Option (Int32 × sv_H) :=
  (sv_gI h 15 1504 x0).bind fun v1 =>
  if v1 = 0 then
    if s0 < x1 then
      fn_X14_nextTwo_71 x0 x3 s0 h
    else
      if s0 ≤ x2 then
        fn_X14_nextTwo_77 s0 h
      else
        fn_X14_nextTwo_71 x0 x3 s0 h
  else
    fn_X14_nextTwo_77 s0 h

def fn_X14_nextTwo (x0 : Nat) (x1 : Int32) (x2 : Int32) (h : sv_H) : Option (Int32 × sv_H) :=
  sv_kd h 15 x0 (
  (sv_gI h 15 1507 x0).bind fun v1 =>
  sv_b (fn_X14_next x0 0 255 h) fun r2 h3 =>
  sv_b (fn_X14_next x0 0 255 h3) fun r4 h5 =>
  if ((r2 * 256) + r4) ≤ 32767 then
    fn_X14_nextTwo_50 x0 x1 x2 v1 ((r2 * 256) + r4) h5
  else
    fn_X14_nextTwo_50 x0 x1 x2 v1 (((r2 * 256) + r4) - 65536) h5
  )

def fn_X14_pair_37 (s0 : Int32) (h : sv_H) : Option (Int32 × sv_H) :=
  some (s0, h)

def fn_X14_pair (x0 : Nat) (x1 : Int32) (h : sv_H) : Option (Int32 × sv_H) :=
  (sv_lB h x0 x1).bind fun v1 =>
  (sv_lB h x0 (x1 + 1)).bind fun v2 =>
  if (((v1 &&& 255) * 256) + (v2 &&& 255)) ≤ 32767 then
    fn_X14_pair_37 (((v1 &&& 255) * 256) + (v2 &&& 255)) h
  else
    fn_X14_pair_37 ((((v1 &&& 255) * 256) + (v2 &&& 255)) - 65536) h

def fn_X14_readVertex_93 (h : sv_H) : Option (Unit × sv_H) :=
  some ((), h)

def fn_X14_readVertex_87 (k31 : Nat → Int32 → Int32 → Int32 → Int32 → Int32 → sv_H → Option (Unit × sv_H)) (x0 : Nat) (x1 : Int32) (x2 : Int32) (x3 : Int32) (x4 : Int32) (x5 : Int32) (h : sv_H) : Option (Unit × sv_H) :=
  k31 x0 x1 x2 x3 x4 (x5 + 1) h

def fn_X14_readVertex_31b (k31 : Nat → Int32 → Int32 → Int32 → Int32 → Int32 → sv_H → Option (Unit × sv_H)) (x0 : Nat) (x1 : Int32) (x2 : Int32) (x3 : Int32) (x4 : Int32) (x5 : Int32) (h : sv_H) : Option (Unit × sv_H) :=
  if x1 ≤ x5 then
    fn_X14_readVertex_93 h
  else
    (sv_gI h 15 1504 x0).bind fun v1 =>
    if v1 = 0 then
      (sv_gP h 15 1500 x0).bind fun v2 =>
      sv_b (fn_X14_pair v2 (7 + (4 * x5)) h) fun r3 h4 =>
      if r3 = x2 then
        (sv_gP h4 15 1500 x0).bind fun v5 =>
        sv_b (fn_X14_pair v5 (9 + (4 * x5)) h4) fun r6 h7 =>
        if r6 = x4 then
          sv_b (fn_X14_wrong x0 3 x3 h7) fun _ h8 =>
          fn_X14_readVertex_87 k31 x0 x1 x2 x3 x4 x5 h8
        else
          fn_X14_readVertex_87 k31 x0 x1 x2 x3 x4 x5 h7
      else
        fn_X14_readVertex_87 k31 x0 x1 x2 x3 x4 x5 h4
    else
      fn_X14_readVertex_93 h

def fn_X14_readVertex_31 : Nat → Nat → Int32 → Int32 → Int32 → Int32 → Int32 → sv_H → Option (Unit × sv_H)
  | 0, _, _, _, _, _, _, _ => none
  | sv_n + 1, x0, x1, x2, x3, x4, x5, h => fn_X14_readVertex_31b (fn_X14_readVertex_31 sv_n) x0 x1 x2 x3 x4 x5 h

def fn_X14_readVertex (x0 : Nat) (x1 : Int32) (h : sv_H) : Option (Unit × sv_H) :=
  sv_kd h 15 x0 (
  sv_b (fn_X14_nextTwo x0 ((-32768)) 32767 h) fun r1 h2 =>
  (sv_gI h2 15 1507 x0).bind fun v3 =>
  sv_b (fn_X14_nextTwo x0 ((-32768)) 32767 h2) fun r4 h5 =>
  fn_X14_readVertex_31 sv_fuel x0 x1 r1 v3 r4 0 h5
  )

def fn_X14_readTexture_47 (h : sv_H) : Option (Unit × sv_H) :=
  some ((), h)

def fn_X14_readTexture_16b (k16 : Nat → Int32 → Int32 → Int32 → sv_H → Option (Unit × sv_H)) (x0 : Nat) (x1 : Int32) (x2 : Int32) (x3 : Int32) (h : sv_H) : Option (Unit × sv_H) :=
  if ((1 : Int32) <<< ((x1 + x2) &&& 31)) ≤ x3 then
    fn_X14_readTexture_47 h
  else
    (sv_gI h 15 1504 x0).bind fun v1 =>
    if v1 = 0 then
      sv_b (fn_X14_next x0 0 15 h) fun r2 h3 =>
      k16 x0 x1 x2 (x3 + 1) h3
    else
      fn_X14_readTexture_47 h

def fn_X14_readTexture_16 : Nat → Nat → Int32 → Int32 → Int32 → sv_H → Option (Unit × sv_H)
  | 0, _, _, _, _, _ => none
  | sv_n + 1, x0, x1, x2, x3, h => fn_X14_readTexture_16b (fn_X14_readTexture_16 sv_n) x0 x1 x2 x3 h

def fn_X14_readTexture (x0 : Nat) (h : sv_H) : Option (Unit × sv_H) :=
  sv_kd h 15 x0 (
  sv_b (fn_X14_next x0 0 4 h) fun r1 h2 =>
  sv_b (fn_X14_next x0 0 4 h2) fun r3 h4 =>
  fn_X14_readTexture_16 sv_fuel x0 r1 r3 0 h4
  )

def fn_X14_nextOr_39 (x2 : Int32) (h : sv_H) : Option (Int32 × sv_H) :=
  some (x2, h)

def fn_X14_nextOr (x0 : Nat) (x1 : Int32) (h : sv_H) : Option (Int32 × sv_H) :=
  sv_kd h 15 x0 (
  sv_b (fn_X14_next x0 0 255 h) fun r1 h2 =>
  (sv_gI h2 15 1504 x0).bind fun v3 =>
  if v3 = 0 then
    if r1 < x1 then
      fn_X14_nextOr_39 r1 h2
    else
      if r1 = 255 then
        fn_X14_nextOr_39 r1 h2
      else
        (sv_gI h2 15 1507 x0).bind fun v4 =>
        sv_b (fn_X14_wrong x0 3 (v4 - 1) h2) fun _ h5 =>
        fn_X14_nextOr_39 r1 h5
  else
    fn_X14_nextOr_39 r1 h2
  )

def fn_X14_readSector_47 (x0 : Nat) (x1 : Int32) (h : sv_H) : Option (Unit × sv_H) :=
  sv_b (fn_X14_next x0 0 (x1 - 1) h) fun r1 h2 =>
  sv_b (fn_X14_nextOr x0 x1 h2) fun r3 h4 =>
  sv_b (fn_X14_next x0 0 15 h4) fun r5 h6 =>
  sv_b (fn_X14_next x0 0 3 h6) fun r7 h8 =>
  sv_b (fn_X14_next x0 0 255 h8) fun r9 h10 =>
  some ((), h10)

def fn_X14_readSector (x0 : Nat) (x1 : Int32) (h : sv_H) : Option (Unit × sv_H) :=
  sv_kd h 15 x0 (
  sv_b (fn_X14_nextTwo x0 ((-1024)) 1024 h) fun r1 h2 =>
  (sv_gI h2 15 1507 x0).bind fun v3 =>
  sv_b (fn_X14_nextTwo x0 ((-1024)) 1024 h2) fun r4 h5 =>
  (sv_gI h5 15 1504 x0).bind fun v6 =>
  if v6 = 0 then
    if r1 < r4 then
      fn_X14_readSector_47 x0 x1 h5
    else
      sv_b (fn_X14_wrong x0 3 v3 h5) fun _ h7 =>
      fn_X14_readSector_47 x0 x1 h7
  else
    fn_X14_readSector_47 x0 x1 h5
  )

def fn_X14_readWall_119 (k65 : Nat → Int32 → Int32 → Int32 → sv_H → Option (Unit × sv_H)) (x0 : Nat) (x2 : Int32) (x7 : Int32) (x8 : Int32) (h : sv_H) : Option (Unit × sv_H) :=
  k65 x0 x2 x7 (x8 + 1) h

def fn_X14_readWall_65b (k65 : Nat → Int32 → Int32 → Int32 → sv_H → Option (Unit × sv_H)) (x0 : Nat) (x2 : Int32) (x7 : Int32) (x8 : Int32) (h : sv_H) : Option (Unit × sv_H) :=
  if 6 ≤ x8 then
    sv_b (fn_X14_next x0 0 255 h) fun r1 h2 =>
    sv_b (fn_X14_next x0 0 3 h2) fun r3 h4 =>
    sv_b (fn_X14_next x0 0 5 h4) fun r5 h6 =>
    sv_b (fn_X14_next x0 0 255 h6) fun r7 h8 =>
    some ((), h8)
  else
    sv_b (fn_X14_nextOr x0 x2 h) fun r9 h10 =>
    (sv_gI h10 15 1504 x0).bind fun v11 =>
    if v11 = 0 then
      if x8 ≤ 2 then
        fn_X14_readWall_119 k65 x0 x2 x7 x8 h10
      else
        if x7 = 255 then
          if r9 = 255 then
            fn_X14_readWall_119 k65 x0 x2 x7 x8 h10
          else
            (sv_gI h10 15 1507 x0).bind fun v12 =>
            sv_b (fn_X14_wrong x0 3 (v12 - 1) h10) fun _ h13 =>
            fn_X14_readWall_119 k65 x0 x2 x7 x8 h13
        else
          fn_X14_readWall_119 k65 x0 x2 x7 x8 h10
    else
      fn_X14_readWall_119 k65 x0 x2 x7 x8 h10

def fn_X14_readWall_65 : Nat → Nat → Int32 → Int32 → Int32 → sv_H → Option (Unit × sv_H)
  | 0, _, _, _, _, _ => none
  | sv_n + 1, x0, x2, x7, x8, h => fn_X14_readWall_65b (fn_X14_readWall_65 sv_n) x0 x2 x7 x8 h

def fn_X14_readWall_45 (x0 : Nat) (x2 : Int32) (x3 : Int32) (h : sv_H) : Option (Unit × sv_H) :=
  sv_b (fn_X14_next x0 0 (x3 - 1) h) fun r1 h2 =>
  sv_b (fn_X14_nextOr x0 x3 h2) fun r3 h4 =>
  fn_X14_readWall_65 sv_fuel x0 x2 r3 0 h4

def fn_X14_readWall (x0 : Nat) (x1 : Int32) (x2 : Int32) (x3 : Int32) (h : sv_H) : Option (Unit × sv_H) :=
  sv_kd h 15 x0 (
  sv_b (fn_X14_next x0 0 (x1 - 1) h) fun r1 h2 =>
  sv_b (fn_X14_next x0 0 (x1 - 1) h2) fun r3 h4 =>
  (sv_gI h4 15 1504 x0).bind fun v5 =>
  if v5 = 0 then
    if r1 = r3 then
      (sv_gI h4 15 1507 x0).bind fun v6 =>
      sv_b (fn_X14_wrong x0 3 (v6 - 1) h4) fun _ h7 =>
      fn_X14_readWall_45 x0 x2 x3 h7
    else
      fn_X14_readWall_45 x0 x2 x3 h4
  else
    fn_X14_readWall_45 x0 x2 x3 h4
  )

def fn_X14_readCheck_32 (h : sv_H) : Option (Unit × sv_H) :=
  some ((), h)

def fn_X14_readCheck (x0 : Nat) (x1 : Int32) (h : sv_H) : Option (Unit × sv_H) :=
  sv_kd h 15 x0 (
  (sv_gI h 15 1507 x0).bind fun v1 =>
  sv_b (fn_X14_next x0 0 255 h) fun r2 h3 =>
  (sv_gI h3 15 1504 x0).bind fun v4 =>
  if v4 = 0 then
    if r2 = x1 then
      fn_X14_readCheck_32 h3
    else
      sv_b (fn_X14_wrong x0 4 v1 h3) fun _ h5 =>
      fn_X14_readCheck_32 h5
  else
    fn_X14_readCheck_32 h3
  )

def fn_X14_vertexOf (x0 : Nat) (x1 : Int32) (x2 : Int32) (h : sv_H) : Option (Int32 × sv_H) :=
  sv_kd h 15 x0 (
  (sv_gP h 15 1500 x0).bind fun v1 =>
  (sv_lB h v1 (x1 + x2)).bind fun v2 =>
  some (v2 &&& 255, h)
  )

def fn_X14_cross (x0 : Int64) (x2 : Int64) (x4 : Int64) (x6 : Int64) (h : sv_H) : Option (Int64 × sv_H) :=
  some ((x0 * x6) - (x2 * x4), h)

def fn_X14_side_153 (s0 : Int32) (h : sv_H) : Option (Int32 × sv_H) :=
  some (s0, h)

def fn_X14_side (x0 : Nat) (x1 : Int32) (x2 : Int32) (h : sv_H) : Option (Int32 × sv_H) :=
  sv_kd h 15 x0 (
  (sv_gP h 15 1500 x0).bind fun v1 =>
  sv_b (fn_X14_vertexOf x0 x1 0 h) fun r2 h3 =>
  sv_b (fn_X14_pair v1 (7 + (4 * r2)) h3) fun r4 h5 =>
  (sv_gP h5 15 1500 x0).bind fun v6 =>
  sv_b (fn_X14_vertexOf x0 x1 0 h5) fun r7 h8 =>
  sv_b (fn_X14_pair v6 (9 + (4 * r7)) h8) fun r9 h10 =>
  (sv_gP h10 15 1500 x0).bind fun v11 =>
  sv_b (fn_X14_vertexOf x0 x1 1 h10) fun r12 h13 =>
  sv_b (fn_X14_pair v11 (7 + (4 * r12)) h13) fun r14 h15 =>
  (sv_gP h15 15 1500 x0).bind fun v16 =>
  sv_b (fn_X14_vertexOf x0 x1 1 h15) fun r17 h18 =>
  sv_b (fn_X14_pair v16 (9 + (4 * r17)) h18) fun r19 h20 =>
  (sv_gP h20 15 1500 x0).bind fun v21 =>
  sv_b (fn_X14_pair v21 (7 + (4 * x2)) h20) fun r22 h23 =>
  (sv_gP h23 15 1500 x0).bind fun v24 =>
  sv_b (fn_X14_pair v24 (9 + (4 * x2)) h23) fun r25 h26 =>
  sv_b (fn_X14_cross ((Int32.toInt64 r14) - (Int32.toInt64 r4)) ((Int32.toInt64 r19) - (Int32.toInt64 r9)) ((Int32.toInt64 r22) - (Int32.toInt64 r4)) ((Int32.toInt64 r25) - (Int32.toInt64 r9)) h26) fun r27 h28 =>
  if 0 ≤ (lg_cmp r27 0) then
    if (lg_cmp r27 0) ≤ 0 then
      fn_X14_side_153 0 h28
    else
      fn_X14_side_153 1 h28
  else
    fn_X14_side_153 ((-1)) h28
  )

def fn_X14_lies_35 (h : sv_H) : Option (Int32 × sv_H) :=
  some (0, h)

def fn_X14_lies_156 (s0 : Int32) (h : sv_H) : Option (Int32 × sv_H) :=
  sv_rz s0 h

def fn_X14_lies (x0 : Nat) (x1 : Int32) (x2 : Int32) (h : sv_H) : Option (Int32 × sv_H) :=
  sv_kd h 15 x0 (
  sv_b (fn_X14_vertexOf x0 x1 0 h) fun r1 h2 =>
  sv_b (fn_X14_vertexOf x0 x1 1 h2) fun r3 h4 =>
  if x2 = r1 then
    fn_X14_lies_35 h4
  else
    if x2 = r3 then
      fn_X14_lies_35 h4
    else
      sv_b (fn_X14_side x0 x1 x2 h4) fun r5 h6 =>
      if r5 = 0 then
        (sv_gP h6 15 1500 x0).bind fun v7 =>
        sv_b (fn_X14_pair v7 (7 + (4 * x2)) h6) fun r8 h9 =>
        (sv_gP h9 15 1500 x0).bind fun v10 =>
        sv_b (fn_X14_pair v10 (9 + (4 * x2)) h9) fun r11 h12 =>
        (sv_gP h12 15 1500 x0).bind fun v13 =>
        sv_b (fn_X14_pair v13 (7 + (4 * r1)) h12) fun r14 h15 =>
        (sv_gP h15 15 1500 x0).bind fun v16 =>
        sv_b (fn_X14_pair v16 (7 + (4 * r3)) h15) fun r17 h18 =>
        (sv_gP h18 15 1500 x0).bind fun v19 =>
        sv_b (fn_X14_pair v19 (9 + (4 * r1)) h18) fun r20 h21 =>
        (sv_gP h21 15 1500 x0).bind fun v22 =>
        sv_b (fn_X14_pair v22 (9 + (4 * r3)) h21) fun r23 h24 =>
        if 0 ≤ (lg_cmp ((((Int32.toInt64 r14) - (Int32.toInt64 r8)) * ((Int32.toInt64 r17) - (Int32.toInt64 r8))) + (((Int32.toInt64 r20) - (Int32.toInt64 r11)) * ((Int32.toInt64 r23) - (Int32.toInt64 r11)))) 0) then
          fn_X14_lies_156 0 h24
        else
          fn_X14_lies_156 1 h24
      else
        fn_X14_lies_35 h6
  )

def fn_X14_touch_160 (s0 : Int32) (h : sv_H) : Option (Int32 × sv_H) :=
  sv_rz s0 h

def fn_X14_touch_155 (h : sv_H) : Option (Int32 × sv_H) :=
  fn_X14_touch_160 1 h

def fn_X14_touch_104 (x0 : Nat) (x1 : Int32) (x2 : Int32) (x3 : Int32) (x4 : Int32) (x5 : Int32) (x6 : Int32) (x7 : Int32) (s0 : Int32) (h : sv_H) : Option (Int32 × sv_H) :=
  if x7 = 0 then
    if s0 = 0 then
      sv_b (fn_X14_lies x0 x1 x5 h) fun r1 h2 =>
      if r1 = 0 then
        sv_b (fn_X14_lies x0 x1 x6 h2) fun r3 h4 =>
        if r3 = 0 then
          sv_b (fn_X14_lies x0 x2 x3 h4) fun r5 h6 =>
          if r5 = 0 then
            sv_b (fn_X14_lies x0 x2 x4 h6) fun r7 h8 =>
            if r7 = 0 then
              fn_X14_touch_160 0 h8
            else
              fn_X14_touch_155 h8
          else
            fn_X14_touch_155 h6
        else
          fn_X14_touch_155 h4
      else
        fn_X14_touch_155 h2
    else
      fn_X14_touch_155 h
  else
    fn_X14_touch_155 h

def fn_X14_touch_103 (x0 : Nat) (x1 : Int32) (x2 : Int32) (x3 : Int32) (x4 : Int32) (x5 : Int32) (x6 : Int32) (x7 : Int32) (h : sv_H) : Option (Int32 × sv_H) :=
  fn_X14_touch_104 x0 x1 x2 x3 x4 x5 x6 x7 0 h

def fn_X14_touch_62 (x0 : Nat) (x1 : Int32) (x2 : Int32) (x3 : Int32) (x4 : Int32) (x5 : Int32) (x6 : Int32) (s0 : Int32) (h : sv_H) : Option (Int32 × sv_H) :=
  sv_b (fn_X14_side x0 x1 x5 h) fun r1 h2 =>
  sv_b (fn_X14_side x0 x1 x6 h2) fun r3 h4 =>
  if 0 ≤ (r1 * r3) then
    fn_X14_touch_103 x0 x1 x2 x3 x4 x5 x6 s0 h4
  else
    sv_b (fn_X14_side x0 x2 x3 h4) fun r5 h6 =>
    sv_b (fn_X14_side x0 x2 x4 h6) fun r7 h8 =>
    if 0 ≤ (r5 * r7) then
      fn_X14_touch_103 x0 x1 x2 x3 x4 x5 x6 s0 h8
    else
      fn_X14_touch_104 x0 x1 x2 x3 x4 x5 x6 s0 1 h8

def fn_X14_touch_57 (x0 : Nat) (x1 : Int32) (x2 : Int32) (x3 : Int32) (x4 : Int32) (x5 : Int32) (x6 : Int32) (h : sv_H) : Option (Int32 × sv_H) :=
  fn_X14_touch_62 x0 x1 x2 x3 x4 x5 x6 1 h

def fn_X14_touch_61 (x0 : Nat) (x1 : Int32) (x2 : Int32) (x3 : Int32) (x4 : Int32) (x5 : Int32) (x6 : Int32) (h : sv_H) : Option (Int32 × sv_H) :=
  fn_X14_touch_62 x0 x1 x2 x3 x4 x5 x6 0 h

def fn_X14_touch_43 (x0 : Nat) (x1 : Int32) (x2 : Int32) (x3 : Int32) (x4 : Int32) (x5 : Int32) (x6 : Int32) (h : sv_H) : Option (Int32 × sv_H) :=
  if x4 = x5 then
    fn_X14_touch_57 x0 x1 x2 x3 x4 x5 x6 h
  else
    if x4 = x6 then
      fn_X14_touch_57 x0 x1 x2 x3 x4 x5 x6 h
    else
      fn_X14_touch_61 x0 x1 x2 x3 x4 x5 x6 h

def fn_X14_touch (x0 : Nat) (x1 : Int32) (x2 : Int32) (h : sv_H) : Option (Int32 × sv_H) :=
  sv_kd h 15 x0 (
  sv_b (fn_X14_vertexOf x0 x1 0 h) fun r1 h2 =>
  sv_b (fn_X14_vertexOf x0 x1 1 h2) fun r3 h4 =>
  sv_b (fn_X14_vertexOf x0 x2 0 h4) fun r5 h6 =>
  sv_b (fn_X14_vertexOf x0 x2 1 h6) fun r7 h8 =>
  if r1 = r5 then
    fn_X14_touch_43 x0 x1 x2 r1 r3 r5 r7 h8
  else
    if r1 = r7 then
      fn_X14_touch_43 x0 x1 x2 r1 r3 r5 r7 h8
    else
      fn_X14_touch_61 x0 x1 x2 r1 r3 r5 r7 h8
  )

def fn_X14_readAll_403 (h : sv_H) : Option (Unit × sv_H) :=
  some ((), h)

def fn_X14_readAll_397 (k317 : Nat → Int32 → Int32 → Int32 → sv_H → Option (Unit × sv_H)) (x0 : Nat) (x4 : Int32) (x5 : Int32) (x12 : Int32) (h : sv_H) : Option (Unit × sv_H) :=
  k317 x0 x4 x5 (x12 + 1) h

def fn_X14_readAll_391 (k317 : Nat → Int32 → Int32 → Int32 → sv_H → Option (Unit × sv_H)) (k334 : Nat → Int32 → Int32 → Int32 → Int32 → sv_H → Option (Unit × sv_H)) (x0 : Nat) (x4 : Int32) (x5 : Int32) (x12 : Int32) (x13 : Int32) (h : sv_H) : Option (Unit × sv_H) :=
  k334 x0 x4 x5 x12 (x13 + 1) h

def fn_X14_readAll_334b (k317 : Nat → Int32 → Int32 → Int32 → sv_H → Option (Unit × sv_H)) (k334 : Nat → Int32 → Int32 → Int32 → Int32 → sv_H → Option (Unit × sv_H)) (x0 : Nat) (x4 : Int32) (x5 : Int32) (x12 : Int32) (x13 : Int32) (h : sv_H) : Option (Unit × sv_H) :=
  if x12 ≤ x13 then
    fn_X14_readAll_397 k317 x0 x4 x5 x12 h
  else
    (sv_gI h 15 1504 x0).bind fun v1 =>
    if v1 = 0 then
      sv_b (fn_X14_touch x0 (x5 + (14 * x13)) (x5 + (14 * x12)) h) fun r2 h3 =>
      if r2 = 0 then
        fn_X14_readAll_391 k317 k334 x0 x4 x5 x12 x13 h3
      else
        sv_b (fn_X14_wrong x0 6 (x5 + (14 * x12)) h3) fun _ h4 =>
        (sv_pI h4 15 1506 x0 x12).bind fun h5 =>
        fn_X14_readAll_391 k317 k334 x0 x4 x5 x12 x13 h5
    else
      fn_X14_readAll_397 k317 x0 x4 x5 x12 h

def fn_X14_readAll_334 (k317 : Nat → Int32 → Int32 → Int32 → sv_H → Option (Unit × sv_H)) : Nat → Nat → Int32 → Int32 → Int32 → Int32 → sv_H → Option (Unit × sv_H)
  | 0, _, _, _, _, _, _ => none
  | sv_n + 1, x0, x4, x5, x12, x13, h => fn_X14_readAll_334b k317 (fn_X14_readAll_334 k317 sv_n) x0 x4 x5 x12 x13 h

def fn_X14_readAll_317b (k317 : Nat → Int32 → Int32 → Int32 → sv_H → Option (Unit × sv_H)) (x0 : Nat) (x4 : Int32) (x5 : Int32) (x12 : Int32) (h : sv_H) : Option (Unit × sv_H) :=
  if x4 ≤ x12 then
    fn_X14_readAll_403 h
  else
    (sv_gI h 15 1504 x0).bind fun v1 =>
    if v1 = 0 then
      fn_X14_readAll_334 k317 sv_fuel x0 x4 x5 x12 0 h
    else
      fn_X14_readAll_403 h

def fn_X14_readAll_317 : Nat → Nat → Int32 → Int32 → Int32 → sv_H → Option (Unit × sv_H)
  | 0, _, _, _, _, _ => none
  | sv_n + 1, x0, x4, x5, x12, h => fn_X14_readAll_317b (fn_X14_readAll_317 sv_n) x0 x4 x5 x12 h

def fn_X14_readAll_314 (x0 : Nat) (x4 : Int32) (x5 : Int32) (h : sv_H) : Option (Unit × sv_H) :=
  fn_X14_readAll_317 sv_fuel x0 x4 x5 0 h

def fn_X14_readAll_220 (x0 : Nat) (x3 : Int32) (x4 : Int32) (x5 : Int32) (h : sv_H) : Option (Unit × sv_H) :=
  sv_b (fn_X14_nextTwo x0 ((-32768)) 32767 h) fun r1 h2 =>
  sv_b (fn_X14_nextTwo x0 ((-32768)) 32767 h2) fun r3 h4 =>
  sv_b (fn_X14_next x0 0 63 h4) fun r5 h6 =>
  sv_b (fn_X14_next x0 0 (x3 - 1) h6) fun r7 h8 =>
  (sv_gI h8 15 1508 x0).bind fun v9 =>
  (sv_gI h8 15 1509 x0).bind fun v10 =>
  sv_b (fn_X14_readCheck x0 v9 h8) fun _ h11 =>
  sv_b (fn_X14_readCheck x0 v10 h11) fun _ h12 =>
  (sv_gI h12 15 1504 x0).bind fun v13 =>
  if v13 = 0 then
    (sv_gI h12 15 1507 x0).bind fun v14 =>
    (sv_gI h12 15 1501 x0).bind fun v15 =>
    if v15 ≤ v14 then
      fn_X14_readAll_314 x0 x4 x5 h12
    else
      (sv_gI h12 15 1507 x0).bind fun v16 =>
      sv_b (fn_X14_wrong x0 5 v16 h12) fun _ h17 =>
      fn_X14_readAll_314 x0 x4 x5 h17
  else
    fn_X14_readAll_314 x0 x4 x5 h12

def fn_X14_readAll_193b (k193 : Nat → Int32 → Int32 → Int32 → Int32 → Int32 → Int32 → sv_H → Option (Unit × sv_H)) (x0 : Nat) (x1 : Int32) (x2 : Int32) (x3 : Int32) (x4 : Int32) (x5 : Int32) (x6 : Int32) (h : sv_H) : Option (Unit × sv_H) :=
  if x4 ≤ x6 then
    fn_X14_readAll_220 x0 x3 x4 x5 h
  else
    (sv_gI h 15 1504 x0).bind fun v1 =>
    if v1 = 0 then
      sv_b (fn_X14_readWall x0 x1 x2 x3 h) fun _ h2 =>
      k193 x0 x1 x2 x3 x4 x5 (x6 + 1) h2
    else
      fn_X14_readAll_220 x0 x3 x4 x5 h

def fn_X14_readAll_193 : Nat → Nat → Int32 → Int32 → Int32 → Int32 → Int32 → Int32 → sv_H → Option (Unit × sv_H)
  | 0, _, _, _, _, _, _, _, _ => none
  | sv_n + 1, x0, x1, x2, x3, x4, x5, x6, h => fn_X14_readAll_193b (fn_X14_readAll_193 sv_n) x0 x1 x2 x3 x4 x5 x6 h

def fn_X14_readAll_184 (x0 : Nat) (x1 : Int32) (x2 : Int32) (x3 : Int32) (x4 : Int32) (h : sv_H) : Option (Unit × sv_H) :=
  (sv_gI h 15 1507 x0).bind fun v1 =>
  fn_X14_readAll_193 sv_fuel x0 x1 x2 x3 x4 v1 0 h

def fn_X14_readAll_160b (k160 : Nat → Int32 → Int32 → Int32 → Int32 → Int32 → sv_H → Option (Unit × sv_H)) (x0 : Nat) (x1 : Int32) (x2 : Int32) (x3 : Int32) (x4 : Int32) (x5 : Int32) (h : sv_H) : Option (Unit × sv_H) :=
  if x3 ≤ x5 then
    fn_X14_readAll_184 x0 x1 x2 x3 x4 h
  else
    (sv_gI h 15 1504 x0).bind fun v1 =>
    if v1 = 0 then
      sv_b (fn_X14_readSector x0 x2 h) fun _ h2 =>
      k160 x0 x1 x2 x3 x4 (x5 + 1) h2
    else
      fn_X14_readAll_184 x0 x1 x2 x3 x4 h

def fn_X14_readAll_160 : Nat → Nat → Int32 → Int32 → Int32 → Int32 → Int32 → sv_H → Option (Unit × sv_H)
  | 0, _, _, _, _, _, _, _ => none
  | sv_n + 1, x0, x1, x2, x3, x4, x5, h => fn_X14_readAll_160b (fn_X14_readAll_160 sv_n) x0 x1 x2 x3 x4 x5 h

def fn_X14_readAll_157 (x0 : Nat) (x1 : Int32) (x2 : Int32) (x3 : Int32) (x4 : Int32) (h : sv_H) : Option (Unit × sv_H) :=
  fn_X14_readAll_160 sv_fuel x0 x1 x2 x3 x4 0 h

def fn_X14_readAll_134b (k134 : Nat → Int32 → Int32 → Int32 → Int32 → Int32 → sv_H → Option (Unit × sv_H)) (x0 : Nat) (x1 : Int32) (x2 : Int32) (x3 : Int32) (x4 : Int32) (x5 : Int32) (h : sv_H) : Option (Unit × sv_H) :=
  if x2 ≤ x5 then
    fn_X14_readAll_157 x0 x1 x2 x3 x4 h
  else
    (sv_gI h 15 1504 x0).bind fun v1 =>
    if v1 = 0 then
      sv_b (fn_X14_readTexture x0 h) fun _ h2 =>
      k134 x0 x1 x2 x3 x4 (x5 + 1) h2
    else
      fn_X14_readAll_157 x0 x1 x2 x3 x4 h

def fn_X14_readAll_134 : Nat → Nat → Int32 → Int32 → Int32 → Int32 → Int32 → sv_H → Option (Unit × sv_H)
  | 0, _, _, _, _, _, _, _ => none
  | sv_n + 1, x0, x1, x2, x3, x4, x5, h => fn_X14_readAll_134b (fn_X14_readAll_134 sv_n) x0 x1 x2 x3 x4 x5 h

def fn_X14_readAll_131 (x0 : Nat) (x1 : Int32) (x2 : Int32) (x3 : Int32) (x4 : Int32) (h : sv_H) : Option (Unit × sv_H) :=
  fn_X14_readAll_134 sv_fuel x0 x1 x2 x3 x4 0 h

def fn_X14_readAll_106b (k106 : Nat → Int32 → Int32 → Int32 → Int32 → Int32 → sv_H → Option (Unit × sv_H)) (x0 : Nat) (x1 : Int32) (x2 : Int32) (x3 : Int32) (x4 : Int32) (x5 : Int32) (h : sv_H) : Option (Unit × sv_H) :=
  if x1 ≤ x5 then
    fn_X14_readAll_131 x0 x1 x2 x3 x4 h
  else
    (sv_gI h 15 1504 x0).bind fun v1 =>
    if v1 = 0 then
      sv_b (fn_X14_readVertex x0 x5 h) fun _ h2 =>
      k106 x0 x1 x2 x3 x4 (x5 + 1) h2
    else
      fn_X14_readAll_131 x0 x1 x2 x3 x4 h

def fn_X14_readAll_106 : Nat → Nat → Int32 → Int32 → Int32 → Int32 → Int32 → sv_H → Option (Unit × sv_H)
  | 0, _, _, _, _, _, _, _ => none
  | sv_n + 1, x0, x1, x2, x3, x4, x5, h => fn_X14_readAll_106b (fn_X14_readAll_106 sv_n) x0 x1 x2 x3 x4 x5 h

def fn_X14_readAll_68 (x0 : Nat) (h : sv_H) : Option (Unit × sv_H) :=
  sv_b (fn_X14_next x0 0 128 h) fun r1 h2 =>
  sv_b (fn_X14_next x0 0 16 h2) fun r3 h4 =>
  sv_b (fn_X14_next x0 1 32 h4) fun r5 h6 =>
  sv_b (fn_X14_next x0 0 128 h6) fun r7 h8 =>
  fn_X14_readAll_106 sv_fuel x0 r1 r3 r5 r7 0 h8

def fn_X14_readAll_62 (k2 : Nat → Int32 → sv_H → Option (Unit × sv_H)) (x0 : Nat) (x1 : Int32) (h : sv_H) : Option (Unit × sv_H) :=
  k2 x0 (x1 + 1) h

def fn_X14_readAll_34 (k2 : Nat → Int32 → sv_H → Option (Unit × sv_H)) (x0 : Nat) (x1 : Int32) (s0 : Int32) (h : sv_H) : Option (Unit × sv_H) :=
  sv_b (fn_X14_next x0 0 255 h) fun r1 h2 =>
  (sv_gI h2 15 1504 x0).bind fun v3 =>
  if v3 = 0 then
    if r1 = s0 then
      fn_X14_readAll_62 k2 x0 x1 h2
    else
      sv_b (fn_X14_wrong x0 2 x1 h2) fun _ h4 =>
      fn_X14_readAll_62 k2 x0 x1 h4
  else
    fn_X14_readAll_62 k2 x0 x1 h2

def fn_X14_readAll_2b (k2 : Nat → Int32 → sv_H → Option (Unit × sv_H)) (x0 : Nat) (x1 : Int32) (h : sv_H) : Option (Unit × sv_H) :=
  if 3 ≤ x1 then
    fn_X14_readAll_68 x0 h
  else
    (sv_gI h 15 1504 x0).bind fun v1 =>
    if v1 = 0 then
      if x1 = 0 then
        fn_X14_readAll_34 k2 x0 x1 77 h
      else
        if x1 = 1 then
          fn_X14_readAll_34 k2 x0 x1 72 h
        else
          fn_X14_readAll_34 k2 x0 x1 1 h
    else
      fn_X14_readAll_68 x0 h

def fn_X14_readAll_2 : Nat → Nat → Int32 → sv_H → Option (Unit × sv_H)
  | 0, _, _, _ => none
  | sv_n + 1, x0, x1, h => fn_X14_readAll_2b (fn_X14_readAll_2 sv_n) x0 x1 h

def fn_X14_readAll (x0 : Nat) (h : sv_H) : Option (Unit × sv_H) :=
  sv_kd h 15 x0 (
  fn_X14_readAll_2 sv_fuel x0 0 h
  )

def fn_X14_read_77 (x0 : Nat) (h : sv_H) : Option (Int32 × sv_H) :=
  (sv_gI h 15 1504 x0).bind fun v1 =>
  some (v1, h)

def fn_X14_read_43b (k43 : Nat → Int32 → sv_H → Option (Int32 × sv_H)) (x0 : Nat) (x1 : Int32) (h : sv_H) : Option (Int32 × sv_H) :=
  (sv_gI h 15 1501 x0).bind fun v1 =>
  if v1 ≤ x1 then
    (sv_gI h 15 1501 x0).bind fun v2 =>
    (sv_pI h 15 1503 x0 v2).bind fun h3 =>
    fn_X14_read_77 x0 h3
  else
    (sv_gP h 15 1502 x0).bind fun v4 =>
    (sv_gP h 15 1500 x0).bind fun v5 =>
    (sv_lB h v5 x1).bind fun v6 =>
    (sv_sB h v4 x1 v6).bind fun h7 =>
    k43 x0 (x1 + 1) h7

def fn_X14_read_43 : Nat → Nat → Int32 → sv_H → Option (Int32 × sv_H)
  | 0, _, _, _ => none
  | sv_n + 1, x0, x1, h => fn_X14_read_43b (fn_X14_read_43 sv_n) x0 x1 h

def fn_X14_read (x0 : Nat) (h : sv_H) : Option (Int32 × sv_H) :=
  sv_kd h 15 x0 (
  (sv_pI h 15 1507 x0 0).bind fun h1 =>
  (sv_pI h1 15 1508 x0 0).bind fun h2 =>
  (sv_pI h2 15 1509 x0 0).bind fun h3 =>
  (sv_pI h3 15 1504 x0 0).bind fun h4 =>
  (sv_pI h4 15 1505 x0 ((-1))).bind fun h5 =>
  (sv_pI h5 15 1506 x0 ((-1))).bind fun h6 =>
  sv_b (fn_X14_readAll x0 h6) fun _ h7 =>
  (sv_gI h7 15 1504 x0).bind fun v8 =>
  if v8 = 0 then
    fn_X14_read_43 sv_fuel x0 0 h7
  else
    fn_X14_read_77 x0 h7
  )

def fn_X13_reset_2b (k2 : Nat → Int32 → sv_H → Option (Unit × sv_H)) (x0 : Nat) (x1 : Int32) (h : sv_H) : Option (Unit × sv_H) :=
  (sv_gI h 14 1400 x0).bind fun v1 =>
  if v1 ≤ x1 then
    (sv_pI h 14 1415 x0 0).bind fun h2 =>
    (sv_pI h2 14 1416 x0 ((-1))).bind fun h3 =>
    (sv_pI h3 14 1417 x0 0).bind fun h4 =>
    some ((), h4)
  else
    (sv_gP h 14 1408 x0).bind fun v5 =>
    (sv_gP h 14 1401 x0).bind fun v6 =>
    (sv_lI h v6 x1).bind fun v7 =>
    (sv_sI h v5 x1 v7).bind fun h8 =>
    (sv_gP h8 14 1409 x0).bind fun v9 =>
    (sv_gP h8 14 1402 x0).bind fun v10 =>
    (sv_lI h8 v10 x1).bind fun v11 =>
    (sv_sI h8 v9 x1 v11).bind fun h12 =>
    (sv_gP h12 14 1410 x0).bind fun v13 =>
    (sv_sI h12 v13 x1 ((-1))).bind fun h14 =>
    (sv_gP h14 14 1411 x0).bind fun v15 =>
    (sv_sI h14 v15 x1 0).bind fun h16 =>
    (sv_gP h16 14 1412 x0).bind fun v17 =>
    (sv_sI h16 v17 x1 0).bind fun h18 =>
    (sv_gP h18 14 1413 x0).bind fun v19 =>
    (sv_sI h18 v19 x1 ((-1))).bind fun h20 =>
    k2 x0 (x1 + 1) h20

def fn_X13_reset_2 : Nat → Nat → Int32 → sv_H → Option (Unit × sv_H)
  | 0, _, _, _ => none
  | sv_n + 1, x0, x1, h => fn_X13_reset_2b (fn_X13_reset_2 sv_n) x0 x1 h

def fn_X13_reset (x0 : Nat) (h : sv_H) : Option (Unit × sv_H) :=
  sv_kd h 14 x0 (
  fn_X13_reset_2 sv_fuel x0 0 h
  )

def fn_X13_clear_12b (k12 : Nat → Int32 → sv_H → Option (Unit × sv_H)) (x0 : Nat) (x1 : Int32) (h : sv_H) : Option (Unit × sv_H) :=
  if 1024 ≤ x1 then
    sv_b (fn_X13_reset x0 h) fun _ h1 =>
    some ((), h1)
  else
    (sv_gP h 14 1406 x0).bind fun v2 =>
    (sv_sZ h v2 x1 0).bind fun h3 =>
    k12 x0 (x1 + 1) h3

def fn_X13_clear_12 : Nat → Nat → Int32 → sv_H → Option (Unit × sv_H)
  | 0, _, _, _ => none
  | sv_n + 1, x0, x1, h => fn_X13_clear_12b (fn_X13_clear_12 sv_n) x0 x1 h

def fn_X13_clear (x0 : Nat) (h : sv_H) : Option (Unit × sv_H) :=
  sv_kd h 14 x0 (
  (sv_pI h 14 1400 x0 0).bind fun h1 =>
  (sv_pI h1 14 1407 x0 0).bind fun h2 =>
  fn_X13_clear_12 sv_fuel x0 0 h2
  )

def fn_X14_many_21 (s0 : Int32) (h : sv_H) : Option (Int32 × sv_H) :=
  some (s0, h)

def fn_X14_many (x0 : Nat) (x1 : Int32) (h : sv_H) : Option (Int32 × sv_H) :=
  sv_kd h 15 x0 (
  (sv_gI h 15 1503 x0).bind fun v1 =>
  if v1 = 0 then
    fn_X14_many_21 0 h
  else
    (sv_gP h 15 1502 x0).bind fun v2 =>
    (sv_lB h v2 x1).bind fun v3 =>
    fn_X14_many_21 (v3 &&& 255) h
  )

def fn_X17_sectors_19 (s0 : Int32) (h : sv_H) : Option (Int32 × sv_H) :=
  some (s0, h)

def fn_X17_sectors (x0 : Nat) (h : sv_H) : Option (Int32 × sv_H) :=
  sv_kd h 18 x0 (
  (sv_gI h 18 1809 x0).bind fun v1 =>
  if v1 = 0 then
    fn_X17_sectors_19 0 h
  else
    (sv_gP h 18 1801 x0).bind fun v2 =>
    sv_b (fn_X14_many v2 5 h) fun r3 h4 =>
    fn_X17_sectors_19 r3 h4
  )

def fn_X14_has_18 (s0 : Int32) (h : sv_H) : Option (Int32 × sv_H) :=
  sv_rz s0 h

def fn_X14_has_17 (h : sv_H) : Option (Int32 × sv_H) :=
  fn_X14_has_18 0 h

def fn_X14_has (x0 : Nat) (x1 : Int32) (x2 : Int32) (h : sv_H) : Option (Int32 × sv_H) :=
  sv_kd h 15 x0 (
  if x2 < 0 then
    fn_X14_has_17 h
  else
    sv_b (fn_X14_many x0 x1 h) fun r1 h2 =>
    if r1 ≤ x2 then
      fn_X14_has_17 h2
    else
      fn_X14_has_18 1 h2
  )

def fn_X14_textureAt_13b (k13 : Nat → Int32 → Int32 → Int32 → sv_H → Option (Int32 × sv_H)) (x0 : Nat) (x1 : Int32) (x2 : Int32) (x3 : Int32) (h : sv_H) : Option (Int32 × sv_H) :=
  if x1 ≤ x3 then
    some (x2, h)
  else
    (sv_gP h 15 1502 x0).bind fun v1 =>
    (sv_lB h v1 x2).bind fun v2 =>
    (sv_gP h 15 1502 x0).bind fun v3 =>
    (sv_lB h v3 (x2 + 1)).bind fun v4 =>
    k13 x0 x1 (x2 + (2 + ((1 : Int32) <<< ((v2 + v4) &&& 31)))) (x3 + 1) h

def fn_X14_textureAt_13 : Nat → Nat → Int32 → Int32 → Int32 → sv_H → Option (Int32 × sv_H)
  | 0, _, _, _, _, _ => none
  | sv_n + 1, x0, x1, x2, x3, h => fn_X14_textureAt_13b (fn_X14_textureAt_13 sv_n) x0 x1 x2 x3 h

def fn_X14_textureAt (x0 : Nat) (x1 : Int32) (h : sv_H) : Option (Int32 × sv_H) :=
  sv_kd h 15 x0 (
  sv_b (fn_X14_many x0 3 h) fun r1 h2 =>
  fn_X14_textureAt_13 sv_fuel x0 x1 (7 + (4 * r1)) 0 h2
  )

def fn_X14_sectorAt (x0 : Nat) (x1 : Int32) (h : sv_H) : Option (Int32 × sv_H) :=
  sv_kd h 15 x0 (
  sv_b (fn_X14_many x0 4 h) fun r1 h2 =>
  sv_b (fn_X14_textureAt x0 r1 h2) fun r3 h4 =>
  some (r3 + (9 * x1), h4)
  )

def fn_X14_sector_19 (h : sv_H) : Option (Int32 × sv_H) :=
  some (100000, h)

def fn_X14_sector_62 (s0 : Int32) (h : sv_H) : Option (Int32 × sv_H) :=
  some (s0, h)

def fn_X14_sector (x0 : Nat) (x1 : Int32) (x2 : Int32) (h : sv_H) : Option (Int32 × sv_H) :=
  sv_kd h 15 x0 (
  sv_b (fn_X14_has x0 5 x1 h) fun r1 h2 =>
  if r1 = 0 then
    fn_X14_sector_19 h2
  else
    if x2 < 0 then
      fn_X14_sector_19 h2
    else
      if x2 ≤ 6 then
        sv_b (fn_X14_sectorAt x0 x1 h2) fun r3 h4 =>
        if 2 ≤ x2 then
          (sv_gP h4 15 1502 x0).bind fun v5 =>
          (sv_lB h4 v5 ((r3 + 2) + x2)).bind fun v6 =>
          fn_X14_sector_62 (v6 &&& 255) h4
        else
          (sv_gP h4 15 1502 x0).bind fun v7 =>
          sv_b (fn_X14_pair v7 (r3 + (2 * x2)) h4) fun r8 h9 =>
          fn_X14_sector_62 r8 h9
      else
        fn_X14_sector_19 h2
  )

def fn_X13_sector_67 (x0 : Nat) (x1 : Int32) (x2 : Int32) (x3 : Int32) (x4 : Int32) (x5 : Int32) (s0 : Int32) (h : sv_H) : Option (Int32 × sv_H) :=
  if s0 = 0 then
    some ((-1), h)
  else
    (sv_gP h 14 1401 x0).bind fun v1 =>
    (sv_gI h 14 1400 x0).bind fun v2 =>
    (sv_sI h v1 v2 x1).bind fun h3 =>
    (sv_gP h3 14 1402 x0).bind fun v4 =>
    (sv_gI h3 14 1400 x0).bind fun v5 =>
    (sv_sI h3 v4 v5 x2).bind fun h6 =>
    (sv_gP h6 14 1403 x0).bind fun v7 =>
    (sv_gI h6 14 1400 x0).bind fun v8 =>
    (sv_sI h6 v7 v8 x3).bind fun h9 =>
    (sv_gP h9 14 1404 x0).bind fun v10 =>
    (sv_gI h9 14 1400 x0).bind fun v11 =>
    (sv_sI h9 v10 v11 x4).bind fun h12 =>
    (sv_gP h12 14 1405 x0).bind fun v13 =>
    (sv_gI h12 14 1400 x0).bind fun v14 =>
    (sv_sI h12 v13 v14 x5).bind fun h15 =>
    (sv_gI h15 14 1400 x0).bind fun v16 =>
    (sv_pI h15 14 1400 x0 (v16 + 1)).bind fun h17 =>
    sv_b (fn_X13_reset x0 h17) fun _ h18 =>
    (sv_gI h18 14 1400 x0).bind fun v19 =>
    some (v19 - 1, h18)

def fn_X13_sector_66 (x0 : Nat) (x1 : Int32) (x2 : Int32) (x3 : Int32) (x4 : Int32) (x5 : Int32) (h : sv_H) : Option (Int32 × sv_H) :=
  fn_X13_sector_67 x0 x1 x2 x3 x4 x5 0 h

def fn_X13_sector (x0 : Nat) (x1 : Int32) (x2 : Int32) (x3 : Int32) (x4 : Int32) (x5 : Int32) (h : sv_H) : Option (Int32 × sv_H) :=
  sv_kd h 14 x0 (
  if x1 < ((-1024)) then
    fn_X13_sector_66 x0 x1 x2 x3 x4 x5 h
  else
    if 1024 < x2 then
      fn_X13_sector_66 x0 x1 x2 x3 x4 x5 h
    else
      if x2 ≤ x1 then
        fn_X13_sector_66 x0 x1 x2 x3 x4 x5 h
      else
        if x3 < 0 then
          fn_X13_sector_66 x0 x1 x2 x3 x4 x5 h
        else
          if 16 ≤ x3 then
            fn_X13_sector_66 x0 x1 x2 x3 x4 x5 h
          else
            if x4 < 0 then
              fn_X13_sector_66 x0 x1 x2 x3 x4 x5 h
            else
              if 4 ≤ x4 then
                fn_X13_sector_66 x0 x1 x2 x3 x4 x5 h
              else
                if x5 < 0 then
                  fn_X13_sector_66 x0 x1 x2 x3 x4 x5 h
                else
                  if 256 ≤ x5 then
                    fn_X13_sector_66 x0 x1 x2 x3 x4 x5 h
                  else
                    (sv_gI h 14 1400 x0).bind fun v1 =>
                    if 32 ≤ v1 then
                      fn_X13_sector_66 x0 x1 x2 x3 x4 x5 h
                    else
                      fn_X13_sector_67 x0 x1 x2 x3 x4 x5 1 h
  )

def fn_X17_walls (x0 : Nat) (h : sv_H) : Option (Int32 × sv_H) :=
  sv_kd h 18 x0 (
  (sv_gP h 18 1801 x0).bind fun v1 =>
  sv_b (fn_X14_many v1 6 h) fun r2 h3 =>
  some (r2, h3)
  )

def fn_X14_wallAt (x0 : Nat) (x1 : Int32) (h : sv_H) : Option (Int32 × sv_H) :=
  sv_kd h 15 x0 (
  sv_b (fn_X14_many x0 5 h) fun r1 h2 =>
  sv_b (fn_X14_sectorAt x0 r1 h2) fun r3 h4 =>
  some (r3 + (14 * x1), h4)
  )

def fn_X14_wall_20 (h : sv_H) : Option (Int32 × sv_H) :=
  some ((-1), h)

def fn_X14_wall_81 (s0 : Int32) (h : sv_H) : Option (Int32 × sv_H) :=
  some (s0, h)

def fn_X14_wall_40 (x0 : Nat) (x2 : Int32) (x3 : Int32) (h : sv_H) : Option (Int32 × sv_H) :=
  if x2 = 10 then
    (sv_gP h 15 1502 x0).bind fun v3 =>
    (sv_lB h v3 (x3 + 10)).bind fun v4 =>
    fn_X14_wall_81 ((v4 &&& 255) / 16) h
  else
    (sv_gP h 15 1502 x0).bind fun v1 =>
    (sv_lB h v1 (x3 + 10)).bind fun v2 =>
    fn_X14_wall_81 ((v2 &&& 255) - (v2 &&& 255) / 16 * 16) h

def fn_X14_wall_100 (s0 : Nat) (s1 : Int32) (s2 : Int32) (h : sv_H) : Option (Int32 × sv_H) :=
  (sv_lB h s0 (s1 + s2)).bind fun v1 =>
  some (v1 &&& 255, h)

def fn_X14_wall (x0 : Nat) (x1 : Int32) (x2 : Int32) (h : sv_H) : Option (Int32 × sv_H) :=
  sv_kd h 15 x0 (
  sv_b (fn_X14_has x0 6 x1 h) fun r1 h2 =>
  if r1 = 0 then
    fn_X14_wall_20 h2
  else
    if x2 < 0 then
      fn_X14_wall_20 h2
    else
      if x2 ≤ 14 then
        sv_b (fn_X14_wallAt x0 x1 h2) fun r3 h4 =>
        if x2 = 10 then
          fn_X14_wall_40 x0 x2 r3 h4
        else
          if x2 = 11 then
            fn_X14_wall_40 x0 x2 r3 h4
          else
            (sv_gP h4 15 1502 x0).bind fun v5 =>
            if x2 ≤ 11 then
              fn_X14_wall_100 v5 r3 x2 h4
            else
              fn_X14_wall_100 v5 r3 (x2 - 1) h4
      else
        fn_X14_wall_20 h2
  )

def fn_X13_isSector_17 (s0 : Int32) (h : sv_H) : Option (Int32 × sv_H) :=
  sv_rz s0 h

def fn_X13_isSector_16 (h : sv_H) : Option (Int32 × sv_H) :=
  fn_X13_isSector_17 0 h

def fn_X13_isSector (x0 : Nat) (x1 : Int32) (h : sv_H) : Option (Int32 × sv_H) :=
  sv_kd h 14 x0 (
  if x1 < 0 then
    fn_X13_isSector_16 h
  else
    (sv_gI h 14 1400 x0).bind fun v1 =>
    if v1 ≤ x1 then
      fn_X13_isSector_16 h
    else
      fn_X13_isSector_17 1 h
  )

def fn_X13_join_35 (h : sv_H) : Option (Int32 × sv_H) :=
  some (0, h)

def fn_X13_join (x0 : Nat) (x1 : Int32) (x2 : Int32) (h : sv_H) : Option (Int32 × sv_H) :=
  sv_kd h 14 x0 (
  sv_b (fn_X13_isSector x0 x1 h) fun r1 h2 =>
  if r1 = 0 then
    fn_X13_join_35 h2
  else
    sv_b (fn_X13_isSector x0 x2 h2) fun r3 h4 =>
    if r3 = 0 then
      fn_X13_join_35 h4
    else
      if x1 = x2 then
        fn_X13_join_35 h4
      else
        (sv_gP h4 14 1406 x0).bind fun v5 =>
        (sv_lZ h4 v5 ((32 * x1) + x2)).bind fun v6 =>
        if v6 = 0 then
          (sv_gP h4 14 1406 x0).bind fun v7 =>
          (sv_sZ h4 v7 ((32 * x1) + x2) 1).bind fun h8 =>
          (sv_gP h8 14 1406 x0).bind fun v9 =>
          (sv_sZ h8 v9 ((32 * x2) + x1) 1).bind fun h10 =>
          (sv_gI h10 14 1407 x0).bind fun v11 =>
          (sv_pI h10 14 1407 x0 (v11 + 1)).bind fun h12 =>
          some (1, h12)
        else
          fn_X13_join_35 h4
  )

def fn_X14_vertex_36 (s0 : Int32) (h : sv_H) : Option (Int32 × sv_H) :=
  some (s0, h)

def fn_X14_vertex_24 (x1 : Int32) (s0 : Nat) (s1 : Int32) (h : sv_H) : Option (Int32 × sv_H) :=
  sv_b (fn_X14_pair s0 (s1 + (4 * x1)) h) fun r1 h2 =>
  fn_X14_vertex_36 r1 h2

def fn_X14_vertex (x0 : Nat) (x1 : Int32) (x2 : Int32) (h : sv_H) : Option (Int32 × sv_H) :=
  sv_kd h 15 x0 (
  sv_b (fn_X14_has x0 3 x1 h) fun r1 h2 =>
  if r1 = 0 then
    fn_X14_vertex_36 100000 h2
  else
    (sv_gP h2 15 1502 x0).bind fun v3 =>
    if x2 = 0 then
      fn_X14_vertex_24 x1 v3 9 h2
    else
      fn_X14_vertex_24 x1 v3 7 h2
  )

def fn_X17_furnish_172 (k116 : Nat → Int32 → sv_H → Option (Unit × sv_H)) (x0 : Nat) (x1 : Int32) (s0 : Int32) (h : sv_H) : Option (Unit × sv_H) :=
  (sv_gP h 18 1804 x0).bind fun v1 =>
  (sv_gP h 17 1701 v1).bind fun v2 =>
  (sv_gP h 18 1801 x0).bind fun v3 =>
  (sv_gP h 18 1801 x0).bind fun v4 =>
  sv_b (fn_X14_wall v4 x1 0 h) fun r5 h6 =>
  sv_b (fn_X14_vertex v3 r5 1 h6) fun r7 h8 =>
  (sv_sI h8 v2 x1 r7).bind fun h9 =>
  (sv_gP h9 18 1804 x0).bind fun v10 =>
  (sv_gP h9 17 1702 v10).bind fun v11 =>
  (sv_gP h9 18 1801 x0).bind fun v12 =>
  (sv_gP h9 18 1801 x0).bind fun v13 =>
  sv_b (fn_X14_wall v13 x1 0 h9) fun r14 h15 =>
  sv_b (fn_X14_vertex v12 r14 0 h15) fun r16 h17 =>
  (sv_sI h17 v11 x1 r16).bind fun h18 =>
  (sv_gP h18 18 1804 x0).bind fun v19 =>
  (sv_gP h18 17 1703 v19).bind fun v20 =>
  (sv_gP h18 18 1801 x0).bind fun v21 =>
  (sv_gP h18 18 1801 x0).bind fun v22 =>
  sv_b (fn_X14_wall v22 x1 1 h18) fun r23 h24 =>
  sv_b (fn_X14_vertex v21 r23 1 h24) fun r25 h26 =>
  (sv_sI h26 v20 x1 r25).bind fun h27 =>
  (sv_gP h27 18 1804 x0).bind fun v28 =>
  (sv_gP h27 17 1704 v28).bind fun v29 =>
  (sv_gP h27 18 1801 x0).bind fun v30 =>
  (sv_gP h27 18 1801 x0).bind fun v31 =>
  sv_b (fn_X14_wall v31 x1 1 h27) fun r32 h33 =>
  sv_b (fn_X14_vertex v30 r32 0 h33) fun r34 h35 =>
  (sv_sI h35 v29 x1 r34).bind fun h36 =>
  k116 x0 (x1 + 1) h36

def fn_X17_furnish_171 (k116 : Nat → Int32 → sv_H → Option (Unit × sv_H)) (x0 : Nat) (x1 : Int32) (h : sv_H) : Option (Unit × sv_H) :=
  fn_X17_furnish_172 k116 x0 x1 0 h

def fn_X17_furnish_116b (k116 : Nat → Int32 → sv_H → Option (Unit × sv_H)) (x0 : Nat) (x1 : Int32) (h : sv_H) : Option (Unit × sv_H) :=
  sv_b (fn_X17_walls x0 h) fun r1 h2 =>
  if r1 ≤ x1 then
    (sv_gP h2 18 1804 x0).bind fun v3 =>
    (sv_pZ h2 17 1705 v3 0).bind fun h4 =>
    some ((), h4)
  else
    (sv_gP h2 18 1801 x0).bind fun v5 =>
    sv_b (fn_X14_wall v5 x1 3 h2) fun r6 h7 =>
    if r6 = 255 then
      fn_X17_furnish_171 k116 x0 x1 h7
    else
      (sv_gP h7 18 1803 x0).bind fun v8 =>
      (sv_gP h7 18 1801 x0).bind fun v9 =>
      sv_b (fn_X14_wall v9 x1 2 h7) fun r10 h11 =>
      (sv_gP h11 18 1801 x0).bind fun v12 =>
      sv_b (fn_X14_wall v12 x1 3 h11) fun r13 h14 =>
      sv_b (fn_X13_join v8 r10 r13 h14) fun r15 h16 =>
      if r15 = 0 then
        fn_X17_furnish_171 k116 x0 x1 h16
      else
        fn_X17_furnish_172 k116 x0 x1 1 h16

def fn_X17_furnish_116 : Nat → Nat → Int32 → sv_H → Option (Unit × sv_H)
  | 0, _, _, _ => none
  | sv_n + 1, x0, x1, h => fn_X17_furnish_116b (fn_X17_furnish_116 sv_n) x0 x1 h

def fn_X17_furnish_107 (k79 : Nat → Int32 → sv_H → Option (Unit × sv_H)) (x0 : Nat) (x1 : Int32) (s0 : Nat) (s1 : Int32) (s2 : Int32) (h : sv_H) : Option (Unit × sv_H) :=
  (sv_sZ h s0 s1 s2).bind fun h1 =>
  k79 x0 (x1 + 1) h1

def fn_X17_furnish_79b (k79 : Nat → Int32 → sv_H → Option (Unit × sv_H)) (x0 : Nat) (x1 : Int32) (h : sv_H) : Option (Unit × sv_H) :=
  if 128 ≤ x1 then
    fn_X17_furnish_116 sv_fuel x0 0 h
  else
    (sv_gP h 18 1804 x0).bind fun v1 =>
    (sv_gP h 17 1700 v1).bind fun v2 =>
    sv_b (fn_X17_walls x0 h) fun r3 h4 =>
    if r3 ≤ x1 then
      fn_X17_furnish_107 k79 x0 x1 v2 x1 0 h4
    else
      fn_X17_furnish_107 k79 x0 x1 v2 x1 1 h4

def fn_X17_furnish_79 : Nat → Nat → Int32 → sv_H → Option (Unit × sv_H)
  | 0, _, _, _ => none
  | sv_n + 1, x0, x1, h => fn_X17_furnish_79b (fn_X17_furnish_79 sv_n) x0 x1 h

def fn_X17_furnish_9b (k9 : Nat → Int32 → sv_H → Option (Unit × sv_H)) (x0 : Nat) (x1 : Int32) (h : sv_H) : Option (Unit × sv_H) :=
  sv_b (fn_X17_sectors x0 h) fun r1 h2 =>
  if r1 ≤ x1 then
    fn_X17_furnish_79 sv_fuel x0 0 h2
  else
    (sv_gP h2 18 1803 x0).bind fun v3 =>
    (sv_gP h2 18 1801 x0).bind fun v4 =>
    sv_b (fn_X14_sector v4 x1 0 h2) fun r5 h6 =>
    (sv_gP h6 18 1801 x0).bind fun v7 =>
    sv_b (fn_X14_sector v7 x1 1 h6) fun r8 h9 =>
    (sv_gP h9 18 1801 x0).bind fun v10 =>
    sv_b (fn_X14_sector v10 x1 4 h9) fun r11 h12 =>
    (sv_gP h12 18 1801 x0).bind fun v13 =>
    sv_b (fn_X14_sector v13 x1 5 h12) fun r14 h15 =>
    (sv_gP h15 18 1801 x0).bind fun v16 =>
    sv_b (fn_X14_sector v16 x1 6 h15) fun r17 h18 =>
    sv_b (fn_X13_sector v3 r5 r8 r11 r14 r17 h18) fun r19 h20 =>
    k9 x0 (x1 + 1) h20

def fn_X17_furnish_9 : Nat → Nat → Int32 → sv_H → Option (Unit × sv_H)
  | 0, _, _, _ => none
  | sv_n + 1, x0, x1, h => fn_X17_furnish_9b (fn_X17_furnish_9 sv_n) x0 x1 h

def fn_X17_furnish (x0 : Nat) (h : sv_H) : Option (Unit × sv_H) :=
  sv_kd h 18 x0 (
  (sv_gP h 18 1803 x0).bind fun v1 =>
  sv_b (fn_X13_clear v1 h) fun _ h2 =>
  fn_X17_furnish_9 sv_fuel x0 0 h2
  )

def fn_X14_start_16 (h : sv_H) : Option (Int32 × sv_H) :=
  some (100000, h)

def fn_X14_start_64 (s0 : Int32) (h : sv_H) : Option (Int32 × sv_H) :=
  some (s0, h)

def fn_X14_start (x0 : Nat) (x1 : Int32) (h : sv_H) : Option (Int32 × sv_H) :=
  sv_kd h 15 x0 (
  (sv_gI h 15 1503 x0).bind fun v1 =>
  if v1 = 0 then
    fn_X14_start_16 h
  else
    if x1 < 0 then
      fn_X14_start_16 h
    else
      if x1 ≤ 3 then
        sv_b (fn_X14_many x0 6 h) fun r2 h3 =>
        sv_b (fn_X14_wallAt x0 r2 h3) fun r4 h5 =>
        if 2 ≤ x1 then
          (sv_gP h5 15 1502 x0).bind fun v6 =>
          (sv_lB h5 v6 ((r4 + 2) + x1)).bind fun v7 =>
          fn_X14_start_64 (v7 &&& 255) h5
        else
          (sv_gP h5 15 1502 x0).bind fun v8 =>
          sv_b (fn_X14_pair v8 (r4 + (2 * x1)) h5) fun r9 h10 =>
          fn_X14_start_64 r9 h10
      else
        fn_X14_start_16 h
  )

def fn_X17_begin (x0 : Nat) (h : sv_H) : Option (Unit × sv_H) :=
  sv_kd h 18 x0 (
  (sv_gP h 18 1802 x0).bind fun v1 =>
  (sv_gP h 16 1600 v1).bind fun v2 =>
  (sv_lI h v2 0).bind fun v3 =>
  (sv_pI h 18 1811 x0 v3).bind fun h4 =>
  (sv_gP h4 18 1802 x0).bind fun v5 =>
  (sv_gP h4 16 1600 v5).bind fun v6 =>
  (sv_lI h4 v6 1).bind fun v7 =>
  (sv_pI h4 18 1812 x0 v7).bind fun h8 =>
  (sv_gP h8 18 1802 x0).bind fun v9 =>
  (sv_gP h8 16 1600 v9).bind fun v10 =>
  (sv_lI h8 v10 2).bind fun v11 =>
  (sv_pI h8 18 1813 x0 v11).bind fun h12 =>
  (sv_gP h12 18 1802 x0).bind fun v13 =>
  (sv_gP h12 16 1600 v13).bind fun v14 =>
  (sv_lI h12 v14 3).bind fun v15 =>
  (sv_pI h12 18 1814 x0 v15).bind fun h16 =>
  (sv_gP h16 18 1803 x0).bind fun v17 =>
  sv_b (fn_X13_reset v17 h16) fun _ h18 =>
  some ((), h18)
  )

def fn_X17_loadMap_68b (k68 : Nat → Int32 → sv_H → Option (Int32 × sv_H)) (x0 : Nat) (x1 : Int32) (h : sv_H) : Option (Int32 × sv_H) :=
  if 4 ≤ x1 then
    sv_b (fn_X17_begin x0 h) fun _ h1 =>
    some (0, h1)
  else
    (sv_gP h 18 1802 x0).bind fun v2 =>
    (sv_gP h 16 1600 v2).bind fun v3 =>
    (sv_gP h 18 1801 x0).bind fun v4 =>
    sv_b (fn_X14_start v4 x1 h) fun r5 h6 =>
    (sv_sI h6 v3 x1 r5).bind fun h7 =>
    k68 x0 (x1 + 1) h7

def fn_X17_loadMap_68 : Nat → Nat → Int32 → sv_H → Option (Int32 × sv_H)
  | 0, _, _, _ => none
  | sv_n + 1, x0, x1, h => fn_X17_loadMap_68b (fn_X17_loadMap_68 sv_n) x0 x1 h

def fn_X17_loadMap (x0 : Nat) (h : sv_H) : Option (Int32 × sv_H) :=
  sv_kd h 18 x0 (
  (sv_pI h 18 1800 x0 0).bind fun h1 =>
  (sv_gP h1 18 1801 x0).bind fun v2 =>
  sv_b (fn_X14_read v2 h1) fun r3 h4 =>
  (sv_pI h4 18 1807 x0 r3).bind fun h5 =>
  (sv_gP h5 18 1801 x0).bind fun v6 =>
  (sv_gI h5 15 1505 v6).bind fun v7 =>
  (sv_pI h5 18 1808 x0 v7).bind fun h8 =>
  (sv_gI h8 18 1807 x0).bind fun v9 =>
  if v9 ≤ 0 then
    (sv_pZ h8 18 1809 x0 1).bind fun h10 =>
    (sv_gI h10 18 1810 x0).bind fun v11 =>
    (sv_pI h10 18 1810 x0 (v11 + 1)).bind fun h12 =>
    sv_b (fn_X17_furnish x0 h12) fun _ h13 =>
    (sv_gP h13 18 1802 x0).bind fun v14 =>
    (sv_pI h13 16 1605 v14 0).bind fun h15 =>
    fn_X17_loadMap_68 sv_fuel x0 0 h15
  else
    (sv_gI h8 18 1807 x0).bind fun v16 =>
    some (v16, h8)
  )

def fn_X5_inputOf_9 (x0 : Int32) (x1 : Int32) (x2 : Int32) (s0 : Int32) (h : sv_H) : Option (Int32 × sv_H) :=
  some (((((s0 <<< (24 &&& 31)) + ((x0 + 64) <<< (16 &&& 31))) + ((x1 + 64) <<< (8 &&& 31))) + x2) + 16, h)

def fn_X5_inputOf (x0 : Int32) (x1 : Int32) (x2 : Int32) (x3 : Int32) (h : sv_H) : Option (Int32 × sv_H) :=
  if x3 = 0 then
    fn_X5_inputOf_9 x0 x1 x2 0 h
  else
    fn_X5_inputOf_9 x0 x1 x2 1 h

def fn_X5_readInput_71 (x2 : Int32) (x4 : Int32) (x5 : Int32) (x6 : Int32) (h : sv_H) : Option (Int32 × sv_H) :=
  sv_b (fn_X5_inputOf x4 x5 x6 x2 h) fun r1 h2 =>
  some (r1, h2)

def fn_X5_readInput (x0 : Nat) (x1 : Nat) (x2 : Int32) (x3 : Int32) (h : sv_H) : Option (Int32 × sv_H) :=
  sv_kd h 6 x0 (
  sv_b (fn_X4_within x1 0 128 h) fun r1 h2 =>
  if x3 = 0 then
    fn_X5_readInput_71 x2 (r1 - 64) 0 0 h2
  else
    sv_b (fn_X4_within x1 0 128 h2) fun r3 h4 =>
    (sv_gI h4 5 501 x1).bind fun v5 =>
    sv_b (fn_X4_within x1 0 32 h4) fun r6 h7 =>
    if (r3 - 64) = 0 then
      if (r6 - 16) = 0 then
        sv_b (fn_X4_blame x1 3 v5 h7) fun _ h8 =>
        fn_X5_readInput_71 x2 (r1 - 64) (r3 - 64) (r6 - 16) h8
      else
        fn_X5_readInput_71 x2 (r1 - 64) (r3 - 64) (r6 - 16) h7
    else
      fn_X5_readInput_71 x2 (r1 - 64) (r3 - 64) (r6 - 16) h7
  )

def fn_X5_add_40 (x0 : Nat) (x1 : Int32) (h : sv_H) : Option (Unit × sv_H) :=
  (sv_gP h 6 601 x0).bind fun v1 =>
  (sv_gI h 6 602 x0).bind fun v2 =>
  (sv_sI h v1 v2 x1).bind fun h3 =>
  (sv_gI h3 6 602 x0).bind fun v4 =>
  (sv_pI h3 6 602 x0 (v4 + 1)).bind fun h5 =>
  some ((), h5)

def fn_X5_add (x0 : Nat) (x1 : Int32) (h : sv_H) : Option (Unit × sv_H) :=
  sv_kd h 6 x0 (
  (sv_gI h 6 602 x0).bind fun v1 =>
  if v1 < 1024 then
    (sv_gI h 6 602 x0).bind fun v2 =>
    (sv_gP h 6 601 x0).bind fun v3 =>
    (sv_len h 901 v3).bind fun v4 =>
    if v2 = v4 then
      (sv_gP h 6 601 x0).bind fun v5 =>
      (sv_gI h 6 602 x0).bind fun v6 =>
      sv_b (fn_J7_copyOf_59c91 v5 (2 * v6) h) fun r7 h8 =>
      (sv_pP h8 6 601 x0 r7).bind fun h9 =>
      fn_X5_add_40 x0 x1 h9
    else
      fn_X5_add_40 x0 x1 h
  else
    some ((), h)
  )

def fn_X5_readGroup_166 (s0 : Int32) (h : sv_H) : Option (Int32 × sv_H) :=
  some (s0, h)

def fn_X5_readGroup_153 (x1 : Nat) (x5 : Int32) (h : sv_H) : Option (Int32 × sv_H) :=
  sv_b (fn_X4_well x1 h) fun r1 h2 =>
  if r1 = 0 then
    fn_X5_readGroup_166 0 h2
  else
    fn_X5_readGroup_166 x5 h2

def fn_X5_readGroup_127b (k127 : Nat → Nat → Int32 → Int32 → Int32 → sv_H → Option (Int32 × sv_H)) (x0 : Nat) (x1 : Nat) (x5 : Int32) (x6 : Int32) (x7 : Int32) (h : sv_H) : Option (Int32 × sv_H) :=
  if x5 ≤ x7 then
    fn_X5_readGroup_153 x1 x5 h
  else
    sv_b (fn_X4_well x1 h) fun r1 h2 =>
    if r1 = 0 then
      fn_X5_readGroup_153 x1 x5 h2
    else
      sv_b (fn_X5_add x0 x6 h2) fun _ h3 =>
      k127 x0 x1 x5 x6 (x7 + 1) h3

def fn_X5_readGroup_127 : Nat → Nat → Nat → Int32 → Int32 → Int32 → sv_H → Option (Int32 × sv_H)
  | 0, _, _, _, _, _, _ => none
  | sv_n + 1, x0, x1, x5, x6, x7, h => fn_X5_readGroup_127b (fn_X5_readGroup_127 sv_n) x0 x1 x5 x6 x7 h

def fn_X5_readGroup_124 (x0 : Nat) (x1 : Nat) (x5 : Int32) (x6 : Int32) (h : sv_H) : Option (Int32 × sv_H) :=
  fn_X5_readGroup_127 sv_fuel x0 x1 x5 x6 0 h

def fn_X5_readGroup_84 (x0 : Nat) (x1 : Nat) (x2 : Int32) (x3 : Int32) (x5 : Int32) (s0 : Nat) (s1 : Nat) (s2 : Int32) (s3 : Int32) (h : sv_H) : Option (Int32 × sv_H) :=
  sv_b (fn_X5_readInput s0 s1 s2 s3 h) fun r1 h2 =>
  (sv_gI h2 6 602 x0).bind fun v3 =>
  if v3 ≤ 0 then
    fn_X5_readGroup_124 x0 x1 x5 r1 h2
  else
    (sv_gP h2 6 601 x0).bind fun v4 =>
    (sv_gI h2 6 602 x0).bind fun v5 =>
    (sv_lI h2 v4 (v5 - 1)).bind fun v6 =>
    if v6 = r1 then
      if 63 ≤ x2 then
        fn_X5_readGroup_124 x0 x1 x5 r1 h2
      else
        sv_b (fn_X4_blame x1 4 x3 h2) fun _ h7 =>
        fn_X5_readGroup_124 x0 x1 x5 r1 h7
    else
      fn_X5_readGroup_124 x0 x1 x5 r1 h2

def fn_X5_readGroup_70 (x0 : Nat) (x1 : Nat) (x2 : Int32) (x3 : Int32) (x4 : Int32) (x5 : Int32) (s0 : Nat) (s1 : Nat) (s2 : Int32) (h : sv_H) : Option (Int32 × sv_H) :=
  if (x4 &&& 128) = 0 then
    fn_X5_readGroup_84 x0 x1 x2 x3 x5 s0 s1 s2 0 h
  else
    fn_X5_readGroup_84 x0 x1 x2 x3 x5 s0 s1 s2 1 h

def fn_X5_readGroup_55 (x0 : Nat) (x1 : Nat) (x2 : Int32) (x3 : Int32) (x4 : Int32) (x5 : Int32) (h : sv_H) : Option (Int32 × sv_H) :=
  if (x4 &&& 64) = 0 then
    fn_X5_readGroup_70 x0 x1 x2 x3 x4 x5 x0 x1 0 h
  else
    fn_X5_readGroup_70 x0 x1 x2 x3 x4 x5 x0 x1 1 h

def fn_X5_readGroup_36 (x0 : Nat) (x1 : Nat) (x2 : Int32) (x3 : Int32) (x4 : Int32) (x5 : Int32) (h : sv_H) : Option (Int32 × sv_H) :=
  (sv_gI h 6 602 x0).bind fun v1 =>
  if (v1 + x5) ≤ 1024 then
    fn_X5_readGroup_55 x0 x1 x2 x3 x4 x5 h
  else
    sv_b (fn_X4_blame x1 5 x3 h) fun _ h2 =>
    fn_X5_readGroup_55 x0 x1 x2 x3 x4 x5 h2

def fn_X5_readGroup (x0 : Nat) (x1 : Nat) (x2 : Int32) (h : sv_H) : Option (Int32 × sv_H) :=
  sv_kd h 6 x0 (
  (sv_gI h 5 501 x1).bind fun v1 =>
  sv_b (fn_X4_one x1 h) fun r2 h3 =>
  if r2 = 0 then
    some (0, h3)
  else
    if (r2 &&& 63) = 0 then
      sv_b (fn_X4_blame x1 3 v1 h3) fun _ h4 =>
      fn_X5_readGroup_36 x0 x1 x2 v1 r2 (r2 &&& 63) h4
    else
      fn_X5_readGroup_36 x0 x1 x2 v1 r2 (r2 &&& 63) h3
  )

def fn_X5_checkOf_8b (k8 : Nat → Int32 → Int64 → Int64 → Int32 → sv_H → Option (Int64 × sv_H)) (x0 : Nat) (x1 : Int32) (x2 : Int64) (x4 : Int64) (x6 : Int32) (h : sv_H) : Option (Int64 × sv_H) :=
  if x1 ≤ x6 then
    some ((65536 * x4) + x2, h)
  else
    (sv_gP h 1 100 x0).bind fun v1 =>
    (sv_lI h v1 x6).bind fun v2 =>
    k8 x0 x1 ((x2 + (Int32.toInt64 v2)) - (x2 + (Int32.toInt64 v2)) / 65521 * 65521) ((x4 + ((x2 + (Int32.toInt64 v2)) - (x2 + (Int32.toInt64 v2)) / 65521 * 65521)) - (x4 + ((x2 + (Int32.toInt64 v2)) - (x2 + (Int32.toInt64 v2)) / 65521 * 65521)) / 65521 * 65521) (x6 + 1) h

def fn_X5_checkOf_8 : Nat → Nat → Int32 → Int64 → Int64 → Int32 → sv_H → Option (Int64 × sv_H)
  | 0, _, _, _, _, _, _ => none
  | sv_n + 1, x0, x1, x2, x4, x6, h => fn_X5_checkOf_8b (fn_X5_checkOf_8 sv_n) x0 x1 x2 x4 x6 h

def fn_X5_checkOf (x0 : Nat) (x1 : Int32) (h : sv_H) : Option (Int64 × sv_H) :=
  fn_X5_checkOf_8 sv_fuel x0 x1 1 0 0 h

def fn_X5_readCheck_24b (k24 : Nat → Int64 → Int32 → sv_H → Option (Unit × sv_H)) (x1 : Nat) (x2 : Int64) (x4 : Int32) (h : sv_H) : Option (Unit × sv_H) :=
  if x4 < 0 then
    some ((), h)
  else
    sv_b (fn_X4_expect x1 ((Int64.toInt32 (x2 >>> (Int32.toInt64 x4 &&& 63))) &&& 255) 6 h) fun _ h1 =>
    k24 x1 x2 (x4 + (-8)) h1

def fn_X5_readCheck_24 : Nat → Nat → Int64 → Int32 → sv_H → Option (Unit × sv_H)
  | 0, _, _, _, _ => none
  | sv_n + 1, x1, x2, x4, h => fn_X5_readCheck_24b (fn_X5_readCheck_24 sv_n) x1 x2 x4 h

def fn_X5_readCheck (x0 : Nat) (x1 : Nat) (h : sv_H) : Option (Unit × sv_H) :=
  sv_kd h 6 x0 (
  sv_b (fn_X4_well x1 h) fun r1 h2 =>
  if r1 = 0 then
    some ((), h2)
  else
    (sv_gP h2 5 500 x1).bind fun v3 =>
    (sv_gI h2 5 501 x1).bind fun v4 =>
    sv_b (fn_X5_checkOf v3 v4 h2) fun r5 h6 =>
    fn_X5_readCheck_24 sv_fuel x1 r5 24 h6
  )

def fn_X5_read_65 (x0 : Nat) (x1 : Nat) (h : sv_H) : Option (Unit × sv_H) :=
  sv_b (fn_X5_readCheck x0 x1 h) fun _ h1 =>
  sv_b (fn_X4_expectEnd x1 7 h1) fun _ h2 =>
  some ((), h2)

def fn_X5_read_41b (k41 : Nat → Nat → Int32 → Int32 → sv_H → Option (Unit × sv_H)) (x0 : Nat) (x1 : Nat) (x2 : Int32) (x3 : Int32) (h : sv_H) : Option (Unit × sv_H) :=
  if 1024 < x3 then
    fn_X5_read_65 x0 x1 h
  else
    if x2 ≤ 0 then
      fn_X5_read_65 x0 x1 h
    else
      sv_b (fn_X5_readGroup x0 x1 x2 h) fun r1 h2 =>
      k41 x0 x1 r1 (x3 + 1) h2

def fn_X5_read_41 : Nat → Nat → Nat → Int32 → Int32 → sv_H → Option (Unit × sv_H)
  | 0, _, _, _, _, _ => none
  | sv_n + 1, x0, x1, x2, x3, h => fn_X5_read_41b (fn_X5_read_41 sv_n) x0 x1 x2 x3 h

def fn_X5_read (x0 : Nat) (x1 : Nat) (h : sv_H) : Option (Unit × sv_H) :=
  sv_kd h 6 x0 (
  sv_b (fn_X4_expect x1 77 2 h) fun _ h1 =>
  sv_b (fn_X4_expect x1 68 2 h1) fun _ h2 =>
  sv_b (fn_X4_expect x1 1 2 h2) fun _ h3 =>
  (sv_gP h3 6 600 x0).bind fun v4 =>
  sv_b (fn_X4_readStart x1 v4 256 h3) fun _ h5 =>
  (sv_pI h5 6 602 x0 0).bind fun h6 =>
  fn_X5_read_41 sv_fuel x0 x1 63 0 h6
  )

def fn_X12_hasMap_12 (s0 : Int32) (h : sv_H) : Option (Int32 × sv_H) :=
  sv_rz s0 h

def fn_X12_hasMap (x0 : Nat) (h : sv_H) : Option (Int32 × sv_H) :=
  sv_kd h 13 x0 (
  (sv_gI h 13 1310 x0).bind fun v1 =>
  if v1 ≤ 0 then
    fn_X12_hasMap_12 0 h
  else
    fn_X12_hasMap_12 1 h
  )

def fn_X12_swapRuns (x0 : Nat) (h : sv_H) : Option (Unit × sv_H) :=
  sv_kd h 13 x0 (
  (sv_gP h 13 1308 x0).bind fun v1 =>
  (sv_gP h 13 1309 x0).bind fun v2 =>
  (sv_pP h 13 1308 x0 v2).bind fun h3 =>
  (sv_pP h3 13 1309 x0 v1).bind fun h4 =>
  some ((), h4)
  )

def fn_X12_loadDemo_88 (x0 : Nat) (h : sv_H) : Option (Int32 × sv_H) :=
  (sv_gP h 13 1302 x0).bind fun v1 =>
  (sv_gI h 5 502 v1).bind fun v2 =>
  some (v2, h)

def fn_X12_loadDemo_56 (x0 : Nat) (h : sv_H) : Option (Int32 × sv_H) :=
  (sv_gP h 13 1302 x0).bind fun v1 =>
  sv_b (fn_X4_well v1 h) fun r2 h3 =>
  if r2 = 0 then
    fn_X12_loadDemo_88 x0 h3
  else
    sv_b (fn_X12_swapRuns x0 h3) fun _ h4 =>
    (sv_gP h4 13 1304 x0).bind fun v5 =>
    (sv_gP h4 13 1306 x0).bind fun v6 =>
    (sv_gP h4 13 1308 x0).bind fun v7 =>
    (sv_gP h4 6 600 v7).bind fun v8 =>
    sv_b (fn_X10_begin v5 v6 v8 h4) fun _ h9 =>
    fn_X12_loadDemo_88 x0 h9

def fn_X12_loadDemo_45 (x0 : Nat) (h : sv_H) : Option (Int32 × sv_H) :=
  (sv_gP h 13 1302 x0).bind fun v1 =>
  sv_b (fn_X4_blame v1 8 8 h) fun _ h2 =>
  fn_X12_loadDemo_56 x0 h2

def fn_X12_loadDemo (x0 : Nat) (h : sv_H) : Option (Int32 × sv_H) :=
  sv_kd h 13 x0 (
  (sv_gP h 13 1302 x0).bind fun v1 =>
  sv_b (fn_X4_begin v1 h) fun _ h2 =>
  (sv_gP h2 13 1309 x0).bind fun v3 =>
  (sv_gP h2 13 1302 x0).bind fun v4 =>
  sv_b (fn_X5_read v3 v4 h2) fun _ h5 =>
  sv_b (fn_X12_hasMap x0 h5) fun r6 h7 =>
  if r6 = 0 then
    fn_X12_loadDemo_45 x0 h7
  else
    (sv_gP h7 13 1309 x0).bind fun v8 =>
    (sv_gP h7 6 600 v8).bind fun v9 =>
    (sv_gI h7 8 803 v9).bind fun v10 =>
    (sv_gP h7 13 1306 x0).bind fun v11 =>
    (sv_gI h7 3 311 v11).bind fun v12 =>
    if v10 < v12 then
      fn_X12_loadDemo_56 x0 h7
    else
      fn_X12_loadDemo_45 x0 h7
  )

def fn_X15_wrong_17 (h : sv_H) : Option (Unit × sv_H) :=
  some ((), h)

def fn_X15_wrong (x0 : Nat) (x1 : Int32) (x2 : Int32) (h : sv_H) : Option (Unit × sv_H) :=
  sv_kd h 16 x0 (
  (sv_gI h 16 1617 x0).bind fun v1 =>
  if v1 = 0 then
    (sv_pI h 16 1617 x0 x1).bind fun h2 =>
    (sv_pI h2 16 1618 x0 x2).bind fun h3 =>
    fn_X15_wrong_17 h3
  else
    fn_X15_wrong_17 h
  )

def fn_X15_sum (x0 : Nat) (x1 : Int32) (h : sv_H) : Option (Unit × sv_H) :=
  sv_kd h 16 x0 (
  (sv_gI h 16 1619 x0).bind fun v1 =>
  (sv_pI h 16 1619 x0 ((v1 + x1) - (v1 + x1) / 65521 * 65521)).bind fun h2 =>
  (sv_gI h2 16 1620 x0).bind fun v3 =>
  (sv_gI h2 16 1619 x0).bind fun v4 =>
  (sv_pI h2 16 1620 x0 ((v3 + v4) - (v3 + v4) / 65521 * 65521)).bind fun h5 =>
  some ((), h5)
  )

def fn_X15_next_27 (x0 : Nat) (h : sv_H) : Option (Int32 × sv_H) :=
  (sv_gI h 16 1617 x0).bind fun v1 =>
  if v1 ≤ 0 then
    (sv_gP h 16 1608 x0).bind fun v2 =>
    (sv_gI h 16 1616 x0).bind fun v3 =>
    (sv_lI h v2 v3).bind fun v4 =>
    (sv_gI h 16 1616 x0).bind fun v5 =>
    (sv_pI h 16 1616 x0 (v5 + 1)).bind fun h6 =>
    sv_b (fn_X15_sum x0 v4 h6) fun _ h7 =>
    some (v4, h7)
  else
    some (0, h)

def fn_X15_next (x0 : Nat) (h : sv_H) : Option (Int32 × sv_H) :=
  sv_kd h 16 x0 (
  (sv_gI h 16 1617 x0).bind fun v1 =>
  if v1 = 0 then
    (sv_gI h 16 1616 x0).bind fun v2 =>
    (sv_gI h 16 1609 x0).bind fun v3 =>
    if v2 = v3 then
      (sv_gI h 16 1609 x0).bind fun v4 =>
      sv_b (fn_X15_wrong x0 1 v4 h) fun _ h5 =>
      fn_X15_next_27 x0 h5
    else
      fn_X15_next_27 x0 h
  else
    fn_X15_next_27 x0 h
  )

def fn_X15_nextTwo_31 (s0 : Int32) (h : sv_H) : Option (Int32 × sv_H) :=
  some (s0, h)

def fn_X15_nextTwo (x0 : Nat) (h : sv_H) : Option (Int32 × sv_H) :=
  sv_kd h 16 x0 (
  sv_b (fn_X15_next x0 h) fun r1 h2 =>
  sv_b (fn_X15_next x0 h2) fun r3 h4 =>
  if ((r1 * 256) + r3) ≤ 32767 then
    fn_X15_nextTwo_31 ((r1 * 256) + r3) h4
  else
    fn_X15_nextTwo_31 (((r1 * 256) + r3) - 65536) h4
  )

def fn_X15_nextUpTo_28 (x2 : Int32) (x3 : Int32) (h : sv_H) : Option (Int32 × sv_H) :=
  some (x3 - x2, h)

def fn_X15_nextUpTo (x0 : Nat) (x1 : Int32) (x2 : Int32) (h : sv_H) : Option (Int32 × sv_H) :=
  sv_kd h 16 x0 (
  sv_b (fn_X15_next x0 h) fun r1 h2 =>
  (sv_gI h2 16 1617 x0).bind fun v3 =>
  if v3 = 0 then
    if r1 ≤ x1 then
      fn_X15_nextUpTo_28 x2 r1 h2
    else
      (sv_gI h2 16 1616 x0).bind fun v4 =>
      sv_b (fn_X15_wrong x0 3 (v4 - 1) h2) fun _ h5 =>
      fn_X15_nextUpTo_28 x2 r1 h5
  else
    fn_X15_nextUpTo_28 x2 r1 h2
  )

def fn_X15_readGroup_303 (h : sv_H) : Option (Unit × sv_H) :=
  some ((), h)

def fn_X15_readGroup_229b (k229 : Nat → Int32 → Int32 → Int32 → Int32 → Int32 → Int32 → sv_H → Option (Unit × sv_H)) (x0 : Nat) (x4 : Int32) (x5 : Int32) (x6 : Int32) (x7 : Int32) (x8 : Int32) (x11 : Int32) (h : sv_H) : Option (Unit × sv_H) :=
  if x4 ≤ x11 then
    fn_X15_readGroup_303 h
  else
    (sv_gI h 16 1617 x0).bind fun v1 =>
    if v1 = 0 then
      (sv_gP h 16 1611 x0).bind fun v2 =>
      (sv_gI h 16 1615 x0).bind fun v3 =>
      (sv_sI h v2 v3 x5).bind fun h4 =>
      (sv_gP h4 16 1612 x0).bind fun v5 =>
      (sv_gI h4 16 1615 x0).bind fun v6 =>
      (sv_sI h4 v5 v6 x6).bind fun h7 =>
      (sv_gP h7 16 1613 x0).bind fun v8 =>
      (sv_gI h7 16 1615 x0).bind fun v9 =>
      (sv_sI h7 v8 v9 x7).bind fun h10 =>
      (sv_gP h10 16 1614 x0).bind fun v11 =>
      (sv_gI h10 16 1615 x0).bind fun v12 =>
      (sv_sZ h10 v11 v12 x8).bind fun h13 =>
      (sv_gI h13 16 1615 x0).bind fun v14 =>
      (sv_pI h13 16 1615 x0 (v14 + 1)).bind fun h15 =>
      k229 x0 x4 x5 x6 x7 x8 (x11 + 1) h15
    else
      fn_X15_readGroup_303 h

def fn_X15_readGroup_229 : Nat → Nat → Int32 → Int32 → Int32 → Int32 → Int32 → Int32 → sv_H → Option (Unit × sv_H)
  | 0, _, _, _, _, _, _, _, _ => none
  | sv_n + 1, x0, x4, x5, x6, x7, x8, x11, h => fn_X15_readGroup_229b (fn_X15_readGroup_229 sv_n) x0 x4 x5 x6 x7 x8 x11 h

def fn_X15_readGroup_226 (x0 : Nat) (x4 : Int32) (x5 : Int32) (x6 : Int32) (x7 : Int32) (x8 : Int32) (h : sv_H) : Option (Unit × sv_H) :=
  fn_X15_readGroup_229 sv_fuel x0 x4 x5 x6 x7 x8 0 h

def fn_X15_readGroup_213 (x0 : Nat) (x3 : Int32) (x4 : Int32) (x5 : Int32) (x6 : Int32) (x7 : Int32) (x8 : Int32) (s0 : Int32) (h : sv_H) : Option (Unit × sv_H) :=
  if s0 = 0 then
    fn_X15_readGroup_226 x0 x4 x5 x6 x7 x8 h
  else
    sv_b (fn_X15_wrong x0 4 x3 h) fun _ h1 =>
    fn_X15_readGroup_226 x0 x4 x5 x6 x7 x8 h1

def fn_X15_readGroup_212 (x0 : Nat) (x3 : Int32) (x4 : Int32) (x5 : Int32) (x6 : Int32) (x7 : Int32) (x8 : Int32) (h : sv_H) : Option (Unit × sv_H) :=
  fn_X15_readGroup_213 x0 x3 x4 x5 x6 x7 x8 0 h

def fn_X15_readGroup_133 (x0 : Nat) (x2 : Int32) (x3 : Int32) (x4 : Int32) (x5 : Int32) (x6 : Int32) (x7 : Int32) (s0 : Int32) (h : sv_H) : Option (Unit × sv_H) :=
  (sv_gI h 16 1615 x0).bind fun v1 =>
  (sv_gI h 16 1617 x0).bind fun v2 =>
  if v2 = 0 then
    if x2 ≤ 0 then
      fn_X15_readGroup_212 x0 x3 x4 x5 x6 x7 s0 h
    else
      if 63 ≤ x2 then
        fn_X15_readGroup_212 x0 x3 x4 x5 x6 x7 s0 h
      else
        (sv_gP h 16 1611 x0).bind fun v3 =>
        (sv_lI h v3 (v1 - 1)).bind fun v4 =>
        if v4 = x5 then
          (sv_gP h 16 1612 x0).bind fun v5 =>
          (sv_lI h v5 (v1 - 1)).bind fun v6 =>
          if v6 = x6 then
            (sv_gP h 16 1613 x0).bind fun v7 =>
            (sv_lI h v7 (v1 - 1)).bind fun v8 =>
            if v8 = x7 then
              (sv_gP h 16 1614 x0).bind fun v9 =>
              (sv_lZ h v9 (v1 - 1)).bind fun v10 =>
              if v10 = s0 then
                fn_X15_readGroup_213 x0 x3 x4 x5 x6 x7 s0 1 h
              else
                fn_X15_readGroup_212 x0 x3 x4 x5 x6 x7 s0 h
            else
              fn_X15_readGroup_212 x0 x3 x4 x5 x6 x7 s0 h
          else
            fn_X15_readGroup_212 x0 x3 x4 x5 x6 x7 s0 h
        else
          fn_X15_readGroup_212 x0 x3 x4 x5 x6 x7 s0 h
  else
    fn_X15_readGroup_212 x0 x3 x4 x5 x6 x7 s0 h

def fn_X15_readGroup_118 (x0 : Nat) (x1 : Int32) (x2 : Int32) (x3 : Int32) (x4 : Int32) (x5 : Int32) (x6 : Int32) (x7 : Int32) (h : sv_H) : Option (Unit × sv_H) :=
  if ((x1 / 64) - (x1 / 64) / 2 * 2) = 1 then
    fn_X15_readGroup_133 x0 x2 x3 x4 x5 x6 x7 1 h
  else
    fn_X15_readGroup_133 x0 x2 x3 x4 x5 x6 x7 0 h

def fn_X15_readGroup_46 (x0 : Nat) (x1 : Int32) (x2 : Int32) (x3 : Int32) (x4 : Int32) (h : sv_H) : Option (Unit × sv_H) :=
  sv_b (fn_X15_nextUpTo x0 128 64 h) fun r1 h2 =>
  if x1 ≤ 127 then
    fn_X15_readGroup_118 x0 x1 x2 x3 x4 r1 0 0 h2
  else
    sv_b (fn_X15_nextUpTo x0 128 64 h2) fun r3 h4 =>
    sv_b (fn_X15_nextUpTo x0 32 16 h4) fun r5 h6 =>
    (sv_gI h6 16 1617 x0).bind fun v7 =>
    if v7 = 0 then
      if r3 = 0 then
        if r5 = 0 then
          (sv_gI h6 16 1616 x0).bind fun v8 =>
          sv_b (fn_X15_wrong x0 3 (v8 - 1) h6) fun _ h9 =>
          fn_X15_readGroup_118 x0 x1 x2 x3 x4 r1 r3 r5 h9
        else
          fn_X15_readGroup_118 x0 x1 x2 x3 x4 r1 r3 r5 h6
      else
        fn_X15_readGroup_118 x0 x1 x2 x3 x4 r1 r3 r5 h6
    else
      fn_X15_readGroup_118 x0 x1 x2 x3 x4 r1 r3 r5 h6

def fn_X15_readGroup (x0 : Nat) (x1 : Int32) (x2 : Int32) (h : sv_H) : Option (Unit × sv_H) :=
  sv_kd h 16 x0 (
  (sv_gI h 16 1616 x0).bind fun v1 =>
  if (x1 - x1 / 64 * 64) = 0 then
    sv_b (fn_X15_wrong x0 3 (v1 - 1) h) fun _ h4 =>
    fn_X15_readGroup_46 x0 x1 x2 (v1 - 1) (x1 - x1 / 64 * 64) h4
  else
    (sv_gI h 16 1615 x0).bind fun v2 =>
    if (v2 + (x1 - x1 / 64 * 64)) ≤ 1024 then
      fn_X15_readGroup_46 x0 x1 x2 (v1 - 1) (x1 - x1 / 64 * 64) h
    else
      sv_b (fn_X15_wrong x0 5 (v1 - 1) h) fun _ h3 =>
      fn_X15_readGroup_46 x0 x1 x2 (v1 - 1) (x1 - x1 / 64 * 64) h3
  )

def fn_X15_readAll_264 (h : sv_H) : Option (Unit × sv_H) :=
  some ((), h)

def fn_X15_readAll_230 (k154 : Nat → Int32 → Int32 → Int32 → sv_H → Option (Unit × sv_H)) (x0 : Nat) (x3 : Int32) (x4 : Int32) (x5 : Int32) (h : sv_H) : Option (Unit × sv_H) :=
  k154 x0 x3 x4 (x5 + 1) h

def fn_X15_readAll_196 (k154 : Nat → Int32 → Int32 → Int32 → sv_H → Option (Unit × sv_H)) (x0 : Nat) (x3 : Int32) (x4 : Int32) (x5 : Int32) (s0 : Int32) (h : sv_H) : Option (Unit × sv_H) :=
  sv_b (fn_X15_next x0 h) fun r1 h2 =>
  (sv_gI h2 16 1617 x0).bind fun v3 =>
  if v3 = 0 then
    if r1 = s0 then
      fn_X15_readAll_230 k154 x0 x3 x4 x5 h2
    else
      (sv_gI h2 16 1616 x0).bind fun v4 =>
      sv_b (fn_X15_wrong x0 6 (v4 - 1) h2) fun _ h5 =>
      fn_X15_readAll_230 k154 x0 x3 x4 x5 h5
  else
    fn_X15_readAll_230 k154 x0 x3 x4 x5 h2

def fn_X15_readAll_172 (k154 : Nat → Int32 → Int32 → Int32 → sv_H → Option (Unit × sv_H)) (x0 : Nat) (x3 : Int32) (x4 : Int32) (x5 : Int32) (s0 : Int32) (h : sv_H) : Option (Unit × sv_H) :=
  if (x5 - x5 / 2 * 2) = 0 then
    fn_X15_readAll_196 k154 x0 x3 x4 x5 (s0 / 256) h
  else
    fn_X15_readAll_196 k154 x0 x3 x4 x5 (s0 - s0 / 256 * 256) h

def fn_X15_readAll_154b (k154 : Nat → Int32 → Int32 → Int32 → sv_H → Option (Unit × sv_H)) (x0 : Nat) (x3 : Int32) (x4 : Int32) (x5 : Int32) (h : sv_H) : Option (Unit × sv_H) :=
  if 4 ≤ x5 then
    (sv_gI h 16 1617 x0).bind fun v1 =>
    if v1 = 0 then
      (sv_gI h 16 1616 x0).bind fun v2 =>
      (sv_gI h 16 1609 x0).bind fun v3 =>
      if v3 ≤ v2 then
        fn_X15_readAll_264 h
      else
        (sv_gI h 16 1616 x0).bind fun v4 =>
        sv_b (fn_X15_wrong x0 7 v4 h) fun _ h5 =>
        fn_X15_readAll_264 h5
    else
      fn_X15_readAll_264 h
  else
    if 2 ≤ x5 then
      fn_X15_readAll_172 k154 x0 x3 x4 x5 x3 h
    else
      fn_X15_readAll_172 k154 x0 x3 x4 x5 x4 h

def fn_X15_readAll_154 : Nat → Nat → Int32 → Int32 → Int32 → sv_H → Option (Unit × sv_H)
  | 0, _, _, _, _, _ => none
  | sv_n + 1, x0, x3, x4, x5, h => fn_X15_readAll_154b (fn_X15_readAll_154 sv_n) x0 x3 x4 x5 h

def fn_X15_readAll_140 (x0 : Nat) (h : sv_H) : Option (Unit × sv_H) :=
  (sv_gI h 16 1619 x0).bind fun v1 =>
  (sv_gI h 16 1620 x0).bind fun v2 =>
  fn_X15_readAll_154 sv_fuel x0 v1 v2 0 h

def fn_X15_readAll_110b (k110 : Nat → Int32 → Int32 → sv_H → Option (Unit × sv_H)) (x0 : Nat) (x1 : Int32) (x2 : Int32) (h : sv_H) : Option (Unit × sv_H) :=
  if x2 ≤ 0 then
    fn_X15_readAll_140 x0 h
  else
    (sv_gI h 16 1617 x0).bind fun v1 =>
    if v1 = 0 then
      sv_b (fn_X15_readGroup x0 x2 x1 h) fun _ h2 =>
      sv_b (fn_X15_next x0 h2) fun r3 h4 =>
      k110 x0 (x2 - x2 / 64 * 64) r3 h4
    else
      fn_X15_readAll_140 x0 h

def fn_X15_readAll_110 : Nat → Nat → Int32 → Int32 → sv_H → Option (Unit × sv_H)
  | 0, _, _, _, _ => none
  | sv_n + 1, x0, x1, x2, h => fn_X15_readAll_110b (fn_X15_readAll_110 sv_n) x0 x1 x2 h

def fn_X15_readAll_49 (k2 : Nat → Int32 → sv_H → Option (Unit × sv_H)) (x0 : Nat) (x1 : Int32) (h : sv_H) : Option (Unit × sv_H) :=
  k2 x0 (x1 + 1) h

def fn_X15_readAll_40 (k2 : Nat → Int32 → sv_H → Option (Unit × sv_H)) (x0 : Nat) (x1 : Int32) (s0 : Int32) (s1 : Int32) (h : sv_H) : Option (Unit × sv_H) :=
  if s0 = s1 then
    fn_X15_readAll_49 k2 x0 x1 h
  else
    sv_b (fn_X15_wrong x0 2 x1 h) fun _ h1 =>
    fn_X15_readAll_49 k2 x0 x1 h1

def fn_X15_readAll_2b (k2 : Nat → Int32 → sv_H → Option (Unit × sv_H)) (x0 : Nat) (x1 : Int32) (h : sv_H) : Option (Unit × sv_H) :=
  if 3 ≤ x1 then
    (sv_gP h 16 1610 x0).bind fun v1 =>
    sv_b (fn_X15_nextTwo x0 h) fun r2 h3 =>
    (sv_sI h3 v1 0 r2).bind fun h4 =>
    (sv_gP h4 16 1610 x0).bind fun v5 =>
    sv_b (fn_X15_nextTwo x0 h4) fun r6 h7 =>
    (sv_sI h7 v5 1 r6).bind fun h8 =>
    (sv_gP h8 16 1610 x0).bind fun v9 =>
    sv_b (fn_X15_nextUpTo x0 63 0 h8) fun r10 h11 =>
    (sv_sI h11 v9 2 r10).bind fun h12 =>
    (sv_gP h12 16 1610 x0).bind fun v13 =>
    sv_b (fn_X15_next x0 h12) fun r14 h15 =>
    (sv_sI h15 v13 3 r14).bind fun h16 =>
    (sv_pI h16 16 1615 x0 0).bind fun h17 =>
    sv_b (fn_X15_next x0 h17) fun r18 h19 =>
    fn_X15_readAll_110 sv_fuel x0 0 r18 h19
  else
    sv_b (fn_X15_next x0 h) fun r20 h21 =>
    (sv_gI h21 16 1617 x0).bind fun v22 =>
    if v22 = 0 then
      if x1 = 0 then
        fn_X15_readAll_40 k2 x0 x1 r20 77 h21
      else
        if x1 = 1 then
          fn_X15_readAll_40 k2 x0 x1 r20 68 h21
        else
          fn_X15_readAll_40 k2 x0 x1 r20 1 h21
    else
      fn_X15_readAll_49 k2 x0 x1 h21

def fn_X15_readAll_2 : Nat → Nat → Int32 → sv_H → Option (Unit × sv_H)
  | 0, _, _, _ => none
  | sv_n + 1, x0, x1, h => fn_X15_readAll_2b (fn_X15_readAll_2 sv_n) x0 x1 h

def fn_X15_readAll (x0 : Nat) (h : sv_H) : Option (Unit × sv_H) :=
  sv_kd h 16 x0 (
  fn_X15_readAll_2 sv_fuel x0 0 h
  )

def fn_X15_read_101b (k101 : Nat → Int32 → sv_H → Option (Int32 × sv_H)) (x0 : Nat) (x2 : Int32) (h : sv_H) : Option (Int32 × sv_H) :=
  (sv_gI h 16 1605 x0).bind fun v1 =>
  if v1 ≤ x2 then
    some (0, h)
  else
    (sv_gP h 16 1601 x0).bind fun v2 =>
    (sv_gP h 16 1611 x0).bind fun v3 =>
    (sv_lI h v3 x2).bind fun v4 =>
    (sv_sI h v2 x2 v4).bind fun h5 =>
    (sv_gP h5 16 1602 x0).bind fun v6 =>
    (sv_gP h5 16 1612 x0).bind fun v7 =>
    (sv_lI h5 v7 x2).bind fun v8 =>
    (sv_sI h5 v6 x2 v8).bind fun h9 =>
    (sv_gP h9 16 1603 x0).bind fun v10 =>
    (sv_gP h9 16 1613 x0).bind fun v11 =>
    (sv_lI h9 v11 x2).bind fun v12 =>
    (sv_sI h9 v10 x2 v12).bind fun h13 =>
    (sv_gP h13 16 1604 x0).bind fun v14 =>
    (sv_gP h13 16 1614 x0).bind fun v15 =>
    (sv_lZ h13 v15 x2).bind fun v16 =>
    (sv_sZ h13 v14 x2 v16).bind fun h17 =>
    k101 x0 (x2 + 1) h17

def fn_X15_read_101 : Nat → Nat → Int32 → sv_H → Option (Int32 × sv_H)
  | 0, _, _, _ => none
  | sv_n + 1, x0, x2, h => fn_X15_read_101b (fn_X15_read_101 sv_n) x0 x2 h

def fn_X15_read_68b (k68 : Nat → Int32 → sv_H → Option (Int32 × sv_H)) (x0 : Nat) (x2 : Int32) (h : sv_H) : Option (Int32 × sv_H) :=
  if 4 ≤ x2 then
    (sv_gI h 16 1615 x0).bind fun v1 =>
    (sv_pI h 16 1605 x0 v1).bind fun h2 =>
    fn_X15_read_101 sv_fuel x0 0 h2
  else
    (sv_gP h 16 1600 x0).bind fun v3 =>
    (sv_gP h 16 1610 x0).bind fun v4 =>
    (sv_lI h v4 x2).bind fun v5 =>
    (sv_sI h v3 x2 v5).bind fun h6 =>
    k68 x0 (x2 + 1) h6

def fn_X15_read_68 : Nat → Nat → Int32 → sv_H → Option (Int32 × sv_H)
  | 0, _, _, _ => none
  | sv_n + 1, x0, x2, h => fn_X15_read_68b (fn_X15_read_68 sv_n) x0 x2 h

def fn_X15_read_54 (x0 : Nat) (h : sv_H) : Option (Int32 × sv_H) :=
  (sv_gI h 16 1617 x0).bind fun v1 =>
  if v1 ≤ 0 then
    fn_X15_read_68 sv_fuel x0 0 h
  else
    (sv_gI h 16 1617 x0).bind fun v2 =>
    some (v2, h)

def fn_X15_read (x0 : Nat) (x1 : Int32) (h : sv_H) : Option (Int32 × sv_H) :=
  sv_kd h 16 x0 (
  (sv_pI h 16 1616 x0 0).bind fun h1 =>
  (sv_pI h1 16 1617 x0 0).bind fun h2 =>
  (sv_pI h2 16 1618 x0 ((-1))).bind fun h3 =>
  (sv_pI h3 16 1619 x0 1).bind fun h4 =>
  (sv_pI h4 16 1620 x0 0).bind fun h5 =>
  sv_b (fn_X15_readAll x0 h5) fun _ h6 =>
  (sv_gI h6 16 1617 x0).bind fun v7 =>
  if v7 = 0 then
    (sv_gP h6 16 1610 x0).bind fun v8 =>
    (sv_lI h6 v8 3).bind fun v9 =>
    if v9 < x1 then
      fn_X15_read_54 x0 h6
    else
      sv_b (fn_X15_wrong x0 8 8 h6) fun _ h10 =>
      fn_X15_read_54 x0 h10
  else
    fn_X15_read_54 x0 h6
  )

def fn_X17_loadDemo_97 (x0 : Nat) (h : sv_H) : Option (Int32 × sv_H) :=
  (sv_gI h 18 1807 x0).bind fun v1 =>
  some (v1, h)

def fn_X17_loadDemo_7b (k7 : Nat → Int32 → sv_H → Option (Int32 × sv_H)) (x0 : Nat) (x1 : Int32) (h : sv_H) : Option (Int32 × sv_H) :=
  (sv_gP h 18 1801 x0).bind fun v1 =>
  (sv_gI h 15 1501 v1).bind fun v2 =>
  if v2 ≤ x1 then
    (sv_gP h 18 1802 x0).bind fun v3 =>
    (sv_gP h 18 1801 x0).bind fun v4 =>
    (sv_gI h 15 1501 v4).bind fun v5 =>
    (sv_pI h 16 1609 v3 v5).bind fun h6 =>
    (sv_gP h6 18 1802 x0).bind fun v7 =>
    sv_b (fn_X17_sectors x0 h6) fun r8 h9 =>
    sv_b (fn_X15_read v7 r8 h9) fun r10 h11 =>
    (sv_pI h11 18 1807 x0 r10).bind fun h12 =>
    (sv_gP h12 18 1802 x0).bind fun v13 =>
    (sv_gI h12 16 1618 v13).bind fun v14 =>
    (sv_pI h12 18 1808 x0 v14).bind fun h15 =>
    (sv_gI h15 18 1807 x0).bind fun v16 =>
    if v16 = 0 then
      sv_b (fn_X17_begin x0 h15) fun _ h17 =>
      fn_X17_loadDemo_97 x0 h17
    else
      fn_X17_loadDemo_97 x0 h15
  else
    (sv_gP h 18 1802 x0).bind fun v18 =>
    (sv_gP h 16 1608 v18).bind fun v19 =>
    (sv_gP h 18 1801 x0).bind fun v20 =>
    (sv_gP h 15 1500 v20).bind fun v21 =>
    (sv_lB h v21 x1).bind fun v22 =>
    (sv_sI h v19 x1 (v22 &&& 255)).bind fun h23 =>
    k7 x0 (x1 + 1) h23

def fn_X17_loadDemo_7 : Nat → Nat → Int32 → sv_H → Option (Int32 × sv_H)
  | 0, _, _, _ => none
  | sv_n + 1, x0, x1, h => fn_X17_loadDemo_7b (fn_X17_loadDemo_7 sv_n) x0 x1 h

def fn_X17_loadDemo (x0 : Nat) (h : sv_H) : Option (Int32 × sv_H) :=
  sv_kd h 18 x0 (
  (sv_pI h 18 1800 x0 0).bind fun h1 =>
  fn_X17_loadDemo_7 sv_fuel x0 0 h1
  )

def fn_X12_saveMap (x0 : Nat) (h : sv_H) : Option (Int32 × sv_H) :=
  sv_kd h 13 x0 (
  sv_b (fn_X12_hasMap x0 h) fun r1 h2 =>
  if r1 = 0 then
    some ((-1), h2)
  else
    (sv_gP h2 13 1301 x0).bind fun v3 =>
    (sv_gP h2 13 1306 x0).bind fun v4 =>
    (sv_gP h2 3 300 v4).bind fun v5 =>
    sv_b (fn_X0_become v3 v5 h2) fun _ h6 =>
    (sv_gP h6 13 1301 x0).bind fun v7 =>
    (sv_gI h6 1 101 v7).bind fun v8 =>
    some (v8, h6)
  )

def fn_X17_saveMap_27b (k27 : Nat → Int32 → sv_H → Option (Int32 × sv_H)) (x0 : Nat) (x1 : Int32) (h : sv_H) : Option (Int32 × sv_H) :=
  (sv_gI h 18 1806 x0).bind fun v1 =>
  if v1 ≤ x1 then
    (sv_gI h 18 1806 x0).bind fun v2 =>
    some (v2, h)
  else
    (sv_gP h 18 1805 x0).bind fun v3 =>
    (sv_gP h 18 1801 x0).bind fun v4 =>
    (sv_gP h 15 1502 v4).bind fun v5 =>
    (sv_lB h v5 x1).bind fun v6 =>
    (sv_sI h v3 x1 (v6 &&& 255)).bind fun h7 =>
    k27 x0 (x1 + 1) h7

def fn_X17_saveMap_27 : Nat → Nat → Int32 → sv_H → Option (Int32 × sv_H)
  | 0, _, _, _ => none
  | sv_n + 1, x0, x1, h => fn_X17_saveMap_27b (fn_X17_saveMap_27 sv_n) x0 x1 h

def fn_X17_saveMap (x0 : Nat) (h : sv_H) : Option (Int32 × sv_H) :=
  sv_kd h 18 x0 (
  (sv_pI h 18 1800 x0 0).bind fun h1 =>
  (sv_gI h1 18 1809 x0).bind fun v2 =>
  if v2 = 0 then
    some ((-1), h1)
  else
    (sv_gP h1 18 1801 x0).bind fun v3 =>
    (sv_gI h1 15 1503 v3).bind fun v4 =>
    (sv_pI h1 18 1806 x0 v4).bind fun h5 =>
    fn_X17_saveMap_27 sv_fuel x0 0 h5
  )

def fn_X0_putPair (x0 : Nat) (x1 : Int32) (h : sv_H) : Option (Unit × sv_H) :=
  sv_kd h 1 x0 (
  sv_b (fn_X0_put x0 (x1 >>> (8 &&& 31)) h) fun _ h1 =>
  sv_b (fn_X0_put x0 x1 h1) fun _ h2 =>
  some ((), h2)
  )

def fn_X5_asideOf (x0 : Int32) (h : sv_H) : Option (Int32 × sv_H) :=
  some (((x0 >>> (8 &&& 31)) &&& 255) - 64, h)

def fn_X5_turnOf (x0 : Int32) (h : sv_H) : Option (Int32 × sv_H) :=
  some ((x0 &&& 255) - 16, h)

def fn_X5_usesOf_12 (s0 : Int32) (h : sv_H) : Option (Int32 × sv_H) :=
  sv_rz s0 h

def fn_X5_usesOf (x0 : Int32) (h : sv_H) : Option (Int32 × sv_H) :=
  if (x0 >>> (24 &&& 31)) = 0 then
    fn_X5_usesOf_12 0 h
  else
    fn_X5_usesOf_12 1 h

def fn_X5_aheadOf (x0 : Int32) (h : sv_H) : Option (Int32 × sv_H) :=
  some (((x0 >>> (16 &&& 31)) &&& 255) - 64, h)

def fn_X5_writeGroup_88 (h : sv_H) : Option (Unit × sv_H) :=
  some ((), h)

def fn_X5_writeGroup_47 (x0 : Nat) (x1 : Int32) (x3 : Int32) (s0 : Nat) (s1 : Int32) (s2 : Int32) (h : sv_H) : Option (Unit × sv_H) :=
  sv_b (fn_X0_put s0 (s1 + s2) h) fun _ h1 =>
  sv_b (fn_X5_aheadOf x1 h1) fun r2 h3 =>
  sv_b (fn_X0_put x0 (r2 + 64) h3) fun _ h4 =>
  if x3 = 0 then
    fn_X5_writeGroup_88 h4
  else
    sv_b (fn_X5_asideOf x1 h4) fun r5 h6 =>
    sv_b (fn_X0_put x0 (r5 + 64) h6) fun _ h7 =>
    sv_b (fn_X5_turnOf x1 h7) fun r8 h9 =>
    sv_b (fn_X0_put x0 (r8 + 16) h9) fun _ h10 =>
    fn_X5_writeGroup_88 h10

def fn_X5_writeGroup_35 (x0 : Nat) (x1 : Int32) (x3 : Int32) (s0 : Nat) (s1 : Int32) (s2 : Int32) (h : sv_H) : Option (Unit × sv_H) :=
  if x3 = 0 then
    fn_X5_writeGroup_47 x0 x1 x3 s0 (s1 + s2) 0 h
  else
    fn_X5_writeGroup_47 x0 x1 x3 s0 (s1 + s2) 128 h

def fn_X5_writeGroup_19 (x0 : Nat) (x1 : Int32) (x2 : Int32) (s0 : Int32) (h : sv_H) : Option (Unit × sv_H) :=
  sv_b (fn_X5_usesOf x1 h) fun r1 h2 =>
  if r1 = 0 then
    fn_X5_writeGroup_35 x0 x1 s0 x0 x2 0 h2
  else
    fn_X5_writeGroup_35 x0 x1 s0 x0 x2 64 h2

def fn_X5_writeGroup_14 (x0 : Nat) (x1 : Int32) (x2 : Int32) (h : sv_H) : Option (Unit × sv_H) :=
  fn_X5_writeGroup_19 x0 x1 x2 1 h

def fn_X5_writeGroup (x0 : Nat) (x1 : Int32) (x2 : Int32) (h : sv_H) : Option (Unit × sv_H) :=
  sv_b (fn_X5_asideOf x1 h) fun r1 h2 =>
  if r1 = 0 then
    sv_b (fn_X5_turnOf x1 h2) fun r3 h4 =>
    if r3 = 0 then
      fn_X5_writeGroup_19 x0 x1 x2 0 h4
    else
      fn_X5_writeGroup_14 x0 x1 x2 h4
  else
    fn_X5_writeGroup_14 x0 x1 x2 h2

def fn_X5_write_151b (k151 : Nat → Int64 → Int32 → sv_H → Option (Unit × sv_H)) (x1 : Nat) (x3 : Int64) (x5 : Int32) (h : sv_H) : Option (Unit × sv_H) :=
  if x5 < 0 then
    some ((), h)
  else
    sv_b (fn_X0_put x1 ((Int64.toInt32 (x3 >>> (Int32.toInt64 x5 &&& 63))) &&& 255) h) fun _ h1 =>
    k151 x1 x3 (x5 + (-8)) h1

def fn_X5_write_151 : Nat → Nat → Int64 → Int32 → sv_H → Option (Unit × sv_H)
  | 0, _, _, _, _ => none
  | sv_n + 1, x1, x3, x5, h => fn_X5_write_151b (fn_X5_write_151 sv_n) x1 x3 x5 h

def fn_X5_write_127 (k70 : Nat → Nat → Int32 → Int32 → sv_H → Option (Unit × sv_H)) (x0 : Nat) (x1 : Nat) (x2 : Int32) (x3 : Int32) (h : sv_H) : Option (Unit × sv_H) :=
  k70 x0 x1 x2 (x3 + 1) h

def fn_X5_write_114 (k70 : Nat → Nat → Int32 → Int32 → sv_H → Option (Unit × sv_H)) (x0 : Nat) (x1 : Nat) (x2 : Int32) (x3 : Int32) (h : sv_H) : Option (Unit × sv_H) :=
  (sv_gP h 6 601 x0).bind fun v1 =>
  (sv_lI h v1 x3).bind fun v2 =>
  sv_b (fn_X5_writeGroup x1 v2 x2 h) fun _ h3 =>
  fn_X5_write_127 k70 x0 x1 0 x3 h3

def fn_X5_write_70b (k70 : Nat → Nat → Int32 → Int32 → sv_H → Option (Unit × sv_H)) (x0 : Nat) (x1 : Nat) (x2 : Int32) (x3 : Int32) (h : sv_H) : Option (Unit × sv_H) :=
  (sv_gI h 6 602 x0).bind fun v1 =>
  if v1 ≤ x3 then
    sv_b (fn_X0_put x1 0 h) fun _ h2 =>
    (sv_gI h2 1 101 x1).bind fun v3 =>
    sv_b (fn_X5_checkOf x1 v3 h2) fun r4 h5 =>
    fn_X5_write_151 sv_fuel x1 r4 24 h5
  else
    if (x2 + 1) = 63 then
      fn_X5_write_114 k70 x0 x1 (x2 + 1) x3 h
    else
      (sv_gI h 6 602 x0).bind fun v6 =>
      if (x3 + 1) = v6 then
        fn_X5_write_114 k70 x0 x1 (x2 + 1) x3 h
      else
        (sv_gP h 6 601 x0).bind fun v7 =>
        (sv_lI h v7 (x3 + 1)).bind fun v8 =>
        (sv_gP h 6 601 x0).bind fun v9 =>
        (sv_lI h v9 x3).bind fun v10 =>
        if v8 = v10 then
          fn_X5_write_127 k70 x0 x1 (x2 + 1) x3 h
        else
          fn_X5_write_114 k70 x0 x1 (x2 + 1) x3 h

def fn_X5_write_70 : Nat → Nat → Nat → Int32 → Int32 → sv_H → Option (Unit × sv_H)
  | 0, _, _, _, _, _ => none
  | sv_n + 1, x0, x1, x2, x3, h => fn_X5_write_70b (fn_X5_write_70 sv_n) x0 x1 x2 x3 h

def fn_X5_write (x0 : Nat) (x1 : Nat) (h : sv_H) : Option (Unit × sv_H) :=
  sv_kd h 6 x0 (
  (sv_pI h 1 101 x1 0).bind fun h1 =>
  sv_b (fn_X0_put x1 77 h1) fun _ h2 =>
  sv_b (fn_X0_put x1 68 h2) fun _ h3 =>
  sv_b (fn_X0_put x1 1 h3) fun _ h4 =>
  (sv_gP h4 6 600 x0).bind fun v5 =>
  (sv_gI h4 8 800 v5).bind fun v6 =>
  sv_b (fn_X0_putPair x1 v6 h4) fun _ h7 =>
  (sv_gP h7 6 600 x0).bind fun v8 =>
  (sv_gI h7 8 801 v8).bind fun v9 =>
  sv_b (fn_X0_putPair x1 v9 h7) fun _ h10 =>
  (sv_gP h10 6 600 x0).bind fun v11 =>
  (sv_gI h10 8 802 v11).bind fun v12 =>
  sv_b (fn_X0_put x1 v12 h10) fun _ h13 =>
  (sv_gP h13 6 600 x0).bind fun v14 =>
  (sv_gI h13 8 803 v14).bind fun v15 =>
  sv_b (fn_X0_put x1 v15 h13) fun _ h16 =>
  fn_X5_write_70 sv_fuel x0 x1 0 0 h16
  )

def fn_X12_saveDemo (x0 : Nat) (h : sv_H) : Option (Int32 × sv_H) :=
  sv_kd h 13 x0 (
  sv_b (fn_X12_hasMap x0 h) fun r1 h2 =>
  if r1 = 0 then
    some ((-1), h2)
  else
    (sv_gP h2 13 1308 x0).bind fun v3 =>
    (sv_gP h2 13 1301 x0).bind fun v4 =>
    sv_b (fn_X5_write v3 v4 h2) fun _ h5 =>
    (sv_gP h5 13 1301 x0).bind fun v6 =>
    (sv_gI h5 1 101 v6).bind fun v7 =>
    some (v7, h5)
  )

def fn_X15_put (x0 : Nat) (x1 : Int32) (h : sv_H) : Option (Unit × sv_H) :=
  sv_kd h 16 x0 (
  (sv_gP h 16 1606 x0).bind fun v1 =>
  (sv_gI h 16 1607 x0).bind fun v2 =>
  (sv_sI h v1 v2 (x1 &&& 255)).bind fun h3 =>
  (sv_gI h3 16 1607 x0).bind fun v4 =>
  (sv_pI h3 16 1607 x0 (v4 + 1)).bind fun h5 =>
  some ((), h5)
  )

def fn_X15_run_92 (x2 : Int32) (h : sv_H) : Option (Int32 × sv_H) :=
  some (x2, h)

def fn_X15_run_2b (k2 : Nat → Int32 → Int32 → sv_H → Option (Int32 × sv_H)) (x0 : Nat) (x1 : Int32) (x2 : Int32) (h : sv_H) : Option (Int32 × sv_H) :=
  if 63 ≤ x2 then
    fn_X15_run_92 x2 h
  else
    (sv_gI h 16 1605 x0).bind fun v1 =>
    if v1 ≤ (x1 + x2) then
      fn_X15_run_92 x2 h
    else
      (sv_gP h 16 1601 x0).bind fun v2 =>
      (sv_lI h v2 (x1 + x2)).bind fun v3 =>
      (sv_gP h 16 1601 x0).bind fun v4 =>
      (sv_lI h v4 x1).bind fun v5 =>
      if v3 = v5 then
        (sv_gP h 16 1602 x0).bind fun v6 =>
        (sv_lI h v6 (x1 + x2)).bind fun v7 =>
        (sv_gP h 16 1602 x0).bind fun v8 =>
        (sv_lI h v8 x1).bind fun v9 =>
        if v7 = v9 then
          (sv_gP h 16 1603 x0).bind fun v10 =>
          (sv_lI h v10 (x1 + x2)).bind fun v11 =>
          (sv_gP h 16 1603 x0).bind fun v12 =>
          (sv_lI h v12 x1).bind fun v13 =>
          if v11 = v13 then
            (sv_gP h 16 1604 x0).bind fun v14 =>
            (sv_lZ h v14 (x1 + x2)).bind fun v15 =>
            (sv_gP h 16 1604 x0).bind fun v16 =>
            (sv_lZ h v16 x1).bind fun v17 =>
            if v15 = v17 then
              k2 x0 x1 (x2 + 1) h
            else
              fn_X15_run_92 x2 h
          else
            fn_X15_run_92 x2 h
        else
          fn_X15_run_92 x2 h
      else
        fn_X15_run_92 x2 h

def fn_X15_run_2 : Nat → Nat → Int32 → Int32 → sv_H → Option (Int32 × sv_H)
  | 0, _, _, _, _ => none
  | sv_n + 1, x0, x1, x2, h => fn_X15_run_2b (fn_X15_run_2 sv_n) x0 x1 x2 h

def fn_X15_run (x0 : Nat) (x1 : Int32) (h : sv_H) : Option (Int32 × sv_H) :=
  sv_kd h 16 x0 (
  fn_X15_run_2 sv_fuel x0 x1 1 h
  )

def fn_X15_checkByte_36 (s0 : Int32) (h : sv_H) : Option (Int32 × sv_H) :=
  some (s0, h)

def fn_X15_checkByte_16 (x1 : Int32) (s0 : Int32) (h : sv_H) : Option (Int32 × sv_H) :=
  if (x1 - x1 / 2 * 2) = 0 then
    fn_X15_checkByte_36 (s0 / 256) h
  else
    fn_X15_checkByte_36 (s0 - s0 / 256 * 256) h

def fn_X15_checkByte (x0 : Nat) (x1 : Int32) (h : sv_H) : Option (Int32 × sv_H) :=
  sv_kd h 16 x0 (
  if 2 ≤ x1 then
    (sv_gI h 16 1619 x0).bind fun v1 =>
    fn_X15_checkByte_16 x1 v1 h
  else
    (sv_gI h 16 1620 x0).bind fun v2 =>
    fn_X15_checkByte_16 x1 v2 h
  )

def fn_X15_write_244b (k244 : Nat → Int32 → sv_H → Option (Int32 × sv_H)) (x0 : Nat) (x2 : Int32) (h : sv_H) : Option (Int32 × sv_H) :=
  if 4 ≤ x2 then
    (sv_gI h 16 1607 x0).bind fun v1 =>
    some (v1, h)
  else
    sv_b (fn_X15_checkByte x0 x2 h) fun r2 h3 =>
    sv_b (fn_X15_put x0 r2 h3) fun _ h4 =>
    k244 x0 (x2 + 1) h4

def fn_X15_write_244 : Nat → Nat → Int32 → sv_H → Option (Int32 × sv_H)
  | 0, _, _, _ => none
  | sv_n + 1, x0, x2, h => fn_X15_write_244b (fn_X15_write_244 sv_n) x0 x2 h

def fn_X15_write_218b (k218 : Nat → Int32 → sv_H → Option (Int32 × sv_H)) (x0 : Nat) (x2 : Int32) (h : sv_H) : Option (Int32 × sv_H) :=
  (sv_gI h 16 1607 x0).bind fun v1 =>
  if v1 ≤ x2 then
    fn_X15_write_244 sv_fuel x0 0 h
  else
    (sv_gP h 16 1606 x0).bind fun v2 =>
    (sv_lI h v2 x2).bind fun v3 =>
    sv_b (fn_X15_sum x0 v3 h) fun _ h4 =>
    k218 x0 (x2 + 1) h4

def fn_X15_write_218 : Nat → Nat → Int32 → sv_H → Option (Int32 × sv_H)
  | 0, _, _, _ => none
  | sv_n + 1, x0, x2, h => fn_X15_write_218b (fn_X15_write_218 sv_n) x0 x2 h

def fn_X15_write_194 (k80 : Nat → Int32 → sv_H → Option (Int32 × sv_H)) (x0 : Nat) (x1 : Int32) (x2 : Int32) (h : sv_H) : Option (Int32 × sv_H) :=
  k80 x0 (x1 + x2) h

def fn_X15_write_147 (k80 : Nat → Int32 → sv_H → Option (Int32 × sv_H)) (x0 : Nat) (x1 : Int32) (x2 : Int32) (x3 : Int32) (s0 : Nat) (s1 : Int32) (s2 : Int32) (h : sv_H) : Option (Int32 × sv_H) :=
  sv_b (fn_X15_put s0 (s1 + s2) h) fun _ h1 =>
  (sv_gP h1 16 1601 x0).bind fun v2 =>
  (sv_lI h1 v2 x1).bind fun v3 =>
  sv_b (fn_X15_put x0 (v3 + 64) h1) fun _ h4 =>
  if x3 = 0 then
    fn_X15_write_194 k80 x0 x1 x2 h4
  else
    (sv_gP h4 16 1602 x0).bind fun v5 =>
    (sv_lI h4 v5 x1).bind fun v6 =>
    sv_b (fn_X15_put x0 (v6 + 64) h4) fun _ h7 =>
    (sv_gP h7 16 1603 x0).bind fun v8 =>
    (sv_lI h7 v8 x1).bind fun v9 =>
    sv_b (fn_X15_put x0 (v9 + 16) h7) fun _ h10 =>
    fn_X15_write_194 k80 x0 x1 x2 h10

def fn_X15_write_135 (k80 : Nat → Int32 → sv_H → Option (Int32 × sv_H)) (x0 : Nat) (x1 : Int32) (x2 : Int32) (x3 : Int32) (s0 : Nat) (s1 : Int32) (s2 : Int32) (h : sv_H) : Option (Int32 × sv_H) :=
  if x3 = 0 then
    fn_X15_write_147 k80 x0 x1 x2 x3 s0 (s1 + s2) 0 h
  else
    fn_X15_write_147 k80 x0 x1 x2 x3 s0 (s1 + s2) 128 h

def fn_X15_write_117 (k80 : Nat → Int32 → sv_H → Option (Int32 × sv_H)) (x0 : Nat) (x1 : Int32) (x2 : Int32) (s0 : Int32) (h : sv_H) : Option (Int32 × sv_H) :=
  (sv_gP h 16 1604 x0).bind fun v1 =>
  (sv_lZ h v1 x1).bind fun v2 =>
  if v2 = 0 then
    fn_X15_write_135 k80 x0 x1 x2 s0 x0 x2 0 h
  else
    fn_X15_write_135 k80 x0 x1 x2 s0 x0 x2 64 h

def fn_X15_write_112 (k80 : Nat → Int32 → sv_H → Option (Int32 × sv_H)) (x0 : Nat) (x1 : Int32) (x2 : Int32) (h : sv_H) : Option (Int32 × sv_H) :=
  fn_X15_write_117 k80 x0 x1 x2 1 h

def fn_X15_write_80b (k80 : Nat → Int32 → sv_H → Option (Int32 × sv_H)) (x0 : Nat) (x1 : Int32) (h : sv_H) : Option (Int32 × sv_H) :=
  (sv_gI h 16 1605 x0).bind fun v1 =>
  if v1 ≤ x1 then
    sv_b (fn_X15_put x0 0 h) fun _ h2 =>
    (sv_pI h2 16 1619 x0 1).bind fun h3 =>
    (sv_pI h3 16 1620 x0 0).bind fun h4 =>
    fn_X15_write_218 sv_fuel x0 0 h4
  else
    sv_b (fn_X15_run x0 x1 h) fun r5 h6 =>
    (sv_gP h6 16 1602 x0).bind fun v7 =>
    (sv_lI h6 v7 x1).bind fun v8 =>
    if v8 = 0 then
      (sv_gP h6 16 1603 x0).bind fun v9 =>
      (sv_lI h6 v9 x1).bind fun v10 =>
      if v10 = 0 then
        fn_X15_write_117 k80 x0 x1 r5 0 h6
      else
        fn_X15_write_112 k80 x0 x1 r5 h6
    else
      fn_X15_write_112 k80 x0 x1 r5 h6

def fn_X15_write_80 : Nat → Nat → Int32 → sv_H → Option (Int32 × sv_H)
  | 0, _, _, _ => none
  | sv_n + 1, x0, x1, h => fn_X15_write_80b (fn_X15_write_80 sv_n) x0 x1 h

def fn_X15_write_24b (k24 : Nat → Int32 → sv_H → Option (Int32 × sv_H)) (x0 : Nat) (x1 : Int32) (h : sv_H) : Option (Int32 × sv_H) :=
  if 2 ≤ x1 then
    (sv_gP h 16 1600 x0).bind fun v1 =>
    (sv_lI h v1 2).bind fun v2 =>
    sv_b (fn_X15_put x0 v2 h) fun _ h3 =>
    (sv_gP h3 16 1600 x0).bind fun v4 =>
    (sv_lI h3 v4 3).bind fun v5 =>
    sv_b (fn_X15_put x0 v5 h3) fun _ h6 =>
    fn_X15_write_80 sv_fuel x0 0 h6
  else
    (sv_gP h 16 1600 x0).bind fun v7 =>
    (sv_lI h v7 x1).bind fun v8 =>
    sv_b (fn_X15_put x0 (v8 >>> (8 &&& 31)) h) fun _ h9 =>
    (sv_gP h9 16 1600 x0).bind fun v10 =>
    (sv_lI h9 v10 x1).bind fun v11 =>
    sv_b (fn_X15_put x0 v11 h9) fun _ h12 =>
    k24 x0 (x1 + 1) h12

def fn_X15_write_24 : Nat → Nat → Int32 → sv_H → Option (Int32 × sv_H)
  | 0, _, _, _ => none
  | sv_n + 1, x0, x1, h => fn_X15_write_24b (fn_X15_write_24 sv_n) x0 x1 h

def fn_X15_write (x0 : Nat) (h : sv_H) : Option (Int32 × sv_H) :=
  sv_kd h 16 x0 (
  (sv_pI h 16 1607 x0 0).bind fun h1 =>
  sv_b (fn_X15_put x0 77 h1) fun _ h2 =>
  sv_b (fn_X15_put x0 68 h2) fun _ h3 =>
  sv_b (fn_X15_put x0 1 h3) fun _ h4 =>
  fn_X15_write_24 sv_fuel x0 0 h4
  )

def fn_X17_saveDemo_27b (k27 : Nat → Int32 → sv_H → Option (Int32 × sv_H)) (x0 : Nat) (x1 : Int32) (h : sv_H) : Option (Int32 × sv_H) :=
  (sv_gI h 18 1806 x0).bind fun v1 =>
  if v1 ≤ x1 then
    (sv_gI h 18 1806 x0).bind fun v2 =>
    some (v2, h)
  else
    (sv_gP h 18 1805 x0).bind fun v3 =>
    (sv_gP h 18 1802 x0).bind fun v4 =>
    (sv_gP h 16 1606 v4).bind fun v5 =>
    (sv_lI h v5 x1).bind fun v6 =>
    (sv_sI h v3 x1 v6).bind fun h7 =>
    k27 x0 (x1 + 1) h7

def fn_X17_saveDemo_27 : Nat → Nat → Int32 → sv_H → Option (Int32 × sv_H)
  | 0, _, _, _ => none
  | sv_n + 1, x0, x1, h => fn_X17_saveDemo_27b (fn_X17_saveDemo_27 sv_n) x0 x1 h

def fn_X17_saveDemo (x0 : Nat) (h : sv_H) : Option (Int32 × sv_H) :=
  sv_kd h 18 x0 (
  (sv_pI h 18 1800 x0 0).bind fun h1 =>
  (sv_gI h1 18 1809 x0).bind fun v2 =>
  if v2 = 0 then
    some ((-1), h1)
  else
    (sv_gP h1 18 1802 x0).bind fun v3 =>
    sv_b (fn_X15_write v3 h1) fun r4 h5 =>
    (sv_pI h5 18 1806 x0 r4).bind fun h6 =>
    fn_X17_saveDemo_27 sv_fuel x0 0 h6
  )

def fn_X12_turnBytes (x0 : Nat) (h : sv_H) : Option (Unit × sv_H) :=
  sv_kd h 13 x0 (
  (sv_gP h 13 1300 x0).bind fun v1 =>
  (sv_gP h 13 1301 x0).bind fun v2 =>
  sv_b (fn_X0_become v1 v2 h) fun _ h3 =>
  some ((), h3)
  )

def fn_X17_turnBytes_18b (k18 : Nat → Int32 → sv_H → Option (Unit × sv_H)) (x0 : Nat) (x1 : Int32) (h : sv_H) : Option (Unit × sv_H) :=
  (sv_gI h 18 1806 x0).bind fun v1 =>
  if v1 ≤ x1 then
    some ((), h)
  else
    (sv_gP h 18 1801 x0).bind fun v2 =>
    (sv_gP h 15 1500 v2).bind fun v3 =>
    (sv_gP h 18 1805 x0).bind fun v4 =>
    (sv_lI h v4 x1).bind fun v5 =>
    (sv_sB h v3 x1 (Int8.toInt32 (Int32.toInt8 v5))).bind fun h6 =>
    k18 x0 (x1 + 1) h6

def fn_X17_turnBytes_18 : Nat → Nat → Int32 → sv_H → Option (Unit × sv_H)
  | 0, _, _, _ => none
  | sv_n + 1, x0, x1, h => fn_X17_turnBytes_18b (fn_X17_turnBytes_18 sv_n) x0 x1 h

def fn_X17_turnBytes (x0 : Nat) (h : sv_H) : Option (Unit × sv_H) :=
  sv_kd h 18 x0 (
  (sv_pI h 18 1800 x0 0).bind fun h1 =>
  (sv_gP h1 18 1801 x0).bind fun v2 =>
  (sv_gI h1 18 1806 x0).bind fun v3 =>
  (sv_pI h1 15 1501 v2 v3).bind fun h4 =>
  fn_X17_turnBytes_18 sv_fuel x0 0 h4
  )

def fn_X12_isPlace_33 (s0 : Int32) (h : sv_H) : Option (Int32 × sv_H) :=
  sv_rz s0 h

def fn_X12_isPlace_32 (h : sv_H) : Option (Int32 × sv_H) :=
  fn_X12_isPlace_33 0 h

def fn_X12_isPlace (x0 : Int32) (x1 : Int32) (h : sv_H) : Option (Int32 × sv_H) :=
  if x0 < ((-32768)) then
    fn_X12_isPlace_32 h
  else
    if 32767 < x0 then
      fn_X12_isPlace_32 h
    else
      if x1 < ((-32768)) then
        fn_X12_isPlace_32 h
      else
        if 32767 < x1 then
          fn_X12_isPlace_32 h
        else
          fn_X12_isPlace_33 1 h

def fn_X12_isSector_20 (s0 : Int32) (h : sv_H) : Option (Int32 × sv_H) :=
  sv_rz s0 h

def fn_X12_isSector_19 (h : sv_H) : Option (Int32 × sv_H) :=
  fn_X12_isSector_20 0 h

def fn_X12_isSector (x0 : Nat) (x1 : Int32) (h : sv_H) : Option (Int32 × sv_H) :=
  sv_kd h 13 x0 (
  if x1 < 0 then
    fn_X12_isSector_19 h
  else
    (sv_gP h 13 1306 x0).bind fun v1 =>
    (sv_gI h 3 311 v1).bind fun v2 =>
    if v2 ≤ x1 then
      fn_X12_isSector_19 h
    else
      fn_X12_isSector_20 1 h
  )

def fn_X12_startAt_34 (h : sv_H) : Option (Int32 × sv_H) :=
  some (0, h)

def fn_X12_startAt (x0 : Nat) (x1 : Int32) (x2 : Int32) (x3 : Int32) (x4 : Int32) (h : sv_H) : Option (Int32 × sv_H) :=
  sv_kd h 13 x0 (
  sv_b (fn_X12_hasMap x0 h) fun r1 h2 =>
  if r1 = 0 then
    fn_X12_startAt_34 h2
  else
    sv_b (fn_X12_isPlace x1 x2 h2) fun r3 h4 =>
    if r3 = 0 then
      fn_X12_startAt_34 h4
    else
      if x3 < 0 then
        fn_X12_startAt_34 h4
      else
        if 64 ≤ x3 then
          fn_X12_startAt_34 h4
        else
          sv_b (fn_X12_isSector x0 x4 h4) fun r5 h6 =>
          if r5 = 0 then
            fn_X12_startAt_34 h6
          else
            (sv_gP h6 13 1308 x0).bind fun v7 =>
            (sv_gP h6 6 600 v7).bind fun v8 =>
            sv_b (fn_X7_put v8 x1 x2 x3 x4 h6) fun _ h9 =>
            (sv_gP h9 13 1304 x0).bind fun v10 =>
            (sv_gP h9 13 1306 x0).bind fun v11 =>
            (sv_gP h9 13 1308 x0).bind fun v12 =>
            (sv_gP h9 6 600 v12).bind fun v13 =>
            sv_b (fn_X10_begin v10 v11 v13 h9) fun _ h14 =>
            some (1, h14)
  )

def fn_X15_start_51 (h : sv_H) : Option (Int32 × sv_H) :=
  some (0, h)

def fn_X15_start (x0 : Nat) (x1 : Int32) (x2 : Int32) (x3 : Int32) (x4 : Int32) (h : sv_H) : Option (Int32 × sv_H) :=
  sv_kd h 16 x0 (
  if x1 < ((-32768)) then
    fn_X15_start_51 h
  else
    if 32767 < x1 then
      fn_X15_start_51 h
    else
      if x2 < ((-32768)) then
        fn_X15_start_51 h
      else
        if 32767 < x2 then
          fn_X15_start_51 h
        else
          if x3 < 0 then
            fn_X15_start_51 h
          else
            if 63 < x3 then
              fn_X15_start_51 h
            else
              if x4 < 0 then
                fn_X15_start_51 h
              else
                if x4 ≤ 255 then
                  (sv_gP h 16 1600 x0).bind fun v1 =>
                  (sv_sI h v1 0 x1).bind fun h2 =>
                  (sv_gP h2 16 1600 x0).bind fun v3 =>
                  (sv_sI h2 v3 1 x2).bind fun h4 =>
                  (sv_gP h4 16 1600 x0).bind fun v5 =>
                  (sv_sI h4 v5 2 x3).bind fun h6 =>
                  (sv_gP h6 16 1600 x0).bind fun v7 =>
                  (sv_sI h6 v7 3 x4).bind fun h8 =>
                  some (1, h8)
                else
                  fn_X15_start_51 h
  )

def fn_X17_startAt_36 (h : sv_H) : Option (Int32 × sv_H) :=
  some (0, h)

def fn_X17_startAt (x0 : Nat) (x1 : Int32) (x2 : Int32) (x3 : Int32) (x4 : Int32) (h : sv_H) : Option (Int32 × sv_H) :=
  sv_kd h 18 x0 (
  (sv_pI h 18 1800 x0 0).bind fun h1 =>
  (sv_gI h1 18 1809 x0).bind fun v2 =>
  if v2 = 0 then
    fn_X17_startAt_36 h1
  else
    sv_b (fn_X17_sectors x0 h1) fun r3 h4 =>
    if r3 ≤ x4 then
      fn_X17_startAt_36 h4
    else
      (sv_gP h4 18 1802 x0).bind fun v5 =>
      sv_b (fn_X15_start v5 x1 x2 x3 x4 h4) fun r6 h7 =>
      if r6 = 0 then
        fn_X17_startAt_36 h7
      else
        sv_b (fn_X17_begin x0 h7) fun _ h8 =>
        some (1, h8)
  )

def fn_X5_isInput_41 (s0 : Int32) (h : sv_H) : Option (Int32 × sv_H) :=
  sv_rz s0 h

def fn_X5_isInput_40 (h : sv_H) : Option (Int32 × sv_H) :=
  fn_X5_isInput_41 0 h

def fn_X5_isInput (x0 : Int32) (x1 : Int32) (x2 : Int32) (h : sv_H) : Option (Int32 × sv_H) :=
  if x0 < ((-64)) then
    fn_X5_isInput_40 h
  else
    if 64 < x0 then
      fn_X5_isInput_40 h
    else
      if x1 < ((-64)) then
        fn_X5_isInput_40 h
      else
        if 64 < x1 then
          fn_X5_isInput_40 h
        else
          if x2 < ((-16)) then
            fn_X5_isInput_40 h
          else
            if 16 < x2 then
              fn_X5_isInput_40 h
            else
              fn_X5_isInput_41 1 h

def fn_X12_addInput_29 (h : sv_H) : Option (Int32 × sv_H) :=
  some ((-1), h)

def fn_X12_addInput (x0 : Nat) (x1 : Int32) (x2 : Int32) (x3 : Int32) (x4 : Int32) (h : sv_H) : Option (Int32 × sv_H) :=
  sv_kd h 13 x0 (
  sv_b (fn_X12_hasMap x0 h) fun r1 h2 =>
  if r1 = 0 then
    fn_X12_addInput_29 h2
  else
    sv_b (fn_X5_isInput x1 x2 x3 h2) fun r3 h4 =>
    if r3 = 0 then
      fn_X12_addInput_29 h4
    else
      (sv_gP h4 13 1308 x0).bind fun v5 =>
      (sv_gI h4 6 602 v5).bind fun v6 =>
      if v6 < 1024 then
        (sv_gP h4 13 1308 x0).bind fun v7 =>
        sv_b (fn_X5_inputOf x1 x2 x3 x4 h4) fun r8 h9 =>
        sv_b (fn_X5_add v7 r8 h9) fun _ h10 =>
        (sv_gP h10 13 1308 x0).bind fun v11 =>
        (sv_gI h10 6 602 v11).bind fun v12 =>
        some (v12, h10)
      else
        fn_X12_addInput_29 h4
  )

def fn_X15_isIn_16 (s0 : Int32) (h : sv_H) : Option (Int32 × sv_H) :=
  sv_rz s0 h

def fn_X15_isIn_15 (h : sv_H) : Option (Int32 × sv_H) :=
  fn_X15_isIn_16 0 h

def fn_X15_isIn (x0 : Int32) (x1 : Int32) (h : sv_H) : Option (Int32 × sv_H) :=
  if x0 < (-x1) then
    fn_X15_isIn_15 h
  else
    if x1 < x0 then
      fn_X15_isIn_15 h
    else
      fn_X15_isIn_16 1 h

def fn_X15_record_54 (h : sv_H) : Option (Int32 × sv_H) :=
  some ((-1), h)

def fn_X15_record_59b (k59 : Nat → Int32 → Int32 → Int32 → Int32 → Int32 → Int32 → sv_H → Option (Int32 × sv_H)) (x0 : Nat) (x1 : Int32) (x2 : Int32) (x3 : Int32) (x4 : Int32) (x5 : Int32) (x6 : Int32) (h : sv_H) : Option (Int32 × sv_H) :=
  if x5 ≤ x6 then
    (sv_gI h 16 1605 x0).bind fun v1 =>
    some (v1, h)
  else
    (sv_gP h 16 1601 x0).bind fun v2 =>
    (sv_gI h 16 1605 x0).bind fun v3 =>
    (sv_sI h v2 v3 x1).bind fun h4 =>
    (sv_gP h4 16 1602 x0).bind fun v5 =>
    (sv_gI h4 16 1605 x0).bind fun v6 =>
    (sv_sI h4 v5 v6 x2).bind fun h7 =>
    (sv_gP h7 16 1603 x0).bind fun v8 =>
    (sv_gI h7 16 1605 x0).bind fun v9 =>
    (sv_sI h7 v8 v9 x3).bind fun h10 =>
    (sv_gP h10 16 1604 x0).bind fun v11 =>
    (sv_gI h10 16 1605 x0).bind fun v12 =>
    (sv_sZ h10 v11 v12 x4).bind fun h13 =>
    (sv_gI h13 16 1605 x0).bind fun v14 =>
    (sv_pI h13 16 1605 x0 (v14 + 1)).bind fun h15 =>
    k59 x0 x1 x2 x3 x4 x5 (x6 + 1) h15

def fn_X15_record_59 : Nat → Nat → Int32 → Int32 → Int32 → Int32 → Int32 → Int32 → sv_H → Option (Int32 × sv_H)
  | 0, _, _, _, _, _, _, _, _ => none
  | sv_n + 1, x0, x1, x2, x3, x4, x5, x6, h => fn_X15_record_59b (fn_X15_record_59 sv_n) x0 x1 x2 x3 x4 x5 x6 h

def fn_X15_record (x0 : Nat) (x1 : Int32) (x2 : Int32) (x3 : Int32) (x4 : Int32) (x5 : Int32) (h : sv_H) : Option (Int32 × sv_H) :=
  sv_kd h 16 x0 (
  sv_b (fn_X15_isIn x1 64 h) fun r1 h2 =>
  if r1 = 0 then
    fn_X15_record_54 h2
  else
    sv_b (fn_X15_isIn x2 64 h2) fun r3 h4 =>
    if r3 = 0 then
      fn_X15_record_54 h4
    else
      sv_b (fn_X15_isIn x3 16 h4) fun r5 h6 =>
      if r5 = 0 then
        fn_X15_record_54 h6
      else
        if x5 < 1 then
          fn_X15_record_54 h6
        else
          if 1024 < x5 then
            fn_X15_record_54 h6
          else
            (sv_gI h6 16 1605 x0).bind fun v7 =>
            if (v7 + x5) ≤ 1024 then
              fn_X15_record_59 sv_fuel x0 x1 x2 x3 x4 x5 0 h6
            else
              fn_X15_record_54 h6
  )

def fn_X17_addInput_29 (s0 : Int32) (h : sv_H) : Option (Int32 × sv_H) :=
  some (s0, h)

def fn_X17_addInput (x0 : Nat) (x1 : Int32) (x2 : Int32) (x3 : Int32) (x4 : Int32) (h : sv_H) : Option (Int32 × sv_H) :=
  sv_kd h 18 x0 (
  (sv_pI h 18 1800 x0 0).bind fun h1 =>
  (sv_gI h1 18 1809 x0).bind fun v2 =>
  if v2 = 0 then
    fn_X17_addInput_29 ((-1)) h1
  else
    (sv_gP h1 18 1802 x0).bind fun v3 =>
    sv_b (fn_X15_record v3 x1 x2 x3 x4 1 h1) fun r4 h5 =>
    fn_X17_addInput_29 r4 h5
  )

def fn_X12_dropInputs_15 (h : sv_H) : Option (Int32 × sv_H) :=
  some (0, h)

def fn_X12_dropInputs (x0 : Nat) (x1 : Int32) (h : sv_H) : Option (Int32 × sv_H) :=
  sv_kd h 13 x0 (
  if x1 < 0 then
    fn_X12_dropInputs_15 h
  else
    (sv_gP h 13 1308 x0).bind fun v1 =>
    (sv_gI h 6 602 v1).bind fun v2 =>
    if x1 ≤ v2 then
      (sv_gP h 13 1308 x0).bind fun v3 =>
      (sv_gI h 6 602 v3).bind fun v4 =>
      (sv_pI h 6 602 v3 (v4 - x1)).bind fun h5 =>
      some (1, h5)
    else
      fn_X12_dropInputs_15 h
  )

def fn_X15_undo_12 (h : sv_H) : Option (Int32 × sv_H) :=
  some (0, h)

def fn_X15_undo (x0 : Nat) (x1 : Int32) (h : sv_H) : Option (Int32 × sv_H) :=
  sv_kd h 16 x0 (
  if x1 < 0 then
    fn_X15_undo_12 h
  else
    (sv_gI h 16 1605 x0).bind fun v1 =>
    if x1 ≤ v1 then
      (sv_gI h 16 1605 x0).bind fun v2 =>
      (sv_pI h 16 1605 x0 (v2 - x1)).bind fun h3 =>
      some (1, h3)
    else
      fn_X15_undo_12 h
  )

def fn_X17_dropInputs (x0 : Nat) (x1 : Int32) (h : sv_H) : Option (Int32 × sv_H) :=
  sv_kd h 18 x0 (
  (sv_pI h 18 1800 x0 0).bind fun h1 =>
  (sv_gP h1 18 1802 x0).bind fun v2 =>
  sv_b (fn_X15_undo v2 x1 h1) fun r3 h4 =>
  sv_rz r3 h4
  )

def fn_X12_cosine (x0 : Int32) (h : sv_H) : Option (Int32 × sv_H) :=
  if 16 < x0 then
    if 32 < x0 then
      if 48 < x0 then
        (sv_sQ (64 - x0)).bind fun v1 =>
        some (v1, h)
      else
        (sv_sQ (x0 - 32)).bind fun v2 =>
        some (-v2, h)
    else
      (sv_sQ (32 - x0)).bind fun v3 =>
      some (-v3, h)
  else
    (sv_sQ x0).bind fun v4 =>
    some (v4, h)

def fn_X12_sine (x0 : Int32) (h : sv_H) : Option (Int32 × sv_H) :=
  sv_b (fn_J9_floorMod_7cf53 (x0 - 16) 64 h) fun r1 h2 =>
  sv_b (fn_X12_cosine r1 h2) fun r3 h4 =>
  some (r3, h4)

def fn_X3_aim (x0 : Nat) (x1 : Int32) (x2 : Int32) (x3 : Int32) (x4 : Int32) (h : sv_H) : Option (Unit × sv_H) :=
  sv_kd h 4 x0 (
  (sv_pI h 4 407 x0 x1).bind fun h1 =>
  (sv_pI h1 4 408 x0 x2).bind fun h2 =>
  (sv_pI h2 4 409 x0 x3).bind fun h3 =>
  (sv_pI h3 4 410 x0 x4).bind fun h4 =>
  some ((), h4)
  )

def fn_X3_makeGap_166 (x5 : Int32) (h : sv_H) : Option (Int32 × sv_H) :=
  some (x5, h)

def fn_X3_makeGap_22b (k22 : Nat → Int64 → Int64 → Int32 → Int32 → sv_H → Option (Int32 × sv_H)) (x0 : Nat) (x1 : Int64) (x3 : Int64) (x5 : Int32) (x6 : Int32) (h : sv_H) : Option (Int32 × sv_H) :=
  if x6 ≤ 0 then
    fn_X3_makeGap_166 x5 h
  else
    if x5 ≤ 0 then
      fn_X3_makeGap_166 x5 h
    else
      (sv_gP h 4 402 x0).bind fun v1 =>
      (sv_lJ h v1 (x5 - 1)).bind fun v2 =>
      (sv_gP h 4 403 x0).bind fun v3 =>
      (sv_lJ h v3 (x5 - 1)).bind fun v4 =>
      sv_b (fn_X12_compareQuotients v2 v4 x1 x3 h) fun r5 h6 =>
      if 0 < r5 then
        (sv_gP h6 4 400 x0).bind fun v7 =>
        (sv_gP h6 4 400 x0).bind fun v8 =>
        (sv_lI h6 v8 (x5 - 1)).bind fun v9 =>
        (sv_sI h6 v7 x5 v9).bind fun h10 =>
        (sv_gP h10 4 401 x0).bind fun v11 =>
        (sv_gP h10 4 401 x0).bind fun v12 =>
        (sv_lZ h10 v12 (x5 - 1)).bind fun v13 =>
        (sv_sZ h10 v11 x5 v13).bind fun h14 =>
        (sv_gP h14 4 402 x0).bind fun v15 =>
        (sv_gP h14 4 402 x0).bind fun v16 =>
        (sv_lJ h14 v16 (x5 - 1)).bind fun v17 =>
        (sv_sJ h14 v15 x5 v17).bind fun h18 =>
        (sv_gP h18 4 403 x0).bind fun v19 =>
        (sv_gP h18 4 403 x0).bind fun v20 =>
        (sv_lJ h18 v20 (x5 - 1)).bind fun v21 =>
        (sv_sJ h18 v19 x5 v21).bind fun h22 =>
        (sv_gP h22 4 404 x0).bind fun v23 =>
        (sv_gP h22 4 404 x0).bind fun v24 =>
        (sv_lJ h22 v24 (x5 - 1)).bind fun v25 =>
        (sv_sJ h22 v23 x5 v25).bind fun h26 =>
        (sv_gP h26 4 405 x0).bind fun v27 =>
        (sv_gP h26 4 405 x0).bind fun v28 =>
        (sv_lJ h26 v28 (x5 - 1)).bind fun v29 =>
        (sv_sJ h26 v27 x5 v29).bind fun h30 =>
        k22 x0 x1 x3 (x5 + (-1)) (x6 + (-1)) h30
      else
        some (x5, h6)

def fn_X3_makeGap_22 : Nat → Nat → Int64 → Int64 → Int32 → Int32 → sv_H → Option (Int32 × sv_H)
  | 0, _, _, _, _, _, _ => none
  | sv_n + 1, x0, x1, x3, x5, x6, h => fn_X3_makeGap_22b (fn_X3_makeGap_22 sv_n) x0 x1 x3 x5 x6 h

def fn_X3_makeGap (x0 : Nat) (x1 : Int64) (x3 : Int64) (h : sv_H) : Option (Int32 × sv_H) :=
  sv_kd h 4 x0 (
  (sv_gI h 4 406 x0).bind fun v1 =>
  (sv_gI h 4 406 x0).bind fun v2 =>
  (sv_pI h 4 406 x0 (v2 + 1)).bind fun h3 =>
  (sv_gI h3 4 406 x0).bind fun v4 =>
  fn_X3_makeGap_22 sv_fuel x0 x1 x3 v1 v4 h3
  )

def fn_X3_meet_189 (h : sv_H) : Option (Unit × sv_H) :=
  some ((), h)

def fn_X3_meet_226 (x0 : Nat) (x4 : Int64) (x6 : Int64) (x10 : Int64) (x12 : Int64) (x14 : Int32) (s0 : Nat) (s1 : Int32) (s2 : Int32) (h : sv_H) : Option (Unit × sv_H) :=
  (sv_sZ h s0 s1 s2).bind fun h1 =>
  (sv_gP h1 4 402 x0).bind fun v2 =>
  (sv_sJ h1 v2 x14 x10).bind fun h3 =>
  (sv_gP h3 4 403 x0).bind fun v4 =>
  (sv_sJ h3 v4 x14 x12).bind fun h5 =>
  (sv_gP h5 4 404 x0).bind fun v6 =>
  (sv_sJ h5 v6 x14 x4).bind fun h7 =>
  (sv_gP h7 4 405 x0).bind fun v8 =>
  (sv_sJ h7 v8 x14 x6).bind fun h9 =>
  some ((), h9)

def fn_X3_meet_159 (x0 : Nat) (x2 : Int32) (x3 : Int32) (x4 : Int64) (x6 : Int64) (x8 : Int64) (s0 : Int64) (h : sv_H) : Option (Unit × sv_H) :=
  sv_let (sv_absl (x6 - x4)) fun r1 =>
  if (lg_cmp s0 0) ≤ 0 then
    fn_X3_meet_189 h
  else
    if (lg_cmp (s0 * (Int32.toInt64 x3)) r1) ≤ 0 then
      sv_b (fn_X3_makeGap x0 s0 r1 h) fun r2 h3 =>
      (sv_gP h3 4 400 x0).bind fun v4 =>
      (sv_sI h3 v4 r2 x2).bind fun h5 =>
      (sv_gP h5 4 401 x0).bind fun v6 =>
      if 0 ≤ (lg_cmp x8 0) then
        fn_X3_meet_226 x0 x4 x6 s0 r1 r2 v6 r2 0 h5
      else
        fn_X3_meet_226 x0 x4 x6 s0 r1 r2 v6 r2 1 h5
    else
      fn_X3_meet_189 h

def fn_X3_meet_94 (x0 : Nat) (x1 : Nat) (x2 : Int32) (x3 : Int32) (x4 : Int64) (x6 : Int64) (s0 : Int32) (s1 : Int32) (h : sv_H) : Option (Unit × sv_H) :=
  if s0 = s1 then
    some ((), h)
  else
    (sv_gI h 12 1200 x1).bind fun v1 =>
    (sv_gI h 4 407 x0).bind fun v2 =>
    (sv_gI h 12 1201 x1).bind fun v3 =>
    (sv_gI h 4 408 x0).bind fun v4 =>
    (sv_gI h 12 1202 x1).bind fun v5 =>
    (sv_gI h 12 1200 x1).bind fun v6 =>
    (sv_gI h 12 1203 x1).bind fun v7 =>
    (sv_gI h 12 1201 x1).bind fun v8 =>
    sv_b (fn_X12_cross (Int32.toInt64 (v1 - v2)) (Int32.toInt64 (v3 - v4)) (Int32.toInt64 (v5 - v6)) (Int32.toInt64 (v7 - v8)) h) fun r9 h10 =>
    if (lg_cmp x6 x4) ≤ 0 then
      fn_X3_meet_159 x0 x2 x3 x4 x6 r9 (-r9) h10
    else
      fn_X3_meet_159 x0 x2 x3 x4 x6 r9 r9 h10

def fn_X3_meet_82 (x0 : Nat) (x1 : Nat) (x2 : Int32) (x3 : Int32) (x4 : Int64) (x6 : Int64) (s0 : Int32) (h : sv_H) : Option (Unit × sv_H) :=
  if 0 ≤ (lg_cmp x6 0) then
    fn_X3_meet_94 x0 x1 x2 x3 x4 x6 s0 0 h
  else
    fn_X3_meet_94 x0 x1 x2 x3 x4 x6 s0 1 h

def fn_X3_meet (x0 : Nat) (x1 : Nat) (x2 : Int32) (x3 : Int32) (h : sv_H) : Option (Unit × sv_H) :=
  sv_kd h 4 x0 (
  (sv_gI h 4 409 x0).bind fun v1 =>
  (sv_gI h 4 410 x0).bind fun v2 =>
  (sv_gI h 12 1200 x1).bind fun v3 =>
  (sv_gI h 4 407 x0).bind fun v4 =>
  (sv_gI h 12 1201 x1).bind fun v5 =>
  (sv_gI h 4 408 x0).bind fun v6 =>
  sv_b (fn_X12_cross (Int32.toInt64 v1) (Int32.toInt64 v2) (Int32.toInt64 (v3 - v4)) (Int32.toInt64 (v5 - v6)) h) fun r7 h8 =>
  (sv_gI h8 4 409 x0).bind fun v9 =>
  (sv_gI h8 4 410 x0).bind fun v10 =>
  (sv_gI h8 12 1202 x1).bind fun v11 =>
  (sv_gI h8 4 407 x0).bind fun v12 =>
  (sv_gI h8 12 1203 x1).bind fun v13 =>
  (sv_gI h8 4 408 x0).bind fun v14 =>
  sv_b (fn_X12_cross (Int32.toInt64 v9) (Int32.toInt64 v10) (Int32.toInt64 (v11 - v12)) (Int32.toInt64 (v13 - v14)) h8) fun r15 h16 =>
  if 0 ≤ (lg_cmp r7 0) then
    fn_X3_meet_82 x0 x1 x2 x3 r7 r15 0 h16
  else
    fn_X3_meet_82 x0 x1 x2 x3 r7 r15 1 h16
  )

def fn_X3_meetClose_89 (k30 : Nat → Nat → Int32 → Int32 → Int32 → sv_H → Option (Unit × sv_H)) (x0 : Nat) (x1 : Nat) (x2 : Int32) (x3 : Int32) (x4 : Int32) (h : sv_H) : Option (Unit × sv_H) :=
  k30 x0 x1 x2 x3 (x4 + 1) h

def fn_X3_meetClose_30b (k30 : Nat → Nat → Int32 → Int32 → Int32 → sv_H → Option (Unit × sv_H)) (x0 : Nat) (x1 : Nat) (x2 : Int32) (x3 : Int32) (x4 : Int32) (h : sv_H) : Option (Unit × sv_H) :=
  (sv_gI h 3 312 x1).bind fun v1 =>
  if v1 ≤ x4 then
    some ((), h)
  else
    (sv_gP h 3 308 x1).bind fun v2 =>
    (sv_lP 922 h v2 x4).bind fun v3 =>
    (sv_gI h 4 407 x0).bind fun v4 =>
    (sv_gI h 4 408 x0).bind fun v5 =>
    (sv_gI h 4 407 x0).bind fun v6 =>
    (sv_gI h 4 408 x0).bind fun v7 =>
    sv_b (fn_X11_reachesBox v3 (v4 - x3) (v5 - x3) (v6 + x3) (v7 + x3) h) fun r8 h9 =>
    if r8 = 0 then
      fn_X3_meetClose_89 k30 x0 x1 x2 x3 x4 h9
    else
      sv_b (fn_X3_meet x0 v3 x4 x2 h9) fun _ h10 =>
      fn_X3_meetClose_89 k30 x0 x1 x2 x3 x4 h10

def fn_X3_meetClose_30 : Nat → Nat → Nat → Int32 → Int32 → Int32 → sv_H → Option (Unit × sv_H)
  | 0, _, _, _, _, _, _ => none
  | sv_n + 1, x0, x1, x2, x3, x4, h => fn_X3_meetClose_30b (fn_X3_meetClose_30 sv_n) x0 x1 x2 x3 x4 h

def fn_X3_meetClose (x0 : Nat) (x1 : Nat) (x2 : Int32) (h : sv_H) : Option (Unit × sv_H) :=
  sv_kd h 4 x0 (
  (sv_pI h 4 406 x0 0).bind fun h1 =>
  (sv_gI h1 4 409 x0).bind fun v2 =>
  sv_let (sv_abs v2) fun r3 =>
  (sv_gI h1 4 410 x0).bind fun v4 =>
  sv_let (sv_abs v4) fun r5 =>
  sv_let (sv_max r3 r5) fun r6 =>
  if x2 = 0 then none else
  fn_X3_meetClose_30 sv_fuel x0 x1 x2 ((r6 / x2) + 1) 0 h1
  )

def fn_X11_sectorOn_15 (s0 : Int32) (h : sv_H) : Option (Int32 × sv_H) :=
  some (s0, h)

def fn_X11_sectorOn (x0 : Nat) (x1 : Int32) (h : sv_H) : Option (Int32 × sv_H) :=
  sv_kd h 12 x0 (
  if x1 = 0 then
    (sv_gI h 12 1205 x0).bind fun v1 =>
    fn_X11_sectorOn_15 v1 h
  else
    (sv_gI h 12 1204 x0).bind fun v2 =>
    fn_X11_sectorOn_15 v2 h
  )

def fn_X10_stops_101 (s0 : Int32) (h : sv_H) : Option (Int32 × sv_H) :=
  sv_rz s0 h

def fn_X10_stops_96 (h : sv_H) : Option (Int32 × sv_H) :=
  fn_X10_stops_101 1 h

def fn_X10_stops_41 (x3 : Nat) (s0 : Nat) (s1 : Nat) (s2 : Int32) (h : sv_H) : Option (Int32 × sv_H) :=
  sv_b (fn_X11_sectorOn s1 s2 h) fun r1 h2 =>
  (sv_lP 917 h2 s0 r1).bind fun v3 =>
  (sv_gI h2 7 708 x3).bind fun v4 =>
  (sv_gI h2 7 708 v3).bind fun v5 =>
  sv_let (sv_min v4 v5) fun r6 =>
  (sv_gI h2 7 707 x3).bind fun v7 =>
  (sv_gI h2 7 707 v3).bind fun v8 =>
  sv_let (sv_max v7 v8) fun r9 =>
  (sv_gI h2 7 707 v3).bind fun v10 =>
  (sv_gI h2 7 707 x3).bind fun v11 =>
  if 24 < (v10 - v11) then
    fn_X10_stops_96 h2
  else
    if 56 ≤ (r6 - r9) then
      fn_X10_stops_101 0 h2
    else
      fn_X10_stops_96 h2

def fn_X10_stops (x0 : Nat) (x1 : Nat) (x2 : Int32) (h : sv_H) : Option (Int32 × sv_H) :=
  sv_kd h 11 x0 (
  (sv_gI h 12 1205 x1).bind fun v1 =>
  if v1 = ((-1)) then
    some (1, h)
  else
    (sv_gP h 11 1101 x0).bind fun v2 =>
    (sv_gP h 3 307 v2).bind fun v3 =>
    sv_b (fn_X11_sectorOn x1 x2 h) fun r4 h5 =>
    (sv_lP 917 h5 v3 r4).bind fun v6 =>
    (sv_gP h5 11 1101 x0).bind fun v7 =>
    (sv_gP h5 3 307 v7).bind fun v8 =>
    if x2 = 0 then
      fn_X10_stops_41 v6 v8 x1 1 h5
    else
      fn_X10_stops_41 v6 v8 x1 0 h5
  )

def fn_X10_moverByCrossing_38 (h : sv_H) : Option (Int32 × sv_H) :=
  some ((-1), h)

def fn_X10_moverByCrossing (x0 : Int32) (h : sv_H) : Option (Int32 × sv_H) :=
  if x0 = 2 then
    some (1, h)
  else
  if x0 = 3 then
    some (0, h)
  else
  if x0 = 4 then
    fn_X10_moverByCrossing_38 h
  else
  if x0 = 5 then
    some (2, h)
  else
  fn_X10_moverByCrossing_38 h

def fn_X2_neighbourBy_19 (h : sv_H) : Option (Int32 × sv_H) :=
  some ((-1), h)

def fn_X2_neighbourBy_50 (s0 : Int32) (h : sv_H) : Option (Int32 × sv_H) :=
  some (s0, h)

def fn_X2_neighbourBy (x0 : Nat) (x1 : Nat) (x2 : Int32) (h : sv_H) : Option (Int32 × sv_H) :=
  sv_kd h 3 x0 (
  (sv_gI h 12 1205 x1).bind fun v1 =>
  if v1 = ((-1)) then
    fn_X2_neighbourBy_19 h
  else
    (sv_gI h 12 1204 x1).bind fun v2 =>
    (sv_gI h 12 1205 x1).bind fun v3 =>
    if v2 = v3 then
      fn_X2_neighbourBy_19 h
    else
      (sv_gI h 12 1204 x1).bind fun v4 =>
      if v4 = x2 then
        (sv_gI h 12 1205 x1).bind fun v7 =>
        some (v7, h)
      else
        (sv_gI h 12 1205 x1).bind fun v5 =>
        if v5 = x2 then
          (sv_gI h 12 1204 x1).bind fun v6 =>
          fn_X2_neighbourBy_50 v6 h
        else
          fn_X2_neighbourBy_50 ((-1)) h
  )

def fn_X2_lowCeiling_72 (s0 : Int32) (h : sv_H) : Option (Int32 × sv_H) :=
  some (s0, h)

def fn_X2_lowCeiling_47 (k5 : Nat → Int32 → Int32 → Int32 → sv_H → Option (Int32 × sv_H)) (x0 : Nat) (x1 : Int32) (x2 : Int32) (x3 : Int32) (h : sv_H) : Option (Int32 × sv_H) :=
  k5 x0 x1 x2 (x3 + 1) h

def fn_X2_lowCeiling_5b (k5 : Nat → Int32 → Int32 → Int32 → sv_H → Option (Int32 × sv_H)) (x0 : Nat) (x1 : Int32) (x2 : Int32) (x3 : Int32) (h : sv_H) : Option (Int32 × sv_H) :=
  (sv_gI h 3 312 x0).bind fun v1 =>
  if v1 ≤ x3 then
    if x2 = 100000 then
      (sv_gP h 3 307 x0).bind fun v2 =>
      (sv_lP 917 h v2 x1).bind fun v3 =>
      (sv_gI h 7 708 v3).bind fun v4 =>
      fn_X2_lowCeiling_72 v4 h
    else
      fn_X2_lowCeiling_72 x2 h
  else
    (sv_gP h 3 308 x0).bind fun v5 =>
    (sv_lP 922 h v5 x3).bind fun v6 =>
    sv_b (fn_X2_neighbourBy x0 v6 x1 h) fun r7 h8 =>
    if r7 = ((-1)) then
      fn_X2_lowCeiling_47 k5 x0 x1 x2 x3 h8
    else
      (sv_gP h8 3 307 x0).bind fun v9 =>
      (sv_lP 917 h8 v9 r7).bind fun v10 =>
      (sv_gI h8 7 708 v10).bind fun v11 =>
      sv_let (sv_min x2 v11) fun r12 =>
      fn_X2_lowCeiling_47 k5 x0 x1 r12 x3 h8

def fn_X2_lowCeiling_5 : Nat → Nat → Int32 → Int32 → Int32 → sv_H → Option (Int32 × sv_H)
  | 0, _, _, _, _, _ => none
  | sv_n + 1, x0, x1, x2, x3, h => fn_X2_lowCeiling_5b (fn_X2_lowCeiling_5 sv_n) x0 x1 x2 x3 h

def fn_X2_lowCeiling (x0 : Nat) (x1 : Int32) (h : sv_H) : Option (Int32 × sv_H) :=
  sv_kd h 3 x0 (
  fn_X2_lowCeiling_5 sv_fuel x0 x1 100000 0 h
  )

def fn_X6_startMover (x0 : Nat) (x1 : Int32) (x2 : Int32) (x3 : Int32) (h : sv_H) : Option (Unit × sv_H) :=
  sv_kd h 7 x0 (
  (sv_pI h 7 709 x0 x1).bind fun h1 =>
  (sv_pI h1 7 710 x0 x2).bind fun h2 =>
  (sv_pI h2 7 712 x0 x3).bind fun h3 =>
  (sv_gI h3 7 707 x0).bind fun v4 =>
  (sv_pI h3 7 713 x0 v4).bind fun h5 =>
  (sv_pI h5 7 711 x0 0).bind fun h6 =>
  some ((), h6)
  )

def fn_X2_lowFloor_54 (k12 : Nat → Int32 → Int32 → Int32 → sv_H → Option (Int32 × sv_H)) (x0 : Nat) (x1 : Int32) (x2 : Int32) (x3 : Int32) (h : sv_H) : Option (Int32 × sv_H) :=
  k12 x0 x1 x2 (x3 + 1) h

def fn_X2_lowFloor_12b (k12 : Nat → Int32 → Int32 → Int32 → sv_H → Option (Int32 × sv_H)) (x0 : Nat) (x1 : Int32) (x2 : Int32) (x3 : Int32) (h : sv_H) : Option (Int32 × sv_H) :=
  (sv_gI h 3 312 x0).bind fun v1 =>
  if v1 ≤ x3 then
    some (x2, h)
  else
    (sv_gP h 3 308 x0).bind fun v2 =>
    (sv_lP 922 h v2 x3).bind fun v3 =>
    sv_b (fn_X2_neighbourBy x0 v3 x1 h) fun r4 h5 =>
    if r4 = ((-1)) then
      fn_X2_lowFloor_54 k12 x0 x1 x2 x3 h5
    else
      (sv_gP h5 3 307 x0).bind fun v6 =>
      (sv_lP 917 h5 v6 r4).bind fun v7 =>
      (sv_gI h5 7 707 v7).bind fun v8 =>
      sv_let (sv_min x2 v8) fun r9 =>
      fn_X2_lowFloor_54 k12 x0 x1 r9 x3 h5

def fn_X2_lowFloor_12 : Nat → Nat → Int32 → Int32 → Int32 → sv_H → Option (Int32 × sv_H)
  | 0, _, _, _, _, _ => none
  | sv_n + 1, x0, x1, x2, x3, h => fn_X2_lowFloor_12b (fn_X2_lowFloor_12 sv_n) x0 x1 x2 x3 h

def fn_X2_lowFloor (x0 : Nat) (x1 : Int32) (h : sv_H) : Option (Int32 × sv_H) :=
  sv_kd h 3 x0 (
  (sv_gP h 3 307 x0).bind fun v1 =>
  (sv_lP 917 h v1 x1).bind fun v2 =>
  (sv_gI h 7 707 v2).bind fun v3 =>
  fn_X2_lowFloor_12 sv_fuel x0 x1 v3 0 h
  )

def fn_X2_highFloor_54 (k12 : Nat → Int32 → Int32 → Int32 → sv_H → Option (Int32 × sv_H)) (x0 : Nat) (x1 : Int32) (x2 : Int32) (x3 : Int32) (h : sv_H) : Option (Int32 × sv_H) :=
  k12 x0 x1 x2 (x3 + 1) h

def fn_X2_highFloor_12b (k12 : Nat → Int32 → Int32 → Int32 → sv_H → Option (Int32 × sv_H)) (x0 : Nat) (x1 : Int32) (x2 : Int32) (x3 : Int32) (h : sv_H) : Option (Int32 × sv_H) :=
  (sv_gI h 3 312 x0).bind fun v1 =>
  if v1 ≤ x3 then
    some (x2, h)
  else
    (sv_gP h 3 308 x0).bind fun v2 =>
    (sv_lP 922 h v2 x3).bind fun v3 =>
    sv_b (fn_X2_neighbourBy x0 v3 x1 h) fun r4 h5 =>
    if r4 = ((-1)) then
      fn_X2_highFloor_54 k12 x0 x1 x2 x3 h5
    else
      (sv_gP h5 3 307 x0).bind fun v6 =>
      (sv_lP 917 h5 v6 r4).bind fun v7 =>
      (sv_gI h5 7 707 v7).bind fun v8 =>
      sv_let (sv_max x2 v8) fun r9 =>
      fn_X2_highFloor_54 k12 x0 x1 r9 x3 h5

def fn_X2_highFloor_12 : Nat → Nat → Int32 → Int32 → Int32 → sv_H → Option (Int32 × sv_H)
  | 0, _, _, _, _, _ => none
  | sv_n + 1, x0, x1, x2, x3, h => fn_X2_highFloor_12b (fn_X2_highFloor_12 sv_n) x0 x1 x2 x3 h

def fn_X2_highFloor (x0 : Nat) (x1 : Int32) (h : sv_H) : Option (Int32 × sv_H) :=
  sv_kd h 3 x0 (
  (sv_gP h 3 307 x0).bind fun v1 =>
  (sv_lP 917 h v1 x1).bind fun v2 =>
  (sv_gI h 7 707 v2).bind fun v3 =>
  fn_X2_highFloor_12 sv_fuel x0 x1 v3 0 h
  )

def fn_X2_startOne_103 (h : sv_H) : Option (Unit × sv_H) :=
  some ((), h)

def fn_X2_startOne (x0 : Nat) (x1 : Int32) (x2 : Int32) (h : sv_H) : Option (Unit × sv_H) :=
  sv_kd h 3 x0 (
  (sv_gP h 3 307 x0).bind fun v1 =>
  (sv_lP 917 h v1 x2).bind fun v2 =>
  (sv_gI h 7 709 v2).bind fun v3 =>
  if v3 = ((-1)) then
    if x1 = 0 then
      sv_b (fn_X2_lowCeiling x0 x2 h) fun r12 h13 =>
      (sv_gI h13 7 708 v2).bind fun v14 =>
      sv_let (sv_max (r12 - 4) v14) fun r15 =>
      sv_b (fn_X6_startMover v2 0 1 r15 h13) fun _ h16 =>
      fn_X2_startOne_103 h16
    else
      if x1 = 1 then
        sv_b (fn_X2_lowFloor x0 x2 h) fun r9 h10 =>
        sv_b (fn_X6_startMover v2 1 ((-1)) r9 h10) fun _ h11 =>
        fn_X2_startOne_103 h11
      else
        if x1 = 2 then
          sv_b (fn_X2_highFloor x0 x2 h) fun r4 h5 =>
          (sv_gI h5 7 708 v2).bind fun v6 =>
          sv_let (sv_min r4 v6) fun r7 =>
          sv_b (fn_X6_startMover v2 2 1 r7 h5) fun _ h8 =>
          fn_X2_startOne_103 h8
        else
          fn_X2_startOne_103 h
  else
    if x1 = 0 then
      (sv_gI h 7 709 v2).bind fun v17 =>
      if v17 = 0 then
        (sv_pI h 7 710 v2 1).bind fun h18 =>
        fn_X2_startOne_103 h18
      else
        fn_X2_startOne_103 h
    else
      fn_X2_startOne_103 h
  )

def fn_X2_startAll_40 (h : sv_H) : Option (Unit × sv_H) :=
  some ((), h)

def fn_X2_startAll_34 (k2 : Nat → Int32 → Int32 → Int32 → sv_H → Option (Unit × sv_H)) (x0 : Nat) (x1 : Int32) (x2 : Int32) (x3 : Int32) (h : sv_H) : Option (Unit × sv_H) :=
  k2 x0 x1 x2 (x3 + 1) h

def fn_X2_startAll_2b (k2 : Nat → Int32 → Int32 → Int32 → sv_H → Option (Unit × sv_H)) (x0 : Nat) (x1 : Int32) (x2 : Int32) (x3 : Int32) (h : sv_H) : Option (Unit × sv_H) :=
  (sv_gI h 3 311 x0).bind fun v1 =>
  if v1 ≤ x3 then
    fn_X2_startAll_40 h
  else
    if x1 = ((-1)) then
      fn_X2_startAll_40 h
    else
      (sv_gP h 3 307 x0).bind fun v2 =>
      (sv_lP 917 h v2 x3).bind fun v3 =>
      (sv_gI h 7 706 v3).bind fun v4 =>
      if v4 = x2 then
        sv_b (fn_X2_startOne x0 x1 x3 h) fun _ h5 =>
        fn_X2_startAll_34 k2 x0 x1 x2 x3 h5
      else
        fn_X2_startAll_34 k2 x0 x1 x2 x3 h

def fn_X2_startAll_2 : Nat → Nat → Int32 → Int32 → Int32 → sv_H → Option (Unit × sv_H)
  | 0, _, _, _, _, _ => none
  | sv_n + 1, x0, x1, x2, x3, h => fn_X2_startAll_2b (fn_X2_startAll_2 sv_n) x0 x1 x2 x3 h

def fn_X2_startAll (x0 : Nat) (x1 : Int32) (x2 : Int32) (h : sv_H) : Option (Unit × sv_H) :=
  sv_kd h 3 x0 (
  fn_X2_startAll_2 sv_fuel x0 x1 x2 0 h
  )

def fn_X10_go_57 (h : sv_H) : Option (Int32 × sv_H) :=
  some (0, h)

def fn_X10_go_185 (k135 : Nat → Int32 → sv_H → Option (Int32 × sv_H)) (x0 : Nat) (x3 : Int32) (x4 : Nat) (s0 : Nat) (s1 : Nat) (s2 : Int32) (h : sv_H) : Option (Int32 × sv_H) :=
  sv_b (fn_X11_sectorOn s1 s2 h) fun r1 h2 =>
  (sv_pI h2 11 1105 s0 r1).bind fun h3 =>
  (sv_gP h3 11 1101 x0).bind fun v4 =>
  (sv_gI h3 12 1209 x4).bind fun v5 =>
  sv_b (fn_X10_moverByCrossing v5 h3) fun r6 h7 =>
  (sv_gI h7 12 1210 x4).bind fun v8 =>
  sv_b (fn_X2_startAll v4 r6 v8 h7) fun _ h9 =>
  k135 x0 (x3 + 1) h9

def fn_X10_go_135b (k135 : Nat → Int32 → sv_H → Option (Int32 × sv_H)) (x0 : Nat) (x3 : Int32) (h : sv_H) : Option (Int32 × sv_H) :=
  (sv_gP h 11 1100 x0).bind fun v1 =>
  (sv_gI h 4 406 v1).bind fun v2 =>
  if v2 ≤ x3 then
    some (1, h)
  else
    (sv_gP h 11 1101 x0).bind fun v3 =>
    (sv_gP h 3 308 v3).bind fun v4 =>
    (sv_gP h 11 1100 x0).bind fun v5 =>
    (sv_gP h 4 400 v5).bind fun v6 =>
    (sv_lI h v6 x3).bind fun v7 =>
    (sv_lP 922 h v4 v7).bind fun v8 =>
    (sv_gP h 11 1100 x0).bind fun v9 =>
    (sv_gP h 4 401 v9).bind fun v10 =>
    (sv_lZ h v10 x3).bind fun v11 =>
    if v11 = 0 then
      fn_X10_go_185 k135 x0 x3 v8 x0 v8 1 h
    else
      fn_X10_go_185 k135 x0 x3 v8 x0 v8 0 h

def fn_X10_go_135 : Nat → Nat → Int32 → sv_H → Option (Int32 × sv_H)
  | 0, _, _, _ => none
  | sv_n + 1, x0, x3, h => fn_X10_go_135b (fn_X10_go_135 sv_n) x0 x3 h

def fn_X10_go_61b (k61 : Nat → Int32 → Int32 → Int32 → sv_H → Option (Int32 × sv_H)) (x0 : Nat) (x1 : Int32) (x2 : Int32) (x3 : Int32) (h : sv_H) : Option (Int32 × sv_H) :=
  (sv_gP h 11 1100 x0).bind fun v1 =>
  (sv_gI h 4 406 v1).bind fun v2 =>
  if v2 ≤ x3 then
    (sv_gI h 11 1102 x0).bind fun v3 =>
    (sv_pI h 11 1102 x0 (v3 + x1)).bind fun h4 =>
    (sv_gI h4 11 1103 x0).bind fun v5 =>
    (sv_pI h4 11 1103 x0 (v5 + x2)).bind fun h6 =>
    fn_X10_go_135 sv_fuel x0 0 h6
  else
    (sv_gP h 11 1101 x0).bind fun v7 =>
    (sv_gP h 3 308 v7).bind fun v8 =>
    (sv_gP h 11 1100 x0).bind fun v9 =>
    (sv_gP h 4 400 v9).bind fun v10 =>
    (sv_lI h v10 x3).bind fun v11 =>
    (sv_lP 922 h v8 v11).bind fun v12 =>
    (sv_gP h 11 1100 x0).bind fun v13 =>
    (sv_gP h 4 401 v13).bind fun v14 =>
    (sv_lZ h v14 x3).bind fun v15 =>
    sv_b (fn_X10_stops x0 v12 v15 h) fun r16 h17 =>
    if r16 = 0 then
      k61 x0 x1 x2 (x3 + 1) h17
    else
      some (0, h17)

def fn_X10_go_61 : Nat → Nat → Int32 → Int32 → Int32 → sv_H → Option (Int32 × sv_H)
  | 0, _, _, _, _, _ => none
  | sv_n + 1, x0, x1, x2, x3, h => fn_X10_go_61b (fn_X10_go_61 sv_n) x0 x1 x2 x3 h

def fn_X10_go (x0 : Nat) (x1 : Int32) (x2 : Int32) (h : sv_H) : Option (Int32 × sv_H) :=
  sv_kd h 11 x0 (
  (sv_gP h 11 1100 x0).bind fun v1 =>
  (sv_gI h 11 1102 x0).bind fun v2 =>
  (sv_gI h 11 1103 x0).bind fun v3 =>
  sv_b (fn_X3_aim v1 v2 v3 x1 x2 h) fun _ h4 =>
  (sv_gP h4 11 1100 x0).bind fun v5 =>
  (sv_gP h4 11 1101 x0).bind fun v6 =>
  sv_b (fn_X3_meetClose v5 v6 1 h4) fun _ h7 =>
  (sv_gI h7 11 1102 x0).bind fun v8 =>
  sv_let (sv_abs (v8 + x1)) fun r9 =>
  if 40000 < r9 then
    fn_X10_go_57 h7
  else
    (sv_gI h7 11 1103 x0).bind fun v10 =>
    sv_let (sv_abs (v10 + x2)) fun r11 =>
    if r11 ≤ 40000 then
      fn_X10_go_61 sv_fuel x0 x1 x2 0 h7
    else
      fn_X10_go_57 h7
  )

def fn_X10_use_51 (h : sv_H) : Option (Unit × sv_H) :=
  some ((), h)

def fn_X10_use_121 (h : sv_H) : Option (Unit × sv_H) :=
  some ((), h)

def fn_X10_use_101 (x0 : Nat) (x3 : Nat) (h : sv_H) : Option (Unit × sv_H) :=
  (sv_gI h 12 1209 x3).bind fun v1 =>
  if v1 = 4 then
    (sv_gP h 11 1101 x0).bind fun v2 =>
    (sv_gI h 12 1210 x3).bind fun v3 =>
    sv_b (fn_X2_startAll v2 1 v3 h) fun _ h4 =>
    fn_X10_use_121 h4
  else
    fn_X10_use_121 h

def fn_X10_use (x0 : Nat) (x1 : Int32) (x2 : Int32) (h : sv_H) : Option (Unit × sv_H) :=
  sv_kd h 11 x0 (
  (sv_gP h 11 1100 x0).bind fun v1 =>
  (sv_gI h 11 1102 x0).bind fun v2 =>
  (sv_gI h 11 1103 x0).bind fun v3 =>
  sv_b (fn_X3_aim v1 v2 v3 x1 x2 h) fun _ h4 =>
  (sv_gP h4 11 1100 x0).bind fun v5 =>
  (sv_gP h4 11 1101 x0).bind fun v6 =>
  sv_b (fn_X3_meetClose v5 v6 4 h4) fun _ h7 =>
  (sv_gP h7 11 1100 x0).bind fun v8 =>
  (sv_gI h7 4 406 v8).bind fun v9 =>
  if v9 = 0 then
    fn_X10_use_51 h7
  else
    (sv_gP h7 11 1100 x0).bind fun v10 =>
    (sv_gP h7 4 401 v10).bind fun v11 =>
    (sv_lZ h7 v11 0).bind fun v12 =>
    if v12 = 0 then
      fn_X10_use_51 h7
    else
      (sv_gP h7 11 1101 x0).bind fun v13 =>
      (sv_gP h7 3 308 v13).bind fun v14 =>
      (sv_gP h7 11 1100 x0).bind fun v15 =>
      (sv_gP h7 4 400 v15).bind fun v16 =>
      (sv_lI h7 v16 0).bind fun v17 =>
      (sv_lP 922 h7 v14 v17).bind fun v18 =>
      (sv_gI h7 12 1209 v18).bind fun v19 =>
      if v19 = 1 then
        (sv_gI h7 12 1205 v18).bind fun v20 =>
        if v20 = ((-1)) then
          fn_X10_use_101 x0 v18 h7
        else
          (sv_gP h7 11 1101 x0).bind fun v21 =>
          (sv_gI h7 12 1205 v18).bind fun v22 =>
          sv_b (fn_X2_startOne v21 0 v22 h7) fun _ h23 =>
          fn_X10_use_121 h23
      else
        fn_X10_use_101 x0 v18 h7
  )

def fn_X6_waitOn_33 (h : sv_H) : Option (Unit × sv_H) :=
  some ((), h)

def fn_X6_waitOn_30 (s0 : Nat) (s1 : Int32) (h : sv_H) : Option (Unit × sv_H) :=
  (sv_pI h 7 710 s0 s1).bind fun h1 =>
  fn_X6_waitOn_33 h1

def fn_X6_waitOn (x0 : Nat) (h : sv_H) : Option (Unit × sv_H) :=
  sv_kd h 7 x0 (
  (sv_gI h 7 711 x0).bind fun v1 =>
  (sv_pI h 7 711 x0 (v1 - 1)).bind fun h2 =>
  (sv_gI h2 7 711 x0).bind fun v3 =>
  if 0 < v3 then
    fn_X6_waitOn_33 h2
  else
    (sv_gI h2 7 709 x0).bind fun v4 =>
    if v4 = 0 then
      fn_X6_waitOn_30 x0 ((-1)) h2
    else
      fn_X6_waitOn_30 x0 1 h2
  )

def fn_X6_waitFor (x0 : Nat) (x1 : Int32) (h : sv_H) : Option (Unit × sv_H) :=
  sv_kd h 7 x0 (
  (sv_pI h 7 710 x0 0).bind fun h1 =>
  (sv_pI h1 7 711 x0 x1).bind fun h2 =>
  some ((), h2)
  )

def fn_X6_openDoor_35 (h : sv_H) : Option (Unit × sv_H) :=
  some ((), h)

def fn_X6_openDoor (x0 : Nat) (h : sv_H) : Option (Unit × sv_H) :=
  sv_kd h 7 x0 (
  (sv_gI h 7 708 x0).bind fun v1 =>
  (sv_gI h 7 712 x0).bind fun v2 =>
  sv_let (sv_min (v1 + 8) v2) fun r3 =>
  (sv_pI h 7 708 x0 r3).bind fun h4 =>
  (sv_gI h4 7 708 x0).bind fun v5 =>
  (sv_gI h4 7 712 x0).bind fun v6 =>
  if v5 = v6 then
    sv_b (fn_X6_waitFor x0 20 h4) fun _ h7 =>
    fn_X6_openDoor_35 h7
  else
    fn_X6_openDoor_35 h4
  )

def fn_X6_closeDoor_56 (h : sv_H) : Option (Unit × sv_H) :=
  some ((), h)

def fn_X6_closeDoor_36 (x0 : Nat) (x2 : Int32) (h : sv_H) : Option (Unit × sv_H) :=
  (sv_pI h 7 708 x0 x2).bind fun h1 =>
  (sv_gI h1 7 708 x0).bind fun v2 =>
  (sv_gI h1 7 707 x0).bind fun v3 =>
  if v2 = v3 then
    sv_b (fn_X6_endMover x0 h1) fun _ h4 =>
    fn_X6_closeDoor_56 h4
  else
    fn_X6_closeDoor_56 h1

def fn_X6_closeDoor (x0 : Nat) (x1 : Int32) (h : sv_H) : Option (Unit × sv_H) :=
  sv_kd h 7 x0 (
  (sv_gI h 7 708 x0).bind fun v1 =>
  (sv_gI h 7 707 x0).bind fun v2 =>
  sv_let (sv_max (v1 - 8) v2) fun r3 =>
  if x1 = 0 then
    fn_X6_closeDoor_36 x0 r3 h
  else
    (sv_gI h 7 707 x0).bind fun v4 =>
    if 56 ≤ (r3 - v4) then
      fn_X6_closeDoor_36 x0 r3 h
    else
      (sv_pI h 7 710 x0 1).bind fun h5 =>
      some ((), h5)
  )

def fn_X6_sinkLift_34 (h : sv_H) : Option (Unit × sv_H) :=
  some ((), h)

def fn_X6_sinkLift (x0 : Nat) (h : sv_H) : Option (Unit × sv_H) :=
  sv_kd h 7 x0 (
  (sv_gI h 7 707 x0).bind fun v1 =>
  (sv_gI h 7 712 x0).bind fun v2 =>
  sv_let (sv_max (v1 - 4) v2) fun r3 =>
  (sv_pI h 7 707 x0 r3).bind fun h4 =>
  (sv_gI h4 7 707 x0).bind fun v5 =>
  (sv_gI h4 7 712 x0).bind fun v6 =>
  if v5 = v6 then
    sv_b (fn_X6_waitFor x0 30 h4) fun _ h7 =>
    fn_X6_sinkLift_34 h7
  else
    fn_X6_sinkLift_34 h4
  )

def fn_X6_raiseFloor_47 (h : sv_H) : Option (Unit × sv_H) :=
  some ((), h)

def fn_X6_raiseFloor_29 (x0 : Nat) (x2 : Int32) (x4 : Int32) (h : sv_H) : Option (Unit × sv_H) :=
  (sv_pI h 7 707 x0 x4).bind fun h1 =>
  (sv_gI h1 7 707 x0).bind fun v2 =>
  if v2 = x2 then
    sv_b (fn_X6_endMover x0 h1) fun _ h3 =>
    fn_X6_raiseFloor_47 h3
  else
    fn_X6_raiseFloor_47 h1

def fn_X6_raiseFloor (x0 : Nat) (x1 : Int32) (x2 : Int32) (x3 : Int32) (h : sv_H) : Option (Unit × sv_H) :=
  sv_kd h 7 x0 (
  (sv_gI h 7 707 x0).bind fun v1 =>
  sv_let (sv_min (v1 + x1) x2) fun r2 =>
  if x3 = 0 then
    fn_X6_raiseFloor_29 x0 x2 r2 h
  else
    (sv_gI h 7 708 x0).bind fun v3 =>
    if 56 ≤ (v3 - r2) then
      fn_X6_raiseFloor_29 x0 x2 r2 h
    else
      some ((), h)
  )

def fn_X6_tick_104 (h : sv_H) : Option (Unit × sv_H) :=
  some ((), h)

def fn_X6_tick_44 (x0 : Nat) (x1 : Int32) (h : sv_H) : Option (Unit × sv_H) :=
  (sv_gI h 7 709 x0).bind fun v1 =>
  if v1 = 0 then
    sv_b (fn_X6_closeDoor x0 x1 h) fun _ h9 =>
    fn_X6_tick_104 h9
  else
    (sv_gI h 7 710 x0).bind fun v2 =>
    if 0 ≤ v2 then
      (sv_gI h 7 709 x0).bind fun v3 =>
      if v3 = 1 then
        (sv_gI h 7 713 x0).bind fun v6 =>
        sv_b (fn_X6_raiseFloor x0 4 v6 x1 h) fun _ h7 =>
        fn_X6_tick_104 h7
      else
        (sv_gI h 7 712 x0).bind fun v4 =>
        sv_b (fn_X6_raiseFloor x0 2 v4 x1 h) fun _ h5 =>
        fn_X6_tick_104 h5
    else
      sv_b (fn_X6_sinkLift x0 h) fun _ h8 =>
      fn_X6_tick_104 h8

def fn_X6_tick (x0 : Nat) (x1 : Int32) (h : sv_H) : Option (Unit × sv_H) :=
  sv_kd h 7 x0 (
  (sv_gI h 7 709 x0).bind fun v1 =>
  if v1 = ((-1)) then
    some ((), h)
  else
    (sv_gI h 7 710 x0).bind fun v2 =>
    if v2 = 0 then
      sv_b (fn_X6_waitOn x0 h) fun _ h6 =>
      fn_X6_tick_104 h6
    else
      (sv_gI h 7 709 x0).bind fun v3 =>
      if v3 = 0 then
        (sv_gI h 7 710 x0).bind fun v4 =>
        if v4 ≤ 0 then
          fn_X6_tick_44 x0 x1 h
        else
          sv_b (fn_X6_openDoor x0 h) fun _ h5 =>
          fn_X6_tick_104 h5
      else
        fn_X6_tick_44 x0 x1 h
  )

def fn_X2_tick_26 (k2 : Nat → Int32 → Int32 → sv_H → Option (Unit × sv_H)) (x0 : Nat) (x1 : Int32) (x2 : Int32) (s0 : Nat) (s1 : Int32) (h : sv_H) : Option (Unit × sv_H) :=
  sv_b (fn_X6_tick s0 s1 h) fun _ h1 =>
  k2 x0 x1 (x2 + 1) h1

def fn_X2_tick_2b (k2 : Nat → Int32 → Int32 → sv_H → Option (Unit × sv_H)) (x0 : Nat) (x1 : Int32) (x2 : Int32) (h : sv_H) : Option (Unit × sv_H) :=
  (sv_gI h 3 311 x0).bind fun v1 =>
  if v1 ≤ x2 then
    some ((), h)
  else
    (sv_gP h 3 307 x0).bind fun v2 =>
    (sv_lP 917 h v2 x2).bind fun v3 =>
    if x2 = x1 then
      fn_X2_tick_26 k2 x0 x1 x2 v3 1 h
    else
      fn_X2_tick_26 k2 x0 x1 x2 v3 0 h

def fn_X2_tick_2 : Nat → Nat → Int32 → Int32 → sv_H → Option (Unit × sv_H)
  | 0, _, _, _, _ => none
  | sv_n + 1, x0, x1, x2, h => fn_X2_tick_2b (fn_X2_tick_2 sv_n) x0 x1 x2 h

def fn_X2_tick (x0 : Nat) (x1 : Int32) (h : sv_H) : Option (Unit × sv_H) :=
  sv_kd h 3 x0 (
  fn_X2_tick_2 sv_fuel x0 x1 0 h
  )

def fn_X10_step_124 (x0 : Nat) (x8 : Int32) (h : sv_H) : Option (Int32 × sv_H) :=
  (sv_gI h 11 1106 x0).bind fun v1 =>
  (sv_pI h 11 1106 x0 (v1 + 1)).bind fun h2 =>
  (sv_gP h2 11 1101 x0).bind fun v3 =>
  (sv_gI h2 11 1105 x0).bind fun v4 =>
  sv_b (fn_X2_tick v3 v4 h2) fun _ h5 =>
  some (x8, h5)

def fn_X10_step_111 (x0 : Nat) (x1 : Int32) (x2 : Int32) (x3 : Int32) (x8 : Int32) (h : sv_H) : Option (Int32 × sv_H) :=
  sv_b (fn_X5_usesOf x1 h) fun r1 h2 =>
  if r1 = 0 then
    fn_X10_step_124 x0 x8 h2
  else
    sv_b (fn_X10_use x0 x2 x3 h2) fun _ h3 =>
    fn_X10_step_124 x0 x8 h3

def fn_X10_step_109 (x0 : Nat) (x1 : Int32) (x2 : Int32) (x3 : Int32) (s0 : Int32) (h : sv_H) : Option (Int32 × sv_H) :=
  fn_X10_step_111 x0 x1 x2 x3 s0 h

def fn_X10_step_93 (x0 : Nat) (x1 : Int32) (x2 : Int32) (x3 : Int32) (x6 : Int32) (x7 : Int32) (h : sv_H) : Option (Int32 × sv_H) :=
  sv_b (fn_X10_go x0 x6 x7 h) fun r1 h2 =>
  if r1 = 0 then
    fn_X10_step_109 x0 x1 x2 x3 2 h2
  else
    fn_X10_step_109 x0 x1 x2 x3 1 h2

def fn_X10_step (x0 : Nat) (x1 : Int32) (h : sv_H) : Option (Int32 × sv_H) :=
  sv_kd h 11 x0 (
  (sv_gI h 11 1104 x0).bind fun v1 =>
  sv_b (fn_X5_turnOf x1 h) fun r2 h3 =>
  sv_b (fn_J9_floorMod_7cf53 (v1 + r2) 64 h3) fun r4 h5 =>
  (sv_pI h5 11 1104 x0 r4).bind fun h6 =>
  (sv_gI h6 11 1104 x0).bind fun v7 =>
  sv_b (fn_X12_cosine v7 h6) fun r8 h9 =>
  (sv_gI h9 11 1104 x0).bind fun v10 =>
  sv_b (fn_X12_sine v10 h9) fun r11 h12 =>
  sv_b (fn_X5_aheadOf x1 h12) fun r13 h14 =>
  sv_b (fn_X5_asideOf x1 h14) fun r15 h16 =>
  sv_b (fn_J9_floorDiv_7cf53 ((r8 * r13) + (r11 * r15)) 256 h16) fun r17 h18 =>
  sv_b (fn_J9_floorDiv_7cf53 ((r11 * r13) - (r8 * r15)) 256 h18) fun r19 h20 =>
  if r17 = 0 then
    if r19 = 0 then
      fn_X10_step_111 x0 x1 r8 r11 0 h20
    else
      fn_X10_step_93 x0 x1 r8 r11 r17 r19 h20
  else
    fn_X10_step_93 x0 x1 r8 r11 r17 r19 h20
  )

def fn_X12_playTo_22 (h : sv_H) : Option (Int32 × sv_H) :=
  some ((-1), h)

def fn_X12_playTo_74 (k46 : Nat → Int32 → Int32 → Int32 → sv_H → Option (Int32 × sv_H)) (x0 : Nat) (x1 : Int32) (x2 : Int32) (x3 : Int32) (h : sv_H) : Option (Int32 × sv_H) :=
  k46 x0 x1 x2 (x3 + 1) h

def fn_X12_playTo_46b (k46 : Nat → Int32 → Int32 → Int32 → sv_H → Option (Int32 × sv_H)) (x0 : Nat) (x1 : Int32) (x2 : Int32) (x3 : Int32) (h : sv_H) : Option (Int32 × sv_H) :=
  if x1 ≤ x3 then
    some (x2, h)
  else
    (sv_gP h 13 1304 x0).bind fun v1 =>
    (sv_gP h 13 1308 x0).bind fun v2 =>
    (sv_gP h 6 601 v2).bind fun v3 =>
    (sv_lI h v3 x3).bind fun v4 =>
    sv_b (fn_X10_step v1 v4 h) fun r5 h6 =>
    if r5 = 2 then
      fn_X12_playTo_74 k46 x0 x1 (x2 + 1) x3 h6
    else
      fn_X12_playTo_74 k46 x0 x1 x2 x3 h6

def fn_X12_playTo_46 : Nat → Nat → Int32 → Int32 → Int32 → sv_H → Option (Int32 × sv_H)
  | 0, _, _, _, _, _ => none
  | sv_n + 1, x0, x1, x2, x3, h => fn_X12_playTo_46b (fn_X12_playTo_46 sv_n) x0 x1 x2 x3 h

def fn_X12_playTo (x0 : Nat) (x1 : Int32) (h : sv_H) : Option (Int32 × sv_H) :=
  sv_kd h 13 x0 (
  sv_b (fn_X12_hasMap x0 h) fun r1 h2 =>
  if r1 = 0 then
    fn_X12_playTo_22 h2
  else
    if x1 < 0 then
      fn_X12_playTo_22 h2
    else
      (sv_gP h2 13 1308 x0).bind fun v3 =>
      (sv_gI h2 6 602 v3).bind fun v4 =>
      if x1 ≤ v4 then
        (sv_gP h2 13 1304 x0).bind fun v5 =>
        (sv_gP h2 13 1306 x0).bind fun v6 =>
        (sv_gP h2 13 1308 x0).bind fun v7 =>
        (sv_gP h2 6 600 v7).bind fun v8 =>
        sv_b (fn_X10_begin v5 v6 v8 h2) fun _ h9 =>
        fn_X12_playTo_46 sv_fuel x0 x1 0 0 h9
      else
        fn_X12_playTo_22 h2
  )

def fn_X17_quarter (x0 : Int32) (h : sv_H) : Option (Int32 × sv_H) :=
  if x0 = 0 then
    some (256, h)
  else
  if x0 = 1 then
    some (255, h)
  else
  if x0 = 2 then
    some (251, h)
  else
  if x0 = 3 then
    some (245, h)
  else
  if x0 = 4 then
    some (237, h)
  else
  if x0 = 5 then
    some (226, h)
  else
  if x0 = 6 then
    some (213, h)
  else
  if x0 = 7 then
    some (198, h)
  else
  if x0 = 8 then
    some (181, h)
  else
  if x0 = 9 then
    some (162, h)
  else
  if x0 = 10 then
    some (142, h)
  else
  if x0 = 11 then
    some (121, h)
  else
  if x0 = 12 then
    some (98, h)
  else
  if x0 = 13 then
    some (74, h)
  else
  if x0 = 14 then
    some (50, h)
  else
  if x0 = 15 then
    some (25, h)
  else
  some (0, h)

def fn_X17_cosine_65 (s0 : Int32) (h : sv_H) : Option (Int32 × sv_H) :=
  some (s0, h)

def fn_X17_cosine (x0 : Int32) (h : sv_H) : Option (Int32 × sv_H) :=
  if 16 < (((x0 - x0 / 64 * 64) + 64) - ((x0 - x0 / 64 * 64) + 64) / 64 * 64) then
    if 32 < (((x0 - x0 / 64 * 64) + 64) - ((x0 - x0 / 64 * 64) + 64) / 64 * 64) then
      if 48 < (((x0 - x0 / 64 * 64) + 64) - ((x0 - x0 / 64 * 64) + 64) / 64 * 64) then
        sv_b (fn_X17_quarter (64 - (((x0 - x0 / 64 * 64) + 64) - ((x0 - x0 / 64 * 64) + 64) / 64 * 64)) h) fun r1 h2 =>
        fn_X17_cosine_65 r1 h2
      else
        sv_b (fn_X17_quarter ((((x0 - x0 / 64 * 64) + 64) - ((x0 - x0 / 64 * 64) + 64) / 64 * 64) - 32) h) fun r3 h4 =>
        fn_X17_cosine_65 (-r3) h4
    else
      sv_b (fn_X17_quarter (32 - (((x0 - x0 / 64 * 64) + 64) - ((x0 - x0 / 64 * 64) + 64) / 64 * 64)) h) fun r5 h6 =>
      fn_X17_cosine_65 (-r5) h6
  else
    sv_b (fn_X17_quarter (((x0 - x0 / 64 * 64) + 64) - ((x0 - x0 / 64 * 64) + 64) / 64 * 64) h) fun r7 h8 =>
    fn_X17_cosine_65 r7 h8

def fn_X17_sine (x0 : Int32) (h : sv_H) : Option (Int32 × sv_H) :=
  sv_b (fn_X17_cosine (x0 - 16) h) fun r1 h2 =>
  some (r1, h2)

def fn_X17_down_47 (s0 : Int64) (h : sv_H) : Option (Int64 × sv_H) :=
  some (s0, h)

def fn_X17_down_45 (x4 : Int64) (h : sv_H) : Option (Int64 × sv_H) :=
  fn_X17_down_47 x4 h

def fn_X17_down_35 (x4 : Int64) (s0 : Int32) (s1 : Int32) (h : sv_H) : Option (Int64 × sv_H) :=
  if s0 = s1 then
    fn_X17_down_45 x4 h
  else
    fn_X17_down_47 (x4 - 1) h

def fn_X17_down_24 (x2 : Int64) (x4 : Int64) (s0 : Int32) (h : sv_H) : Option (Int64 × sv_H) :=
  if 0 ≤ (lg_cmp x2 0) then
    fn_X17_down_35 x4 s0 0 h
  else
    fn_X17_down_35 x4 s0 1 h

def fn_X17_down (x0 : Int64) (x2 : Int64) (h : sv_H) : Option (Int64 × sv_H) :=
  if x2 = 0 then none else
  if x2 = 0 then none else
  if (lg_cmp (x0 - x0 / x2 * x2) 0) = 0 then
    fn_X17_down_45 (x0 / x2) h
  else
    if 0 ≤ (lg_cmp x0 0) then
      fn_X17_down_24 x2 (x0 / x2) 0 h
    else
      fn_X17_down_24 x2 (x0 / x2) 1 h

def fn_X17_cross (x0 : Int64) (x2 : Int64) (x4 : Int64) (x6 : Int64) (h : sv_H) : Option (Int64 × sv_H) :=
  some ((x0 * x6) - (x2 * x4), h)

def fn_X17_meets_242 (s0 : Int32) (h : sv_H) : Option (Int32 × sv_H) :=
  sv_rz s0 h

def fn_X17_meets_241 (h : sv_H) : Option (Int32 × sv_H) :=
  fn_X17_meets_242 0 h

def fn_X17_meets_225 (x0 : Nat) (s0 : Int32) (s1 : Int32) (h : sv_H) : Option (Int32 × sv_H) :=
  if s0 = s1 then
    fn_X17_meets_241 h
  else
    (sv_gJ h 18 1817 x0).bind fun v1 =>
    if (lg_cmp v1 0) ≤ 0 then
      fn_X17_meets_241 h
    else
      fn_X17_meets_242 1 h

def fn_X17_meets_211 (x0 : Nat) (s0 : Int32) (h : sv_H) : Option (Int32 × sv_H) :=
  (sv_gJ h 18 1816 x0).bind fun v1 =>
  if 0 ≤ (lg_cmp v1 0) then
    fn_X17_meets_225 x0 s0 0 h
  else
    fn_X17_meets_225 x0 s0 1 h

def fn_X17_meets_197 (x0 : Nat) (h : sv_H) : Option (Int32 × sv_H) :=
  (sv_gJ h 18 1815 x0).bind fun v1 =>
  if 0 ≤ (lg_cmp v1 0) then
    fn_X17_meets_211 x0 0 h
  else
    fn_X17_meets_211 x0 1 h

def fn_X17_meets_167 (x0 : Nat) (s0 : Nat) (s1 : Int32) (h : sv_H) : Option (Int32 × sv_H) :=
  (sv_pZ h 18 1819 s0 s1).bind fun h1 =>
  (sv_gJ h1 18 1818 x0).bind fun v2 =>
  if 0 ≤ (lg_cmp v2 0) then
    fn_X17_meets_197 x0 h1
  else
    (sv_gJ h1 18 1817 x0).bind fun v3 =>
    (sv_pJ h1 18 1817 x0 (-v3)).bind fun h4 =>
    (sv_gJ h4 18 1818 x0).bind fun v5 =>
    (sv_pJ h4 18 1818 x0 (-v5)).bind fun h6 =>
    fn_X17_meets_197 x0 h6

def fn_X17_meets (x0 : Nat) (x1 : Int32) (h : sv_H) : Option (Int32 × sv_H) :=
  sv_kd h 18 x0 (
  (sv_gP h 18 1804 x0).bind fun v1 =>
  (sv_gP h 17 1701 v1).bind fun v2 =>
  (sv_lI h v2 x1).bind fun v3 =>
  (sv_gP h 18 1804 x0).bind fun v4 =>
  (sv_gP h 17 1702 v4).bind fun v5 =>
  (sv_lI h v5 x1).bind fun v6 =>
  (sv_gP h 18 1804 x0).bind fun v7 =>
  (sv_gP h 17 1703 v7).bind fun v8 =>
  (sv_lI h v8 x1).bind fun v9 =>
  (sv_gP h 18 1804 x0).bind fun v10 =>
  (sv_gP h 17 1704 v10).bind fun v11 =>
  (sv_lI h v11 x1).bind fun v12 =>
  (sv_gJ h 18 1827 x0).bind fun v13 =>
  (sv_gJ h 18 1828 x0).bind fun v14 =>
  (sv_gI h 18 1811 x0).bind fun v15 =>
  (sv_gI h 18 1812 x0).bind fun v16 =>
  sv_b (fn_X17_cross v13 v14 ((Int32.toInt64 v3) - (Int32.toInt64 v15)) ((Int32.toInt64 v6) - (Int32.toInt64 v16)) h) fun r17 h18 =>
  (sv_pJ h18 18 1815 x0 r17).bind fun h19 =>
  (sv_gJ h19 18 1827 x0).bind fun v20 =>
  (sv_gJ h19 18 1828 x0).bind fun v21 =>
  (sv_gI h19 18 1811 x0).bind fun v22 =>
  (sv_gI h19 18 1812 x0).bind fun v23 =>
  sv_b (fn_X17_cross v20 v21 ((Int32.toInt64 v9) - (Int32.toInt64 v22)) ((Int32.toInt64 v12) - (Int32.toInt64 v23)) h19) fun r24 h25 =>
  (sv_pJ h25 18 1816 x0 r24).bind fun h26 =>
  (sv_gI h26 18 1811 x0).bind fun v27 =>
  (sv_gI h26 18 1812 x0).bind fun v28 =>
  sv_b (fn_X17_cross ((Int32.toInt64 v3) - (Int32.toInt64 v27)) ((Int32.toInt64 v6) - (Int32.toInt64 v28)) ((Int32.toInt64 v9) - (Int32.toInt64 v3)) ((Int32.toInt64 v12) - (Int32.toInt64 v6)) h26) fun r29 h30 =>
  (sv_pJ h30 18 1817 x0 r29).bind fun h31 =>
  (sv_gJ h31 18 1816 x0).bind fun v32 =>
  (sv_gJ h31 18 1815 x0).bind fun v33 =>
  (sv_pJ h31 18 1818 x0 (v32 - v33)).bind fun h34 =>
  (sv_gJ h34 18 1817 x0).bind fun v35 =>
  if 0 ≤ (lg_cmp v35 0) then
    fn_X17_meets_167 x0 x0 0 h34
  else
    fn_X17_meets_167 x0 x0 1 h34
  )

def fn_X16_order_83 (s0 : Int32) (h : sv_H) : Option (Int32 × sv_H) :=
  some (s0, h)

def fn_X16_order_37 (s0 : Int32) (h : sv_H) : Option (Int32 × sv_H) :=
  some (s0, h)

def fn_X16_order (x0 : Int64) (x2 : Int64) (x4 : Int64) (x6 : Int64) (h : sv_H) : Option (Int32 × sv_H) :=
  sv_b (fn_J9_multiplyHigh_f86c9 x0 x2 h) fun r1 h2 =>
  sv_b (fn_J9_multiplyHigh_f86c9 x4 x6 h2) fun r3 h4 =>
  if (lg_cmp r1 r3) = 0 then
    if (lg_cmp ((x0 * x2) + ((-9223372036854775808))) ((x4 * x6) + ((-9223372036854775808)))) ≤ 0 then
      if 0 ≤ (lg_cmp ((x0 * x2) + ((-9223372036854775808))) ((x4 * x6) + ((-9223372036854775808)))) then
        fn_X16_order_83 0 h4
      else
        fn_X16_order_83 ((-1)) h4
    else
      fn_X16_order_83 1 h4
  else
    if (lg_cmp r1 r3) ≤ 0 then
      fn_X16_order_37 ((-1)) h4
    else
      fn_X16_order_37 1 h4

def fn_X17_gather_134 (k18 : Nat → Int32 → sv_H → Option (Unit × sv_H)) (x0 : Nat) (x5 : Int32) (h : sv_H) : Option (Unit × sv_H) :=
  k18 x0 (x5 + 1) h

def fn_X17_gather_115 (k18 : Nat → Int32 → sv_H → Option (Unit × sv_H)) (x0 : Nat) (x5 : Int32) (x10 : Int32) (h : sv_H) : Option (Unit × sv_H) :=
  (sv_gP h 18 1820 x0).bind fun v1 =>
  (sv_sI h v1 x10 x5).bind fun h2 =>
  (sv_gI h2 18 1821 x0).bind fun v3 =>
  (sv_pI h2 18 1821 x0 (v3 + 1)).bind fun h4 =>
  fn_X17_gather_134 k18 x0 x5 h4

def fn_X17_gather_54b (k18 : Nat → Int32 → sv_H → Option (Unit × sv_H)) (k54 : Nat → Int32 → Int64 → Int64 → Int32 → sv_H → Option (Unit × sv_H)) (x0 : Nat) (x5 : Int32) (x6 : Int64) (x8 : Int64) (x10 : Int32) (h : sv_H) : Option (Unit × sv_H) :=
  if x10 ≤ 0 then
    fn_X17_gather_115 k18 x0 x5 x10 h
  else
    (sv_gP h 18 1820 x0).bind fun v1 =>
    (sv_lI h v1 (x10 - 1)).bind fun v2 =>
    sv_b (fn_X17_meets x0 v2 h) fun r3 h4 =>
    if r3 = 0 then
      fn_X17_gather_115 k18 x0 x5 x10 h4
    else
      (sv_gJ h4 18 1818 x0).bind fun v5 =>
      (sv_gJ h4 18 1817 x0).bind fun v6 =>
      sv_b (fn_X16_order x6 v5 v6 x8 h4) fun r7 h8 =>
      if 0 ≤ r7 then
        fn_X17_gather_115 k18 x0 x5 x10 h8
      else
        (sv_gP h8 18 1820 x0).bind fun v9 =>
        (sv_gP h8 18 1820 x0).bind fun v10 =>
        (sv_lI h8 v10 (x10 - 1)).bind fun v11 =>
        (sv_sI h8 v9 x10 v11).bind fun h12 =>
        k54 x0 x5 x6 x8 (x10 + (-1)) h12

def fn_X17_gather_54 (k18 : Nat → Int32 → sv_H → Option (Unit × sv_H)) : Nat → Nat → Int32 → Int64 → Int64 → Int32 → sv_H → Option (Unit × sv_H)
  | 0, _, _, _, _, _, _ => none
  | sv_n + 1, x0, x5, x6, x8, x10, h => fn_X17_gather_54b k18 (fn_X17_gather_54 k18 sv_n) x0 x5 x6 x8 x10 h

def fn_X17_gather_18b (k18 : Nat → Int32 → sv_H → Option (Unit × sv_H)) (x0 : Nat) (x5 : Int32) (h : sv_H) : Option (Unit × sv_H) :=
  sv_b (fn_X17_walls x0 h) fun r1 h2 =>
  if r1 ≤ x5 then
    some ((), h2)
  else
    sv_b (fn_X17_meets x0 x5 h2) fun r3 h4 =>
    if r3 = 0 then
      fn_X17_gather_134 k18 x0 x5 h4
    else
      (sv_gJ h4 18 1817 x0).bind fun v5 =>
      (sv_gJ h4 18 1818 x0).bind fun v6 =>
      (sv_gI h4 18 1821 x0).bind fun v7 =>
      fn_X17_gather_54 k18 sv_fuel x0 x5 v5 v6 v7 h4

def fn_X17_gather_18 : Nat → Nat → Int32 → sv_H → Option (Unit × sv_H)
  | 0, _, _, _ => none
  | sv_n + 1, x0, x5, h => fn_X17_gather_18b (fn_X17_gather_18 sv_n) x0 x5 h

def fn_X17_gather (x0 : Nat) (x1 : Int64) (x3 : Int64) (h : sv_H) : Option (Unit × sv_H) :=
  sv_kd h 18 x0 (
  (sv_pJ h 18 1827 x0 x1).bind fun h1 =>
  (sv_pJ h1 18 1828 x0 x3).bind fun h2 =>
  (sv_pI h2 18 1821 x0 0).bind fun h3 =>
  fn_X17_gather_18 sv_fuel x0 0 h3
  )

def fn_X17_wallPart (x0 : Nat) (x1 : Int32) (x2 : Int32) (h : sv_H) : Option (Int32 × sv_H) :=
  sv_kd h 18 x0 (
  (sv_gP h 18 1801 x0).bind fun v1 =>
  sv_b (fn_X14_wall v1 x1 x2 h) fun r2 h3 =>
  some (r2, h3)
  )

def fn_X17_sideOf_31 (s0 : Int32) (h : sv_H) : Option (Int32 × sv_H) :=
  some (s0, h)

def fn_X17_sideOf_15 (s0 : Nat) (s1 : Int32) (s2 : Int32) (h : sv_H) : Option (Int32 × sv_H) :=
  sv_b (fn_X17_wallPart s0 s1 s2 h) fun r1 h2 =>
  if r1 = 255 then
    fn_X17_sideOf_31 ((-1)) h2
  else
    fn_X17_sideOf_31 r1 h2

def fn_X17_sideOf (x0 : Nat) (x1 : Int32) (x2 : Int32) (h : sv_H) : Option (Int32 × sv_H) :=
  sv_kd h 18 x0 (
  (sv_gI h 18 1819 x0).bind fun v1 =>
  if x2 = v1 then
    fn_X17_sideOf_15 x0 x1 2 h
  else
    fn_X17_sideOf_15 x0 x1 3 h
  )

def fn_X17_stops_22 (h : sv_H) : Option (Int32 × sv_H) :=
  some (1, h)

def fn_X17_stops_151 (s0 : Int32) (h : sv_H) : Option (Int32 × sv_H) :=
  sv_rz s0 h

def fn_X17_stops_146 (h : sv_H) : Option (Int32 × sv_H) :=
  fn_X17_stops_151 1 h

def fn_X17_stops_110 (x0 : Nat) (x2 : Int32) (x3 : Int32) (x4 : Int32) (s0 : Int32) (h : sv_H) : Option (Int32 × sv_H) :=
  (sv_gP h 18 1803 x0).bind fun v1 =>
  (sv_gP h 14 1408 v1).bind fun v2 =>
  (sv_lI h v2 x3).bind fun v3 =>
  (sv_gP h 18 1803 x0).bind fun v4 =>
  (sv_gP h 14 1408 v4).bind fun v5 =>
  (sv_lI h v5 x2).bind fun v6 =>
  if 24 < (v3 - v6) then
    fn_X17_stops_146 h
  else
    if 56 ≤ (x4 - s0) then
      fn_X17_stops_151 0 h
    else
      fn_X17_stops_146 h

def fn_X17_stops_66 (x0 : Nat) (x2 : Int32) (x3 : Int32) (s0 : Int32) (h : sv_H) : Option (Int32 × sv_H) :=
  (sv_gP h 18 1803 x0).bind fun v1 =>
  (sv_gP h 14 1408 v1).bind fun v2 =>
  (sv_lI h v2 x2).bind fun v3 =>
  (sv_gP h 18 1803 x0).bind fun v4 =>
  (sv_gP h 14 1408 v4).bind fun v5 =>
  (sv_lI h v5 x3).bind fun v6 =>
  if v3 ≤ v6 then
    (sv_gP h 18 1803 x0).bind fun v7 =>
    (sv_gP h 14 1408 v7).bind fun v8 =>
    (sv_lI h v8 x3).bind fun v9 =>
    fn_X17_stops_110 x0 x2 x3 s0 v9 h
  else
    (sv_gP h 18 1803 x0).bind fun v10 =>
    (sv_gP h 14 1408 v10).bind fun v11 =>
    (sv_lI h v11 x2).bind fun v12 =>
    fn_X17_stops_110 x0 x2 x3 s0 v12 h

def fn_X17_stops (x0 : Nat) (x1 : Int32) (h : sv_H) : Option (Int32 × sv_H) :=
  sv_kd h 18 x0 (
  sv_b (fn_X17_sideOf x0 x1 1 h) fun r1 h2 =>
  sv_b (fn_X17_sideOf x0 x1 0 h2) fun r3 h4 =>
  if r1 < 0 then
    fn_X17_stops_22 h4
  else
    if 0 ≤ r3 then
      (sv_gP h4 18 1803 x0).bind fun v5 =>
      (sv_gP h4 14 1409 v5).bind fun v6 =>
      (sv_lI h4 v6 r1).bind fun v7 =>
      (sv_gP h4 18 1803 x0).bind fun v8 =>
      (sv_gP h4 14 1409 v8).bind fun v9 =>
      (sv_lI h4 v9 r3).bind fun v10 =>
      if v10 ≤ v7 then
        (sv_gP h4 18 1803 x0).bind fun v11 =>
        (sv_gP h4 14 1409 v11).bind fun v12 =>
        (sv_lI h4 v12 r3).bind fun v13 =>
        fn_X17_stops_66 x0 r1 r3 v13 h4
      else
        (sv_gP h4 18 1803 x0).bind fun v14 =>
        (sv_gP h4 14 1409 v14).bind fun v15 =>
        (sv_lI h4 v15 r1).bind fun v16 =>
        fn_X17_stops_66 x0 r1 r3 v16 h4
    else
      fn_X17_stops_22 h4
  )

def fn_X13_lowCeiling_70 (s0 : Int32) (h : sv_H) : Option (Int32 × sv_H) :=
  some (s0, h)

def fn_X13_lowCeiling_47 (k5 : Nat → Int32 → Int32 → Int32 → sv_H → Option (Int32 × sv_H)) (x0 : Nat) (x1 : Int32) (x3 : Int32) (s0 : Int32) (h : sv_H) : Option (Int32 × sv_H) :=
  k5 x0 x1 s0 (x3 + 1) h

def fn_X13_lowCeiling_46 (k5 : Nat → Int32 → Int32 → Int32 → sv_H → Option (Int32 × sv_H)) (x0 : Nat) (x1 : Int32) (x2 : Int32) (x3 : Int32) (h : sv_H) : Option (Int32 × sv_H) :=
  fn_X13_lowCeiling_47 k5 x0 x1 x3 x2 h

def fn_X13_lowCeiling_5b (k5 : Nat → Int32 → Int32 → Int32 → sv_H → Option (Int32 × sv_H)) (x0 : Nat) (x1 : Int32) (x2 : Int32) (x3 : Int32) (h : sv_H) : Option (Int32 × sv_H) :=
  (sv_gI h 14 1400 x0).bind fun v1 =>
  if v1 ≤ x3 then
    if x2 = 100000 then
      (sv_gP h 14 1409 x0).bind fun v2 =>
      (sv_lI h v2 x1).bind fun v3 =>
      fn_X13_lowCeiling_70 v3 h
    else
      fn_X13_lowCeiling_70 x2 h
  else
    (sv_gP h 14 1406 x0).bind fun v4 =>
    (sv_lZ h v4 ((32 * x1) + x3)).bind fun v5 =>
    if v5 = 0 then
      fn_X13_lowCeiling_46 k5 x0 x1 x2 x3 h
    else
      (sv_gP h 14 1409 x0).bind fun v6 =>
      (sv_lI h v6 x3).bind fun v7 =>
      if x2 ≤ v7 then
        fn_X13_lowCeiling_46 k5 x0 x1 x2 x3 h
      else
        (sv_gP h 14 1409 x0).bind fun v8 =>
        (sv_lI h v8 x3).bind fun v9 =>
        fn_X13_lowCeiling_47 k5 x0 x1 x3 v9 h

def fn_X13_lowCeiling_5 : Nat → Nat → Int32 → Int32 → Int32 → sv_H → Option (Int32 × sv_H)
  | 0, _, _, _, _, _ => none
  | sv_n + 1, x0, x1, x2, x3, h => fn_X13_lowCeiling_5b (fn_X13_lowCeiling_5 sv_n) x0 x1 x2 x3 h

def fn_X13_lowCeiling (x0 : Nat) (x1 : Int32) (h : sv_H) : Option (Int32 × sv_H) :=
  sv_kd h 14 x0 (
  fn_X13_lowCeiling_5 sv_fuel x0 x1 100000 0 h
  )

def fn_X13_highFloor_51 (k9 : Nat → Int32 → Int32 → Int32 → sv_H → Option (Int32 × sv_H)) (x0 : Nat) (x1 : Int32) (x3 : Int32) (s0 : Int32) (h : sv_H) : Option (Int32 × sv_H) :=
  k9 x0 x1 s0 (x3 + 1) h

def fn_X13_highFloor_50 (k9 : Nat → Int32 → Int32 → Int32 → sv_H → Option (Int32 × sv_H)) (x0 : Nat) (x1 : Int32) (x2 : Int32) (x3 : Int32) (h : sv_H) : Option (Int32 × sv_H) :=
  fn_X13_highFloor_51 k9 x0 x1 x3 x2 h

def fn_X13_highFloor_9b (k9 : Nat → Int32 → Int32 → Int32 → sv_H → Option (Int32 × sv_H)) (x0 : Nat) (x1 : Int32) (x2 : Int32) (x3 : Int32) (h : sv_H) : Option (Int32 × sv_H) :=
  (sv_gI h 14 1400 x0).bind fun v1 =>
  if v1 ≤ x3 then
    some (x2, h)
  else
    (sv_gP h 14 1406 x0).bind fun v2 =>
    (sv_lZ h v2 ((32 * x1) + x3)).bind fun v3 =>
    if v3 = 0 then
      fn_X13_highFloor_50 k9 x0 x1 x2 x3 h
    else
      (sv_gP h 14 1408 x0).bind fun v4 =>
      (sv_lI h v4 x3).bind fun v5 =>
      if v5 ≤ x2 then
        fn_X13_highFloor_50 k9 x0 x1 x2 x3 h
      else
        (sv_gP h 14 1408 x0).bind fun v6 =>
        (sv_lI h v6 x3).bind fun v7 =>
        fn_X13_highFloor_51 k9 x0 x1 x3 v7 h

def fn_X13_highFloor_9 : Nat → Nat → Int32 → Int32 → Int32 → sv_H → Option (Int32 × sv_H)
  | 0, _, _, _, _, _ => none
  | sv_n + 1, x0, x1, x2, x3, h => fn_X13_highFloor_9b (fn_X13_highFloor_9 sv_n) x0 x1 x2 x3 h

def fn_X13_highFloor (x0 : Nat) (x1 : Int32) (h : sv_H) : Option (Int32 × sv_H) :=
  sv_kd h 14 x0 (
  (sv_gP h 14 1408 x0).bind fun v1 =>
  (sv_lI h v1 x1).bind fun v2 =>
  fn_X13_highFloor_9 sv_fuel x0 x1 v2 0 h
  )

def fn_X13_lowFloor_51 (k9 : Nat → Int32 → Int32 → Int32 → sv_H → Option (Int32 × sv_H)) (x0 : Nat) (x1 : Int32) (x3 : Int32) (s0 : Int32) (h : sv_H) : Option (Int32 × sv_H) :=
  k9 x0 x1 s0 (x3 + 1) h

def fn_X13_lowFloor_50 (k9 : Nat → Int32 → Int32 → Int32 → sv_H → Option (Int32 × sv_H)) (x0 : Nat) (x1 : Int32) (x2 : Int32) (x3 : Int32) (h : sv_H) : Option (Int32 × sv_H) :=
  fn_X13_lowFloor_51 k9 x0 x1 x3 x2 h

def fn_X13_lowFloor_9b (k9 : Nat → Int32 → Int32 → Int32 → sv_H → Option (Int32 × sv_H)) (x0 : Nat) (x1 : Int32) (x2 : Int32) (x3 : Int32) (h : sv_H) : Option (Int32 × sv_H) :=
  (sv_gI h 14 1400 x0).bind fun v1 =>
  if v1 ≤ x3 then
    some (x2, h)
  else
    (sv_gP h 14 1406 x0).bind fun v2 =>
    (sv_lZ h v2 ((32 * x1) + x3)).bind fun v3 =>
    if v3 = 0 then
      fn_X13_lowFloor_50 k9 x0 x1 x2 x3 h
    else
      (sv_gP h 14 1408 x0).bind fun v4 =>
      (sv_lI h v4 x3).bind fun v5 =>
      if x2 ≤ v5 then
        fn_X13_lowFloor_50 k9 x0 x1 x2 x3 h
      else
        (sv_gP h 14 1408 x0).bind fun v6 =>
        (sv_lI h v6 x3).bind fun v7 =>
        fn_X13_lowFloor_51 k9 x0 x1 x3 v7 h

def fn_X13_lowFloor_9 : Nat → Nat → Int32 → Int32 → Int32 → sv_H → Option (Int32 × sv_H)
  | 0, _, _, _, _, _ => none
  | sv_n + 1, x0, x1, x2, x3, h => fn_X13_lowFloor_9b (fn_X13_lowFloor_9 sv_n) x0 x1 x2 x3 h

def fn_X13_lowFloor (x0 : Nat) (x1 : Int32) (h : sv_H) : Option (Int32 × sv_H) :=
  sv_kd h 14 x0 (
  (sv_gP h 14 1408 x0).bind fun v1 =>
  (sv_lI h v1 x1).bind fun v2 =>
  fn_X13_lowFloor_9 sv_fuel x0 x1 v2 0 h
  )

def fn_X13_begin_17 (h : sv_H) : Option (Int32 × sv_H) :=
  some (0, h)

def fn_X13_begin_223 (s0 : Nat) (s1 : Int32) (s2 : Int32) (h : sv_H) : Option (Int32 × sv_H) :=
  (sv_sI h s0 s1 s2).bind fun h1 =>
  some (1, h1)

def fn_X13_begin_128 (x0 : Nat) (x1 : Int32) (x2 : Int32) (s0 : Nat) (s1 : Int32) (s2 : Int32) (h : sv_H) : Option (Int32 × sv_H) :=
  (sv_sI h s0 s1 s2).bind fun h1 =>
  (sv_gP h1 14 1414 x0).bind fun v2 =>
  (sv_gP h1 14 1408 x0).bind fun v3 =>
  (sv_lI h1 v3 x1).bind fun v4 =>
  (sv_sI h1 v2 x1 v4).bind fun h5 =>
  sv_b (fn_X13_lowCeiling x0 x1 h5) fun r6 h7 =>
  sv_b (fn_X13_highFloor x0 x1 h7) fun r8 h9 =>
  (sv_gP h9 14 1413 x0).bind fun v10 =>
  if x2 = 0 then
    (sv_gP h9 14 1409 x0).bind fun v17 =>
    (sv_lI h9 v17 x1).bind fun v18 =>
    if (r6 - 4) ≤ v18 then
      (sv_gP h9 14 1409 x0).bind fun v19 =>
      (sv_lI h9 v19 x1).bind fun v20 =>
      fn_X13_begin_223 v10 x1 v20 h9
    else
      fn_X13_begin_223 v10 x1 (r6 - 4) h9
  else
    if x2 = 1 then
      sv_b (fn_X13_lowFloor x0 x1 h9) fun r15 h16 =>
      fn_X13_begin_223 v10 x1 r15 h16
    else
      (sv_gP h9 14 1409 x0).bind fun v11 =>
      (sv_lI h9 v11 x1).bind fun v12 =>
      if v12 ≤ r8 then
        (sv_gP h9 14 1409 x0).bind fun v13 =>
        (sv_lI h9 v13 x1).bind fun v14 =>
        fn_X13_begin_223 v10 x1 v14 h9
      else
        fn_X13_begin_223 v10 x1 r8 h9

def fn_X13_begin_96 (x3 : Int32) (s0 : Nat) (s1 : Int32) (s2 : Int32) (h : sv_H) : Option (Int32 × sv_H) :=
  (sv_sI h s0 s1 s2).bind fun h1 =>
  sv_rz x3 h1

def fn_X13_begin_76 (x0 : Nat) (x1 : Int32) (x3 : Int32) (s0 : Nat) (s1 : Int32) (s2 : Int32) (h : sv_H) : Option (Int32 × sv_H) :=
  (sv_sI h s0 s1 s2).bind fun h1 =>
  (sv_gP h1 14 1412 x0).bind fun v2 =>
  if x3 = 0 then
    (sv_gP h1 14 1412 x0).bind fun v3 =>
    (sv_lI h1 v3 x1).bind fun v4 =>
    fn_X13_begin_96 x3 v2 x1 v4 h1
  else
    fn_X13_begin_96 x3 v2 x1 0 h1

def fn_X13_begin_56 (x0 : Nat) (x1 : Int32) (s0 : Int32) (h : sv_H) : Option (Int32 × sv_H) :=
  (sv_gP h 14 1411 x0).bind fun v1 =>
  if s0 = 0 then
    (sv_gP h 14 1411 x0).bind fun v2 =>
    (sv_lI h v2 x1).bind fun v3 =>
    fn_X13_begin_76 x0 x1 s0 v1 x1 v3 h
  else
    fn_X13_begin_76 x0 x1 s0 v1 x1 1 h

def fn_X13_begin_55 (x0 : Nat) (x1 : Int32) (h : sv_H) : Option (Int32 × sv_H) :=
  fn_X13_begin_56 x0 x1 0 h

def fn_X13_begin (x0 : Nat) (x1 : Int32) (x2 : Int32) (h : sv_H) : Option (Int32 × sv_H) :=
  sv_kd h 14 x0 (
  sv_b (fn_X13_isSector x0 x1 h) fun r1 h2 =>
  if r1 = 0 then
    fn_X13_begin_17 h2
  else
    if x2 < 0 then
      fn_X13_begin_17 h2
    else
      if x2 ≤ 2 then
        (sv_gP h2 14 1410 x0).bind fun v3 =>
        (sv_lI h2 v3 x1).bind fun v4 =>
        if v4 < 0 then
          (sv_gP h2 14 1410 x0).bind fun v5 =>
          (sv_sI h2 v5 x1 x2).bind fun h6 =>
          (sv_gP h6 14 1412 x0).bind fun v7 =>
          (sv_sI h6 v7 x1 0).bind fun h8 =>
          (sv_gP h8 14 1411 x0).bind fun v9 =>
          if x2 = 1 then
            fn_X13_begin_128 x0 x1 x2 v9 x1 ((-1)) h8
          else
            fn_X13_begin_128 x0 x1 x2 v9 x1 1 h8
        else
          if x2 = 0 then
            (sv_gP h2 14 1410 x0).bind fun v10 =>
            (sv_lI h2 v10 x1).bind fun v11 =>
            if v11 = 0 then
              (sv_gP h2 14 1411 x0).bind fun v12 =>
              (sv_lI h2 v12 x1).bind fun v13 =>
              if 1 ≤ v13 then
                fn_X13_begin_55 x0 x1 h2
              else
                fn_X13_begin_56 x0 x1 1 h2
            else
              fn_X13_begin_55 x0 x1 h2
          else
            fn_X13_begin_55 x0 x1 h2
      else
        fn_X13_begin_17 h2
  )

def fn_X17_startAll_40 (k2 : Nat → Int32 → Int32 → Int32 → sv_H → Option (Unit × sv_H)) (x0 : Nat) (x1 : Int32) (x2 : Int32) (x3 : Int32) (s0 : Int32) (h : sv_H) : Option (Unit × sv_H) :=
  k2 x0 x1 x2 (x3 + 1) h

def fn_X17_startAll_39 (k2 : Nat → Int32 → Int32 → Int32 → sv_H → Option (Unit × sv_H)) (x0 : Nat) (x1 : Int32) (x2 : Int32) (x3 : Int32) (h : sv_H) : Option (Unit × sv_H) :=
  fn_X17_startAll_40 k2 x0 x1 x2 x3 0 h

def fn_X17_startAll_2b (k2 : Nat → Int32 → Int32 → Int32 → sv_H → Option (Unit × sv_H)) (x0 : Nat) (x1 : Int32) (x2 : Int32) (x3 : Int32) (h : sv_H) : Option (Unit × sv_H) :=
  sv_b (fn_X17_sectors x0 h) fun r1 h2 =>
  if r1 ≤ x3 then
    some ((), h2)
  else
    (sv_gP h2 18 1803 x0).bind fun v3 =>
    (sv_gP h2 14 1405 v3).bind fun v4 =>
    (sv_lI h2 v4 x3).bind fun v5 =>
    if v5 = x1 then
      (sv_gP h2 18 1803 x0).bind fun v6 =>
      sv_b (fn_X13_begin v6 x3 x2 h2) fun r7 h8 =>
      if r7 = 0 then
        fn_X17_startAll_39 k2 x0 x1 x2 x3 h8
      else
        fn_X17_startAll_40 k2 x0 x1 x2 x3 1 h8
    else
      fn_X17_startAll_39 k2 x0 x1 x2 x3 h2

def fn_X17_startAll_2 : Nat → Nat → Int32 → Int32 → Int32 → sv_H → Option (Unit × sv_H)
  | 0, _, _, _, _, _ => none
  | sv_n + 1, x0, x1, x2, x3, h => fn_X17_startAll_2b (fn_X17_startAll_2 sv_n) x0 x1 x2 x3 h

def fn_X17_startAll (x0 : Nat) (x1 : Int32) (x2 : Int32) (h : sv_H) : Option (Unit × sv_H) :=
  sv_kd h 18 x0 (
  fn_X17_startAll_2 sv_fuel x0 x1 x2 0 h
  )

def fn_X17_walks_139 (h : sv_H) : Option (Int32 × sv_H) :=
  some (0, h)

def fn_X17_walks_247 (k169 : Nat → Int32 → Int32 → sv_H → Option (Int32 × sv_H)) (x0 : Nat) (x4 : Int32) (x5 : Int32) (h : sv_H) : Option (Int32 × sv_H) :=
  k169 x0 x4 (x5 + 1) h

def fn_X17_walks_244 (k169 : Nat → Int32 → Int32 → sv_H → Option (Int32 × sv_H)) (x0 : Nat) (x4 : Int32) (x5 : Int32) (s0 : Nat) (s1 : Int32) (s2 : Int32) (h : sv_H) : Option (Int32 × sv_H) :=
  sv_b (fn_X17_startAll s0 s1 s2 h) fun _ h1 =>
  fn_X17_walks_247 k169 x0 x4 x5 h1

def fn_X17_walks_209 (k169 : Nat → Int32 → Int32 → sv_H → Option (Int32 × sv_H)) (x0 : Nat) (x4 : Int32) (x5 : Int32) (x6 : Int32) (h : sv_H) : Option (Int32 × sv_H) :=
  (sv_gP h 18 1820 x0).bind fun v1 =>
  (sv_lI h v1 x5).bind fun v2 =>
  sv_b (fn_X17_wallPart x0 v2 14 h) fun r3 h4 =>
  if x6 = 2 then
    fn_X17_walks_244 k169 x0 x4 x5 x0 r3 1 h4
  else
    if x6 = 3 then
      fn_X17_walks_244 k169 x0 x4 x5 x0 r3 0 h4
    else
      fn_X17_walks_244 k169 x0 x4 x5 x0 r3 2 h4

def fn_X17_walks_169b (k169 : Nat → Int32 → Int32 → sv_H → Option (Int32 × sv_H)) (x0 : Nat) (x4 : Int32) (x5 : Int32) (h : sv_H) : Option (Int32 × sv_H) :=
  if x4 ≤ x5 then
    some (1, h)
  else
    (sv_gP h 18 1820 x0).bind fun v1 =>
    (sv_lI h v1 x5).bind fun v2 =>
    sv_b (fn_X17_wallPart x0 v2 13 h) fun r3 h4 =>
    if r3 = 2 then
      fn_X17_walks_209 k169 x0 x4 x5 r3 h4
    else
      if r3 = 3 then
        fn_X17_walks_209 k169 x0 x4 x5 r3 h4
      else
        if r3 = 5 then
          fn_X17_walks_209 k169 x0 x4 x5 r3 h4
        else
          fn_X17_walks_247 k169 x0 x4 x5 h4

def fn_X17_walks_169 : Nat → Nat → Int32 → Int32 → sv_H → Option (Int32 × sv_H)
  | 0, _, _, _, _ => none
  | sv_n + 1, x0, x4, x5, h => fn_X17_walks_169b (fn_X17_walks_169 sv_n) x0 x4 x5 h

def fn_X17_walks_85 (k19 : Nat → Int32 → Int32 → Int32 → Int32 → Int32 → sv_H → Option (Int32 × sv_H)) (x0 : Nat) (x1 : Int32) (x2 : Int32) (x3 : Int32) (x4 : Int32) (x5 : Int32) (h : sv_H) : Option (Int32 × sv_H) :=
  k19 x0 x1 x2 x3 x4 (x5 + 1) h

def fn_X17_walks_19b (k19 : Nat → Int32 → Int32 → Int32 → Int32 → Int32 → sv_H → Option (Int32 × sv_H)) (x0 : Nat) (x1 : Int32) (x2 : Int32) (x3 : Int32) (x4 : Int32) (x5 : Int32) (h : sv_H) : Option (Int32 × sv_H) :=
  (sv_gI h 18 1821 x0).bind fun v1 =>
  if v1 ≤ x5 then
    (sv_gI h 18 1811 x0).bind fun v2 =>
    if (v2 + x1) < ((-40000)) then
      fn_X17_walks_139 h
    else
      (sv_gI h 18 1811 x0).bind fun v3 =>
      if 40000 < (v3 + x1) then
        fn_X17_walks_139 h
      else
        (sv_gI h 18 1812 x0).bind fun v4 =>
        if (v4 + x2) < ((-40000)) then
          fn_X17_walks_139 h
        else
          (sv_gI h 18 1812 x0).bind fun v5 =>
          if (v5 + x2) ≤ 40000 then
            (sv_gI h 18 1811 x0).bind fun v6 =>
            (sv_pI h 18 1811 x0 (v6 + x1)).bind fun h7 =>
            (sv_gI h7 18 1812 x0).bind fun v8 =>
            (sv_pI h7 18 1812 x0 (v8 + x2)).bind fun h9 =>
            (sv_pI h9 18 1814 x0 x3).bind fun h10 =>
            fn_X17_walks_169 sv_fuel x0 x4 0 h10
          else
            fn_X17_walks_139 h
  else
    (sv_gP h 18 1820 x0).bind fun v11 =>
    (sv_lI h v11 x5).bind fun v12 =>
    sv_b (fn_X17_meets x0 v12 h) fun r13 h14 =>
    (sv_gJ h14 18 1817 x0).bind fun v15 =>
    (sv_gJ h14 18 1818 x0).bind fun v16 =>
    if 0 < (lg_cmp v15 v16) then
      fn_X17_walks_85 k19 x0 x1 x2 x3 x4 x5 h14
    else
      (sv_gP h14 18 1820 x0).bind fun v17 =>
      (sv_lI h14 v17 x5).bind fun v18 =>
      sv_b (fn_X17_stops x0 v18 h14) fun r19 h20 =>
      if r19 = 0 then
        (sv_gP h20 18 1820 x0).bind fun v21 =>
        (sv_lI h20 v21 x5).bind fun v22 =>
        sv_b (fn_X17_sideOf x0 v22 0 h20) fun r23 h24 =>
        fn_X17_walks_85 k19 x0 x1 x2 r23 (x4 + 1) x5 h24
      else
        some (0, h20)

def fn_X17_walks_19 : Nat → Nat → Int32 → Int32 → Int32 → Int32 → Int32 → sv_H → Option (Int32 × sv_H)
  | 0, _, _, _, _, _, _, _ => none
  | sv_n + 1, x0, x1, x2, x3, x4, x5, h => fn_X17_walks_19b (fn_X17_walks_19 sv_n) x0 x1 x2 x3 x4 x5 h

def fn_X17_walks (x0 : Nat) (x1 : Int32) (x2 : Int32) (h : sv_H) : Option (Int32 × sv_H) :=
  sv_kd h 18 x0 (
  sv_b (fn_X17_gather x0 (Int32.toInt64 x1) (Int32.toInt64 x2) h) fun _ h1 =>
  (sv_gI h1 18 1814 x0).bind fun v2 =>
  fn_X17_walks_19 sv_fuel x0 x1 x2 v2 0 0 h1
  )

def fn_X17_use_63 (h : sv_H) : Option (Unit × sv_H) :=
  some ((), h)

def fn_X17_use_132 (h : sv_H) : Option (Unit × sv_H) :=
  some ((), h)

def fn_X17_use_109 (x0 : Nat) (x1 : Int32) (h : sv_H) : Option (Unit × sv_H) :=
  sv_b (fn_X17_wallPart x0 x1 13 h) fun r1 h2 =>
  if r1 = 4 then
    sv_b (fn_X17_wallPart x0 x1 14 h2) fun r3 h4 =>
    sv_b (fn_X17_startAll x0 r3 1 h4) fun _ h5 =>
    fn_X17_use_132 h5
  else
    fn_X17_use_132 h2

def fn_X17_use (x0 : Nat) (h : sv_H) : Option (Unit × sv_H) :=
  sv_kd h 18 x0 (
  (sv_gI h 18 1813 x0).bind fun v1 =>
  sv_b (fn_X17_cosine v1 h) fun r2 h3 =>
  (sv_gI h3 18 1813 x0).bind fun v4 =>
  sv_b (fn_X17_sine v4 h3) fun r5 h6 =>
  sv_b (fn_X17_gather x0 (Int32.toInt64 r2) (Int32.toInt64 r5) h6) fun _ h7 =>
  (sv_gI h7 18 1821 x0).bind fun v8 =>
  if v8 = 0 then
    fn_X17_use_63 h7
  else
    (sv_gP h7 18 1820 x0).bind fun v9 =>
    (sv_lI h7 v9 0).bind fun v10 =>
    sv_b (fn_X17_meets x0 v10 h7) fun r11 h12 =>
    if r11 = 0 then
      fn_X17_use_63 h12
    else
      (sv_gJ h12 18 1817 x0).bind fun v13 =>
      (sv_gJ h12 18 1818 x0).bind fun v14 =>
      if 0 < (lg_cmp (4 * v13) v14) then
        fn_X17_use_63 h12
      else
        (sv_gI h12 18 1819 x0).bind fun v15 =>
        if v15 = 0 then
          fn_X17_use_63 h12
        else
          (sv_gP h12 18 1820 x0).bind fun v16 =>
          (sv_lI h12 v16 0).bind fun v17 =>
          sv_b (fn_X17_wallPart x0 v17 3 h12) fun r18 h19 =>
          sv_b (fn_X17_wallPart x0 v17 13 h19) fun r20 h21 =>
          if r20 = 1 then
            if r18 = 255 then
              fn_X17_use_109 x0 v17 h21
            else
              (sv_gP h21 18 1803 x0).bind fun v22 =>
              sv_b (fn_X13_begin v22 r18 0 h21) fun r23 h24 =>
              fn_X17_use_132 h24
          else
            fn_X17_use_109 x0 v17 h21
  )

def fn_X13_await (x0 : Nat) (x1 : Int32) (x2 : Int32) (h : sv_H) : Option (Unit × sv_H) :=
  sv_kd h 14 x0 (
  (sv_gP h 14 1411 x0).bind fun v1 =>
  (sv_sI h v1 x1 0).bind fun h2 =>
  (sv_gP h2 14 1412 x0).bind fun v3 =>
  (sv_sI h2 v3 x1 x2).bind fun h4 =>
  some ((), h4)
  )

def fn_X13_end (x0 : Nat) (x1 : Int32) (h : sv_H) : Option (Unit × sv_H) :=
  sv_kd h 14 x0 (
  (sv_gP h 14 1410 x0).bind fun v1 =>
  (sv_sI h v1 x1 ((-1))).bind fun h2 =>
  (sv_gP h2 14 1411 x0).bind fun v3 =>
  (sv_sI h2 v3 x1 0).bind fun h4 =>
  (sv_gP h4 14 1413 x0).bind fun v5 =>
  (sv_sI h4 v5 x1 ((-1))).bind fun h6 =>
  some ((), h6)
  )

def fn_X13_stepDoor_157 (h : sv_H) : Option (Unit × sv_H) :=
  some ((), h)

def fn_X13_stepDoor_135 (x0 : Nat) (x1 : Int32) (x2 : Int32) (h : sv_H) : Option (Unit × sv_H) :=
  (sv_gP h 14 1409 x0).bind fun v1 =>
  (sv_sI h v1 x1 x2).bind fun h2 =>
  (sv_gP h2 14 1408 x0).bind fun v3 =>
  (sv_lI h2 v3 x1).bind fun v4 =>
  if x2 = v4 then
    sv_b (fn_X13_end x0 x1 h2) fun _ h5 =>
    fn_X13_stepDoor_157 h5
  else
    fn_X13_stepDoor_157 h2

def fn_X13_stepDoor_95 (x0 : Nat) (x1 : Int32) (s0 : Int32) (h : sv_H) : Option (Unit × sv_H) :=
  (sv_gI h 14 1416 x0).bind fun v1 =>
  if v1 = x1 then
    (sv_gP h 14 1408 x0).bind fun v2 =>
    (sv_lI h v2 x1).bind fun v3 =>
    if 56 ≤ (s0 - v3) then
      fn_X13_stepDoor_135 x0 x1 s0 h
    else
      (sv_gI h 14 1417 x0).bind fun v4 =>
      (sv_pI h 14 1417 x0 (v4 + 1)).bind fun h5 =>
      (sv_gP h5 14 1411 x0).bind fun v6 =>
      (sv_sI h5 v6 x1 1).bind fun h7 =>
      some ((), h7)
  else
    fn_X13_stepDoor_135 x0 x1 s0 h

def fn_X13_stepDoor_74 (h : sv_H) : Option (Unit × sv_H) :=
  some ((), h)

def fn_X13_stepDoor_51 (x0 : Nat) (x1 : Int32) (s0 : Nat) (s1 : Int32) (s2 : Int32) (h : sv_H) : Option (Unit × sv_H) :=
  (sv_sI h s0 s1 s2).bind fun h1 =>
  (sv_gP h1 14 1409 x0).bind fun v2 =>
  (sv_lI h1 v2 x1).bind fun v3 =>
  (sv_gP h1 14 1413 x0).bind fun v4 =>
  (sv_lI h1 v4 x1).bind fun v5 =>
  if v3 = v5 then
    sv_b (fn_X13_await x0 x1 20 h1) fun _ h6 =>
    fn_X13_stepDoor_74 h6
  else
    fn_X13_stepDoor_74 h1

def fn_X13_stepDoor (x0 : Nat) (x1 : Int32) (h : sv_H) : Option (Unit × sv_H) :=
  sv_kd h 14 x0 (
  (sv_gP h 14 1409 x0).bind fun v1 =>
  (sv_lI h v1 x1).bind fun v2 =>
  (sv_gP h 14 1411 x0).bind fun v3 =>
  (sv_lI h v3 x1).bind fun v4 =>
  (sv_gP h 14 1411 x0).bind fun v5 =>
  (sv_lI h v5 x1).bind fun v6 =>
  if v6 ≤ 0 then
    (sv_gP h 14 1408 x0).bind fun v7 =>
    (sv_lI h v7 x1).bind fun v8 =>
    if v8 ≤ (v2 + (8 * v4)) then
      fn_X13_stepDoor_95 x0 x1 (v2 + (8 * v4)) h
    else
      (sv_gP h 14 1408 x0).bind fun v9 =>
      (sv_lI h v9 x1).bind fun v10 =>
      fn_X13_stepDoor_95 x0 x1 v10 h
  else
    (sv_gP h 14 1409 x0).bind fun v11 =>
    (sv_gP h 14 1413 x0).bind fun v12 =>
    (sv_lI h v12 x1).bind fun v13 =>
    if (v2 + (8 * v4)) ≤ v13 then
      fn_X13_stepDoor_51 x0 x1 v11 x1 (v2 + (8 * v4)) h
    else
      (sv_gP h 14 1413 x0).bind fun v14 =>
      (sv_lI h v14 x1).bind fun v15 =>
      fn_X13_stepDoor_51 x0 x1 v11 x1 v15 h
  )

def fn_X13_rise_78 (h : sv_H) : Option (Unit × sv_H) :=
  some ((), h)

def fn_X13_rise_59 (x0 : Nat) (x1 : Int32) (x3 : Int32) (x4 : Int32) (h : sv_H) : Option (Unit × sv_H) :=
  (sv_gP h 14 1408 x0).bind fun v1 =>
  (sv_sI h v1 x1 x4).bind fun h2 =>
  if x4 = x3 then
    sv_b (fn_X13_end x0 x1 h2) fun _ h3 =>
    fn_X13_rise_78 h3
  else
    fn_X13_rise_78 h2

def fn_X13_rise_24 (x0 : Nat) (x1 : Int32) (x3 : Int32) (s0 : Int32) (h : sv_H) : Option (Unit × sv_H) :=
  (sv_gI h 14 1416 x0).bind fun v1 =>
  if v1 = x1 then
    (sv_gP h 14 1409 x0).bind fun v2 =>
    (sv_lI h v2 x1).bind fun v3 =>
    if 56 ≤ (v3 - s0) then
      fn_X13_rise_59 x0 x1 x3 s0 h
    else
      (sv_gI h 14 1417 x0).bind fun v4 =>
      (sv_pI h 14 1417 x0 (v4 + 1)).bind fun h5 =>
      some ((), h5)
  else
    fn_X13_rise_59 x0 x1 x3 s0 h

def fn_X13_rise (x0 : Nat) (x1 : Int32) (x2 : Int32) (x3 : Int32) (h : sv_H) : Option (Unit × sv_H) :=
  sv_kd h 14 x0 (
  (sv_gP h 14 1408 x0).bind fun v1 =>
  (sv_lI h v1 x1).bind fun v2 =>
  if (v2 + x2) ≤ x3 then
    (sv_gP h 14 1408 x0).bind fun v3 =>
    (sv_lI h v3 x1).bind fun v4 =>
    fn_X13_rise_24 x0 x1 x3 (v4 + x2) h
  else
    fn_X13_rise_24 x0 x1 x3 x3 h
  )

def fn_X13_step_128 (h : sv_H) : Option (Unit × sv_H) :=
  some ((), h)

def fn_X13_step_105 (x0 : Nat) (x1 : Int32) (s0 : Nat) (s1 : Int32) (s2 : Int32) (h : sv_H) : Option (Unit × sv_H) :=
  (sv_sI h s0 s1 s2).bind fun h1 =>
  (sv_gP h1 14 1408 x0).bind fun v2 =>
  (sv_lI h1 v2 x1).bind fun v3 =>
  (sv_gP h1 14 1413 x0).bind fun v4 =>
  (sv_lI h1 v4 x1).bind fun v5 =>
  if v3 = v5 then
    sv_b (fn_X13_await x0 x1 30 h1) fun _ h6 =>
    fn_X13_step_128 h6
  else
    fn_X13_step_128 h1

def fn_X13_step (x0 : Nat) (x1 : Int32) (h : sv_H) : Option (Unit × sv_H) :=
  sv_kd h 14 x0 (
  (sv_gP h 14 1410 x0).bind fun v1 =>
  (sv_lI h v1 x1).bind fun v2 =>
  if v2 = 0 then
    sv_b (fn_X13_stepDoor x0 x1 h) fun _ h22 =>
    fn_X13_step_128 h22
  else
    (sv_gP h 14 1410 x0).bind fun v3 =>
    (sv_lI h v3 x1).bind fun v4 =>
    if v4 = 2 then
      (sv_gP h 14 1413 x0).bind fun v19 =>
      (sv_lI h v19 x1).bind fun v20 =>
      sv_b (fn_X13_rise x0 x1 2 v20 h) fun _ h21 =>
      fn_X13_step_128 h21
    else
      (sv_gP h 14 1411 x0).bind fun v5 =>
      (sv_lI h v5 x1).bind fun v6 =>
      if v6 ≤ 0 then
        (sv_gP h 14 1408 x0).bind fun v7 =>
        (sv_gP h 14 1408 x0).bind fun v8 =>
        (sv_lI h v8 x1).bind fun v9 =>
        (sv_gP h 14 1413 x0).bind fun v10 =>
        (sv_lI h v10 x1).bind fun v11 =>
        if v11 ≤ (v9 - 4) then
          (sv_gP h 14 1408 x0).bind fun v12 =>
          (sv_lI h v12 x1).bind fun v13 =>
          fn_X13_step_105 x0 x1 v7 x1 (v13 - 4) h
        else
          (sv_gP h 14 1413 x0).bind fun v14 =>
          (sv_lI h v14 x1).bind fun v15 =>
          fn_X13_step_105 x0 x1 v7 x1 v15 h
      else
        (sv_gP h 14 1414 x0).bind fun v16 =>
        (sv_lI h v16 x1).bind fun v17 =>
        sv_b (fn_X13_rise x0 x1 4 v17 h) fun _ h18 =>
        fn_X13_step_128 h18
  )

def fn_X13_ticks_11 (h : sv_H) : Option (Int32 × sv_H) :=
  some ((-1), h)

def fn_X13_ticks_118 (k15 : Nat → Int32 → Int32 → sv_H → Option (Int32 × sv_H)) (k32 : Nat → Int32 → Int32 → Int32 → sv_H → Option (Int32 × sv_H)) (x0 : Nat) (x1 : Int32) (x2 : Int32) (x3 : Int32) (h : sv_H) : Option (Int32 × sv_H) :=
  k32 x0 x1 x2 (x3 + 1) h

def fn_X13_ticks_104 (k15 : Nat → Int32 → Int32 → sv_H → Option (Int32 × sv_H)) (k32 : Nat → Int32 → Int32 → Int32 → sv_H → Option (Int32 × sv_H)) (x0 : Nat) (x1 : Int32) (x2 : Int32) (x3 : Int32) (h : sv_H) : Option (Int32 × sv_H) :=
  (sv_gP h 14 1410 x0).bind fun v1 =>
  (sv_lI h v1 x3).bind fun v2 =>
  if v2 < 0 then
    fn_X13_ticks_118 k15 k32 x0 x1 x2 x3 h
  else
    sv_b (fn_X13_step x0 x3 h) fun _ h3 =>
    fn_X13_ticks_118 k15 k32 x0 x1 x2 x3 h3

def fn_X13_ticks_100 (k15 : Nat → Int32 → Int32 → sv_H → Option (Int32 × sv_H)) (k32 : Nat → Int32 → Int32 → Int32 → sv_H → Option (Int32 × sv_H)) (x0 : Nat) (x1 : Int32) (x2 : Int32) (x3 : Int32) (s0 : Nat) (s1 : Int32) (s2 : Int32) (h : sv_H) : Option (Int32 × sv_H) :=
  (sv_sI h s0 s1 s2).bind fun h1 =>
  fn_X13_ticks_118 k15 k32 x0 x1 x2 x3 h1

def fn_X13_ticks_32b (k15 : Nat → Int32 → Int32 → sv_H → Option (Int32 × sv_H)) (k32 : Nat → Int32 → Int32 → Int32 → sv_H → Option (Int32 × sv_H)) (x0 : Nat) (x1 : Int32) (x2 : Int32) (x3 : Int32) (h : sv_H) : Option (Int32 × sv_H) :=
  (sv_gI h 14 1400 x0).bind fun v1 =>
  if v1 ≤ x3 then
    k15 x0 x1 (x2 + 1) h
  else
    (sv_gP h 14 1410 x0).bind fun v2 =>
    (sv_lI h v2 x3).bind fun v3 =>
    if v3 < 0 then
      fn_X13_ticks_104 k15 k32 x0 x1 x2 x3 h
    else
      (sv_gP h 14 1412 x0).bind fun v4 =>
      (sv_lI h v4 x3).bind fun v5 =>
      if v5 ≤ 0 then
        fn_X13_ticks_104 k15 k32 x0 x1 x2 x3 h
      else
        (sv_gP h 14 1412 x0).bind fun v6 =>
        (sv_lI h v6 x3).bind fun v7 =>
        (sv_sI h v6 x3 (v7 - 1)).bind fun h8 =>
        (sv_gP h8 14 1411 x0).bind fun v9 =>
        (sv_gP h8 14 1412 x0).bind fun v10 =>
        (sv_lI h8 v10 x3).bind fun v11 =>
        if v11 ≤ 0 then
          (sv_gP h8 14 1410 x0).bind fun v12 =>
          (sv_lI h8 v12 x3).bind fun v13 =>
          if v13 = 0 then
            fn_X13_ticks_100 k15 k32 x0 x1 x2 x3 v9 x3 ((-1)) h8
          else
            fn_X13_ticks_100 k15 k32 x0 x1 x2 x3 v9 x3 1 h8
        else
          fn_X13_ticks_100 k15 k32 x0 x1 x2 x3 v9 x3 0 h8

def fn_X13_ticks_32 (k15 : Nat → Int32 → Int32 → sv_H → Option (Int32 × sv_H)) : Nat → Nat → Int32 → Int32 → Int32 → sv_H → Option (Int32 × sv_H)
  | 0, _, _, _, _, _ => none
  | sv_n + 1, x0, x1, x2, x3, h => fn_X13_ticks_32b k15 (fn_X13_ticks_32 k15 sv_n) x0 x1 x2 x3 h

def fn_X13_ticks_15b (k15 : Nat → Int32 → Int32 → sv_H → Option (Int32 × sv_H)) (x0 : Nat) (x1 : Int32) (x2 : Int32) (h : sv_H) : Option (Int32 × sv_H) :=
  if x1 ≤ x2 then
    (sv_gI h 14 1415 x0).bind fun v1 =>
    some (v1, h)
  else
    (sv_gI h 14 1415 x0).bind fun v2 =>
    (sv_pI h 14 1415 x0 (v2 + 1)).bind fun h3 =>
    fn_X13_ticks_32 k15 sv_fuel x0 x1 x2 0 h3

def fn_X13_ticks_15 : Nat → Nat → Int32 → Int32 → sv_H → Option (Int32 × sv_H)
  | 0, _, _, _, _ => none
  | sv_n + 1, x0, x1, x2, h => fn_X13_ticks_15b (fn_X13_ticks_15 sv_n) x0 x1 x2 h

def fn_X13_ticks (x0 : Nat) (x1 : Int32) (h : sv_H) : Option (Int32 × sv_H) :=
  sv_kd h 14 x0 (
  if x1 < 0 then
    fn_X13_ticks_11 h
  else
    if x1 ≤ 1000 then
      fn_X13_ticks_15 sv_fuel x0 x1 0 h
    else
      fn_X13_ticks_11 h
  )

def fn_X17_go_121 (x0 : Nat) (x7 : Int32) (h : sv_H) : Option (Int32 × sv_H) :=
  (sv_gP h 18 1803 x0).bind fun v1 =>
  (sv_gI h 18 1814 x0).bind fun v2 =>
  (sv_pI h 14 1416 v1 v2).bind fun h3 =>
  (sv_gP h3 18 1803 x0).bind fun v4 =>
  sv_b (fn_X13_ticks v4 1 h3) fun r5 h6 =>
  some (x7, h6)

def fn_X17_go_110 (x0 : Nat) (x4 : Int32) (s0 : Int32) (h : sv_H) : Option (Int32 × sv_H) :=
  if x4 = 0 then
    fn_X17_go_121 x0 s0 h
  else
    sv_b (fn_X17_use x0 h) fun _ h1 =>
    fn_X17_go_121 x0 s0 h1

def fn_X17_go_94 (x0 : Nat) (x4 : Int32) (x5 : Int32) (x6 : Int32) (h : sv_H) : Option (Int32 × sv_H) :=
  sv_b (fn_X17_walks x0 x5 x6 h) fun r1 h2 =>
  if r1 = 0 then
    fn_X17_go_110 x0 x4 2 h2
  else
    fn_X17_go_110 x0 x4 1 h2

def fn_X17_go (x0 : Nat) (x1 : Int32) (x2 : Int32) (x3 : Int32) (x4 : Int32) (h : sv_H) : Option (Int32 × sv_H) :=
  sv_kd h 18 x0 (
  (sv_gI h 18 1813 x0).bind fun v1 =>
  (sv_pI h 18 1813 x0 (((v1 + x3) + 64) - ((v1 + x3) + 64) / 64 * 64)).bind fun h2 =>
  (sv_gI h2 18 1813 x0).bind fun v3 =>
  sv_b (fn_X17_cosine v3 h2) fun r4 h5 =>
  (sv_gI h5 18 1813 x0).bind fun v6 =>
  sv_b (fn_X17_sine v6 h5) fun r7 h8 =>
  sv_b (fn_X17_down (((Int32.toInt64 r4) * (Int32.toInt64 x1)) + ((Int32.toInt64 r7) * (Int32.toInt64 x2))) 256 h8) fun r9 h10 =>
  (sv_gI h10 18 1813 x0).bind fun v11 =>
  sv_b (fn_X17_sine v11 h10) fun r12 h13 =>
  (sv_gI h13 18 1813 x0).bind fun v14 =>
  sv_b (fn_X17_cosine v14 h13) fun r15 h16 =>
  sv_b (fn_X17_down (((Int32.toInt64 r12) * (Int32.toInt64 x1)) - ((Int32.toInt64 r15) * (Int32.toInt64 x2))) 256 h16) fun r17 h18 =>
  if (Int64.toInt32 r9) = 0 then
    if (Int64.toInt32 r17) = 0 then
      fn_X17_go_110 x0 x4 0 h18
    else
      fn_X17_go_94 x0 x4 (Int64.toInt32 r9) (Int64.toInt32 r17) h18
  else
    fn_X17_go_94 x0 x4 (Int64.toInt32 r9) (Int64.toInt32 r17) h18
  )

def fn_X17_playTo_27 (h : sv_H) : Option (Int32 × sv_H) :=
  some ((-1), h)

def fn_X17_playTo_92 (k37 : Nat → Int32 → Int32 → Int32 → sv_H → Option (Int32 × sv_H)) (x0 : Nat) (x1 : Int32) (x3 : Int32) (s0 : Int32) (s1 : Int32) (h : sv_H) : Option (Int32 × sv_H) :=
  k37 x0 x1 (s0 + s1) (x3 + 1) h

def fn_X17_playTo_37b (k37 : Nat → Int32 → Int32 → Int32 → sv_H → Option (Int32 × sv_H)) (x0 : Nat) (x1 : Int32) (x2 : Int32) (x3 : Int32) (h : sv_H) : Option (Int32 × sv_H) :=
  if x1 ≤ x3 then
    some (x2, h)
  else
    (sv_gP h 18 1802 x0).bind fun v1 =>
    (sv_gP h 16 1601 v1).bind fun v2 =>
    (sv_lI h v2 x3).bind fun v3 =>
    (sv_gP h 18 1802 x0).bind fun v4 =>
    (sv_gP h 16 1602 v4).bind fun v5 =>
    (sv_lI h v5 x3).bind fun v6 =>
    (sv_gP h 18 1802 x0).bind fun v7 =>
    (sv_gP h 16 1603 v7).bind fun v8 =>
    (sv_lI h v8 x3).bind fun v9 =>
    (sv_gP h 18 1802 x0).bind fun v10 =>
    (sv_gP h 16 1604 v10).bind fun v11 =>
    (sv_lZ h v11 x3).bind fun v12 =>
    sv_b (fn_X17_go x0 v3 v6 v9 v12 h) fun r13 h14 =>
    if r13 = 2 then
      fn_X17_playTo_92 k37 x0 x1 x3 x2 1 h14
    else
      fn_X17_playTo_92 k37 x0 x1 x3 x2 0 h14

def fn_X17_playTo_37 : Nat → Nat → Int32 → Int32 → Int32 → sv_H → Option (Int32 × sv_H)
  | 0, _, _, _, _, _ => none
  | sv_n + 1, x0, x1, x2, x3, h => fn_X17_playTo_37b (fn_X17_playTo_37 sv_n) x0 x1 x2 x3 h

def fn_X17_playTo (x0 : Nat) (x1 : Int32) (h : sv_H) : Option (Int32 × sv_H) :=
  sv_kd h 18 x0 (
  (sv_pI h 18 1800 x0 0).bind fun h1 =>
  (sv_gI h1 18 1809 x0).bind fun v2 =>
  if v2 = 0 then
    fn_X17_playTo_27 h1
  else
    if x1 < 0 then
      fn_X17_playTo_27 h1
    else
      (sv_gP h1 18 1802 x0).bind fun v3 =>
      (sv_gI h1 16 1605 v3).bind fun v4 =>
      if x1 ≤ v4 then
        sv_b (fn_X17_begin x0 h1) fun _ h5 =>
        fn_X17_playTo_37 sv_fuel x0 x1 0 0 h5
      else
        fn_X17_playTo_27 h1
  )

def fn_X12_stepBy_16 (h : sv_H) : Option (Int32 × sv_H) :=
  some ((-1), h)

def fn_X12_stepBy (x0 : Nat) (x1 : Int32) (x2 : Int32) (x3 : Int32) (x4 : Int32) (h : sv_H) : Option (Int32 × sv_H) :=
  sv_kd h 13 x0 (
  sv_b (fn_X12_hasMap x0 h) fun r1 h2 =>
  if r1 = 0 then
    fn_X12_stepBy_16 h2
  else
    sv_b (fn_X5_isInput x1 x2 x3 h2) fun r3 h4 =>
    if r3 = 0 then
      fn_X12_stepBy_16 h4
    else
      (sv_gP h4 13 1304 x0).bind fun v5 =>
      sv_b (fn_X5_inputOf x1 x2 x3 x4 h4) fun r6 h7 =>
      sv_b (fn_X10_step v5 r6 h7) fun r8 h9 =>
      some (r8, h9)
  )

def fn_X17_stepBy_64 (s0 : Int32) (h : sv_H) : Option (Int32 × sv_H) :=
  some (s0, h)

def fn_X17_stepBy_44 (x0 : Nat) (x1 : Int32) (x2 : Int32) (x3 : Int32) (x4 : Int32) (s0 : Int32) (h : sv_H) : Option (Int32 × sv_H) :=
  if s0 = 0 then
    fn_X17_stepBy_64 ((-1)) h
  else
    sv_b (fn_X17_go x0 x1 x2 x3 x4 h) fun r1 h2 =>
    fn_X17_stepBy_64 r1 h2

def fn_X17_stepBy_43 (x0 : Nat) (x1 : Int32) (x2 : Int32) (x3 : Int32) (x4 : Int32) (h : sv_H) : Option (Int32 × sv_H) :=
  fn_X17_stepBy_44 x0 x1 x2 x3 x4 0 h

def fn_X17_stepBy (x0 : Nat) (x1 : Int32) (x2 : Int32) (x3 : Int32) (x4 : Int32) (h : sv_H) : Option (Int32 × sv_H) :=
  sv_kd h 18 x0 (
  (sv_pI h 18 1800 x0 0).bind fun h1 =>
  (sv_gI h1 18 1809 x0).bind fun v2 =>
  if v2 = 0 then
    fn_X17_stepBy_43 x0 x1 x2 x3 x4 h1
  else
    sv_b (fn_X15_isIn x1 64 h1) fun r3 h4 =>
    if r3 = 0 then
      fn_X17_stepBy_43 x0 x1 x2 x3 x4 h4
    else
      sv_b (fn_X15_isIn x2 64 h4) fun r5 h6 =>
      if r5 = 0 then
        fn_X17_stepBy_43 x0 x1 x2 x3 x4 h6
      else
        sv_b (fn_X15_isIn x3 16 h6) fun r7 h8 =>
        if r7 = 0 then
          fn_X17_stepBy_43 x0 x1 x2 x3 x4 h8
        else
          fn_X17_stepBy_44 x0 x1 x2 x3 x4 1 h8
  )

def fn_X10_eye (x0 : Nat) (h : sv_H) : Option (Int32 × sv_H) :=
  sv_kd h 11 x0 (
  (sv_gP h 11 1101 x0).bind fun v1 =>
  (sv_gP h 3 307 v1).bind fun v2 =>
  (sv_gI h 11 1105 x0).bind fun v3 =>
  (sv_lP 917 h v2 v3).bind fun v4 =>
  (sv_gI h 7 707 v4).bind fun v5 =>
  some (v5 + 41, h)
  )

def fn_X12_walkerOf (x0 : Nat) (x1 : Int32) (h : sv_H) : Option (Int32 × sv_H) :=
  sv_kd h 13 x0 (
  sv_b (fn_X12_hasMap x0 h) fun r1 h2 =>
  if r1 = 0 then
    some (100000, h2)
  else
    if x1 = 0 then
      (sv_gP h2 13 1304 x0).bind fun v3 =>
      (sv_gI h2 11 1102 v3).bind fun v4 =>
      some (v4, h2)
    else
    if x1 = 1 then
      (sv_gP h2 13 1304 x0).bind fun v5 =>
      (sv_gI h2 11 1103 v5).bind fun v6 =>
      some (v6, h2)
    else
    if x1 = 2 then
      (sv_gP h2 13 1304 x0).bind fun v7 =>
      (sv_gI h2 11 1104 v7).bind fun v8 =>
      some (v8, h2)
    else
    if x1 = 3 then
      (sv_gP h2 13 1304 x0).bind fun v9 =>
      (sv_gI h2 11 1105 v9).bind fun v10 =>
      some (v10, h2)
    else
    if x1 = 4 then
      (sv_gP h2 13 1304 x0).bind fun v11 =>
      sv_b (fn_X10_eye v11 h2) fun r12 h13 =>
      some (r12, h13)
    else
    if x1 = 5 then
      (sv_gP h2 13 1304 x0).bind fun v14 =>
      (sv_gI h2 11 1106 v14).bind fun v15 =>
      some (v15, h2)
    else
    some (100000, h2)
  )

def fn_X17_eye (x0 : Nat) (h : sv_H) : Option (Int32 × sv_H) :=
  sv_kd h 18 x0 (
  (sv_gP h 18 1803 x0).bind fun v1 =>
  (sv_gP h 14 1408 v1).bind fun v2 =>
  (sv_gI h 18 1814 x0).bind fun v3 =>
  (sv_lI h v2 v3).bind fun v4 =>
  some (v4 + 41, h)
  )

def fn_X17_walkerOf (x0 : Nat) (x1 : Int32) (h : sv_H) : Option (Int32 × sv_H) :=
  sv_kd h 18 x0 (
  (sv_pI h 18 1800 x0 0).bind fun h1 =>
  (sv_gI h1 18 1809 x0).bind fun v2 =>
  if v2 = 0 then
    some (100000, h1)
  else
    if x1 = 0 then
      (sv_gI h1 18 1811 x0).bind fun v3 =>
      some (v3, h1)
    else
    if x1 = 1 then
      (sv_gI h1 18 1812 x0).bind fun v4 =>
      some (v4, h1)
    else
    if x1 = 2 then
      (sv_gI h1 18 1813 x0).bind fun v5 =>
      some (v5, h1)
    else
    if x1 = 3 then
      (sv_gI h1 18 1814 x0).bind fun v6 =>
      some (v6, h1)
    else
    if x1 = 4 then
      sv_b (fn_X17_eye x0 h1) fun r7 h8 =>
      some (r7, h8)
    else
    if x1 = 5 then
      (sv_gP h1 18 1803 x0).bind fun v9 =>
      (sv_gI h1 14 1415 v9).bind fun v10 =>
      some (v10, h1)
    else
    some (100000, h1)
  )

def fn_X2_moverCount_28 (k4 : Nat → Int32 → Int32 → sv_H → Option (Int32 × sv_H)) (x0 : Nat) (x1 : Int32) (x2 : Int32) (h : sv_H) : Option (Int32 × sv_H) :=
  k4 x0 x1 (x2 + 1) h

def fn_X2_moverCount_4b (k4 : Nat → Int32 → Int32 → sv_H → Option (Int32 × sv_H)) (x0 : Nat) (x1 : Int32) (x2 : Int32) (h : sv_H) : Option (Int32 × sv_H) :=
  (sv_gI h 3 311 x0).bind fun v1 =>
  if v1 ≤ x2 then
    some (x1, h)
  else
    (sv_gP h 3 307 x0).bind fun v2 =>
    (sv_lP 917 h v2 x2).bind fun v3 =>
    (sv_gI h 7 709 v3).bind fun v4 =>
    if v4 = ((-1)) then
      fn_X2_moverCount_28 k4 x0 x1 x2 h
    else
      fn_X2_moverCount_28 k4 x0 (x1 + 1) x2 h

def fn_X2_moverCount_4 : Nat → Nat → Int32 → Int32 → sv_H → Option (Int32 × sv_H)
  | 0, _, _, _, _ => none
  | sv_n + 1, x0, x1, x2, h => fn_X2_moverCount_4b (fn_X2_moverCount_4 sv_n) x0 x1 x2 h

def fn_X2_moverCount (x0 : Nat) (h : sv_H) : Option (Int32 × sv_H) :=
  sv_kd h 3 x0 (
  fn_X2_moverCount_4 sv_fuel x0 0 0 h
  )

def fn_X2_lightIn_53 (s0 : Int32) (h : sv_H) : Option (Int32 × sv_H) :=
  some (s0, h)

def fn_X2_lightIn_71 (s0 : Int32) (h : sv_H) : Option (Int32 × sv_H) :=
  some (s0, h)

def fn_X2_lightIn (x0 : Nat) (x1 : Nat) (x2 : Int32) (h : sv_H) : Option (Int32 × sv_H) :=
  sv_kd h 3 x0 (
  (sv_gI h 7 705 x1).bind fun v1 =>
  if v1 = 1 then
    if 4 ≤ (x2 - x2 / 16 * 16) then
      (sv_gI h 7 704 x1).bind fun v2 =>
      fn_X2_lightIn_53 (v2 / 2) h
    else
      (sv_gI h 7 704 x1).bind fun v3 =>
      fn_X2_lightIn_53 v3 h
  else
  if v1 = 2 then
    if ((x2 / 32) - (x2 / 32) / 2 * 2) = 0 then
      (sv_gI h 7 704 x1).bind fun v4 =>
      fn_X2_lightIn_71 v4 h
    else
      fn_X2_lightIn_71 0 h
  else
  if v1 = 3 then
    (sv_gI h 7 704 x1).bind fun v5 =>
    sv_b (fn_X2_moverCount x0 h) fun r6 h7 =>
    sv_let (sv_max (v5 - r6) 0) fun r8 =>
    some (r8, h7)
  else
  (sv_gI h 7 704 x1).bind fun v9 =>
  some (v9, h)
  )

def fn_X12_sectorOf_15 (h : sv_H) : Option (Int32 × sv_H) :=
  some (100000, h)

def fn_X12_sectorOf (x0 : Nat) (x1 : Int32) (x2 : Int32) (h : sv_H) : Option (Int32 × sv_H) :=
  sv_kd h 13 x0 (
  sv_b (fn_X12_hasMap x0 h) fun r1 h2 =>
  if r1 = 0 then
    fn_X12_sectorOf_15 h2
  else
    sv_b (fn_X12_isSector x0 x1 h2) fun r3 h4 =>
    if r3 = 0 then
      fn_X12_sectorOf_15 h4
    else
      (sv_gP h4 13 1306 x0).bind fun v5 =>
      (sv_gP h4 3 307 v5).bind fun v6 =>
      (sv_lP 917 h4 v6 x1).bind fun v7 =>
      if x2 = 0 then
        (sv_gI h4 7 707 v7).bind fun v8 =>
        some (v8, h4)
      else
      if x2 = 1 then
        (sv_gI h4 7 708 v7).bind fun v9 =>
        some (v9, h4)
      else
      if x2 = 2 then
        (sv_gP h4 13 1306 x0).bind fun v10 =>
        (sv_gP h4 13 1304 x0).bind fun v11 =>
        (sv_gI h4 11 1106 v11).bind fun v12 =>
        sv_b (fn_X2_lightIn v10 v7 v12 h4) fun r13 h14 =>
        some (r13, h14)
      else
      if x2 = 3 then
        (sv_gI h4 7 709 v7).bind fun v15 =>
        some (v15, h4)
      else
      if x2 = 4 then
        (sv_gI h4 7 710 v7).bind fun v16 =>
        some (v16, h4)
      else
      some (100000, h4)
  )

def fn_X13_many_27 (k4 : Nat → Int32 → Int32 → sv_H → Option (Int32 × sv_H)) (x0 : Nat) (x2 : Int32) (s0 : Int32) (s1 : Int32) (h : sv_H) : Option (Int32 × sv_H) :=
  k4 x0 (s0 + s1) (x2 + 1) h

def fn_X13_many_4b (k4 : Nat → Int32 → Int32 → sv_H → Option (Int32 × sv_H)) (x0 : Nat) (x1 : Int32) (x2 : Int32) (h : sv_H) : Option (Int32 × sv_H) :=
  (sv_gI h 14 1400 x0).bind fun v1 =>
  if v1 ≤ x2 then
    some (x1, h)
  else
    (sv_gP h 14 1410 x0).bind fun v2 =>
    (sv_lI h v2 x2).bind fun v3 =>
    if v3 < 0 then
      fn_X13_many_27 k4 x0 x2 x1 0 h
    else
      fn_X13_many_27 k4 x0 x2 x1 1 h

def fn_X13_many_4 : Nat → Nat → Int32 → Int32 → sv_H → Option (Int32 × sv_H)
  | 0, _, _, _, _ => none
  | sv_n + 1, x0, x1, x2, h => fn_X13_many_4b (fn_X13_many_4 sv_n) x0 x1 x2 h

def fn_X13_many (x0 : Nat) (h : sv_H) : Option (Int32 × sv_H) :=
  sv_kd h 14 x0 (
  fn_X13_many_4 sv_fuel x0 0 0 h
  )

def fn_X13_lightOf_66 (s0 : Int32) (h : sv_H) : Option (Int32 × sv_H) :=
  some (s0, h)

def fn_X13_lightOf_84 (s0 : Int32) (h : sv_H) : Option (Int32 × sv_H) :=
  some (s0, h)

def fn_X13_lightOf_94 (s0 : Int32) (h : sv_H) : Option (Int32 × sv_H) :=
  some (s0, h)

def fn_X13_lightOf (x0 : Nat) (x1 : Int32) (h : sv_H) : Option (Int32 × sv_H) :=
  sv_kd h 14 x0 (
  (sv_gP h 14 1403 x0).bind fun v1 =>
  (sv_lI h v1 x1).bind fun v2 =>
  sv_b (fn_X13_many x0 h) fun r3 h4 =>
  (sv_gP h4 14 1404 x0).bind fun v5 =>
  (sv_lI h4 v5 x1).bind fun v6 =>
  if v6 = 1 then
    (sv_gI h4 14 1415 x0).bind fun v7 =>
    if 4 ≤ (v7 - v7 / 16 * 16) then
      fn_X13_lightOf_66 (v2 / 2) h4
    else
      fn_X13_lightOf_66 v2 h4
  else
  if v6 = 2 then
    (sv_gI h4 14 1415 x0).bind fun v8 =>
    if ((v8 / 32) - (v8 / 32) / 2 * 2) = 0 then
      fn_X13_lightOf_84 v2 h4
    else
      fn_X13_lightOf_84 0 h4
  else
  if v6 = 3 then
    if 0 ≤ (v2 - r3) then
      fn_X13_lightOf_94 (v2 - r3) h4
    else
      fn_X13_lightOf_94 0 h4
  else
  some (v2, h4)
  )

def fn_X13_of (x0 : Nat) (x1 : Int32) (x2 : Int32) (h : sv_H) : Option (Int32 × sv_H) :=
  sv_kd h 14 x0 (
  sv_b (fn_X13_isSector x0 x1 h) fun r1 h2 =>
  if r1 = 0 then
    some (100000, h2)
  else
    if x2 = 0 then
      (sv_gP h2 14 1408 x0).bind fun v3 =>
      (sv_lI h2 v3 x1).bind fun v4 =>
      some (v4, h2)
    else
    if x2 = 1 then
      (sv_gP h2 14 1409 x0).bind fun v5 =>
      (sv_lI h2 v5 x1).bind fun v6 =>
      some (v6, h2)
    else
    if x2 = 2 then
      sv_b (fn_X13_lightOf x0 x1 h2) fun r7 h8 =>
      some (r7, h8)
    else
    if x2 = 3 then
      (sv_gP h2 14 1410 x0).bind fun v9 =>
      (sv_lI h2 v9 x1).bind fun v10 =>
      some (v10, h2)
    else
    if x2 = 4 then
      (sv_gP h2 14 1411 x0).bind fun v11 =>
      (sv_lI h2 v11 x1).bind fun v12 =>
      some (v12, h2)
    else
    if x2 = 5 then
      (sv_gP h2 14 1412 x0).bind fun v13 =>
      (sv_lI h2 v13 x1).bind fun v14 =>
      some (v14, h2)
    else
    if x2 = 6 then
      sv_b (fn_X13_lowFloor x0 x1 h2) fun r15 h16 =>
      some (r15, h16)
    else
    if x2 = 7 then
      sv_b (fn_X13_highFloor x0 x1 h2) fun r17 h18 =>
      some (r17, h18)
    else
    if x2 = 8 then
      sv_b (fn_X13_lowCeiling x0 x1 h2) fun r19 h20 =>
      some (r19, h20)
    else
    if x2 = 9 then
      (sv_gP h2 14 1413 x0).bind fun v21 =>
      (sv_lI h2 v21 x1).bind fun v22 =>
      some (v22, h2)
    else
    some (100000, h2)
  )

def fn_X17_sectorOf_41 (s0 : Int32) (h : sv_H) : Option (Int32 × sv_H) :=
  some (s0, h)

def fn_X17_sectorOf_26 (h : sv_H) : Option (Int32 × sv_H) :=
  fn_X17_sectorOf_41 100000 h

def fn_X17_sectorOf (x0 : Nat) (x1 : Int32) (x2 : Int32) (h : sv_H) : Option (Int32 × sv_H) :=
  sv_kd h 18 x0 (
  (sv_pI h 18 1800 x0 0).bind fun h1 =>
  if x1 < 0 then
    fn_X17_sectorOf_26 h1
  else
    sv_b (fn_X17_sectors x0 h1) fun r2 h3 =>
    if r2 ≤ x1 then
      fn_X17_sectorOf_26 h3
    else
      if x2 < 0 then
        fn_X17_sectorOf_26 h3
      else
        if x2 ≤ 4 then
          (sv_gP h3 18 1803 x0).bind fun v4 =>
          sv_b (fn_X13_of v4 x1 x2 h3) fun r5 h6 =>
          fn_X17_sectorOf_41 r5 h6
        else
          fn_X17_sectorOf_26 h3
  )

def fn_X12_isSeen_22 (s0 : Int32) (h : sv_H) : Option (Int32 × sv_H) :=
  sv_rz s0 h

def fn_X12_isSeen_21 (h : sv_H) : Option (Int32 × sv_H) :=
  fn_X12_isSeen_22 0 h

def fn_X12_isSeen (x0 : Nat) (x1 : Int32) (h : sv_H) : Option (Int32 × sv_H) :=
  sv_kd h 13 x0 (
  sv_b (fn_X12_hasMap x0 h) fun r1 h2 =>
  if r1 = 0 then
    fn_X12_isSeen_21 h2
  else
    if x1 < 0 then
      fn_X12_isSeen_21 h2
    else
      if 64 ≤ x1 then
        fn_X12_isSeen_21 h2
      else
        fn_X12_isSeen_22 1 h2
  )

def fn_X3_meetAll_7b (k7 : Nat → Nat → Int32 → sv_H → Option (Unit × sv_H)) (x0 : Nat) (x1 : Nat) (x2 : Int32) (h : sv_H) : Option (Unit × sv_H) :=
  (sv_gI h 3 312 x1).bind fun v1 =>
  if v1 ≤ x2 then
    some ((), h)
  else
    (sv_gP h 3 308 x1).bind fun v2 =>
    (sv_lP 922 h v2 x2).bind fun v3 =>
    sv_b (fn_X3_meet x0 v3 x2 0 h) fun _ h4 =>
    k7 x0 x1 (x2 + 1) h4

def fn_X3_meetAll_7 : Nat → Nat → Nat → Int32 → sv_H → Option (Unit × sv_H)
  | 0, _, _, _, _ => none
  | sv_n + 1, x0, x1, x2, h => fn_X3_meetAll_7b (fn_X3_meetAll_7 sv_n) x0 x1 x2 h

def fn_X3_meetAll (x0 : Nat) (x1 : Nat) (h : sv_H) : Option (Unit × sv_H) :=
  sv_kd h 4 x0 (
  (sv_pI h 4 406 x0 0).bind fun h1 =>
  fn_X3_meetAll_7 sv_fuel x0 x1 0 h1
  )

def fn_X9_rowOf (x0 : Nat) (x1 : Int32) (x2 : Int32) (h : sv_H) : Option (Int64 × sv_H) :=
  sv_kd h 10 x0 (
  (sv_gI h 10 1005 x0).bind fun v1 =>
  (sv_gP h 10 1000 x0).bind fun v2 =>
  (sv_gP h 4 403 v2).bind fun v3 =>
  (sv_lJ h v3 x2).bind fun v4 =>
  (sv_gP h 10 1000 x0).bind fun v5 =>
  (sv_gP h 4 402 v5).bind fun v6 =>
  (sv_lJ h v6 x2).bind fun v7 =>
  sv_b (fn_J9_floorDiv_f86c9 ((Int32.toInt64 (x1 - v1)) * v4) (512 * v7) h) fun r8 h9 =>
  some (24 - r8, h9)
  )

def fn_X9_between (x0 : Int64) (x2 : Int32) (x3 : Int32) (h : sv_H) : Option (Int32 × sv_H) :=
  sv_let (sv_maxl x0 (Int32.toInt64 x2)) fun r1 =>
  sv_let (sv_minl r1 (Int32.toInt64 x3)) fun r2 =>
  some (Int64.toInt32 r2, h)

def fn_X2_texel (x0 : Nat) (x1 : Int32) (x2 : Int64) (x4 : Int64) (h : sv_H) : Option (Int32 × sv_H) :=
  sv_kd h 3 x0 (
  if x1 = ((-1)) then
    some (0, h)
  else
    (sv_gP h 3 304 x0).bind fun v1 =>
    (sv_lI h v1 x1).bind fun v2 =>
    (sv_gP h 3 305 x0).bind fun v3 =>
    (sv_lI h v3 x1).bind fun v4 =>
    (sv_gP h 3 300 x0).bind fun v5 =>
    (sv_gP h 1 100 v5).bind fun v6 =>
    (sv_gP h 3 306 x0).bind fun v7 =>
    (sv_lI h v7 x1).bind fun v8 =>
    (sv_gP h 3 304 x0).bind fun v9 =>
    (sv_lI h v9 x1).bind fun v10 =>
    (sv_lI h v6 ((v8 + ((Int64.toInt32 (x4 &&& (Int32.toInt64 (v4 - 1)))) * v10)) + (Int64.toInt32 (x2 &&& (Int32.toInt64 (v2 - 1)))))).bind fun v11 =>
    some (v11, h)
  )

def fn_X9_paintPlane_46 (k3 : Nat → Nat → Int32 → Int32 → Int32 → Int32 → Int32 → sv_H → Option (Unit × sv_H)) (x0 : Nat) (x1 : Nat) (x3 : Int32) (x4 : Int32) (x5 : Int32) (x6 : Int32) (x7 : Int32) (x8 : Int64) (x10 : Int64) (h : sv_H) : Option (Unit × sv_H) :=
  (sv_gP h 10 1000 x0).bind fun v1 =>
  (sv_gI h 4 407 v1).bind fun v2 =>
  (sv_gP h 10 1000 x0).bind fun v3 =>
  (sv_gI h 4 409 v3).bind fun v4 =>
  sv_b (fn_J9_floorDiv_f86c9 ((Int32.toInt64 v4) * x8) x10 h) fun r5 h6 =>
  (sv_gP h6 10 1000 x0).bind fun v7 =>
  (sv_gI h6 4 408 v7).bind fun v8 =>
  (sv_gP h6 10 1000 x0).bind fun v9 =>
  (sv_gI h6 4 410 v9).bind fun v10 =>
  sv_b (fn_J9_floorDiv_f86c9 ((Int32.toInt64 v10) * x8) x10 h6) fun r11 h12 =>
  sv_b (fn_J9_floorDiv_f86c9 (64 * x8) x10 h12) fun r13 h14 =>
  sv_let (sv_maxl ((Int32.toInt64 x6) - r13) 0) fun r15 =>
  (sv_gP h14 10 1002 x0).bind fun v16 =>
  sv_b (fn_X2_texel x1 x5 ((Int32.toInt64 v2) + r5) ((Int32.toInt64 v8) + r11) h14) fun r17 h18 =>
  (sv_sI h18 v16 x7 ((16 * r17) + (Int64.toInt32 r15))).bind fun h19 =>
  k3 x0 x1 x3 x4 x5 x6 (x7 + 1) h19

def fn_X9_paintPlane_3b (k3 : Nat → Nat → Int32 → Int32 → Int32 → Int32 → Int32 → sv_H → Option (Unit × sv_H)) (x0 : Nat) (x1 : Nat) (x3 : Int32) (x4 : Int32) (x5 : Int32) (x6 : Int32) (x7 : Int32) (h : sv_H) : Option (Unit × sv_H) :=
  if x3 ≤ x7 then
    some ((), h)
  else
    (sv_gI h 10 1005 x0).bind fun v1 =>
    if 0 < (lg_cmp ((Int32.toInt64 (x4 - v1)) * (Int32.toInt64 ((47 - (2 * x7)) * 256))) 0) then
      fn_X9_paintPlane_46 k3 x0 x1 x3 x4 x5 x6 x7 (Int32.toInt64 (x4 - v1)) (Int32.toInt64 ((47 - (2 * x7)) * 256)) h
    else
      fn_X9_paintPlane_46 k3 x0 x1 x3 x4 x5 x6 x7 0 (Int32.toInt64 ((47 - (2 * x7)) * 256)) h

def fn_X9_paintPlane_3 : Nat → Nat → Nat → Int32 → Int32 → Int32 → Int32 → Int32 → sv_H → Option (Unit × sv_H)
  | 0, _, _, _, _, _, _, _, _ => none
  | sv_n + 1, x0, x1, x3, x4, x5, x6, x7, h => fn_X9_paintPlane_3b (fn_X9_paintPlane_3 sv_n) x0 x1 x3 x4 x5 x6 x7 h

def fn_X9_paintPlane (x0 : Nat) (x1 : Nat) (x2 : Int32) (x3 : Int32) (x4 : Int32) (x5 : Int32) (x6 : Int32) (h : sv_H) : Option (Unit × sv_H) :=
  sv_kd h 10 x0 (
  fn_X9_paintPlane_3 sv_fuel x0 x1 x3 x4 x5 x6 x2 h
  )

def fn_X9_markRows_3b (k3 : Nat → Int32 → Int32 → Int32 → sv_H → Option (Unit × sv_H)) (x0 : Nat) (x2 : Int32) (x3 : Int32) (x4 : Int32) (h : sv_H) : Option (Unit × sv_H) :=
  if x2 ≤ x4 then
    some ((), h)
  else
    (sv_gP h 10 1001 x0).bind fun v1 =>
    (sv_sI h v1 x4 x3).bind fun h2 =>
    k3 x0 x2 x3 (x4 + 1) h2

def fn_X9_markRows_3 : Nat → Nat → Int32 → Int32 → Int32 → sv_H → Option (Unit × sv_H)
  | 0, _, _, _, _, _ => none
  | sv_n + 1, x0, x2, x3, x4, h => fn_X9_markRows_3b (fn_X9_markRows_3 sv_n) x0 x2 x3 x4 h

def fn_X9_markRows (x0 : Nat) (x1 : Int32) (x2 : Int32) (x3 : Int32) (h : sv_H) : Option (Unit × sv_H) :=
  sv_kd h 10 x0 (
  fn_X9_markRows_3 sv_fuel x0 x2 x3 x1 h
  )

def fn_X9_paintCeiling_60b (k60 : Nat → Int32 → Int32 → Int32 → sv_H → Option (Unit × sv_H)) (x0 : Nat) (x2 : Int32) (x3 : Int32) (x6 : Int32) (h : sv_H) : Option (Unit × sv_H) :=
  if x2 ≤ x6 then
    (sv_gI h 10 1006 x0).bind fun v1 =>
    sv_b (fn_X9_markRows x0 v1 x2 (1536 + x3) h) fun _ h2 =>
    some ((), h2)
  else
    (sv_gP h 10 1002 x0).bind fun v3 =>
    (sv_sI h v3 x6 ((16 * (15 - (x6 / 4))) + 15)).bind fun h4 =>
    k60 x0 x2 x3 (x6 + 1) h4

def fn_X9_paintCeiling_60 : Nat → Nat → Int32 → Int32 → Int32 → sv_H → Option (Unit × sv_H)
  | 0, _, _, _, _, _ => none
  | sv_n + 1, x0, x2, x3, x6, h => fn_X9_paintCeiling_60b (fn_X9_paintCeiling_60 sv_n) x0 x2 x3 x6 h

def fn_X9_paintCeiling (x0 : Nat) (x1 : Nat) (x2 : Int32) (x3 : Int32) (x4 : Int32) (h : sv_H) : Option (Unit × sv_H) :=
  sv_kd h 10 x0 (
  (sv_gP h 3 307 x1).bind fun v1 =>
  (sv_lP 917 h v1 x3).bind fun v2 =>
  (sv_gI h 7 703 v2).bind fun v3 =>
  if v3 = ((-1)) then
    (sv_gI h 10 1006 x0).bind fun v4 =>
    fn_X9_paintCeiling_60 sv_fuel x0 x2 x3 v4 h
  else
    (sv_gI h 10 1006 x0).bind fun v5 =>
    (sv_gI h 7 708 v2).bind fun v6 =>
    (sv_gI h 7 703 v2).bind fun v7 =>
    sv_b (fn_X9_paintPlane x0 x1 v5 x2 v6 v7 x4 h) fun _ h8 =>
    (sv_gI h8 10 1006 x0).bind fun v9 =>
    sv_b (fn_X9_markRows x0 v9 x2 (256 + x3) h8) fun _ h10 =>
    some ((), h10)
  )

def fn_X11_length (x0 : Nat) (h : sv_H) : Option (Int32 × sv_H) :=
  sv_kd h 12 x0 (
  (sv_gI h 12 1202 x0).bind fun v1 =>
  (sv_gI h 12 1200 x0).bind fun v2 =>
  sv_let (sv_abs (v1 - v2)) fun r3 =>
  (sv_gI h 12 1203 x0).bind fun v4 =>
  (sv_gI h 12 1201 x0).bind fun v5 =>
  sv_let (sv_abs (v4 - v5)) fun r6 =>
  sv_let (sv_max r3 r6) fun r7 =>
  some (r7, h)
  )

def fn_X9_acrossAt_33 (x0 : Nat) (x1 : Nat) (x2 : Int32) (s0 : Int64) (h : sv_H) : Option (Int64 × sv_H) :=
  sv_b (fn_X11_length x1 h) fun r1 h2 =>
  sv_let (sv_absl s0) fun r3 =>
  (sv_gP h2 10 1000 x0).bind fun v4 =>
  (sv_gP h2 4 403 v4).bind fun v5 =>
  (sv_lJ h2 v5 x2).bind fun v6 =>
  if v6 = 0 then none else
  some (((Int32.toInt64 r1) * r3) / v6, h2)

def fn_X9_acrossAt (x0 : Nat) (x1 : Nat) (x2 : Int32) (h : sv_H) : Option (Int64 × sv_H) :=
  sv_kd h 10 x0 (
  (sv_gP h 10 1000 x0).bind fun v1 =>
  (sv_gP h 4 401 v1).bind fun v2 =>
  (sv_lZ h v2 x2).bind fun v3 =>
  if v3 = 0 then
    (sv_gP h 10 1000 x0).bind fun v4 =>
    (sv_gP h 4 405 v4).bind fun v5 =>
    (sv_lJ h v5 x2).bind fun v6 =>
    fn_X9_acrossAt_33 x0 x1 x2 v6 h
  else
    (sv_gP h 10 1000 x0).bind fun v7 =>
    (sv_gP h 4 404 v7).bind fun v8 =>
    (sv_lJ h v8 x2).bind fun v9 =>
    fn_X9_acrossAt_33 x0 x1 x2 v9 h
  )

def fn_X2_heightOf_15 (s0 : Int32) (h : sv_H) : Option (Int32 × sv_H) :=
  some (s0, h)

def fn_X2_heightOf (x0 : Nat) (x1 : Int32) (h : sv_H) : Option (Int32 × sv_H) :=
  sv_kd h 3 x0 (
  if x1 = ((-1)) then
    fn_X2_heightOf_15 0 h
  else
    (sv_gP h 3 305 x0).bind fun v1 =>
    (sv_lI h v1 x1).bind fun v2 =>
    fn_X2_heightOf_15 v2 h
  )

def fn_X9_anchorOf_142 (s0 : Int32) (h : sv_H) : Option (Int32 × sv_H) :=
  some (s0, h)

def fn_X9_anchorOf_123 (s0 : Int32) (h : sv_H) : Option (Int32 × sv_H) :=
  some (s0, h)

def fn_X9_anchorOf_87 (x2 : Nat) (x3 : Int32) (x5 : Int32) (x6 : Nat) (x7 : Int32) (s0 : Nat) (s1 : Nat) (s2 : Int32) (h : sv_H) : Option (Int32 × sv_H) :=
  sv_b (fn_X11_sectorOn s1 s2 h) fun r1 h2 =>
  (sv_lP 917 h2 s0 r1).bind fun v3 =>
  if x3 = 4 then
    (sv_gI h2 12 1208 x2).bind fun v6 =>
    if (v6 &&& 1) = 0 then
      (sv_gI h2 7 708 v3).bind fun v7 =>
      fn_X9_anchorOf_123 (v7 + x5) h2
    else
      (sv_gI h2 7 708 x6).bind fun v8 =>
      fn_X9_anchorOf_123 v8 h2
  else
    if x7 = 0 then
      (sv_gI h2 7 707 v3).bind fun v4 =>
      fn_X9_anchorOf_142 v4 h2
    else
      (sv_gI h2 7 708 x6).bind fun v5 =>
      fn_X9_anchorOf_142 v5 h2

def fn_X9_anchorOf_63 (s0 : Int32) (h : sv_H) : Option (Int32 × sv_H) :=
  some (s0, h)

def fn_X9_anchorOf_35 (x0 : Nat) (x1 : Nat) (x2 : Nat) (x3 : Int32) (x4 : Int32) (x5 : Int32) (x6 : Nat) (s0 : Int32) (h : sv_H) : Option (Int32 × sv_H) :=
  if x3 = 3 then
    if s0 = 0 then
      (sv_gI h 7 708 x6).bind fun v5 =>
      fn_X9_anchorOf_63 v5 h
    else
      (sv_gI h 7 707 x6).bind fun v6 =>
      fn_X9_anchorOf_63 (v6 + x5) h
  else
    (sv_gP h 3 307 x1).bind fun v1 =>
    (sv_gP h 10 1000 x0).bind fun v2 =>
    (sv_gP h 4 401 v2).bind fun v3 =>
    (sv_lZ h v3 x4).bind fun v4 =>
    if v4 = 0 then
      fn_X9_anchorOf_87 x2 x3 x5 x6 s0 v1 x2 1 h
    else
      fn_X9_anchorOf_87 x2 x3 x5 x6 s0 v1 x2 0 h

def fn_X9_anchorOf (x0 : Nat) (x1 : Nat) (x2 : Nat) (x3 : Int32) (x4 : Int32) (x5 : Int32) (h : sv_H) : Option (Int32 × sv_H) :=
  sv_kd h 10 x0 (
  (sv_gP h 3 307 x1).bind fun v1 =>
  (sv_gP h 10 1000 x0).bind fun v2 =>
  (sv_gP h 4 401 v2).bind fun v3 =>
  (sv_lZ h v3 x4).bind fun v4 =>
  sv_b (fn_X11_sectorOn x2 v4 h) fun r5 h6 =>
  (sv_lP 917 h6 v1 r5).bind fun v7 =>
  (sv_gI h6 12 1208 x2).bind fun v8 =>
  if (v8 &&& 2) = 0 then
    fn_X9_anchorOf_35 x0 x1 x2 x3 x4 x5 v7 0 h6
  else
    fn_X9_anchorOf_35 x0 x1 x2 x3 x4 x5 v7 1 h6
  )

def fn_X9_paintWall_159b (k159 : Nat → Nat → Int32 → Int32 → Int32 → Int32 → Int32 → Int64 → Int64 → Int64 → Int32 → sv_H → Option (Unit × sv_H)) (x0 : Nat) (x1 : Nat) (x2 : Int32) (x3 : Int32) (x4 : Int32) (x5 : Int32) (x9 : Int32) (x10 : Int64) (x12 : Int64) (x14 : Int64) (x16 : Int32) (h : sv_H) : Option (Unit × sv_H) :=
  if x3 ≤ x16 then
    (sv_gP h 10 1000 x0).bind fun v1 =>
    (sv_gP h 4 400 v1).bind fun v2 =>
    (sv_lI h v2 x5).bind fun v3 =>
    sv_b (fn_X9_markRows x0 x2 x3 ((256 * x4) + v3) h) fun _ h4 =>
    some ((), h4)
  else
    (sv_gI h 10 1005 x0).bind fun v5 =>
    (sv_gP h 10 1000 x0).bind fun v6 =>
    (sv_gP h 4 402 v6).bind fun v7 =>
    (sv_lJ h v7 x5).bind fun v8 =>
    (sv_gP h 10 1000 x0).bind fun v9 =>
    (sv_gP h 4 403 v9).bind fun v10 =>
    (sv_lJ h v10 x5).bind fun v11 =>
    sv_b (fn_J9_floorDiv_f86c9 ((Int32.toInt64 ((47 - (2 * x16)) * 256)) * v8) v11 h) fun r12 h13 =>
    (sv_gP h13 10 1002 x0).bind fun v14 =>
    sv_b (fn_X2_texel x1 x9 x10 (x12 - ((Int32.toInt64 v5) + r12)) h13) fun r15 h16 =>
    (sv_sI h16 v14 x16 ((16 * r15) + (Int64.toInt32 x14))).bind fun h17 =>
    k159 x0 x1 x2 x3 x4 x5 x9 x10 x12 x14 (x16 + 1) h17

def fn_X9_paintWall_159 : Nat → Nat → Nat → Int32 → Int32 → Int32 → Int32 → Int32 → Int64 → Int64 → Int64 → Int32 → sv_H → Option (Unit × sv_H)
  | 0, _, _, _, _, _, _, _, _, _, _, _, _ => none
  | sv_n + 1, x0, x1, x2, x3, x4, x5, x9, x10, x12, x14, x16, h => fn_X9_paintWall_159b (fn_X9_paintWall_159 sv_n) x0 x1 x2 x3 x4 x5 x9 x10 x12 x14 x16 h

def fn_X9_paintWall_73 (x0 : Nat) (x1 : Nat) (x2 : Int32) (x3 : Int32) (x4 : Int32) (x5 : Int32) (x6 : Int32) (x7 : Nat) (s0 : Nat) (s1 : Int32) (h : sv_H) : Option (Unit × sv_H) :=
  (sv_lI h s0 s1).bind fun v1 =>
  sv_b (fn_X9_acrossAt x0 x7 x5 h) fun r2 h3 =>
  (sv_gI h3 12 1206 x7).bind fun v4 =>
  sv_b (fn_X2_heightOf x1 v1 h3) fun r5 h6 =>
  sv_b (fn_X9_anchorOf x0 x1 x7 x4 x5 r5 h6) fun r7 h8 =>
  (sv_gI h8 12 1207 x7).bind fun v9 =>
  (sv_gP h8 10 1000 x0).bind fun v10 =>
  (sv_gP h8 4 402 v10).bind fun v11 =>
  (sv_lJ h8 v11 x5).bind fun v12 =>
  (sv_gP h8 10 1000 x0).bind fun v13 =>
  (sv_gP h8 4 403 v13).bind fun v14 =>
  (sv_lJ h8 v14 x5).bind fun v15 =>
  if v15 = 0 then none else
  sv_let (sv_maxl ((Int32.toInt64 x6) - ((64 * v12) / v15)) 0) fun r16 =>
  fn_X9_paintWall_159 sv_fuel x0 x1 x2 x3 x4 x5 v1 (r2 + (Int32.toInt64 v4)) (Int32.toInt64 ((r7 - 1) + v9)) r16 x2 h8

def fn_X9_paintWall_44 (x0 : Nat) (x1 : Nat) (x2 : Int32) (x3 : Int32) (x4 : Int32) (x5 : Int32) (x6 : Int32) (x7 : Nat) (s0 : Int32) (h : sv_H) : Option (Unit × sv_H) :=
  (sv_gP h 12 1211 x7).bind fun v1 =>
  (sv_gP h 10 1000 x0).bind fun v2 =>
  (sv_gP h 4 401 v2).bind fun v3 =>
  (sv_lZ h v3 x5).bind fun v4 =>
  if v4 = 0 then
    fn_X9_paintWall_73 x0 x1 x2 x3 x4 x5 x6 x7 v1 (s0 + 3) h
  else
    fn_X9_paintWall_73 x0 x1 x2 x3 x4 x5 x6 x7 v1 s0 h

def fn_X9_paintWall (x0 : Nat) (x1 : Nat) (x2 : Int32) (x3 : Int32) (x4 : Int32) (x5 : Int32) (x6 : Int32) (h : sv_H) : Option (Unit × sv_H) :=
  sv_kd h 10 x0 (
  if x2 < x3 then
    (sv_gP h 3 308 x1).bind fun v1 =>
    (sv_gP h 10 1000 x0).bind fun v2 =>
    (sv_gP h 4 400 v2).bind fun v3 =>
    (sv_lI h v3 x5).bind fun v4 =>
    (sv_lP 922 h v1 v4).bind fun v5 =>
    if x4 = 4 then
      fn_X9_paintWall_44 x0 x1 x2 x3 x4 x5 x6 v5 0 h
    else
      if x4 = 3 then
        fn_X9_paintWall_44 x0 x1 x2 x3 x4 x5 x6 v5 1 h
      else
        fn_X9_paintWall_44 x0 x1 x2 x3 x4 x5 x6 v5 2 h
  else
    some ((), h)
  )

def fn_X9_paintUpTo_258 (x0 : Nat) (x1 : Nat) (x2 : Int32) (x4 : Int32) (x7 : Int32) (x10 : Int32) (s0 : Int32) (h : sv_H) : Option (Unit × sv_H) :=
  sv_b (fn_X9_paintWall x0 x1 s0 x7 5 x2 x4 h) fun _ h1 =>
  (sv_pI h1 10 1006 x0 x10).bind fun h2 =>
  (sv_pI h2 10 1007 x0 s0).bind fun h3 =>
  some ((), h3)

def fn_X9_paintUpTo_208 (x0 : Nat) (x1 : Nat) (x2 : Int32) (x4 : Int32) (x5 : Nat) (x6 : Int32) (x7 : Int32) (x9 : Nat) (s0 : Int32) (h : sv_H) : Option (Unit × sv_H) :=
  sv_b (fn_X9_paintWall x0 x1 x6 s0 4 x2 x4 h) fun _ h1 =>
  (sv_gI h1 7 707 x9).bind fun v2 =>
  (sv_gI h1 7 707 x5).bind fun v3 =>
  if v2 ≤ v3 then
    fn_X9_paintUpTo_258 x0 x1 x2 x4 x7 s0 x7 h1
  else
    (sv_gI h1 7 707 x9).bind fun v4 =>
    sv_b (fn_X9_rowOf x0 v4 x2 h1) fun r5 h6 =>
    sv_b (fn_X9_between r5 s0 x7 h6) fun r7 h8 =>
    fn_X9_paintUpTo_258 x0 x1 x2 x4 x7 s0 r7 h8

def fn_X9_paintUpTo_131 (x0 : Nat) (x1 : Nat) (x2 : Int32) (x4 : Int32) (x5 : Nat) (x6 : Int32) (x7 : Int32) (s0 : Nat) (s1 : Int32) (h : sv_H) : Option (Unit × sv_H) :=
  sv_b (fn_X11_sectorOn s0 s1 h) fun r1 h2 =>
  if r1 = ((-1)) then
    sv_b (fn_X9_paintWall x0 x1 x6 x7 3 x2 x4 h2) fun _ h12 =>
    (sv_gI h12 10 1007 x0).bind fun v13 =>
    (sv_pI h12 10 1006 x0 v13).bind fun h14 =>
    some ((), h14)
  else
    (sv_gP h2 3 307 x1).bind fun v3 =>
    (sv_lP 917 h2 v3 r1).bind fun v4 =>
    (sv_gI h2 7 708 v4).bind fun v5 =>
    (sv_gI h2 7 708 x5).bind fun v6 =>
    if v6 ≤ v5 then
      fn_X9_paintUpTo_208 x0 x1 x2 x4 x5 x6 x7 v4 x6 h2
    else
      (sv_gI h2 7 708 v4).bind fun v7 =>
      sv_b (fn_X9_rowOf x0 v7 x2 h2) fun r8 h9 =>
      sv_b (fn_X9_between r8 x6 x7 h9) fun r10 h11 =>
      fn_X9_paintUpTo_208 x0 x1 x2 x4 x5 x6 x7 v4 r10 h11

def fn_X9_paintUpTo (x0 : Nat) (x1 : Nat) (x2 : Int32) (x3 : Int32) (x4 : Int32) (h : sv_H) : Option (Unit × sv_H) :=
  sv_kd h 10 x0 (
  (sv_gP h 3 307 x1).bind fun v1 =>
  (sv_lP 917 h v1 x3).bind fun v2 =>
  (sv_gI h 7 708 v2).bind fun v3 =>
  sv_b (fn_X9_rowOf x0 v3 x2 h) fun r4 h5 =>
  (sv_gI h5 10 1006 x0).bind fun v6 =>
  (sv_gI h5 10 1007 x0).bind fun v7 =>
  sv_b (fn_X9_between r4 v6 v7 h5) fun r8 h9 =>
  (sv_gI h9 7 707 v2).bind fun v10 =>
  sv_b (fn_X9_rowOf x0 v10 x2 h9) fun r11 h12 =>
  (sv_gI h12 10 1007 x0).bind fun v13 =>
  sv_b (fn_X9_between r11 r8 v13 h12) fun r14 h15 =>
  sv_b (fn_X9_paintCeiling x0 x1 r8 x3 x4 h15) fun _ h16 =>
  (sv_gI h16 10 1007 x0).bind fun v17 =>
  (sv_gI h16 7 707 v2).bind fun v18 =>
  (sv_gI h16 7 702 v2).bind fun v19 =>
  sv_b (fn_X9_paintPlane x0 x1 r14 v17 v18 v19 x4 h16) fun _ h20 =>
  (sv_gI h20 10 1007 x0).bind fun v21 =>
  sv_b (fn_X9_markRows x0 r14 v21 (512 + x3) h20) fun _ h22 =>
  (sv_gP h22 3 308 x1).bind fun v23 =>
  (sv_gP h22 10 1000 x0).bind fun v24 =>
  (sv_gP h22 4 400 v24).bind fun v25 =>
  (sv_lI h22 v25 x2).bind fun v26 =>
  (sv_lP 922 h22 v23 v26).bind fun v27 =>
  (sv_gP h22 10 1000 x0).bind fun v28 =>
  (sv_gP h22 4 401 v28).bind fun v29 =>
  (sv_lZ h22 v29 x2).bind fun v30 =>
  if v30 = 0 then
    fn_X9_paintUpTo_131 x0 x1 x2 x4 v2 r8 r14 v27 1 h22
  else
    fn_X9_paintUpTo_131 x0 x1 x2 x4 v2 r8 r14 v27 0 h22
  )

def fn_X9_look_244 (h : sv_H) : Option (Unit × sv_H) :=
  some ((), h)

def fn_X9_look_238 (k114 : Nat → Nat → Int32 → sv_H → Option (Unit × sv_H)) (x0 : Nat) (x1 : Nat) (x6 : Int32) (h : sv_H) : Option (Unit × sv_H) :=
  k114 x0 x1 (x6 + 1) h

def fn_X9_look_114b (k114 : Nat → Nat → Int32 → sv_H → Option (Unit × sv_H)) (x0 : Nat) (x1 : Nat) (x6 : Int32) (h : sv_H) : Option (Unit × sv_H) :=
  (sv_gP h 10 1000 x0).bind fun v1 =>
  (sv_gI h 4 406 v1).bind fun v2 =>
  if v2 ≤ x6 then
    fn_X9_look_244 h
  else
    (sv_gI h 10 1006 x0).bind fun v3 =>
    (sv_gI h 10 1007 x0).bind fun v4 =>
    if v4 ≤ v3 then
      fn_X9_look_244 h
    else
      (sv_gP h 11 1101 x1).bind fun v5 =>
      (sv_gP h 3 308 v5).bind fun v6 =>
      (sv_gP h 10 1000 x0).bind fun v7 =>
      (sv_gP h 4 400 v7).bind fun v8 =>
      (sv_lI h v8 x6).bind fun v9 =>
      (sv_lP 922 h v6 v9).bind fun v10 =>
      (sv_gP h 10 1000 x0).bind fun v11 =>
      (sv_gP h 4 401 v11).bind fun v12 =>
      (sv_lZ h v12 x6).bind fun v13 =>
      sv_b (fn_X11_sectorOn v10 v13 h) fun r14 h15 =>
      if r14 = ((-1)) then
        fn_X9_look_238 k114 x0 x1 x6 h15
      else
        (sv_gP h15 10 1003 x0).bind fun v16 =>
        (sv_gI h15 10 1004 x0).bind fun v17 =>
        (sv_gP h15 10 1000 x0).bind fun v18 =>
        (sv_gP h15 4 400 v18).bind fun v19 =>
        (sv_lI h15 v19 x6).bind fun v20 =>
        (sv_sI h15 v16 v17 v20).bind fun h21 =>
        (sv_gI h21 10 1004 x0).bind fun v22 =>
        (sv_pI h21 10 1004 x0 (v22 + 1)).bind fun h23 =>
        (sv_gP h23 11 1101 x1).bind fun v24 =>
        (sv_gP h23 11 1101 x1).bind fun v25 =>
        (sv_gP h23 11 1101 x1).bind fun v26 =>
        (sv_gP h23 3 307 v26).bind fun v27 =>
        (sv_lP 917 h23 v27 r14).bind fun v28 =>
        (sv_gI h23 11 1106 x1).bind fun v29 =>
        sv_b (fn_X2_lightIn v25 v28 v29 h23) fun r30 h31 =>
        sv_b (fn_X9_paintUpTo x0 v24 x6 r14 r30 h31) fun _ h32 =>
        fn_X9_look_238 k114 x0 x1 x6 h32

def fn_X9_look_114 : Nat → Nat → Nat → Int32 → sv_H → Option (Unit × sv_H)
  | 0, _, _, _, _ => none
  | sv_n + 1, x0, x1, x6, h => fn_X9_look_114b (fn_X9_look_114 sv_n) x0 x1 x6 h

def fn_X9_look (x0 : Nat) (x1 : Nat) (x2 : Int32) (h : sv_H) : Option (Unit × sv_H) :=
  sv_kd h 10 x0 (
  (sv_gI h 11 1104 x1).bind fun v1 =>
  sv_b (fn_X12_cosine v1 h) fun r2 h3 =>
  (sv_gI h3 11 1104 x1).bind fun v4 =>
  sv_b (fn_X12_sine v4 h3) fun r5 h6 =>
  (sv_gP h6 10 1000 x0).bind fun v7 =>
  (sv_gI h6 11 1102 x1).bind fun v8 =>
  (sv_gI h6 11 1103 x1).bind fun v9 =>
  sv_b (fn_X3_aim v7 v8 v9 ((64 * r2) + (((2 * x2) - 63) * r5)) ((64 * r5) - (((2 * x2) - 63) * r2)) h6) fun _ h10 =>
  (sv_gP h10 10 1000 x0).bind fun v11 =>
  (sv_gP h10 11 1101 x1).bind fun v12 =>
  sv_b (fn_X3_meetAll v11 v12 h10) fun _ h13 =>
  (sv_gP h13 10 1001 x0).bind fun v14 =>
  sv_b (fn_J7_fill_53178 v14 0 h13) fun _ h15 =>
  (sv_gP h15 10 1002 x0).bind fun v16 =>
  sv_b (fn_J7_fill_53178 v16 0 h15) fun _ h17 =>
  sv_b (fn_X10_eye x1 h17) fun r18 h19 =>
  (sv_pI h19 10 1005 x0 r18).bind fun h20 =>
  (sv_pI h20 10 1006 x0 0).bind fun h21 =>
  (sv_pI h21 10 1007 x0 48).bind fun h22 =>
  (sv_pI h22 10 1004 x0 0).bind fun h23 =>
  fn_X9_look_114 sv_fuel x0 x1 0 h23
  )

def fn_X12_pixelAt_18 (h : sv_H) : Option (Int32 × sv_H) :=
  some ((-1), h)

def fn_X12_pixelAt (x0 : Nat) (x1 : Int32) (x2 : Int32) (h : sv_H) : Option (Int32 × sv_H) :=
  sv_kd h 13 x0 (
  sv_b (fn_X12_isSeen x0 x1 h) fun r1 h2 =>
  if r1 = 0 then
    fn_X12_pixelAt_18 h2
  else
    if x2 < 0 then
      fn_X12_pixelAt_18 h2
    else
      if x2 < 48 then
        (sv_gP h2 13 1305 x0).bind fun v3 =>
        (sv_gP h2 13 1304 x0).bind fun v4 =>
        sv_b (fn_X9_look v3 v4 x1 h2) fun _ h5 =>
        (sv_gP h5 13 1305 x0).bind fun v6 =>
        (sv_gP h5 10 1002 v6).bind fun v7 =>
        (sv_lI h5 v7 x2).bind fun v8 =>
        some (v8, h5)
      else
        fn_X12_pixelAt_18 h2
  )

def fn_X17_isPixel_32 (s0 : Int32) (h : sv_H) : Option (Int32 × sv_H) :=
  sv_rz s0 h

def fn_X17_isPixel_31 (h : sv_H) : Option (Int32 × sv_H) :=
  fn_X17_isPixel_32 0 h

def fn_X17_isPixel (x0 : Nat) (x1 : Int32) (x2 : Int32) (h : sv_H) : Option (Int32 × sv_H) :=
  sv_kd h 18 x0 (
  (sv_gI h 18 1809 x0).bind fun v1 =>
  if v1 = 0 then
    fn_X17_isPixel_31 h
  else
    if x1 < 0 then
      fn_X17_isPixel_31 h
    else
      if 64 ≤ x1 then
        fn_X17_isPixel_31 h
      else
        if x2 < 0 then
          fn_X17_isPixel_31 h
        else
          if 48 ≤ x2 then
            fn_X17_isPixel_31 h
          else
            fn_X17_isPixel_32 1 h
  )

def fn_X17_rowOf_56 (s0 : Int32) (h : sv_H) : Option (Int32 × sv_H) :=
  some (s0, h)

def fn_X17_rowOf (x0 : Nat) (x1 : Int32) (x2 : Int32) (x3 : Int32) (h : sv_H) : Option (Int32 × sv_H) :=
  sv_kd h 18 x0 (
  sv_b (fn_X17_eye x0 h) fun r1 h2 =>
  (sv_gJ h2 18 1818 x0).bind fun v3 =>
  (sv_gJ h2 18 1817 x0).bind fun v4 =>
  sv_b (fn_X17_down ((Int32.toInt64 (x1 - r1)) * v3) (512 * v4) h2) fun r5 h6 =>
  if 0 ≤ (lg_cmp (24 - r5) (Int32.toInt64 x2)) then
    if (lg_cmp (24 - r5) (Int32.toInt64 x3)) ≤ 0 then
      fn_X17_rowOf_56 (Int64.toInt32 (24 - r5)) h6
    else
      fn_X17_rowOf_56 x3 h6
  else
    fn_X17_rowOf_56 x2 h6
  )

def fn_X14_texture_13 (h : sv_H) : Option (Int32 × sv_H) :=
  some ((-1), h)

def fn_X14_texture_111 (s0 : Int32) (h : sv_H) : Option (Int32 × sv_H) :=
  some (s0, h)

def fn_X14_texture_110 (h : sv_H) : Option (Int32 × sv_H) :=
  fn_X14_texture_111 ((-1)) h

def fn_X14_texture_59 (s0 : Int32) (h : sv_H) : Option (Int32 × sv_H) :=
  some (s0, h)

def fn_X14_texture (x0 : Nat) (x1 : Int32) (x2 : Int32) (h : sv_H) : Option (Int32 × sv_H) :=
  sv_kd h 15 x0 (
  sv_b (fn_X14_has x0 4 x1 h) fun r1 h2 =>
  if r1 = 0 then
    fn_X14_texture_13 h2
  else
    if 0 ≤ x2 then
      sv_b (fn_X14_textureAt x0 x1 h2) fun r3 h4 =>
      (sv_gP h4 15 1502 x0).bind fun v5 =>
      (sv_lB h4 v5 r3).bind fun v6 =>
      (sv_gP h4 15 1502 x0).bind fun v7 =>
      (sv_lB h4 v7 (r3 + 1)).bind fun v8 =>
      if 2 ≤ x2 then
        if ((1 : Int32) <<< (v8 &&& 31)) ≤ ((x2 - 2) / 16) then
          fn_X14_texture_110 h4
        else
          if ((1 : Int32) <<< (v6 &&& 31)) ≤ ((x2 - 2) - (x2 - 2) / 16 * 16) then
            fn_X14_texture_110 h4
          else
            (sv_gP h4 15 1502 x0).bind fun v9 =>
            (sv_lB h4 v9 (((r3 + 2) + (((1 : Int32) <<< (v6 &&& 31)) * ((x2 - 2) / 16))) + ((x2 - 2) - (x2 - 2) / 16 * 16))).bind fun v10 =>
            fn_X14_texture_111 v10 h4
      else
        if x2 = 0 then
          fn_X14_texture_59 ((1 : Int32) <<< (v6 &&& 31)) h4
        else
          fn_X14_texture_59 ((1 : Int32) <<< (v8 &&& 31)) h4
    else
      fn_X14_texture_13 h2
  )

def fn_X17_modulo (x0 : Int64) (x2 : Int32) (h : sv_H) : Option (Int32 × sv_H) :=
  if (Int32.toInt64 x2) = 0 then none else
  if (Int32.toInt64 x2) = 0 then none else
  some (Int64.toInt32 (((x0 - x0 / (Int32.toInt64 x2) * (Int32.toInt64 x2)) + (Int32.toInt64 x2)) - ((x0 - x0 / (Int32.toInt64 x2) * (Int32.toInt64 x2)) + (Int32.toInt64 x2)) / (Int32.toInt64 x2) * (Int32.toInt64 x2)), h)

def fn_X17_texel (x0 : Nat) (x1 : Int32) (x2 : Int64) (x4 : Int64) (h : sv_H) : Option (Int32 × sv_H) :=
  sv_kd h 18 x0 (
  if x1 = 255 then
    some (0, h)
  else
    (sv_gP h 18 1801 x0).bind fun v1 =>
    sv_b (fn_X14_texture v1 x1 0 h) fun r2 h3 =>
    (sv_gP h3 18 1801 x0).bind fun v4 =>
    sv_b (fn_X14_texture v4 x1 1 h3) fun r5 h6 =>
    (sv_gP h6 18 1801 x0).bind fun v7 =>
    sv_b (fn_X17_modulo x4 r5 h6) fun r8 h9 =>
    sv_b (fn_X17_modulo x2 r2 h9) fun r10 h11 =>
    sv_b (fn_X14_texture v7 x1 ((2 + (16 * r8)) + r10) h11) fun r12 h13 =>
    some (r12, h13)
  )

def fn_X17_shade_28 (s0 : Int32) (h : sv_H) : Option (Int32 × sv_H) :=
  some (s0, h)

def fn_X17_shade (x0 : Nat) (x1 : Int32) (x2 : Int64) (h : sv_H) : Option (Int32 × sv_H) :=
  sv_kd h 18 x0 (
  (sv_gP h 18 1803 x0).bind fun v1 =>
  sv_b (fn_X13_of v1 x1 2 h) fun r2 h3 =>
  if 0 ≤ (lg_cmp ((Int32.toInt64 r2) - x2) 0) then
    fn_X17_shade_28 (Int64.toInt32 ((Int32.toInt64 r2) - x2)) h3
  else
    fn_X17_shade_28 0 h3
  )

def fn_X17_flat_293 (k80 : Nat → Int32 → Int32 → Int32 → Int32 → Int32 → Int64 → Int32 → sv_H → Option (Unit × sv_H)) (x0 : Nat) (x2 : Int32) (x3 : Int32) (x4 : Int32) (x5 : Int32) (x6 : Int32) (x7 : Int64) (x9 : Int32) (s0 : Nat) (s1 : Int32) (s2 : Int32) (h : sv_H) : Option (Unit × sv_H) :=
  (sv_sI h s0 s1 s2).bind fun h1 =>
  k80 x0 x2 x3 x4 x5 x6 x7 (x9 + 1) h1

def fn_X17_flat_289 (k80 : Nat → Int32 → Int32 → Int32 → Int32 → Int32 → Int64 → Int32 → sv_H → Option (Unit × sv_H)) (x0 : Nat) (x2 : Int32) (x3 : Int32) (x4 : Int32) (x5 : Int32) (x6 : Int32) (x7 : Int64) (x9 : Int32) (s0 : Nat) (s1 : Int32) (s2 : Int32) (s3 : Nat) (s4 : Int32) (s5 : Int64) (h : sv_H) : Option (Unit × sv_H) :=
  sv_b (fn_X17_shade s3 s4 s5 h) fun r1 h2 =>
  fn_X17_flat_293 k80 x0 x2 x3 x4 x5 x6 x7 x9 s0 s1 (s2 + r1) h2

def fn_X17_flat_221 (k80 : Nat → Int32 → Int32 → Int32 → Int32 → Int32 → Int64 → Int32 → sv_H → Option (Unit × sv_H)) (x0 : Nat) (x2 : Int32) (x3 : Int32) (x4 : Int32) (x5 : Int32) (x6 : Int32) (x7 : Int64) (x9 : Int32) (x10 : Int64) (x12 : Int32) (x13 : Int64) (x15 : Int64) (s0 : Nat) (s1 : Int32) (s2 : Int32) (s3 : Int32) (h : sv_H) : Option (Unit × sv_H) :=
  (sv_sI h s0 s1 ((s2 * s3) + x4)).bind fun h1 =>
  (sv_gP h1 18 1825 x0).bind fun v2 =>
  if x6 = 0 then
    sv_b (fn_X17_texel x0 x5 x13 x15 h1) fun r3 h4 =>
    if x12 = 0 then
      fn_X17_flat_289 k80 x0 x2 x3 x4 x5 x6 x7 x9 v2 x9 (16 * r3) x0 x4 0 h4
    else
      sv_b (fn_X17_down (64 * x7) x10 h4) fun r5 h6 =>
      fn_X17_flat_289 k80 x0 x2 x3 x4 x5 x6 x7 x9 v2 x9 (16 * r3) x0 x4 r5 h6
  else
    fn_X17_flat_293 k80 x0 x2 x3 x4 x5 x6 x7 x9 v2 x9 ((16 * (15 - (x9 / 4))) + 15) h1

def fn_X17_flat_199 (k80 : Nat → Int32 → Int32 → Int32 → Int32 → Int32 → Int64 → Int32 → sv_H → Option (Unit × sv_H)) (x0 : Nat) (x2 : Int32) (x3 : Int32) (x4 : Int32) (x5 : Int32) (x6 : Int32) (x7 : Int64) (x9 : Int32) (x10 : Int64) (x12 : Int32) (x13 : Int64) (s0 : Int64) (h : sv_H) : Option (Unit × sv_H) :=
  (sv_gP h 18 1824 x0).bind fun v1 =>
  if x6 = 0 then
    fn_X17_flat_221 k80 x0 x2 x3 x4 x5 x6 x7 x9 x10 x12 x13 s0 v1 x9 256 x3 h
  else
    fn_X17_flat_221 k80 x0 x2 x3 x4 x5 x6 x7 x9 x10 x12 x13 s0 v1 x9 256 6 h

def fn_X17_flat_166 (k80 : Nat → Int32 → Int32 → Int32 → Int32 → Int32 → Int64 → Int32 → sv_H → Option (Unit × sv_H)) (x0 : Nat) (x2 : Int32) (x3 : Int32) (x4 : Int32) (x5 : Int32) (x6 : Int32) (x7 : Int64) (x9 : Int32) (x10 : Int64) (x12 : Int32) (s0 : Int64) (h : sv_H) : Option (Unit × sv_H) :=
  if x12 = 0 then
    (sv_gI h 18 1812 x0).bind fun v1 =>
    fn_X17_flat_199 k80 x0 x2 x3 x4 x5 x6 x7 x9 x10 x12 s0 (Int32.toInt64 v1) h
  else
    (sv_gI h 18 1812 x0).bind fun v2 =>
    (sv_gJ h 18 1828 x0).bind fun v3 =>
    sv_b (fn_X17_down (v3 * x7) x10 h) fun r4 h5 =>
    fn_X17_flat_199 k80 x0 x2 x3 x4 x5 x6 x7 x9 x10 x12 s0 ((Int32.toInt64 v2) + r4) h5

def fn_X17_flat_133 (k80 : Nat → Int32 → Int32 → Int32 → Int32 → Int32 → Int64 → Int32 → sv_H → Option (Unit × sv_H)) (x0 : Nat) (x2 : Int32) (x3 : Int32) (x4 : Int32) (x5 : Int32) (x6 : Int32) (x7 : Int64) (x9 : Int32) (x10 : Int64) (s0 : Int32) (h : sv_H) : Option (Unit × sv_H) :=
  if s0 = 0 then
    (sv_gI h 18 1811 x0).bind fun v1 =>
    fn_X17_flat_166 k80 x0 x2 x3 x4 x5 x6 x7 x9 x10 s0 (Int32.toInt64 v1) h
  else
    (sv_gI h 18 1811 x0).bind fun v2 =>
    (sv_gJ h 18 1827 x0).bind fun v3 =>
    sv_b (fn_X17_down (v3 * x7) x10 h) fun r4 h5 =>
    fn_X17_flat_166 k80 x0 x2 x3 x4 x5 x6 x7 x9 x10 s0 ((Int32.toInt64 v2) + r4) h5

def fn_X17_flat_132 (k80 : Nat → Int32 → Int32 → Int32 → Int32 → Int32 → Int64 → Int32 → sv_H → Option (Unit × sv_H)) (x0 : Nat) (x2 : Int32) (x3 : Int32) (x4 : Int32) (x5 : Int32) (x6 : Int32) (x7 : Int64) (x9 : Int32) (x10 : Int64) (h : sv_H) : Option (Unit × sv_H) :=
  fn_X17_flat_133 k80 x0 x2 x3 x4 x5 x6 x7 x9 x10 0 h

def fn_X17_flat_128 (k80 : Nat → Int32 → Int32 → Int32 → Int32 → Int32 → Int64 → Int32 → sv_H → Option (Unit × sv_H)) (x0 : Nat) (x2 : Int32) (x3 : Int32) (x4 : Int32) (x5 : Int32) (x6 : Int32) (x7 : Int64) (x9 : Int32) (x10 : Int64) (h : sv_H) : Option (Unit × sv_H) :=
  fn_X17_flat_133 k80 x0 x2 x3 x4 x5 x6 x7 x9 x10 1 h

def fn_X17_flat_114 (k80 : Nat → Int32 → Int32 → Int32 → Int32 → Int32 → Int64 → Int32 → sv_H → Option (Unit × sv_H)) (x0 : Nat) (x2 : Int32) (x3 : Int32) (x4 : Int32) (x5 : Int32) (x6 : Int32) (x7 : Int64) (x9 : Int32) (x10 : Int64) (h : sv_H) : Option (Unit × sv_H) :=
  if 0 ≤ (lg_cmp x7 0) then
    fn_X17_flat_132 k80 x0 x2 x3 x4 x5 x6 x7 x9 x10 h
  else
    if 0 ≤ (lg_cmp x10 0) then
      fn_X17_flat_132 k80 x0 x2 x3 x4 x5 x6 x7 x9 x10 h
    else
      fn_X17_flat_128 k80 x0 x2 x3 x4 x5 x6 x7 x9 x10 h

def fn_X17_flat_80b (k80 : Nat → Int32 → Int32 → Int32 → Int32 → Int32 → Int64 → Int32 → sv_H → Option (Unit × sv_H)) (x0 : Nat) (x2 : Int32) (x3 : Int32) (x4 : Int32) (x5 : Int32) (x6 : Int32) (x7 : Int64) (x9 : Int32) (h : sv_H) : Option (Unit × sv_H) :=
  if x2 ≤ x9 then
    some ((), h)
  else
    if (lg_cmp x7 0) ≤ 0 then
      fn_X17_flat_114 k80 x0 x2 x3 x4 x5 x6 x7 x9 (Int32.toInt64 ((47 - (2 * x9)) * 256)) h
    else
      if 0 < (lg_cmp (Int32.toInt64 ((47 - (2 * x9)) * 256)) 0) then
        fn_X17_flat_128 k80 x0 x2 x3 x4 x5 x6 x7 x9 (Int32.toInt64 ((47 - (2 * x9)) * 256)) h
      else
        fn_X17_flat_114 k80 x0 x2 x3 x4 x5 x6 x7 x9 (Int32.toInt64 ((47 - (2 * x9)) * 256)) h

def fn_X17_flat_80 : Nat → Nat → Int32 → Int32 → Int32 → Int32 → Int32 → Int64 → Int32 → sv_H → Option (Unit × sv_H)
  | 0, _, _, _, _, _, _, _, _, _ => none
  | sv_n + 1, x0, x2, x3, x4, x5, x6, x7, x9, h => fn_X17_flat_80b (fn_X17_flat_80 sv_n) x0 x2 x3 x4 x5 x6 x7 x9 h

def fn_X17_flat_69 (x0 : Nat) (x1 : Int32) (x2 : Int32) (x3 : Int32) (x4 : Int32) (x5 : Int32) (x6 : Int32) (s0 : Int32) (h : sv_H) : Option (Unit × sv_H) :=
  sv_b (fn_X17_eye x0 h) fun r1 h2 =>
  fn_X17_flat_80 sv_fuel x0 x2 x3 x4 x5 x6 (Int32.toInt64 (s0 - r1)) x1 h2

def fn_X17_flat_39 (x0 : Nat) (x1 : Int32) (x2 : Int32) (x3 : Int32) (x4 : Int32) (x5 : Int32) (s0 : Int32) (h : sv_H) : Option (Unit × sv_H) :=
  if x3 = 1 then
    (sv_gP h 18 1803 x0).bind fun v4 =>
    (sv_gP h 14 1409 v4).bind fun v5 =>
    (sv_lI h v5 x4).bind fun v6 =>
    fn_X17_flat_69 x0 x1 x2 x3 x4 x5 s0 v6 h
  else
    (sv_gP h 18 1803 x0).bind fun v1 =>
    (sv_gP h 14 1408 v1).bind fun v2 =>
    (sv_lI h v2 x4).bind fun v3 =>
    fn_X17_flat_69 x0 x1 x2 x3 x4 x5 s0 v3 h

def fn_X17_flat_38 (x0 : Nat) (x1 : Int32) (x2 : Int32) (x3 : Int32) (x4 : Int32) (x5 : Int32) (h : sv_H) : Option (Unit × sv_H) :=
  fn_X17_flat_39 x0 x1 x2 x3 x4 x5 0 h

def fn_X17_flat_16 (x0 : Nat) (x1 : Int32) (x2 : Int32) (x3 : Int32) (x4 : Int32) (s0 : Nat) (s1 : Int32) (s2 : Int32) (h : sv_H) : Option (Unit × sv_H) :=
  sv_b (fn_X14_sector s0 s1 s2 h) fun r1 h2 =>
  if x3 = 1 then
    if r1 = 255 then
      fn_X17_flat_39 x0 x1 x2 x3 x4 r1 1 h2
    else
      fn_X17_flat_38 x0 x1 x2 x3 x4 r1 h2
  else
    fn_X17_flat_38 x0 x1 x2 x3 x4 r1 h2

def fn_X17_flat (x0 : Nat) (x1 : Int32) (x2 : Int32) (x3 : Int32) (x4 : Int32) (h : sv_H) : Option (Unit × sv_H) :=
  sv_kd h 18 x0 (
  (sv_gP h 18 1801 x0).bind fun v1 =>
  if x3 = 1 then
    fn_X17_flat_16 x0 x1 x2 x3 x4 v1 x4 3 h
  else
    fn_X17_flat_16 x0 x1 x2 x3 x4 v1 x4 2 h
  )

def fn_X17_part_393b (k393 : Nat → Int32 → Int32 → Int32 → Int32 → Int32 → Int64 → Int32 → Int32 → sv_H → Option (Unit × sv_H)) (x0 : Nat) (x2 : Int32) (x3 : Int32) (x4 : Int32) (x7 : Int32) (x11 : Int32) (x18 : Int64) (x20 : Int32) (x21 : Int32) (h : sv_H) : Option (Unit × sv_H) :=
  if x2 ≤ x21 then
    some ((), h)
  else
    sv_b (fn_X17_eye x0 h) fun r1 h2 =>
    (sv_gJ h2 18 1817 x0).bind fun v3 =>
    (sv_gJ h2 18 1818 x0).bind fun v4 =>
    sv_b (fn_X17_down (((Int32.toInt64 (47 - (2 * x21))) * 256) * v3) v4 h2) fun r5 h6 =>
    (sv_gP h6 18 1824 x0).bind fun v7 =>
    (sv_sI h6 v7 x21 ((256 * x3) + x4)).bind fun h8 =>
    (sv_gP h8 18 1825 x0).bind fun v9 =>
    sv_b (fn_X17_wallPart x0 x4 11 h8) fun r10 h11 =>
    sv_b (fn_X17_texel x0 x7 x18 (((Int32.toInt64 (x11 - 1)) - ((Int32.toInt64 r1) + r5)) + (Int32.toInt64 r10)) h11) fun r12 h13 =>
    (sv_sI h13 v9 x21 ((16 * r12) + x20)).bind fun h14 =>
    k393 x0 x2 x3 x4 x7 x11 x18 x20 (x21 + 1) h14

def fn_X17_part_393 : Nat → Nat → Int32 → Int32 → Int32 → Int32 → Int32 → Int64 → Int32 → Int32 → sv_H → Option (Unit × sv_H)
  | 0, _, _, _, _, _, _, _, _, _, _ => none
  | sv_n + 1, x0, x2, x3, x4, x7, x11, x18, x20, x21, h => fn_X17_part_393b (fn_X17_part_393 sv_n) x0 x2 x3 x4 x7 x11 x18 x20 x21 h

def fn_X17_part_355 (x0 : Nat) (x1 : Int32) (x2 : Int32) (x3 : Int32) (x4 : Int32) (x5 : Int32) (x7 : Int32) (x11 : Int32) (s0 : Int64) (h : sv_H) : Option (Unit × sv_H) :=
  sv_b (fn_X17_wallPart x0 x4 10 h) fun r1 h2 =>
  (sv_gJ h2 18 1817 x0).bind fun v3 =>
  (sv_gJ h2 18 1818 x0).bind fun v4 =>
  sv_b (fn_X17_down (64 * v3) v4 h2) fun r5 h6 =>
  sv_b (fn_X17_shade x0 x5 r5 h6) fun r7 h8 =>
  fn_X17_part_393 sv_fuel x0 x2 x3 x4 x7 x11 (s0 + (Int32.toInt64 r1)) r7 x1 h8

def fn_X17_part_305 (x0 : Nat) (x1 : Int32) (x2 : Int32) (x3 : Int32) (x4 : Int32) (x5 : Int32) (x7 : Int32) (x11 : Int32) (s0 : Int64) (h : sv_H) : Option (Unit × sv_H) :=
  (sv_gI h 18 1819 x0).bind fun v1 =>
  if v1 = 0 then
    (sv_gJ h 18 1816 x0).bind fun v2 =>
    (sv_gJ h 18 1816 x0).bind fun v3 =>
    (sv_gJ h 18 1815 x0).bind fun v4 =>
    sv_b (fn_X17_down (s0 * v2) (v3 - v4) h) fun r5 h6 =>
    fn_X17_part_355 x0 x1 x2 x3 x4 x5 x7 x11 r5 h6
  else
    (sv_gJ h 18 1815 x0).bind fun v7 =>
    (sv_gJ h 18 1815 x0).bind fun v8 =>
    (sv_gJ h 18 1816 x0).bind fun v9 =>
    sv_b (fn_X17_down (s0 * v7) (v8 - v9) h) fun r10 h11 =>
    fn_X17_part_355 x0 x1 x2 x3 x4 x5 x7 x11 r10 h11

def fn_X17_part_288 (x0 : Nat) (x1 : Int32) (x2 : Int32) (x3 : Int32) (x4 : Int32) (x5 : Int32) (x7 : Int32) (x11 : Int32) (x12 : Int64) (s0 : Int64) (h : sv_H) : Option (Unit × sv_H) :=
  if (lg_cmp x12 s0) ≤ 0 then
    fn_X17_part_305 x0 x1 x2 x3 x4 x5 x7 x11 s0 h
  else
    fn_X17_part_305 x0 x1 x2 x3 x4 x5 x7 x11 x12 h

def fn_X17_part_271 (x0 : Nat) (x1 : Int32) (x2 : Int32) (x3 : Int32) (x4 : Int32) (x5 : Int32) (x7 : Int32) (x11 : Int32) (x14 : Int64) (s0 : Int64) (h : sv_H) : Option (Unit × sv_H) :=
  if 0 ≤ (lg_cmp x14 0) then
    fn_X17_part_288 x0 x1 x2 x3 x4 x5 x7 x11 s0 x14 h
  else
    fn_X17_part_288 x0 x1 x2 x3 x4 x5 x7 x11 s0 (-x14) h

def fn_X17_part_206 (x0 : Nat) (x1 : Int32) (x2 : Int32) (x3 : Int32) (x4 : Int32) (x5 : Int32) (x7 : Int32) (s0 : Int32) (h : sv_H) : Option (Unit × sv_H) :=
  (sv_gP h 18 1804 x0).bind fun v1 =>
  (sv_gP h 17 1703 v1).bind fun v2 =>
  (sv_lI h v2 x4).bind fun v3 =>
  (sv_gP h 18 1804 x0).bind fun v4 =>
  (sv_gP h 17 1701 v4).bind fun v5 =>
  (sv_lI h v5 x4).bind fun v6 =>
  (sv_gP h 18 1804 x0).bind fun v7 =>
  (sv_gP h 17 1704 v7).bind fun v8 =>
  (sv_lI h v8 x4).bind fun v9 =>
  (sv_gP h 18 1804 x0).bind fun v10 =>
  (sv_gP h 17 1702 v10).bind fun v11 =>
  (sv_lI h v11 x4).bind fun v12 =>
  if 0 ≤ (lg_cmp (Int32.toInt64 (v3 - v6)) 0) then
    fn_X17_part_271 x0 x1 x2 x3 x4 x5 x7 s0 (Int32.toInt64 (v9 - v12)) (Int32.toInt64 (v3 - v6)) h
  else
    fn_X17_part_271 x0 x1 x2 x3 x4 x5 x7 s0 (Int32.toInt64 (v9 - v12)) (-(Int32.toInt64 (v3 - v6))) h

def fn_X17_part_110 (x0 : Nat) (x1 : Int32) (x2 : Int32) (x3 : Int32) (x4 : Int32) (x5 : Int32) (x6 : Int32) (x7 : Int32) (x8 : Int32) (s0 : Int32) (h : sv_H) : Option (Unit × sv_H) :=
  (sv_gP h 18 1803 x0).bind fun v1 =>
  (sv_gP h 14 1409 v1).bind fun v2 =>
  (sv_lI h v2 x5).bind fun v3 =>
  if x3 = 4 then
    if s0 = 0 then
      (sv_gP h 18 1803 x0).bind fun v10 =>
      (sv_gP h 14 1409 v10).bind fun v11 =>
      (sv_lI h v11 x6).bind fun v12 =>
      fn_X17_part_206 x0 x1 x2 x3 x4 x5 x7 (v12 + x8) h
    else
      fn_X17_part_206 x0 x1 x2 x3 x4 x5 x7 v3 h
  else
    if x3 = 3 then
      if s0 = 0 then
        fn_X17_part_206 x0 x1 x2 x3 x4 x5 x7 v3 h
      else
        (sv_gP h 18 1803 x0).bind fun v7 =>
        (sv_gP h 14 1408 v7).bind fun v8 =>
        (sv_lI h v8 x5).bind fun v9 =>
        fn_X17_part_206 x0 x1 x2 x3 x4 x5 x7 (v9 + x8) h
    else
      if s0 = 0 then
        (sv_gP h 18 1803 x0).bind fun v4 =>
        (sv_gP h 14 1408 v4).bind fun v5 =>
        (sv_lI h v5 x6).bind fun v6 =>
        fn_X17_part_206 x0 x1 x2 x3 x4 x5 x7 v6 h
      else
        fn_X17_part_206 x0 x1 x2 x3 x4 x5 x7 v3 h

def fn_X17_part_101 (x0 : Nat) (x1 : Int32) (x2 : Int32) (x3 : Int32) (x4 : Int32) (x5 : Int32) (x6 : Int32) (x7 : Int32) (x8 : Int32) (s0 : Int32) (s1 : Int32) (h : sv_H) : Option (Unit × sv_H) :=
  if (s0 &&& s1) = 0 then
    fn_X17_part_110 x0 x1 x2 x3 x4 x5 x6 x7 x8 0 h
  else
    fn_X17_part_110 x0 x1 x2 x3 x4 x5 x6 x7 x8 1 h

def fn_X17_part_81 (x0 : Nat) (x1 : Int32) (x2 : Int32) (x3 : Int32) (x4 : Int32) (x5 : Int32) (x6 : Int32) (x7 : Int32) (s0 : Int32) (h : sv_H) : Option (Unit × sv_H) :=
  sv_b (fn_X17_wallPart x0 x4 12 h) fun r1 h2 =>
  if x3 = 4 then
    fn_X17_part_101 x0 x1 x2 x3 x4 x5 x6 x7 s0 r1 1 h2
  else
    fn_X17_part_101 x0 x1 x2 x3 x4 x5 x6 x7 s0 r1 2 h2

def fn_X17_part_53 (x0 : Nat) (x1 : Int32) (x2 : Int32) (x3 : Int32) (x4 : Int32) (x5 : Int32) (x6 : Int32) (s0 : Nat) (s1 : Int32) (s2 : Int32) (s3 : Int32) (h : sv_H) : Option (Unit × sv_H) :=
  sv_b (fn_X17_wallPart s0 s1 (s2 + s3) h) fun r1 h2 =>
  if r1 = 255 then
    fn_X17_part_81 x0 x1 x2 x3 x4 x5 x6 r1 0 h2
  else
    (sv_gP h2 18 1801 x0).bind fun v3 =>
    sv_b (fn_X14_texture v3 r1 1 h2) fun r4 h5 =>
    fn_X17_part_81 x0 x1 x2 x3 x4 x5 x6 r1 r4 h5

def fn_X17_part_34 (x0 : Nat) (x1 : Int32) (x2 : Int32) (x3 : Int32) (x4 : Int32) (x5 : Int32) (x6 : Int32) (s0 : Nat) (s1 : Int32) (s2 : Int32) (h : sv_H) : Option (Unit × sv_H) :=
  if x3 = 4 then
    fn_X17_part_53 x0 x1 x2 x3 x4 x5 x6 s0 s1 s2 0 h
  else
    if x3 = 3 then
      fn_X17_part_53 x0 x1 x2 x3 x4 x5 x6 s0 s1 s2 1 h
    else
      fn_X17_part_53 x0 x1 x2 x3 x4 x5 x6 s0 s1 s2 2 h

def fn_X17_part (x0 : Nat) (x1 : Int32) (x2 : Int32) (x3 : Int32) (x4 : Int32) (h : sv_H) : Option (Unit × sv_H) :=
  sv_kd h 18 x0 (
  sv_b (fn_X17_sideOf x0 x4 1 h) fun r1 h2 =>
  sv_b (fn_X17_sideOf x0 x4 0 h2) fun r3 h4 =>
  (sv_gI h4 18 1819 x0).bind fun v5 =>
  if v5 = 0 then
    fn_X17_part_34 x0 x1 x2 x3 x4 r1 r3 x0 x4 7 h4
  else
    fn_X17_part_34 x0 x1 x2 x3 x4 r1 r3 x0 x4 4 h4
  )

def fn_X17_column_399 (h : sv_H) : Option (Unit × sv_H) :=
  some ((), h)

def fn_X17_column_393 (k113 : Nat → Int32 → Int32 → Int32 → sv_H → Option (Unit × sv_H)) (x0 : Nat) (x2 : Int32) (x3 : Int32) (x4 : Int32) (h : sv_H) : Option (Unit × sv_H) :=
  k113 x0 x2 x3 (x4 + 1) h

def fn_X17_column_363 (k113 : Nat → Int32 → Int32 → Int32 → sv_H → Option (Unit × sv_H)) (x0 : Nat) (x4 : Int32) (x5 : Int32) (x9 : Int32) (x10 : Int32) (x11 : Int32) (s0 : Int32) (h : sv_H) : Option (Unit × sv_H) :=
  sv_b (fn_X17_part x0 x9 x11 4 x5 h) fun _ h1 =>
  sv_b (fn_X17_part x0 s0 x10 5 x5 h1) fun _ h2 =>
  fn_X17_column_393 k113 x0 x11 s0 x4 h2

def fn_X17_column_315 (k113 : Nat → Int32 → Int32 → Int32 → sv_H → Option (Unit × sv_H)) (x0 : Nat) (x4 : Int32) (x5 : Int32) (x7 : Int32) (x8 : Int32) (x9 : Int32) (x10 : Int32) (s0 : Int32) (h : sv_H) : Option (Unit × sv_H) :=
  (sv_gP h 18 1803 x0).bind fun v1 =>
  (sv_gP h 14 1408 v1).bind fun v2 =>
  (sv_lI h v2 x8).bind fun v3 =>
  (sv_gP h 18 1803 x0).bind fun v4 =>
  (sv_gP h 14 1408 v4).bind fun v5 =>
  (sv_lI h v5 x7).bind fun v6 =>
  if v3 ≤ v6 then
    fn_X17_column_363 k113 x0 x4 x5 x9 x10 s0 x10 h
  else
    (sv_gP h 18 1803 x0).bind fun v7 =>
    (sv_gP h 14 1408 v7).bind fun v8 =>
    (sv_lI h v8 x8).bind fun v9 =>
    sv_b (fn_X17_rowOf x0 v9 s0 x10 h) fun r10 h11 =>
    fn_X17_column_363 k113 x0 x4 x5 x9 x10 s0 r10 h11

def fn_X17_column_113b (k113 : Nat → Int32 → Int32 → Int32 → sv_H → Option (Unit × sv_H)) (x0 : Nat) (x2 : Int32) (x3 : Int32) (x4 : Int32) (h : sv_H) : Option (Unit × sv_H) :=
  (sv_gI h 18 1821 x0).bind fun v1 =>
  if v1 ≤ x4 then
    fn_X17_column_399 h
  else
    if x3 ≤ x2 then
      fn_X17_column_399 h
    else
      (sv_gP h 18 1820 x0).bind fun v2 =>
      (sv_lI h v2 x4).bind fun v3 =>
      sv_b (fn_X17_meets x0 v3 h) fun r4 h5 =>
      sv_b (fn_X17_sideOf x0 v3 1 h5) fun r6 h7 =>
      sv_b (fn_X17_sideOf x0 v3 0 h7) fun r8 h9 =>
      if 0 ≤ r6 then
        (sv_gP h9 18 1822 x0).bind fun v10 =>
        (sv_gI h9 18 1823 x0).bind fun v11 =>
        (sv_sI h9 v10 v11 v3).bind fun h12 =>
        (sv_gI h12 18 1823 x0).bind fun v13 =>
        (sv_pI h12 18 1823 x0 (v13 + 1)).bind fun h14 =>
        (sv_gP h14 18 1803 x0).bind fun v15 =>
        (sv_gP h14 14 1409 v15).bind fun v16 =>
        (sv_lI h14 v16 r6).bind fun v17 =>
        sv_b (fn_X17_rowOf x0 v17 x2 x3 h14) fun r18 h19 =>
        (sv_gP h19 18 1803 x0).bind fun v20 =>
        (sv_gP h19 14 1408 v20).bind fun v21 =>
        (sv_lI h19 v21 r6).bind fun v22 =>
        sv_b (fn_X17_rowOf x0 v22 r18 x3 h19) fun r23 h24 =>
        sv_b (fn_X17_flat x0 x2 r18 1 r6 h24) fun _ h25 =>
        sv_b (fn_X17_flat x0 r23 x3 2 r6 h25) fun _ h26 =>
        if 0 ≤ r8 then
          (sv_gP h26 18 1803 x0).bind fun v27 =>
          (sv_gP h26 14 1409 v27).bind fun v28 =>
          (sv_lI h26 v28 r8).bind fun v29 =>
          (sv_gP h26 18 1803 x0).bind fun v30 =>
          (sv_gP h26 14 1409 v30).bind fun v31 =>
          (sv_lI h26 v31 r6).bind fun v32 =>
          if v32 ≤ v29 then
            fn_X17_column_315 k113 x0 x4 v3 r6 r8 r18 r23 r18 h26
          else
            (sv_gP h26 18 1803 x0).bind fun v33 =>
            (sv_gP h26 14 1409 v33).bind fun v34 =>
            (sv_lI h26 v34 r8).bind fun v35 =>
            sv_b (fn_X17_rowOf x0 v35 r18 r23 h26) fun r36 h37 =>
            fn_X17_column_315 k113 x0 x4 v3 r6 r8 r18 r23 r36 h37
        else
          sv_b (fn_X17_part x0 r18 r23 3 v3 h26) fun _ h38 =>
          fn_X17_column_393 k113 x0 x3 x3 x4 h38
      else
        fn_X17_column_393 k113 x0 x2 x3 x4 h9

def fn_X17_column_113 : Nat → Nat → Int32 → Int32 → Int32 → sv_H → Option (Unit × sv_H)
  | 0, _, _, _, _, _ => none
  | sv_n + 1, x0, x2, x3, x4, h => fn_X17_column_113b (fn_X17_column_113 sv_n) x0 x2 x3 x4 h

def fn_X17_column_81b (k81 : Nat → Int32 → Int32 → Int32 → sv_H → Option (Unit × sv_H)) (x0 : Nat) (x2 : Int32) (x3 : Int32) (x4 : Int32) (h : sv_H) : Option (Unit × sv_H) :=
  if 48 ≤ x4 then
    fn_X17_column_113 sv_fuel x0 x2 x3 0 h
  else
    (sv_gP h 18 1824 x0).bind fun v1 =>
    (sv_sI h v1 x4 0).bind fun h2 =>
    (sv_gP h2 18 1825 x0).bind fun v3 =>
    (sv_sI h2 v3 x4 0).bind fun h4 =>
    k81 x0 x2 x3 (x4 + 1) h4

def fn_X17_column_81 : Nat → Nat → Int32 → Int32 → Int32 → sv_H → Option (Unit × sv_H)
  | 0, _, _, _, _, _ => none
  | sv_n + 1, x0, x2, x3, x4, h => fn_X17_column_81b (fn_X17_column_81 sv_n) x0 x2 x3 x4 h

def fn_X17_column (x0 : Nat) (x1 : Int32) (h : sv_H) : Option (Unit × sv_H) :=
  sv_kd h 18 x0 (
  (sv_gI h 18 1813 x0).bind fun v1 =>
  sv_b (fn_X17_cosine v1 h) fun r2 h3 =>
  (sv_gI h3 18 1813 x0).bind fun v4 =>
  sv_b (fn_X17_sine v4 h3) fun r5 h6 =>
  (sv_gI h6 18 1813 x0).bind fun v7 =>
  sv_b (fn_X17_sine v7 h6) fun r8 h9 =>
  (sv_gI h9 18 1813 x0).bind fun v10 =>
  sv_b (fn_X17_cosine v10 h9) fun r11 h12 =>
  sv_b (fn_X17_gather x0 ((64 * (Int32.toInt64 r2)) + (((2 * (Int32.toInt64 x1)) - 63) * (Int32.toInt64 r5))) ((64 * (Int32.toInt64 r8)) - (((2 * (Int32.toInt64 x1)) - 63) * (Int32.toInt64 r11))) h12) fun _ h13 =>
  (sv_pI h13 18 1823 x0 0).bind fun h14 =>
  fn_X17_column_81 sv_fuel x0 0 48 0 h14
  )

def fn_X17_pixelAt (x0 : Nat) (x1 : Int32) (x2 : Int32) (h : sv_H) : Option (Int32 × sv_H) :=
  sv_kd h 18 x0 (
  (sv_pI h 18 1800 x0 0).bind fun h1 =>
  sv_b (fn_X17_isPixel x0 x1 x2 h1) fun r2 h3 =>
  if r2 = 0 then
    some ((-1), h3)
  else
    sv_b (fn_X17_column x0 x1 h3) fun _ h4 =>
    (sv_gP h4 18 1825 x0).bind fun v5 =>
    (sv_lI h4 v5 x2).bind fun v6 =>
    some (v6, h4)
  )

def fn_X12_surfaceAt_18 (h : sv_H) : Option (Int32 × sv_H) :=
  some ((-1), h)

def fn_X12_surfaceAt (x0 : Nat) (x1 : Int32) (x2 : Int32) (h : sv_H) : Option (Int32 × sv_H) :=
  sv_kd h 13 x0 (
  sv_b (fn_X12_isSeen x0 x1 h) fun r1 h2 =>
  if r1 = 0 then
    fn_X12_surfaceAt_18 h2
  else
    if x2 < 0 then
      fn_X12_surfaceAt_18 h2
    else
      if x2 < 48 then
        (sv_gP h2 13 1305 x0).bind fun v3 =>
        (sv_gP h2 13 1304 x0).bind fun v4 =>
        sv_b (fn_X9_look v3 v4 x1 h2) fun _ h5 =>
        (sv_gP h5 13 1305 x0).bind fun v6 =>
        (sv_gP h5 10 1001 v6).bind fun v7 =>
        (sv_lI h5 v7 x2).bind fun v8 =>
        some (v8, h5)
      else
        fn_X12_surfaceAt_18 h2
  )

def fn_X17_surfaceAt (x0 : Nat) (x1 : Int32) (x2 : Int32) (h : sv_H) : Option (Int32 × sv_H) :=
  sv_kd h 18 x0 (
  (sv_pI h 18 1800 x0 0).bind fun h1 =>
  sv_b (fn_X17_isPixel x0 x1 x2 h1) fun r2 h3 =>
  if r2 = 0 then
    some ((-1), h3)
  else
    sv_b (fn_X17_column x0 x1 h3) fun _ h4 =>
    (sv_gP h4 18 1824 x0).bind fun v5 =>
    (sv_lI h4 v5 x2).bind fun v6 =>
    some (v6, h4)
  )

def fn_X12_metAt_12 (h : sv_H) : Option (Int32 × sv_H) :=
  some ((-1), h)

def fn_X12_metAt_50 (s0 : Int32) (h : sv_H) : Option (Int32 × sv_H) :=
  some (s0, h)

def fn_X12_metAt (x0 : Nat) (x1 : Int32) (x2 : Int32) (h : sv_H) : Option (Int32 × sv_H) :=
  sv_kd h 13 x0 (
  sv_b (fn_X12_isSeen x0 x1 h) fun r1 h2 =>
  if r1 = 0 then
    fn_X12_metAt_12 h2
  else
    if 0 ≤ x2 then
      (sv_gP h2 13 1305 x0).bind fun v3 =>
      (sv_gP h2 13 1304 x0).bind fun v4 =>
      sv_b (fn_X9_look v3 v4 x1 h2) fun _ h5 =>
      (sv_gP h5 13 1305 x0).bind fun v6 =>
      (sv_gI h5 10 1004 v6).bind fun v7 =>
      if v7 ≤ x2 then
        fn_X12_metAt_50 ((-1)) h5
      else
        (sv_gP h5 13 1305 x0).bind fun v8 =>
        (sv_gP h5 10 1003 v8).bind fun v9 =>
        (sv_lI h5 v9 x2).bind fun v10 =>
        fn_X12_metAt_50 v10 h5
    else
      fn_X12_metAt_12 h2
  )

def fn_X17_metAt_43 (s0 : Int32) (h : sv_H) : Option (Int32 × sv_H) :=
  some (s0, h)

def fn_X17_metAt_42 (h : sv_H) : Option (Int32 × sv_H) :=
  fn_X17_metAt_43 ((-1)) h

def fn_X17_metAt (x0 : Nat) (x1 : Int32) (x2 : Int32) (h : sv_H) : Option (Int32 × sv_H) :=
  sv_kd h 18 x0 (
  (sv_pI h 18 1800 x0 0).bind fun h1 =>
  sv_b (fn_X17_isPixel x0 x1 0 h1) fun r2 h3 =>
  if r2 = 0 then
    some ((-1), h3)
  else
    sv_b (fn_X17_column x0 x1 h3) fun _ h4 =>
    if x2 < 0 then
      fn_X17_metAt_42 h4
    else
      (sv_gI h4 18 1823 x0).bind fun v5 =>
      if v5 ≤ x2 then
        fn_X17_metAt_42 h4
      else
        (sv_gP h4 18 1822 x0).bind fun v6 =>
        (sv_lI h4 v6 x2).bind fun v7 =>
        fn_X17_metAt_43 v7 h4
  )

def fn_X12_frameOf_62b (k36 : Nat → Int64 → Int64 → Int32 → sv_H → Option (Int64 × sv_H)) (k62 : Nat → Int64 → Int64 → Int32 → Int64 → Int32 → sv_H → Option (Int64 × sv_H)) (x0 : Nat) (x1 : Int64) (x3 : Int64) (x5 : Int32) (x6 : Int64) (x8 : Int32) (h : sv_H) : Option (Int64 × sv_H) :=
  if 48 ≤ x8 then
    k36 x0 x1 ((31 * x3) + x6) (x5 + 1) h
  else
    (sv_gP h 13 1305 x0).bind fun v1 =>
    (sv_gP h 10 1002 v1).bind fun v2 =>
    (sv_lI h v2 x8).bind fun v3 =>
    k62 x0 x1 x3 x5 ((x1 * x6) + (Int32.toInt64 v3)) (x8 + 1) h

def fn_X12_frameOf_62 (k36 : Nat → Int64 → Int64 → Int32 → sv_H → Option (Int64 × sv_H)) : Nat → Nat → Int64 → Int64 → Int32 → Int64 → Int32 → sv_H → Option (Int64 × sv_H)
  | 0, _, _, _, _, _, _, _ => none
  | sv_n + 1, x0, x1, x3, x5, x6, x8, h => fn_X12_frameOf_62b k36 (fn_X12_frameOf_62 k36 sv_n) x0 x1 x3 x5 x6 x8 h

def fn_X12_frameOf_36b (k36 : Nat → Int64 → Int64 → Int32 → sv_H → Option (Int64 × sv_H)) (x0 : Nat) (x1 : Int64) (x3 : Int64) (x5 : Int32) (h : sv_H) : Option (Int64 × sv_H) :=
  if 64 ≤ x5 then
    some (x3, h)
  else
    (sv_gP h 13 1305 x0).bind fun v1 =>
    (sv_gP h 13 1304 x0).bind fun v2 =>
    sv_b (fn_X9_look v1 v2 x5 h) fun _ h3 =>
    fn_X12_frameOf_62 k36 sv_fuel x0 x1 x3 x5 0 0 h3

def fn_X12_frameOf_36 : Nat → Nat → Int64 → Int64 → Int32 → sv_H → Option (Int64 × sv_H)
  | 0, _, _, _, _, _ => none
  | sv_n + 1, x0, x1, x3, x5, h => fn_X12_frameOf_36b (fn_X12_frameOf_36 sv_n) x0 x1 x3 x5 h

def fn_X12_frameOf_13b (k13 : Nat → Int64 → Int32 → sv_H → Option (Int64 × sv_H)) (x0 : Nat) (x1 : Int64) (x3 : Int32) (h : sv_H) : Option (Int64 × sv_H) :=
  if 64 ≤ x3 then
    fn_X12_frameOf_36 sv_fuel x0 x1 0 0 h
  else
    k13 x0 (x1 * 31) (x3 + 1) h

def fn_X12_frameOf_13 : Nat → Nat → Int64 → Int32 → sv_H → Option (Int64 × sv_H)
  | 0, _, _, _, _ => none
  | sv_n + 1, x0, x1, x3, h => fn_X12_frameOf_13b (fn_X12_frameOf_13 sv_n) x0 x1 x3 h

def fn_X12_frameOf (x0 : Nat) (h : sv_H) : Option (Int64 × sv_H) :=
  sv_kd h 13 x0 (
  sv_b (fn_X12_hasMap x0 h) fun r1 h2 =>
  if r1 = 0 then
    some (0, h2)
  else
    fn_X12_frameOf_13 sv_fuel x0 1 0 h2
  )

def fn_X17_frameOf_68b (k68 : Nat → Int64 → Int32 → sv_H → Option (Int64 × sv_H)) (x0 : Nat) (x1 : Int64) (x3 : Int32) (h : sv_H) : Option (Int64 × sv_H) :=
  if 3072 ≤ x3 then
    some (x1, h)
  else
    (sv_gP h 18 1826 x0).bind fun v1 =>
    (sv_lI h v1 x3).bind fun v2 =>
    k68 x0 ((31 * x1) + (Int32.toInt64 v2)) (x3 + 1) h

def fn_X17_frameOf_68 : Nat → Nat → Int64 → Int32 → sv_H → Option (Int64 × sv_H)
  | 0, _, _, _, _ => none
  | sv_n + 1, x0, x1, x3, h => fn_X17_frameOf_68b (fn_X17_frameOf_68 sv_n) x0 x1 x3 h

def fn_X17_frameOf_29b (k16 : Nat → Int32 → sv_H → Option (Int64 × sv_H)) (k29 : Nat → Int32 → Int32 → sv_H → Option (Int64 × sv_H)) (x0 : Nat) (x1 : Int32) (x2 : Int32) (h : sv_H) : Option (Int64 × sv_H) :=
  if 48 ≤ x2 then
    k16 x0 (x1 + 1) h
  else
    (sv_gP h 18 1826 x0).bind fun v1 =>
    (sv_gP h 18 1825 x0).bind fun v2 =>
    (sv_lI h v2 x2).bind fun v3 =>
    (sv_sI h v1 ((64 * x2) + x1) v3).bind fun h4 =>
    k29 x0 x1 (x2 + 1) h4

def fn_X17_frameOf_29 (k16 : Nat → Int32 → sv_H → Option (Int64 × sv_H)) : Nat → Nat → Int32 → Int32 → sv_H → Option (Int64 × sv_H)
  | 0, _, _, _, _ => none
  | sv_n + 1, x0, x1, x2, h => fn_X17_frameOf_29b k16 (fn_X17_frameOf_29 k16 sv_n) x0 x1 x2 h

def fn_X17_frameOf_16b (k16 : Nat → Int32 → sv_H → Option (Int64 × sv_H)) (x0 : Nat) (x1 : Int32) (h : sv_H) : Option (Int64 × sv_H) :=
  if 64 ≤ x1 then
    fn_X17_frameOf_68 sv_fuel x0 0 0 h
  else
    sv_b (fn_X17_column x0 x1 h) fun _ h1 =>
    fn_X17_frameOf_29 k16 sv_fuel x0 x1 0 h1

def fn_X17_frameOf_16 : Nat → Nat → Int32 → sv_H → Option (Int64 × sv_H)
  | 0, _, _, _ => none
  | sv_n + 1, x0, x1, h => fn_X17_frameOf_16b (fn_X17_frameOf_16 sv_n) x0 x1 h

def fn_X17_frameOf (x0 : Nat) (h : sv_H) : Option (Int64 × sv_H) :=
  sv_kd h 18 x0 (
  (sv_pI h 18 1800 x0 0).bind fun h1 =>
  (sv_gI h1 18 1809 x0).bind fun v2 =>
  if v2 = 0 then
    some (0, h1)
  else
    fn_X17_frameOf_16 sv_fuel x0 0 h1
  )

def fn_X12_nodeOf_22 (h : sv_H) : Option (Int32 × sv_H) :=
  some ((-1), h)

def fn_X12_nodeOf (x0 : Nat) (x1 : Int32) (x2 : Int32) (h : sv_H) : Option (Int32 × sv_H) :=
  sv_kd h 13 x0 (
  sv_b (fn_X12_hasMap x0 h) fun r1 h2 =>
  if r1 = 0 then
    fn_X12_nodeOf_22 h2
  else
    if x1 < 0 then
      fn_X12_nodeOf_22 h2
    else
      (sv_gP h2 13 1303 x0).bind fun v3 =>
      (sv_gI h2 9 911 v3).bind fun v4 =>
      if x1 < v4 then
        if x2 = 0 then
          (sv_gP h2 13 1303 x0).bind fun v5 =>
          (sv_gP h2 9 901 v5).bind fun v6 =>
          (sv_lI h2 v6 x1).bind fun v7 =>
          some (v7, h2)
        else
        if x2 = 1 then
          (sv_gP h2 13 1303 x0).bind fun v8 =>
          (sv_gP h2 9 902 v8).bind fun v9 =>
          (sv_lI h2 v9 x1).bind fun v10 =>
          sv_let (sv_max v10 ((-1))) fun r11 =>
          some (r11, h2)
        else
        if x2 = 2 then
          (sv_gP h2 13 1303 x0).bind fun v12 =>
          (sv_gP h2 9 903 v12).bind fun v13 =>
          (sv_lI h2 v13 x1).bind fun v14 =>
          sv_let (sv_max v14 ((-1))) fun r15 =>
          some (r15, h2)
        else
        if x2 = 3 then
          (sv_gP h2 13 1303 x0).bind fun v16 =>
          (sv_gP h2 9 904 v16).bind fun v17 =>
          (sv_lI h2 v17 x1).bind fun v18 =>
          some (v18, h2)
        else
        if x2 = 4 then
          (sv_gP h2 13 1303 x0).bind fun v19 =>
          (sv_gP h2 9 905 v19).bind fun v20 =>
          (sv_lI h2 v20 x1).bind fun v21 =>
          some (v21, h2)
        else
        if x2 = 5 then
          (sv_gP h2 13 1303 x0).bind fun v22 =>
          (sv_gP h2 9 906 v22).bind fun v23 =>
          (sv_lI h2 v23 x1).bind fun v24 =>
          some (v24, h2)
        else
        some ((-1), h2)
      else
        fn_X12_nodeOf_22 h2
  )

def fn_X16_piece (x0 : Nat) (x1 : Int32) (x2 : Int64) (x4 : Int64) (x6 : Int64) (x8 : Int64) (h : sv_H) : Option (Int32 × sv_H) :=
  sv_kd h 17 x0 (
  (sv_gP h 17 1706 x0).bind fun v1 =>
  (sv_gI h 17 1711 x0).bind fun v2 =>
  (sv_sI h v1 v2 x1).bind fun h3 =>
  (sv_gP h3 17 1707 x0).bind fun v4 =>
  (sv_gI h3 17 1711 x0).bind fun v5 =>
  (sv_sJ h3 v4 v5 x2).bind fun h6 =>
  (sv_gP h6 17 1708 x0).bind fun v7 =>
  (sv_gI h6 17 1711 x0).bind fun v8 =>
  (sv_sJ h6 v7 v8 x4).bind fun h9 =>
  (sv_gP h9 17 1709 x0).bind fun v10 =>
  (sv_gI h9 17 1711 x0).bind fun v11 =>
  (sv_sJ h9 v10 v11 x6).bind fun h12 =>
  (sv_gP h12 17 1710 x0).bind fun v13 =>
  (sv_gI h12 17 1711 x0).bind fun v14 =>
  (sv_sJ h12 v13 v14 x8).bind fun h15 =>
  (sv_gI h15 17 1711 x0).bind fun v16 =>
  (sv_pI h15 17 1711 x0 (v16 + 1)).bind fun h17 =>
  (sv_gI h17 17 1711 x0).bind fun v18 =>
  some (v18 - 1, h17)
  )

def fn_X16_push (x0 : Nat) (x1 : Int32) (x2 : Int32) (x3 : Int32) (x4 : Int32) (h : sv_H) : Option (Unit × sv_H) :=
  sv_kd h 17 x0 (
  (sv_gP h 17 1713 x0).bind fun v1 =>
  (sv_gI h 17 1717 x0).bind fun v2 =>
  (sv_sI h v1 v2 x1).bind fun h3 =>
  (sv_gP h3 17 1714 x0).bind fun v4 =>
  (sv_gI h3 17 1717 x0).bind fun v5 =>
  (sv_sI h3 v4 v5 x2).bind fun h6 =>
  (sv_gP h6 17 1715 x0).bind fun v7 =>
  (sv_gI h6 17 1717 x0).bind fun v8 =>
  (sv_sI h6 v7 v8 x3).bind fun h9 =>
  (sv_gP h9 17 1716 x0).bind fun v10 =>
  (sv_gI h9 17 1717 x0).bind fun v11 =>
  (sv_sI h9 v10 v11 x4).bind fun h12 =>
  (sv_gI h12 17 1717 x0).bind fun v13 =>
  (sv_pI h12 17 1717 x0 (v13 + 1)).bind fun h14 =>
  some ((), h14)
  )

def fn_X16_cross (x0 : Int64) (x2 : Int64) (x4 : Int64) (x6 : Int64) (h : sv_H) : Option (Int64 × sv_H) :=
  some ((x0 * x6) - (x2 * x4), h)

def fn_X16_sideOf (x0 : Nat) (x1 : Int32) (x2 : Int64) (x4 : Int64) (h : sv_H) : Option (Int64 × sv_H) :=
  sv_kd h 17 x0 (
  (sv_gP h 17 1703 x0).bind fun v1 =>
  (sv_lI h v1 x1).bind fun v2 =>
  (sv_gP h 17 1701 x0).bind fun v3 =>
  (sv_lI h v3 x1).bind fun v4 =>
  (sv_gP h 17 1704 x0).bind fun v5 =>
  (sv_lI h v5 x1).bind fun v6 =>
  (sv_gP h 17 1702 x0).bind fun v7 =>
  (sv_lI h v7 x1).bind fun v8 =>
  (sv_gP h 17 1701 x0).bind fun v9 =>
  (sv_lI h v9 x1).bind fun v10 =>
  (sv_gP h 17 1702 x0).bind fun v11 =>
  (sv_lI h v11 x1).bind fun v12 =>
  sv_b (fn_X16_cross (Int32.toInt64 (v2 - v4)) (Int32.toInt64 (v6 - v8)) (x2 - (Int32.toInt64 v10)) (x4 - (Int32.toInt64 v12)) h) fun r13 h14 =>
  some (r13, h14)
  )

def fn_X16_sideAt (x0 : Nat) (x1 : Int32) (x2 : Int32) (x3 : Int64) (x5 : Int64) (h : sv_H) : Option (Int32 × sv_H) :=
  sv_kd h 17 x0 (
  (sv_gP h 17 1701 x0).bind fun v1 =>
  (sv_lI h v1 x2).bind fun v2 =>
  (sv_gP h 17 1702 x0).bind fun v3 =>
  (sv_lI h v3 x2).bind fun v4 =>
  sv_b (fn_X16_sideOf x0 x1 (Int32.toInt64 v2) (Int32.toInt64 v4) h) fun r5 h6 =>
  (sv_gP h6 17 1703 x0).bind fun v7 =>
  (sv_lI h6 v7 x2).bind fun v8 =>
  (sv_gP h6 17 1704 x0).bind fun v9 =>
  (sv_lI h6 v9 x2).bind fun v10 =>
  sv_b (fn_X16_sideOf x0 x1 (Int32.toInt64 v8) (Int32.toInt64 v10) h6) fun r11 h12 =>
  sv_b (fn_X16_order r5 (x5 - x3) (-r11) x3 h12) fun r13 h14 =>
  some (r13, h14)
  )

def fn_X16_lieOf_71 (s0 : Int32) (h : sv_H) : Option (Int32 × sv_H) :=
  some (s0, h)

def fn_X16_lieOf (x0 : Nat) (x1 : Int32) (x2 : Int32) (h : sv_H) : Option (Int32 × sv_H) :=
  sv_kd h 17 x0 (
  (sv_gP h 17 1706 x0).bind fun v1 =>
  (sv_lI h v1 x2).bind fun v2 =>
  (sv_gP h 17 1707 x0).bind fun v3 =>
  (sv_lJ h v3 x2).bind fun v4 =>
  (sv_gP h 17 1708 x0).bind fun v5 =>
  (sv_lJ h v5 x2).bind fun v6 =>
  sv_b (fn_X16_sideAt x0 x1 v2 v4 v6 h) fun r7 h8 =>
  (sv_gP h8 17 1709 x0).bind fun v9 =>
  (sv_lJ h8 v9 x2).bind fun v10 =>
  (sv_gP h8 17 1710 x0).bind fun v11 =>
  (sv_lJ h8 v11 x2).bind fun v12 =>
  sv_b (fn_X16_sideAt x0 x1 v2 v10 v12 h8) fun r13 h14 =>
  if 0 ≤ (r7 * r13) then
    if r7 = 0 then
      fn_X16_lieOf_71 r13 h14
    else
      fn_X16_lieOf_71 r7 h14
  else
    fn_X16_lieOf_71 2 h14
  )

def fn_X16_bestOf_149 (x3 : Int32) (h : sv_H) : Option (Int32 × sv_H) :=
  some (x3, h)

def fn_X16_bestOf_143 (k9 : Nat → Int32 → Int32 → Int32 → Int32 → Int32 → sv_H → Option (Int32 × sv_H)) (x0 : Nat) (x1 : Int32) (x2 : Int32) (x3 : Int32) (x4 : Int32) (x5 : Int32) (h : sv_H) : Option (Int32 × sv_H) :=
  k9 x0 x1 x2 x3 x4 (x5 + 1) h

def fn_X16_bestOf_126 (k9 : Nat → Int32 → Int32 → Int32 → Int32 → Int32 → sv_H → Option (Int32 × sv_H)) (x0 : Nat) (x1 : Int32) (x2 : Int32) (x3 : Int32) (x4 : Int32) (x5 : Int32) (x6 : Int32) (s0 : Int32) (s1 : Int32) (h : sv_H) : Option (Int32 × sv_H) :=
  if x4 ≤ (s0 + s1) then
    fn_X16_bestOf_143 k9 x0 x1 x2 x3 x4 x5 h
  else
    fn_X16_bestOf_143 k9 x0 x1 x2 x6 (s0 + s1) x5 h

def fn_X16_bestOf_100 (k9 : Nat → Int32 → Int32 → Int32 → Int32 → Int32 → sv_H → Option (Int32 × sv_H)) (k47 : Nat → Int32 → Int32 → Int32 → Int32 → Int32 → Int32 → Int32 → Int32 → Int32 → sv_H → Option (Int32 × sv_H)) (x0 : Nat) (x1 : Int32) (x2 : Int32) (x3 : Int32) (x4 : Int32) (x5 : Int32) (x6 : Int32) (x7 : Int32) (x9 : Int32) (s0 : Int32) (s1 : Int32) (h : sv_H) : Option (Int32 × sv_H) :=
  k47 x0 x1 x2 x3 x4 x5 x6 x7 (s0 + s1) (x9 + 1) h

def fn_X16_bestOf_83 (k9 : Nat → Int32 → Int32 → Int32 → Int32 → Int32 → sv_H → Option (Int32 × sv_H)) (k47 : Nat → Int32 → Int32 → Int32 → Int32 → Int32 → Int32 → Int32 → Int32 → Int32 → sv_H → Option (Int32 × sv_H)) (x0 : Nat) (x1 : Int32) (x2 : Int32) (x3 : Int32) (x4 : Int32) (x5 : Int32) (x6 : Int32) (x8 : Int32) (x9 : Int32) (x10 : Int32) (s0 : Int32) (s1 : Int32) (h : sv_H) : Option (Int32 × sv_H) :=
  if x10 = 2 then
    fn_X16_bestOf_100 k9 k47 x0 x1 x2 x3 x4 x5 x6 (s0 + s1) x9 x8 0 h
  else
    fn_X16_bestOf_100 k9 k47 x0 x1 x2 x3 x4 x5 x6 (s0 + s1) x9 x8 x10 h

def fn_X16_bestOf_47b (k9 : Nat → Int32 → Int32 → Int32 → Int32 → Int32 → sv_H → Option (Int32 × sv_H)) (k47 : Nat → Int32 → Int32 → Int32 → Int32 → Int32 → Int32 → Int32 → Int32 → Int32 → sv_H → Option (Int32 × sv_H)) (x0 : Nat) (x1 : Int32) (x2 : Int32) (x3 : Int32) (x4 : Int32) (x5 : Int32) (x6 : Int32) (x7 : Int32) (x8 : Int32) (x9 : Int32) (h : sv_H) : Option (Int32 × sv_H) :=
  if x2 ≤ x9 then
    if 0 ≤ x8 then
      fn_X16_bestOf_126 k9 x0 x1 x2 x3 x4 x5 x6 (4 * x7) x8 h
    else
      fn_X16_bestOf_126 k9 x0 x1 x2 x3 x4 x5 x6 (4 * x7) (-x8) h
  else
    (sv_gP h 17 1712 x0).bind fun v1 =>
    (sv_lI h v1 (x1 + x9)).bind fun v2 =>
    sv_b (fn_X16_lieOf x0 x6 v2 h) fun r3 h4 =>
    if r3 = 2 then
      fn_X16_bestOf_83 k9 k47 x0 x1 x2 x3 x4 x5 x6 x8 x9 r3 x7 1 h4
    else
      fn_X16_bestOf_83 k9 k47 x0 x1 x2 x3 x4 x5 x6 x8 x9 r3 x7 0 h4

def fn_X16_bestOf_47 (k9 : Nat → Int32 → Int32 → Int32 → Int32 → Int32 → sv_H → Option (Int32 × sv_H)) : Nat → Nat → Int32 → Int32 → Int32 → Int32 → Int32 → Int32 → Int32 → Int32 → Int32 → sv_H → Option (Int32 × sv_H)
  | 0, _, _, _, _, _, _, _, _, _, _, _ => none
  | sv_n + 1, x0, x1, x2, x3, x4, x5, x6, x7, x8, x9, h => fn_X16_bestOf_47b k9 (fn_X16_bestOf_47 k9 sv_n) x0 x1 x2 x3 x4 x5 x6 x7 x8 x9 h

def fn_X16_bestOf_9b (k9 : Nat → Int32 → Int32 → Int32 → Int32 → Int32 → sv_H → Option (Int32 × sv_H)) (x0 : Nat) (x1 : Int32) (x2 : Int32) (x3 : Int32) (x4 : Int32) (x5 : Int32) (h : sv_H) : Option (Int32 × sv_H) :=
  if x2 ≤ x5 then
    fn_X16_bestOf_149 x3 h
  else
    if 16 ≤ x5 then
      fn_X16_bestOf_149 x3 h
    else
      (sv_gP h 17 1706 x0).bind fun v1 =>
      (sv_gP h 17 1712 x0).bind fun v2 =>
      (sv_lI h v2 (x1 + x5)).bind fun v3 =>
      (sv_lI h v1 v3).bind fun v4 =>
      fn_X16_bestOf_47 k9 sv_fuel x0 x1 x2 x3 x4 x5 v4 0 0 0 h

def fn_X16_bestOf_9 : Nat → Nat → Int32 → Int32 → Int32 → Int32 → Int32 → sv_H → Option (Int32 × sv_H)
  | 0, _, _, _, _, _, _, _ => none
  | sv_n + 1, x0, x1, x2, x3, x4, x5, h => fn_X16_bestOf_9b (fn_X16_bestOf_9 sv_n) x0 x1 x2 x3 x4 x5 h

def fn_X16_bestOf (x0 : Nat) (x1 : Int32) (x2 : Int32) (h : sv_H) : Option (Int32 × sv_H) :=
  sv_kd h 17 x0 (
  fn_X16_bestOf_9 sv_fuel x0 x1 x2 0 1073741824 0 h
  )

def fn_X16_part_156 (s0 : Int32) (h : sv_H) : Option (Int32 × sv_H) :=
  some (s0, h)

def fn_X16_part_102 (x0 : Nat) (x1 : Int32) (x4 : Int32) (x5 : Int64) (x7 : Int64) (s0 : Int32) (h : sv_H) : Option (Int32 × sv_H) :=
  if s0 = 0 then
    (sv_gP h 17 1709 x0).bind fun v1 =>
    (sv_lJ h v1 x1).bind fun v2 =>
    (sv_gP h 17 1710 x0).bind fun v3 =>
    (sv_lJ h v3 x1).bind fun v4 =>
    sv_b (fn_X16_piece x0 x4 x5 x7 v2 v4 h) fun r5 h6 =>
    fn_X16_part_156 r5 h6
  else
    (sv_gP h 17 1707 x0).bind fun v7 =>
    (sv_lJ h v7 x1).bind fun v8 =>
    (sv_gP h 17 1708 x0).bind fun v9 =>
    (sv_lJ h v9 x1).bind fun v10 =>
    sv_b (fn_X16_piece x0 x4 v8 v10 x5 x7 h) fun r11 h12 =>
    fn_X16_part_156 r11 h12

def fn_X16_part_74 (x0 : Nat) (x1 : Int32) (x2 : Int32) (x3 : Int32) (x4 : Int32) (x5 : Int64) (x7 : Int64) (h : sv_H) : Option (Int32 × sv_H) :=
  (sv_gP h 17 1707 x0).bind fun v1 =>
  (sv_lJ h v1 x1).bind fun v2 =>
  (sv_gP h 17 1708 x0).bind fun v3 =>
  (sv_lJ h v3 x1).bind fun v4 =>
  sv_b (fn_X16_sideAt x0 x2 x4 v2 v4 h) fun r5 h6 =>
  if r5 = x3 then
    fn_X16_part_102 x0 x1 x4 x5 x7 1 h6
  else
    fn_X16_part_102 x0 x1 x4 x5 x7 0 h6

def fn_X16_part (x0 : Nat) (x1 : Int32) (x2 : Int32) (x3 : Int32) (h : sv_H) : Option (Int32 × sv_H) :=
  sv_kd h 17 x0 (
  (sv_gP h 17 1706 x0).bind fun v1 =>
  (sv_lI h v1 x1).bind fun v2 =>
  (sv_gP h 17 1701 x0).bind fun v3 =>
  (sv_lI h v3 v2).bind fun v4 =>
  (sv_gP h 17 1702 x0).bind fun v5 =>
  (sv_lI h v5 v2).bind fun v6 =>
  sv_b (fn_X16_sideOf x0 x2 (Int32.toInt64 v4) (Int32.toInt64 v6) h) fun r7 h8 =>
  (sv_gP h8 17 1703 x0).bind fun v9 =>
  (sv_lI h8 v9 v2).bind fun v10 =>
  (sv_gP h8 17 1704 x0).bind fun v11 =>
  (sv_lI h8 v11 v2).bind fun v12 =>
  sv_b (fn_X16_sideOf x0 x2 (Int32.toInt64 v10) (Int32.toInt64 v12) h8) fun r13 h14 =>
  if 0 ≤ (lg_cmp (r7 - r13) 0) then
    fn_X16_part_74 x0 x1 x2 x3 v2 r7 (r7 - r13) h14
  else
    fn_X16_part_74 x0 x1 x2 x3 v2 (-r7) (-(r7 - r13)) h14
  )

def fn_X16_collect_78 (k6 : Nat → Int32 → Int32 → Int32 → Int32 → Int32 → Int32 → Int32 → sv_H → Option (Int32 × sv_H)) (x0 : Nat) (x1 : Int32) (x2 : Int32) (x3 : Int32) (x4 : Int32) (x5 : Int32) (x6 : Int32) (x7 : Int32) (h : sv_H) : Option (Int32 × sv_H) :=
  k6 x0 x1 x2 x3 x4 x5 x6 (x7 + 1) h

def fn_X16_collect_74 (k6 : Nat → Int32 → Int32 → Int32 → Int32 → Int32 → Int32 → Int32 → sv_H → Option (Int32 × sv_H)) (x0 : Nat) (x1 : Int32) (x2 : Int32) (x3 : Int32) (x4 : Int32) (x5 : Int32) (x6 : Int32) (x7 : Int32) (s0 : Nat) (s1 : Int32) (s2 : Int32) (h : sv_H) : Option (Int32 × sv_H) :=
  (sv_sI h s0 s1 s2).bind fun h1 =>
  fn_X16_collect_78 k6 x0 x1 x2 x3 x4 x5 (x6 + 1) x7 h1

def fn_X16_collect_45 (k6 : Nat → Int32 → Int32 → Int32 → Int32 → Int32 → Int32 → Int32 → sv_H → Option (Int32 × sv_H)) (x0 : Nat) (x1 : Int32) (x2 : Int32) (x3 : Int32) (x4 : Int32) (x5 : Int32) (x6 : Int32) (x7 : Int32) (x8 : Int32) (x9 : Int32) (h : sv_H) : Option (Int32 × sv_H) :=
  (sv_gP h 17 1712 x0).bind fun v1 =>
  if x9 = 2 then
    sv_b (fn_X16_part x0 x8 x3 x4 h) fun r2 h3 =>
    fn_X16_collect_74 k6 x0 x1 x2 x3 x4 x5 x6 x7 v1 (x5 + x6) r2 h3
  else
    fn_X16_collect_74 k6 x0 x1 x2 x3 x4 x5 x6 x7 v1 (x5 + x6) x8 h

def fn_X16_collect_6b (k6 : Nat → Int32 → Int32 → Int32 → Int32 → Int32 → Int32 → Int32 → sv_H → Option (Int32 × sv_H)) (x0 : Nat) (x1 : Int32) (x2 : Int32) (x3 : Int32) (x4 : Int32) (x5 : Int32) (x6 : Int32) (x7 : Int32) (h : sv_H) : Option (Int32 × sv_H) :=
  if x2 ≤ x7 then
    some (x6, h)
  else
    (sv_gP h 17 1712 x0).bind fun v1 =>
    (sv_lI h v1 (x1 + x7)).bind fun v2 =>
    sv_b (fn_X16_lieOf x0 x3 v2 h) fun r3 h4 =>
    if r3 = x4 then
      fn_X16_collect_45 k6 x0 x1 x2 x3 x4 x5 x6 x7 v2 r3 h4
    else
      if r3 = 2 then
        fn_X16_collect_45 k6 x0 x1 x2 x3 x4 x5 x6 x7 v2 r3 h4
      else
        fn_X16_collect_78 k6 x0 x1 x2 x3 x4 x5 x6 x7 h4

def fn_X16_collect_6 : Nat → Nat → Int32 → Int32 → Int32 → Int32 → Int32 → Int32 → Int32 → sv_H → Option (Int32 × sv_H)
  | 0, _, _, _, _, _, _, _, _, _ => none
  | sv_n + 1, x0, x1, x2, x3, x4, x5, x6, x7, h => fn_X16_collect_6b (fn_X16_collect_6 sv_n) x0 x1 x2 x3 x4 x5 x6 x7 h

def fn_X16_collect (x0 : Nat) (x1 : Int32) (x2 : Int32) (x3 : Int32) (x4 : Int32) (x5 : Int32) (h : sv_H) : Option (Int32 × sv_H) :=
  sv_kd h 17 x0 (
  fn_X16_collect_6 sv_fuel x0 x1 x2 x3 x4 x5 0 0 h
  )

def fn_X16_divide_188 (k136 : Nat → Int32 → Int32 → Int32 → Int32 → Int32 → sv_H → Option (Unit × sv_H)) (x0 : Nat) (x1 : Int32) (x2 : Int32) (x6 : Int32) (x7 : Int32) (x8 : Int32) (h : sv_H) : Option (Unit × sv_H) :=
  k136 x0 x1 x2 x6 x7 (x8 + 1) h

def fn_X16_divide_136b (k136 : Nat → Int32 → Int32 → Int32 → Int32 → Int32 → sv_H → Option (Unit × sv_H)) (x0 : Nat) (x1 : Int32) (x2 : Int32) (x6 : Int32) (x7 : Int32) (x8 : Int32) (h : sv_H) : Option (Unit × sv_H) :=
  if x2 ≤ x8 then
    (sv_gP h 17 1723 x0).bind fun v1 =>
    (sv_gI h 17 1727 x0).bind fun v2 =>
    (sv_gP h 17 1722 x0).bind fun v3 =>
    (sv_lI h v3 x6).bind fun v4 =>
    (sv_sI h v1 x6 (v2 - v4)).bind fun h5 =>
    sv_b (fn_X16_collect x0 x1 x2 x7 ((-1)) (x1 + x2) h5) fun r6 h7 =>
    sv_b (fn_X16_collect x0 x1 x2 x7 1 ((x1 + x2) + r6) h7) fun r8 h9 =>
    sv_b (fn_X16_push x0 (x1 + x2) r6 x6 1 h9) fun _ h10 =>
    sv_b (fn_X16_push x0 ((x1 + x2) + r6) r8 x6 0 h10) fun _ h11 =>
    some ((), h11)
  else
    (sv_gP h 17 1712 x0).bind fun v12 =>
    (sv_lI h v12 (x1 + x8)).bind fun v13 =>
    sv_b (fn_X16_lieOf x0 x7 v13 h) fun r14 h15 =>
    if r14 = 0 then
      (sv_gP h15 17 1724 x0).bind fun v16 =>
      (sv_gI h15 17 1727 x0).bind fun v17 =>
      (sv_gP h15 17 1712 x0).bind fun v18 =>
      (sv_lI h15 v18 (x1 + x8)).bind fun v19 =>
      (sv_sI h15 v16 v17 v19).bind fun h20 =>
      (sv_gI h20 17 1727 x0).bind fun v21 =>
      (sv_pI h20 17 1727 x0 (v21 + 1)).bind fun h22 =>
      fn_X16_divide_188 k136 x0 x1 x2 x6 x7 x8 h22
    else
      fn_X16_divide_188 k136 x0 x1 x2 x6 x7 x8 h15

def fn_X16_divide_136 : Nat → Nat → Int32 → Int32 → Int32 → Int32 → Int32 → sv_H → Option (Unit × sv_H)
  | 0, _, _, _, _, _, _, _ => none
  | sv_n + 1, x0, x1, x2, x6, x7, x8, h => fn_X16_divide_136b (fn_X16_divide_136 sv_n) x0 x1 x2 x6 x7 x8 h

def fn_X16_divide_121 (x0 : Nat) (x1 : Int32) (x2 : Int32) (x6 : Int32) (x7 : Int32) (s0 : Nat) (s1 : Int32) (s2 : Int32) (h : sv_H) : Option (Unit × sv_H) :=
  (sv_sI h s0 s1 s2).bind fun h1 =>
  (sv_gP h1 17 1722 x0).bind fun v2 =>
  (sv_gI h1 17 1727 x0).bind fun v3 =>
  (sv_sI h1 v2 x6 v3).bind fun h4 =>
  fn_X16_divide_136 sv_fuel x0 x1 x2 x6 x7 0 h4

def fn_X16_divide_51 (x0 : Nat) (x1 : Int32) (x2 : Int32) (x3 : Int32) (h : sv_H) : Option (Unit × sv_H) :=
  if x2 = 0 then
    (sv_gI h 17 1726 x0).bind fun v11 =>
    (sv_pI h 17 1726 x0 (v11 + 1)).bind fun h12 =>
    some ((), h12)
  else
    (sv_gI h 17 1725 x0).bind fun v1 =>
    (sv_gI h 17 1725 x0).bind fun v2 =>
    (sv_pI h 17 1725 x0 (v2 + 1)).bind fun h3 =>
    sv_b (fn_X16_bestOf x0 x1 x2 h3) fun r4 h5 =>
    (sv_gP h5 17 1718 x0).bind fun v6 =>
    (sv_sI h5 v6 v1 r4).bind fun h7 =>
    (sv_gP h7 17 1721 x0).bind fun v8 =>
    if 0 ≤ x3 then
      (sv_gP h7 17 1721 x0).bind fun v9 =>
      (sv_lI h7 v9 x3).bind fun v10 =>
      fn_X16_divide_121 x0 x1 x2 v1 r4 v8 v1 (v10 + 1) h7
    else
      fn_X16_divide_121 x0 x1 x2 v1 r4 v8 v1 0 h7

def fn_X16_divide_39 (x0 : Nat) (x1 : Int32) (x2 : Int32) (x3 : Int32) (x5 : Int32) (h : sv_H) : Option (Unit × sv_H) :=
  if x3 < 0 then
    fn_X16_divide_51 x0 x1 x2 x3 h
  else
    (sv_gP h 17 1720 x0).bind fun v1 =>
    (sv_sI h v1 x3 x5).bind fun h2 =>
    fn_X16_divide_51 x0 x1 x2 x3 h2

def fn_X16_divide_17 (x0 : Nat) (x1 : Int32) (x2 : Int32) (x3 : Int32) (x4 : Int32) (s0 : Int32) (h : sv_H) : Option (Unit × sv_H) :=
  if x3 < 0 then
    fn_X16_divide_39 x0 x1 x2 x3 s0 h
  else
    if x4 = 0 then
      (sv_gP h 17 1719 x0).bind fun v1 =>
      (sv_sI h v1 x3 s0).bind fun h2 =>
      fn_X16_divide_51 x0 x1 x2 x3 h2
    else
      fn_X16_divide_39 x0 x1 x2 x3 s0 h

def fn_X16_divide (x0 : Nat) (x1 : Int32) (x2 : Int32) (x3 : Int32) (x4 : Int32) (h : sv_H) : Option (Unit × sv_H) :=
  sv_kd h 17 x0 (
  if x2 = 0 then
    (sv_gI h 17 1726 x0).bind fun v2 =>
    fn_X16_divide_17 x0 x1 x2 x3 x4 (((-1)) - v2) h
  else
    (sv_gI h 17 1725 x0).bind fun v1 =>
    fn_X16_divide_17 x0 x1 x2 x3 x4 v1 h
  )

def fn_X16_make_77b (k77 : Nat → sv_H → Option (Unit × sv_H)) (x0 : Nat) (h : sv_H) : Option (Unit × sv_H) :=
  (sv_gI h 17 1717 x0).bind fun v1 =>
  if v1 ≤ 0 then
    some ((), h)
  else
    (sv_gI h 17 1717 x0).bind fun v2 =>
    (sv_pI h 17 1717 x0 (v2 - 1)).bind fun h3 =>
    (sv_gP h3 17 1713 x0).bind fun v4 =>
    (sv_gI h3 17 1717 x0).bind fun v5 =>
    (sv_lI h3 v4 v5).bind fun v6 =>
    (sv_gP h3 17 1714 x0).bind fun v7 =>
    (sv_gI h3 17 1717 x0).bind fun v8 =>
    (sv_lI h3 v7 v8).bind fun v9 =>
    (sv_gP h3 17 1715 x0).bind fun v10 =>
    (sv_gI h3 17 1717 x0).bind fun v11 =>
    (sv_lI h3 v10 v11).bind fun v12 =>
    (sv_gP h3 17 1716 x0).bind fun v13 =>
    (sv_gI h3 17 1717 x0).bind fun v14 =>
    (sv_lI h3 v13 v14).bind fun v15 =>
    sv_b (fn_X16_divide x0 v6 v9 v12 v15 h3) fun _ h16 =>
    k77 x0 h16

def fn_X16_make_77 : Nat → Nat → sv_H → Option (Unit × sv_H)
  | 0, _, _ => none
  | sv_n + 1, x0, h => fn_X16_make_77b (fn_X16_make_77 sv_n) x0 h

def fn_X16_make_63 (k29 : Nat → Int32 → Int32 → sv_H → Option (Unit × sv_H)) (x0 : Nat) (x1 : Int32) (x2 : Int32) (h : sv_H) : Option (Unit × sv_H) :=
  k29 x0 x1 (x2 + 1) h

def fn_X16_make_29b (k29 : Nat → Int32 → Int32 → sv_H → Option (Unit × sv_H)) (x0 : Nat) (x1 : Int32) (x2 : Int32) (h : sv_H) : Option (Unit × sv_H) :=
  if 128 ≤ x2 then
    sv_b (fn_X16_push x0 0 x1 ((-1)) 0 h) fun _ h1 =>
    fn_X16_make_77 sv_fuel x0 h1
  else
    (sv_gP h 17 1700 x0).bind fun v2 =>
    (sv_lZ h v2 x2).bind fun v3 =>
    if v3 = 0 then
      fn_X16_make_63 k29 x0 x1 x2 h
    else
      (sv_gP h 17 1712 x0).bind fun v4 =>
      sv_b (fn_X16_piece x0 x2 0 1 1 1 h) fun r5 h6 =>
      (sv_sI h6 v4 x1 r5).bind fun h7 =>
      fn_X16_make_63 k29 x0 (x1 + 1) x2 h7

def fn_X16_make_29 : Nat → Nat → Int32 → Int32 → sv_H → Option (Unit × sv_H)
  | 0, _, _, _, _ => none
  | sv_n + 1, x0, x1, x2, h => fn_X16_make_29b (fn_X16_make_29 sv_n) x0 x1 x2 h

def fn_X16_make (x0 : Nat) (h : sv_H) : Option (Unit × sv_H) :=
  sv_kd h 17 x0 (
  (sv_pI h 17 1711 x0 0).bind fun h1 =>
  (sv_pI h1 17 1725 x0 0).bind fun h2 =>
  (sv_pI h2 17 1726 x0 0).bind fun h3 =>
  (sv_pI h3 17 1727 x0 0).bind fun h4 =>
  (sv_pI h4 17 1717 x0 0).bind fun h5 =>
  fn_X16_make_29 sv_fuel x0 0 0 h5
  )

def fn_X16_know_16 (h : sv_H) : Option (Unit × sv_H) :=
  some ((), h)

def fn_X16_know (x0 : Nat) (h : sv_H) : Option (Unit × sv_H) :=
  sv_kd h 17 x0 (
  (sv_gI h 17 1705 x0).bind fun v1 =>
  if v1 = 0 then
    sv_b (fn_X16_make x0 h) fun _ h2 =>
    (sv_pZ h2 17 1705 x0 1).bind fun h3 =>
    fn_X16_know_16 h3
  else
    fn_X16_know_16 h
  )

def fn_X16_isNode_21 (s0 : Int32) (h : sv_H) : Option (Int32 × sv_H) :=
  sv_rz s0 h

def fn_X16_isNode_20 (h : sv_H) : Option (Int32 × sv_H) :=
  fn_X16_isNode_21 0 h

def fn_X16_isNode (x0 : Nat) (x1 : Int32) (h : sv_H) : Option (Int32 × sv_H) :=
  sv_kd h 17 x0 (
  sv_b (fn_X16_know x0 h) fun _ h1 =>
  if x1 < 0 then
    fn_X16_isNode_20 h1
  else
    (sv_gI h1 17 1725 x0).bind fun v2 =>
    if v2 ≤ x1 then
      fn_X16_isNode_20 h1
    else
      fn_X16_isNode_21 1 h1
  )

def fn_X16_within_33 (x1 : Int32) (x2 : Int32) (h : sv_H) : Option (Int32 × sv_H) :=
  some (x2 - x1, h)

def fn_X16_within_4b (k4 : Nat → Int32 → Int32 → sv_H → Option (Int32 × sv_H)) (x0 : Nat) (x1 : Int32) (x2 : Int32) (h : sv_H) : Option (Int32 × sv_H) :=
  (sv_gI h 17 1725 x0).bind fun v1 =>
  if v1 ≤ x2 then
    fn_X16_within_33 x1 x2 h
  else
    (sv_gP h 17 1721 x0).bind fun v2 =>
    (sv_lI h v2 x2).bind fun v3 =>
    (sv_gP h 17 1721 x0).bind fun v4 =>
    (sv_lI h v4 x1).bind fun v5 =>
    if v3 ≤ v5 then
      fn_X16_within_33 x1 x2 h
    else
      k4 x0 x1 (x2 + 1) h

def fn_X16_within_4 : Nat → Nat → Int32 → Int32 → sv_H → Option (Int32 × sv_H)
  | 0, _, _, _, _ => none
  | sv_n + 1, x0, x1, x2, h => fn_X16_within_4b (fn_X16_within_4 sv_n) x0 x1 x2 h

def fn_X16_within (x0 : Nat) (x1 : Int32) (h : sv_H) : Option (Int32 × sv_H) :=
  sv_kd h 17 x0 (
  fn_X16_within_4 sv_fuel x0 x1 (x1 + 1) h
  )

def fn_X16_node_74 (s0 : Int32) (h : sv_H) : Option (Int32 × sv_H) :=
  some (s0, h)

def fn_X16_node_94 (s0 : Int32) (h : sv_H) : Option (Int32 × sv_H) :=
  some (s0, h)

def fn_X16_node (x0 : Nat) (x1 : Int32) (x2 : Int32) (h : sv_H) : Option (Int32 × sv_H) :=
  sv_kd h 17 x0 (
  sv_b (fn_X16_isNode x0 x1 h) fun r1 h2 =>
  if r1 = 0 then
    some ((-1), h2)
  else
    if x2 = 0 then
      (sv_gP h2 17 1718 x0).bind fun v3 =>
      (sv_lI h2 v3 x1).bind fun v4 =>
      some (v4, h2)
    else
    if x2 = 1 then
      (sv_gP h2 17 1719 x0).bind fun v5 =>
      (sv_lI h2 v5 x1).bind fun v6 =>
      if 0 ≤ v6 then
        (sv_gP h2 17 1719 x0).bind fun v7 =>
        (sv_lI h2 v7 x1).bind fun v8 =>
        fn_X16_node_74 v8 h2
      else
        fn_X16_node_74 ((-1)) h2
    else
    if x2 = 2 then
      (sv_gP h2 17 1720 x0).bind fun v9 =>
      (sv_lI h2 v9 x1).bind fun v10 =>
      if 0 ≤ v10 then
        (sv_gP h2 17 1720 x0).bind fun v11 =>
        (sv_lI h2 v11 x1).bind fun v12 =>
        fn_X16_node_94 v12 h2
      else
        fn_X16_node_94 ((-1)) h2
    else
    if x2 = 3 then
      (sv_gP h2 17 1723 x0).bind fun v13 =>
      (sv_lI h2 v13 x1).bind fun v14 =>
      some (v14, h2)
    else
    if x2 = 4 then
      sv_b (fn_X16_within x0 x1 h2) fun r15 h16 =>
      some (r15, h16)
    else
    if x2 = 5 then
      (sv_gP h2 17 1721 x0).bind fun v17 =>
      (sv_lI h2 v17 x1).bind fun v18 =>
      some (v18, h2)
    else
    some ((-1), h2)
  )

def fn_X17_nodeOf_25 (s0 : Int32) (h : sv_H) : Option (Int32 × sv_H) :=
  some (s0, h)

def fn_X17_nodeOf (x0 : Nat) (x1 : Int32) (x2 : Int32) (h : sv_H) : Option (Int32 × sv_H) :=
  sv_kd h 18 x0 (
  (sv_pI h 18 1800 x0 0).bind fun h1 =>
  (sv_gI h1 18 1809 x0).bind fun v2 =>
  if v2 = 0 then
    fn_X17_nodeOf_25 ((-1)) h1
  else
    (sv_gP h1 18 1804 x0).bind fun v3 =>
    sv_b (fn_X16_node v3 x1 x2 h1) fun r4 h5 =>
    fn_X17_nodeOf_25 r4 h5
  )

def fn_X8_leafAround_90 (x4 : Int32) (h : sv_H) : Option (Int32 × sv_H) :=
  some (((-1)) - x4, h)

def fn_X8_leafAround_82 (k17 : Nat → Nat → Int32 → Int32 → Int32 → Int32 → sv_H → Option (Int32 × sv_H)) (x0 : Nat) (x1 : Nat) (x2 : Int32) (x3 : Int32) (x5 : Int32) (s0 : Int32) (h : sv_H) : Option (Int32 × sv_H) :=
  k17 x0 x1 x2 x3 s0 (x5 + 1) h

def fn_X8_leafAround_58 (k17 : Nat → Nat → Int32 → Int32 → Int32 → Int32 → sv_H → Option (Int32 × sv_H)) (x0 : Nat) (x1 : Nat) (x2 : Int32) (x3 : Int32) (x4 : Int32) (x5 : Int32) (s0 : Int32) (h : sv_H) : Option (Int32 × sv_H) :=
  if s0 = 0 then
    (sv_gP h 9 903 x0).bind fun v1 =>
    (sv_lI h v1 x4).bind fun v2 =>
    fn_X8_leafAround_82 k17 x0 x1 x2 x3 x5 v2 h
  else
    (sv_gP h 9 902 x0).bind fun v3 =>
    (sv_lI h v3 x4).bind fun v4 =>
    fn_X8_leafAround_82 k17 x0 x1 x2 x3 x5 v4 h

def fn_X8_leafAround_17b (k17 : Nat → Nat → Int32 → Int32 → Int32 → Int32 → sv_H → Option (Int32 × sv_H)) (x0 : Nat) (x1 : Nat) (x2 : Int32) (x3 : Int32) (x4 : Int32) (x5 : Int32) (h : sv_H) : Option (Int32 × sv_H) :=
  (sv_gI h 9 911 x0).bind fun v1 =>
  if v1 ≤ x5 then
    fn_X8_leafAround_90 x4 h
  else
    if x4 < 0 then
      fn_X8_leafAround_90 x4 h
    else
      (sv_gP h 3 308 x1).bind fun v2 =>
      (sv_gP h 9 901 x0).bind fun v3 =>
      (sv_lI h v3 x4).bind fun v4 =>
      (sv_lP 922 h v2 v4).bind fun v5 =>
      sv_b (fn_X11_sideOf v5 x2 x3 h) fun r6 h7 =>
      if (lg_cmp r6 0) ≤ 0 then
        fn_X8_leafAround_58 k17 x0 x1 x2 x3 x4 x5 0 h7
      else
        fn_X8_leafAround_58 k17 x0 x1 x2 x3 x4 x5 1 h7

def fn_X8_leafAround_17 : Nat → Nat → Nat → Int32 → Int32 → Int32 → Int32 → sv_H → Option (Int32 × sv_H)
  | 0, _, _, _, _, _, _, _ => none
  | sv_n + 1, x0, x1, x2, x3, x4, x5, h => fn_X8_leafAround_17b (fn_X8_leafAround_17 sv_n) x0 x1 x2 x3 x4 x5 h

def fn_X8_leafAround_12 (x0 : Nat) (x1 : Nat) (x2 : Int32) (x3 : Int32) (s0 : Int32) (h : sv_H) : Option (Int32 × sv_H) :=
  fn_X8_leafAround_17 sv_fuel x0 x1 x2 x3 s0 0 h

def fn_X8_leafAround (x0 : Nat) (x1 : Nat) (x2 : Int32) (x3 : Int32) (h : sv_H) : Option (Int32 × sv_H) :=
  sv_kd h 9 x0 (
  (sv_gI h 9 911 x0).bind fun v1 =>
  if v1 ≤ 0 then
    fn_X8_leafAround_12 x0 x1 x2 x3 ((-1)) h
  else
    fn_X8_leafAround_12 x0 x1 x2 x3 0 h
  )

def fn_X12_leafOf_15 (h : sv_H) : Option (Int32 × sv_H) :=
  some ((-1), h)

def fn_X12_leafOf (x0 : Nat) (x1 : Int32) (x2 : Int32) (h : sv_H) : Option (Int32 × sv_H) :=
  sv_kd h 13 x0 (
  sv_b (fn_X12_hasMap x0 h) fun r1 h2 =>
  if r1 = 0 then
    fn_X12_leafOf_15 h2
  else
    sv_b (fn_X12_isPlace x1 x2 h2) fun r3 h4 =>
    if r3 = 0 then
      fn_X12_leafOf_15 h4
    else
      (sv_gP h4 13 1303 x0).bind fun v5 =>
      (sv_gP h4 13 1306 x0).bind fun v6 =>
      sv_b (fn_X8_leafAround v5 v6 x1 x2 h4) fun r7 h8 =>
      some (r7, h8)
  )

def fn_X16_isPlace_19 (s0 : Int32) (h : sv_H) : Option (Int32 × sv_H) :=
  sv_rz s0 h

def fn_X16_isPlace_18 (h : sv_H) : Option (Int32 × sv_H) :=
  fn_X16_isPlace_19 0 h

def fn_X16_isPlace (x0 : Int32) (h : sv_H) : Option (Int32 × sv_H) :=
  if x0 < ((-32768)) then
    fn_X16_isPlace_18 h
  else
    if 32767 < x0 then
      fn_X16_isPlace_18 h
    else
      fn_X16_isPlace_19 1 h

def fn_X16_isLeft_24 (s0 : Int32) (h : sv_H) : Option (Int32 × sv_H) :=
  sv_rz s0 h

def fn_X16_isLeft (x0 : Nat) (x1 : Int32) (x2 : Int32) (x3 : Int32) (h : sv_H) : Option (Int32 × sv_H) :=
  sv_kd h 17 x0 (
  (sv_gP h 17 1718 x0).bind fun v1 =>
  (sv_lI h v1 x1).bind fun v2 =>
  sv_b (fn_X16_sideOf x0 v2 (Int32.toInt64 x2) (Int32.toInt64 x3) h) fun r3 h4 =>
  if (lg_cmp r3 0) ≤ 0 then
    fn_X16_isLeft_24 0 h4
  else
    fn_X16_isLeft_24 1 h4
  )

def fn_X16_leaf_14 (h : sv_H) : Option (Int32 × sv_H) :=
  some ((-1), h)

def fn_X16_leaf_62 (k33 : Nat → Int32 → Int32 → Int32 → sv_H → Option (Int32 × sv_H)) (x0 : Nat) (x1 : Int32) (x2 : Int32) (s0 : Int32) (h : sv_H) : Option (Int32 × sv_H) :=
  k33 x0 x1 x2 s0 h

def fn_X16_leaf_33b (k33 : Nat → Int32 → Int32 → Int32 → sv_H → Option (Int32 × sv_H)) (x0 : Nat) (x1 : Int32) (x2 : Int32) (x3 : Int32) (h : sv_H) : Option (Int32 × sv_H) :=
  if x3 < 0 then
    some (((-1)) - x3, h)
  else
    sv_b (fn_X16_isLeft x0 x3 x1 x2 h) fun r1 h2 =>
    if r1 = 0 then
      (sv_gP h2 17 1720 x0).bind fun v3 =>
      (sv_lI h2 v3 x3).bind fun v4 =>
      fn_X16_leaf_62 k33 x0 x1 x2 v4 h2
    else
      (sv_gP h2 17 1719 x0).bind fun v5 =>
      (sv_lI h2 v5 x3).bind fun v6 =>
      fn_X16_leaf_62 k33 x0 x1 x2 v6 h2

def fn_X16_leaf_33 : Nat → Nat → Int32 → Int32 → Int32 → sv_H → Option (Int32 × sv_H)
  | 0, _, _, _, _, _ => none
  | sv_n + 1, x0, x1, x2, x3, h => fn_X16_leaf_33b (fn_X16_leaf_33 sv_n) x0 x1 x2 x3 h

def fn_X16_leaf_32 (x0 : Nat) (x1 : Int32) (x2 : Int32) (s0 : Int32) (h : sv_H) : Option (Int32 × sv_H) :=
  fn_X16_leaf_33 sv_fuel x0 x1 x2 s0 h

def fn_X16_leaf (x0 : Nat) (x1 : Int32) (x2 : Int32) (h : sv_H) : Option (Int32 × sv_H) :=
  sv_kd h 17 x0 (
  sv_b (fn_X16_isPlace x1 h) fun r1 h2 =>
  if r1 = 0 then
    fn_X16_leaf_14 h2
  else
    sv_b (fn_X16_isPlace x2 h2) fun r3 h4 =>
    if r3 = 0 then
      fn_X16_leaf_14 h4
    else
      sv_b (fn_X16_know x0 h4) fun _ h5 =>
      (sv_gI h5 17 1725 x0).bind fun v6 =>
      if v6 ≤ 0 then
        fn_X16_leaf_32 x0 x1 x2 ((-1)) h5
      else
        fn_X16_leaf_32 x0 x1 x2 0 h5
  )

def fn_X17_leafOf_25 (s0 : Int32) (h : sv_H) : Option (Int32 × sv_H) :=
  some (s0, h)

def fn_X17_leafOf (x0 : Nat) (x1 : Int32) (x2 : Int32) (h : sv_H) : Option (Int32 × sv_H) :=
  sv_kd h 18 x0 (
  (sv_pI h 18 1800 x0 0).bind fun h1 =>
  (sv_gI h1 18 1809 x0).bind fun v2 =>
  if v2 = 0 then
    fn_X17_leafOf_25 ((-1)) h1
  else
    (sv_gP h1 18 1804 x0).bind fun v3 =>
    sv_b (fn_X16_leaf v3 x1 x2 h1) fun r4 h5 =>
    fn_X17_leafOf_25 r4 h5
  )

def fn_X12_byteOf_38 (s0 : Int32) (h : sv_H) : Option (Int32 × sv_H) :=
  some (s0, h)

def fn_X12_byteOf_37 (h : sv_H) : Option (Int32 × sv_H) :=
  fn_X12_byteOf_38 ((-1)) h

def fn_X12_byteOf_15 (x1 : Int32) (s0 : Nat) (h : sv_H) : Option (Int32 × sv_H) :=
  if x1 < 0 then
    fn_X12_byteOf_37 h
  else
    (sv_gI h 1 101 s0).bind fun v1 =>
    if v1 ≤ x1 then
      fn_X12_byteOf_37 h
    else
      (sv_gP h 1 100 s0).bind fun v2 =>
      (sv_lI h v2 x1).bind fun v3 =>
      fn_X12_byteOf_38 v3 h

def fn_X12_byteOf (x0 : Nat) (x1 : Int32) (x2 : Int32) (h : sv_H) : Option (Int32 × sv_H) :=
  sv_kd h 13 x0 (
  if x2 = 0 then
    (sv_gP h 13 1301 x0).bind fun v1 =>
    fn_X12_byteOf_15 x1 v1 h
  else
    (sv_gP h 13 1300 x0).bind fun v2 =>
    fn_X12_byteOf_15 x1 v2 h
  )

def fn_X17_byteOf_31 (h : sv_H) : Option (Int32 × sv_H) :=
  some ((-1), h)

def fn_X17_byteOf_59 (s0 : Int32) (h : sv_H) : Option (Int32 × sv_H) :=
  some (s0, h)

def fn_X17_byteOf_28 (x0 : Nat) (x1 : Int32) (x2 : Int32) (s0 : Int32) (s1 : Int32) (h : sv_H) : Option (Int32 × sv_H) :=
  if s0 < s1 then
    if x2 = 0 then
      (sv_gP h 18 1805 x0).bind fun v1 =>
      (sv_lI h v1 x1).bind fun v2 =>
      fn_X17_byteOf_59 v2 h
    else
      (sv_gP h 18 1801 x0).bind fun v3 =>
      (sv_gP h 15 1500 v3).bind fun v4 =>
      (sv_lB h v4 x1).bind fun v5 =>
      fn_X17_byteOf_59 (v5 &&& 255) h
  else
    fn_X17_byteOf_31 h

def fn_X17_byteOf (x0 : Nat) (x1 : Int32) (x2 : Int32) (h : sv_H) : Option (Int32 × sv_H) :=
  sv_kd h 18 x0 (
  (sv_pI h 18 1800 x0 0).bind fun h1 =>
  if x1 < 0 then
    fn_X17_byteOf_31 h1
  else
    if x2 = 0 then
      (sv_gI h1 18 1806 x0).bind fun v2 =>
      fn_X17_byteOf_28 x0 x1 x2 x1 v2 h1
    else
      (sv_gP h1 18 1801 x0).bind fun v3 =>
      (sv_gI h1 15 1501 v3).bind fun v4 =>
      fn_X17_byteOf_28 x0 x1 x2 x1 v4 h1
  )

def fn_X12_lookAt_86 (s0 : Int32) (h : sv_H) : Option (Int32 × sv_H) :=
  some (s0, h)

def fn_X12_lookAt_105 (s0 : Int32) (h : sv_H) : Option (Int32 × sv_H) :=
  some (s0, h)

def fn_X12_lookAt_124 (s0 : Int32) (h : sv_H) : Option (Int32 × sv_H) :=
  some (s0, h)

def fn_X12_lookAt_143 (s0 : Int32) (h : sv_H) : Option (Int32 × sv_H) :=
  some (s0, h)

def fn_X12_lookAt_202 (s0 : Int32) (h : sv_H) : Option (Int32 × sv_H) :=
  some (s0, h)

def fn_X12_lookAt_221 (s0 : Int32) (h : sv_H) : Option (Int32 × sv_H) :=
  some (s0, h)

def fn_X12_lookAt_240 (s0 : Int32) (h : sv_H) : Option (Int32 × sv_H) :=
  some (s0, h)

def fn_X12_lookAt (x0 : Nat) (x1 : Int32) (h : sv_H) : Option (Int32 × sv_H) :=
  sv_kd h 13 x0 (
  if x1 = 0 then
    sv_b (fn_X12_hasMap x0 h) fun r1 h2 =>
    if r1 = 0 then
      fn_X12_lookAt_86 ((-1)) h2
    else
      (sv_gP h2 13 1306 x0).bind fun v3 =>
      (sv_gI h2 3 309 v3).bind fun v4 =>
      fn_X12_lookAt_86 v4 h2
  else
  if x1 = 1 then
    sv_b (fn_X12_hasMap x0 h) fun r5 h6 =>
    if r5 = 0 then
      fn_X12_lookAt_105 ((-1)) h6
    else
      (sv_gP h6 13 1306 x0).bind fun v7 =>
      (sv_gI h6 3 310 v7).bind fun v8 =>
      fn_X12_lookAt_105 v8 h6
  else
  if x1 = 2 then
    sv_b (fn_X12_hasMap x0 h) fun r9 h10 =>
    if r9 = 0 then
      fn_X12_lookAt_124 ((-1)) h10
    else
      (sv_gP h10 13 1306 x0).bind fun v11 =>
      (sv_gI h10 3 311 v11).bind fun v12 =>
      fn_X12_lookAt_124 v12 h10
  else
  if x1 = 3 then
    sv_b (fn_X12_hasMap x0 h) fun r13 h14 =>
    if r13 = 0 then
      fn_X12_lookAt_143 ((-1)) h14
    else
      (sv_gP h14 13 1306 x0).bind fun v15 =>
      (sv_gI h14 3 312 v15).bind fun v16 =>
      fn_X12_lookAt_143 v16 h14
  else
  if x1 = 4 then
    (sv_gP h 13 1308 x0).bind fun v17 =>
    (sv_gI h 6 602 v17).bind fun v18 =>
    some (v18, h)
  else
  if x1 = 5 then
    (sv_gP h 13 1300 x0).bind fun v19 =>
    (sv_gI h 1 101 v19).bind fun v20 =>
    some (v20, h)
  else
  if x1 = 6 then
    (sv_gP h 13 1301 x0).bind fun v21 =>
    (sv_gI h 1 101 v21).bind fun v22 =>
    some (v22, h)
  else
  if x1 = 7 then
    (sv_gP h 13 1302 x0).bind fun v23 =>
    (sv_gI h 5 502 v23).bind fun v24 =>
    some (v24, h)
  else
  if x1 = 8 then
    (sv_gP h 13 1302 x0).bind fun v25 =>
    (sv_gI h 5 503 v25).bind fun v26 =>
    some (v26, h)
  else
  if x1 = 9 then
    sv_b (fn_X12_hasMap x0 h) fun r27 h28 =>
    if r27 = 0 then
      fn_X12_lookAt_202 ((-1)) h28
    else
      (sv_gP h28 13 1303 x0).bind fun v29 =>
      (sv_gI h28 9 911 v29).bind fun v30 =>
      fn_X12_lookAt_202 v30 h28
  else
  if x1 = 10 then
    sv_b (fn_X12_hasMap x0 h) fun r31 h32 =>
    if r31 = 0 then
      fn_X12_lookAt_221 ((-1)) h32
    else
      (sv_gP h32 13 1303 x0).bind fun v33 =>
      (sv_gI h32 9 913 v33).bind fun v34 =>
      fn_X12_lookAt_221 v34 h32
  else
  if x1 = 11 then
    sv_b (fn_X12_hasMap x0 h) fun r35 h36 =>
    if r35 = 0 then
      fn_X12_lookAt_240 0 h36
    else
      (sv_gP h36 13 1306 x0).bind fun v37 =>
      sv_b (fn_X2_moverCount v37 h36) fun r38 h39 =>
      fn_X12_lookAt_240 r38 h39
  else
  if x1 = 12 then
    (sv_gI h 13 1310 x0).bind fun v40 =>
    some (v40, h)
  else
  some ((-1), h)
  )

def fn_X17_lookAt_93 (s0 : Int32) (h : sv_H) : Option (Int32 × sv_H) :=
  some (s0, h)

def fn_X17_lookAt_72 (x0 : Nat) (x1 : Int32) (h : sv_H) : Option (Int32 × sv_H) :=
  (sv_gI h 18 1809 x0).bind fun v1 =>
  if v1 = 0 then
    fn_X17_lookAt_93 ((-1)) h
  else
    (sv_gP h 18 1801 x0).bind fun v2 =>
    sv_b (fn_X14_many v2 (x1 + 3) h) fun r3 h4 =>
    fn_X17_lookAt_93 r3 h4

def fn_X17_lookAt_150 (s0 : Int32) (h : sv_H) : Option (Int32 × sv_H) :=
  some (s0, h)

def fn_X17_lookAt_176 (s0 : Int32) (h : sv_H) : Option (Int32 × sv_H) :=
  some (s0, h)

def fn_X17_lookAt (x0 : Nat) (x1 : Int32) (h : sv_H) : Option (Int32 × sv_H) :=
  sv_kd h 18 x0 (
  (sv_pI h 18 1800 x0 0).bind fun h1 =>
  if x1 = 0 then
    fn_X17_lookAt_72 x0 x1 h1
  else
  if x1 = 1 then
    fn_X17_lookAt_72 x0 x1 h1
  else
  if x1 = 2 then
    fn_X17_lookAt_72 x0 x1 h1
  else
  if x1 = 3 then
    fn_X17_lookAt_72 x0 x1 h1
  else
  if x1 = 4 then
    (sv_gP h1 18 1802 x0).bind fun v2 =>
    (sv_gI h1 16 1605 v2).bind fun v3 =>
    some (v3, h1)
  else
  if x1 = 5 then
    (sv_gP h1 18 1801 x0).bind fun v4 =>
    (sv_gI h1 15 1501 v4).bind fun v5 =>
    some (v5, h1)
  else
  if x1 = 6 then
    (sv_gI h1 18 1806 x0).bind fun v6 =>
    some (v6, h1)
  else
  if x1 = 7 then
    (sv_gI h1 18 1807 x0).bind fun v7 =>
    some (v7, h1)
  else
  if x1 = 8 then
    (sv_gI h1 18 1808 x0).bind fun v8 =>
    some (v8, h1)
  else
  if x1 = 9 then
    (sv_gP h1 18 1804 x0).bind fun v9 =>
    sv_b (fn_X16_know v9 h1) fun _ h10 =>
    (sv_gI h10 18 1809 x0).bind fun v11 =>
    if v11 = 0 then
      fn_X17_lookAt_150 ((-1)) h10
    else
      (sv_gP h10 18 1804 x0).bind fun v12 =>
      (sv_gI h10 17 1725 v12).bind fun v13 =>
      fn_X17_lookAt_150 v13 h10
  else
  if x1 = 10 then
    (sv_gP h1 18 1804 x0).bind fun v14 =>
    sv_b (fn_X16_know v14 h1) fun _ h15 =>
    (sv_gI h15 18 1809 x0).bind fun v16 =>
    if v16 = 0 then
      fn_X17_lookAt_176 ((-1)) h15
    else
      (sv_gP h15 18 1804 x0).bind fun v17 =>
      (sv_gI h15 17 1727 v17).bind fun v18 =>
      fn_X17_lookAt_176 v18 h15
  else
  if x1 = 11 then
    (sv_gP h1 18 1803 x0).bind fun v19 =>
    sv_b (fn_X13_many v19 h1) fun r20 h21 =>
    some (r20, h21)
  else
  if x1 = 12 then
    (sv_gI h1 18 1810 x0).bind fun v22 =>
    some (v22, h1)
  else
  some ((-1), h1)
  )

