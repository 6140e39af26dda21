def lc_X0_init (x0 : Nat) (h : ly_S) : Option ly_S :=
  lc_kd h 1 x0 (
  lc_na h 901 64 fun a1 h2 =>
  (lc_pP h2 1 100 x0 a1).bind fun h3 =>
  some h3
  )

def lc_X4_init (x0 : Nat) (x1 : Nat) (h : ly_S) : Option ly_S :=
  lc_kd h 5 x0 (
  (lc_pI h 5 503 x0 ((-1))).bind fun h1 =>
  (lc_pP h1 5 500 x0 x1).bind fun h2 =>
  some h2
  )

def lc_X1_init (x0 : Nat) (h : ly_S) : Option ly_S :=
  lc_kd h 2 x0 (
  lc_na h 901 128 fun a1 h2 =>
  (lc_pP h2 2 200 x0 a1).bind fun h3 =>
  lc_na h3 901 128 fun a4 h5 =>
  (lc_pP h5 2 201 x0 a4).bind fun h6 =>
  lc_na h6 902 128 fun a7 h8 =>
  (lc_pP h8 2 202 x0 a7).bind fun h9 =>
  lc_na h9 902 128 fun a10 h11 =>
  (lc_pP h11 2 203 x0 a10).bind fun h12 =>
  lc_na h12 902 128 fun a13 h14 =>
  (lc_pP h14 2 204 x0 a13).bind fun h15 =>
  lc_na h15 902 128 fun a16 h17 =>
  (lc_pP h17 2 205 x0 a16).bind fun h18 =>
  some h18
  )

def lc_X8_init (x0 : Nat) (h : ly_S) : Option ly_S :=
  lc_kd h 9 x0 (
  lc_new h 2 7 fun a1 h2 =>
  (lc_X1_init a1 h2).bind fun h3 =>
  (lc_pP h3 9 900 x0 a1).bind fun h4 =>
  lc_na h4 901 128 fun a5 h6 =>
  (lc_pP h6 9 901 x0 a5).bind fun h7 =>
  lc_na h7 901 128 fun a8 h9 =>
  (lc_pP h9 9 902 x0 a8).bind fun h10 =>
  lc_na h10 901 128 fun a11 h12 =>
  (lc_pP h12 9 903 x0 a11).bind fun h13 =>
  lc_na h13 901 128 fun a14 h15 =>
  (lc_pP h15 9 904 x0 a14).bind fun h16 =>
  lc_na h16 901 128 fun a17 h18 =>
  (lc_pP h18 9 905 x0 a17).bind fun h19 =>
  lc_na h19 901 128 fun a20 h21 =>
  (lc_pP h21 9 906 x0 a20).bind fun h22 =>
  lc_na h22 901 130 fun a23 h24 =>
  (lc_pP h24 9 907 x0 a23).bind fun h25 =>
  lc_na h25 901 130 fun a26 h27 =>
  (lc_pP h27 9 908 x0 a26).bind fun h28 =>
  lc_na h28 903 130 fun a29 h30 =>
  (lc_pP h30 9 909 x0 a29).bind fun h31 =>
  some h31
  )

def lc_X7_init (x0 : Nat) (h : ly_S) : Option ly_S :=
  lc_kd h 8 x0 (
  some h
  )

def lc_X6_init (x0 : Nat) (h : ly_S) : Option ly_S :=
  lc_kd h 7 x0 (
  (lc_pI h 7 709 x0 ((-1))).bind fun h1 =>
  some h1
  )

def lc_X11_init (x0 : Nat) (h : ly_S) : Option ly_S :=
  lc_kd h 12 x0 (
  lc_na h 901 6 fun a1 h2 =>
  (lc_pP h2 12 1211 x0 a1).bind fun h3 =>
  some h3
  )

def lc_X2_init_116b (k116 : Nat → Int32 → ly_S → Option ly_S) (x0 : Nat) (x1 : Int32) (h : ly_S) : Option ly_S :=
  if 128 ≤ x1 then
    some h
  else
    (lc_gP h 3 308 x0).bind fun v1 =>
    lc_new h 12 12 fun a2 h3 =>
    (lc_X11_init a2 h3).bind fun h4 =>
    (lc_sP 922 h4 v1 x1 a2).bind fun h5 =>
    k116 x0 (x1 + 1) h5

def lc_X2_init_116 : Nat → Nat → Int32 → ly_S → Option ly_S
  | 0, _, _, _ => none
  | sv_n + 1, x0, x1, h => lc_X2_init_116b (lc_X2_init_116 sv_n) x0 x1 h

def lc_X2_init_89b (k89 : Nat → Int32 → ly_S → Option ly_S) (x0 : Nat) (x1 : Int32) (h : ly_S) : Option ly_S :=
  if 32 ≤ x1 then
    lc_X2_init_116 1000 x0 0 h
  else
    (lc_gP h 3 307 x0).bind fun v1 =>
    lc_new h 7 14 fun a2 h3 =>
    (lc_X6_init a2 h3).bind fun h4 =>
    (lc_sP 917 h4 v1 x1 a2).bind fun h5 =>
    k89 x0 (x1 + 1) h5

def lc_X2_init_89 : Nat → Nat → Int32 → ly_S → Option ly_S
  | 0, _, _, _ => none
  | sv_n + 1, x0, x1, h => lc_X2_init_89b (lc_X2_init_89 sv_n) x0 x1 h

def lc_X2_init (x0 : Nat) (h : ly_S) : Option ly_S :=
  lc_kd h 3 x0 (
  lc_new h 1 2 fun a1 h2 =>
  (lc_X0_init a1 h2).bind fun h3 =>
  (lc_pP h3 3 300 x0 a1).bind fun h4 =>
  lc_new h4 8 4 fun a5 h6 =>
  (lc_X7_init a5 h6).bind fun h7 =>
  (lc_pP h7 3 301 x0 a5).bind fun h8 =>
  lc_na h8 901 128 fun a9 h10 =>
  (lc_pP h10 3 302 x0 a9).bind fun h11 =>
  lc_na h11 901 128 fun a12 h13 =>
  (lc_pP h13 3 303 x0 a12).bind fun h14 =>
  lc_na h14 901 16 fun a15 h16 =>
  (lc_pP h16 3 304 x0 a15).bind fun h17 =>
  lc_na h17 901 16 fun a18 h19 =>
  (lc_pP h19 3 305 x0 a18).bind fun h20 =>
  lc_na h20 901 16 fun a21 h22 =>
  (lc_pP h22 3 306 x0 a21).bind fun h23 =>
  lc_na h23 917 32 fun a24 h25 =>
  (lc_pP h25 3 307 x0 a24).bind fun h26 =>
  lc_na h26 922 128 fun a27 h28 =>
  (lc_pP h28 3 308 x0 a27).bind fun h29 =>
  lc_X2_init_89 1000 x0 0 h29
  )

def lc_X3_init (x0 : Nat) (h : ly_S) : Option ly_S :=
  lc_kd h 4 x0 (
  lc_na h 901 128 fun a1 h2 =>
  (lc_pP h2 4 400 x0 a1).bind fun h3 =>
  lc_na h3 903 128 fun a4 h5 =>
  (lc_pP h5 4 401 x0 a4).bind fun h6 =>
  lc_na h6 902 128 fun a7 h8 =>
  (lc_pP h8 4 402 x0 a7).bind fun h9 =>
  lc_na h9 902 128 fun a10 h11 =>
  (lc_pP h11 4 403 x0 a10).bind fun h12 =>
  lc_na h12 902 128 fun a13 h14 =>
  (lc_pP h14 4 404 x0 a13).bind fun h15 =>
  lc_na h15 902 128 fun a16 h17 =>
  (lc_pP h17 4 405 x0 a16).bind fun h18 =>
  some h18
  )

def lc_X10_init (x0 : Nat) (x1 : Nat) (x2 : Nat) (h : ly_S) : Option ly_S :=
  lc_kd h 11 x0 (
  (lc_pP h 11 1100 x0 x1).bind fun h1 =>
  (lc_pP h1 11 1101 x0 x2).bind fun h2 =>
  some h2
  )

def lc_X9_init (x0 : Nat) (x1 : Nat) (h : ly_S) : Option ly_S :=
  lc_kd h 10 x0 (
  lc_na h 901 48 fun a1 h2 =>
  (lc_pP h2 10 1001 x0 a1).bind fun h3 =>
  lc_na h3 901 48 fun a4 h5 =>
  (lc_pP h5 10 1002 x0 a4).bind fun h6 =>
  lc_na h6 901 128 fun a7 h8 =>
  (lc_pP h8 10 1003 x0 a7).bind fun h9 =>
  (lc_pP h9 10 1000 x0 x1).bind fun h10 =>
  some h10
  )

def lc_X5_init (x0 : Nat) (h : ly_S) : Option ly_S :=
  lc_kd h 6 x0 (
  lc_new h 8 4 fun a1 h2 =>
  (lc_X7_init a1 h2).bind fun h3 =>
  (lc_pP h3 6 600 x0 a1).bind fun h4 =>
  lc_na h4 901 64 fun a5 h6 =>
  (lc_pP h6 6 601 x0 a5).bind fun h7 =>
  some h7
  )

def lc_X12_init (x0 : Nat) (h : ly_S) : Option ly_S :=
  lc_kd h 13 x0 (
  lc_new h 1 2 fun a1 h2 =>
  (lc_X0_init a1 h2).bind fun h3 =>
  (lc_pP h3 13 1300 x0 a1).bind fun h4 =>
  lc_new h4 1 2 fun a5 h6 =>
  (lc_X0_init a5 h6).bind fun h7 =>
  (lc_pP h7 13 1301 x0 a5).bind fun h8 =>
  lc_new h8 5 4 fun a9 h10 =>
  (lc_gP h10 13 1300 x0).bind fun v11 =>
  (lc_X4_init a9 v11 h10).bind fun h12 =>
  (lc_pP h12 13 1302 x0 a9).bind fun h13 =>
  lc_new h13 9 18 fun a14 h15 =>
  (lc_X8_init a14 h15).bind fun h16 =>
  (lc_pP h16 13 1303 x0 a14).bind fun h17 =>
  lc_new h17 3 13 fun a18 h19 =>
  (lc_X2_init a18 h19).bind fun h20 =>
  (lc_pP h20 13 1306 x0 a18).bind fun h21 =>
  lc_new h21 3 13 fun a22 h23 =>
  (lc_X2_init a22 h23).bind fun h24 =>
  (lc_pP h24 13 1307 x0 a22).bind fun h25 =>
  lc_new h25 4 11 fun a26 h27 =>
  (lc_X3_init a26 h27).bind fun h28 =>
  lc_new h28 11 7 fun a29 h30 =>
  (lc_gP h30 13 1306 x0).bind fun v31 =>
  (lc_X10_init a29 a26 v31 h30).bind fun h32 =>
  (lc_pP h32 13 1304 x0 a29).bind fun h33 =>
  lc_new h33 10 8 fun a34 h35 =>
  (lc_X9_init a34 a26 h35).bind fun h36 =>
  (lc_pP h36 13 1305 x0 a34).bind fun h37 =>
  lc_new h37 6 3 fun a38 h39 =>
  (lc_X5_init a38 h39).bind fun h40 =>
  (lc_pP h40 13 1308 x0 a38).bind fun h41 =>
  lc_new h41 6 3 fun a42 h43 =>
  (lc_X5_init a42 h43).bind fun h44 =>
  (lc_pP h44 13 1309 x0 a42).bind fun h45 =>
  some h45
  )

def lc_X14_init (x0 : Nat) (h : ly_S) : Option ly_S :=
  lc_kd h 15 x0 (
  lc_na h 904 8192 fun a1 h2 =>
  (lc_pP h2 15 1500 x0 a1).bind fun h3 =>
  lc_na h3 904 8192 fun a4 h5 =>
  (lc_pP h5 15 1502 x0 a4).bind fun h6 =>
  (lc_pI h6 15 1505 x0 ((-1))).bind fun h7 =>
  (lc_pI h7 15 1506 x0 ((-1))).bind fun h8 =>
  some h8
  )

def lc_X15_init (x0 : Nat) (h : ly_S) : Option ly_S :=
  lc_kd h 16 x0 (
  lc_na h 901 4 fun a1 h2 =>
  (lc_pP h2 16 1600 x0 a1).bind fun h3 =>
  lc_na h3 901 1024 fun a4 h5 =>
  (lc_pP h5 16 1601 x0 a4).bind fun h6 =>
  lc_na h6 901 1024 fun a7 h8 =>
  (lc_pP h8 16 1602 x0 a7).bind fun h9 =>
  lc_na h9 901 1024 fun a10 h11 =>
  (lc_pP h11 16 1603 x0 a10).bind fun h12 =>
  lc_na h12 903 1024 fun a13 h14 =>
  (lc_pP h14 16 1604 x0 a13).bind fun h15 =>
  lc_na h15 901 4200 fun a16 h17 =>
  (lc_pP h17 16 1606 x0 a16).bind fun h18 =>
  lc_na h18 901 8192 fun a19 h20 =>
  (lc_pP h20 16 1608 x0 a19).bind fun h21 =>
  lc_na h21 901 4 fun a22 h23 =>
  (lc_pP h23 16 1610 x0 a22).bind fun h24 =>
  lc_na h24 901 1024 fun a25 h26 =>
  (lc_pP h26 16 1611 x0 a25).bind fun h27 =>
  lc_na h27 901 1024 fun a28 h29 =>
  (lc_pP h29 16 1612 x0 a28).bind fun h30 =>
  lc_na h30 901 1024 fun a31 h32 =>
  (lc_pP h32 16 1613 x0 a31).bind fun h33 =>
  lc_na h33 903 1024 fun a34 h35 =>
  (lc_pP h35 16 1614 x0 a34).bind fun h36 =>
  (lc_pI h36 16 1618 x0 ((-1))).bind fun h37 =>
  some h37
  )

def lc_X13_init (x0 : Nat) (h : ly_S) : Option ly_S :=
  lc_kd h 14 x0 (
  lc_na h 901 32 fun a1 h2 =>
  (lc_pP h2 14 1401 x0 a1).bind fun h3 =>
  lc_na h3 901 32 fun a4 h5 =>
  (lc_pP h5 14 1402 x0 a4).bind fun h6 =>
  lc_na h6 901 32 fun a7 h8 =>
  (lc_pP h8 14 1403 x0 a7).bind fun h9 =>
  lc_na h9 901 32 fun a10 h11 =>
  (lc_pP h11 14 1404 x0 a10).bind fun h12 =>
  lc_na h12 901 32 fun a13 h14 =>
  (lc_pP h14 14 1405 x0 a13).bind fun h15 =>
  lc_na h15 903 1024 fun a16 h17 =>
  (lc_pP h17 14 1406 x0 a16).bind fun h18 =>
  lc_na h18 901 32 fun a19 h20 =>
  (lc_pP h20 14 1408 x0 a19).bind fun h21 =>
  lc_na h21 901 32 fun a22 h23 =>
  (lc_pP h23 14 1409 x0 a22).bind fun h24 =>
  lc_na h24 901 32 fun a25 h26 =>
  (lc_pP h26 14 1410 x0 a25).bind fun h27 =>
  lc_na h27 901 32 fun a28 h29 =>
  (lc_pP h29 14 1411 x0 a28).bind fun h30 =>
  lc_na h30 901 32 fun a31 h32 =>
  (lc_pP h32 14 1412 x0 a31).bind fun h33 =>
  lc_na h33 901 32 fun a34 h35 =>
  (lc_pP h35 14 1413 x0 a34).bind fun h36 =>
  lc_na h36 901 32 fun a37 h38 =>
  (lc_pP h38 14 1414 x0 a37).bind fun h39 =>
  (lc_pI h39 14 1416 x0 ((-1))).bind fun h40 =>
  some h40
  )

def lc_X16_init (x0 : Nat) (h : ly_S) : Option ly_S :=
  lc_kd h 17 x0 (
  lc_na h 903 128 fun a1 h2 =>
  (lc_pP h2 17 1700 x0 a1).bind fun h3 =>
  lc_na h3 901 128 fun a4 h5 =>
  (lc_pP h5 17 1701 x0 a4).bind fun h6 =>
  lc_na h6 901 128 fun a7 h8 =>
  (lc_pP h8 17 1702 x0 a7).bind fun h9 =>
  lc_na h9 901 128 fun a10 h11 =>
  (lc_pP h11 17 1703 x0 a10).bind fun h12 =>
  lc_na h12 901 128 fun a13 h14 =>
  (lc_pP h14 17 1704 x0 a13).bind fun h15 =>
  lc_na h15 901 16600 fun a16 h17 =>
  (lc_pP h17 17 1706 x0 a16).bind fun h18 =>
  lc_na h18 902 16600 fun a19 h20 =>
  (lc_pP h20 17 1707 x0 a19).bind fun h21 =>
  lc_na h21 902 16600 fun a22 h23 =>
  (lc_pP h23 17 1708 x0 a22).bind fun h24 =>
  lc_na h24 902 16600 fun a25 h26 =>
  (lc_pP h26 17 1709 x0 a25).bind fun h27 =>
  lc_na h27 902 16600 fun a28 h29 =>
  (lc_pP h29 17 1710 x0 a28).bind fun h30 =>
  lc_na h30 901 34000 fun a31 h32 =>
  (lc_pP h32 17 1712 x0 a31).bind fun h33 =>
  lc_na h33 901 280 fun a34 h35 =>
  (lc_pP h35 17 1713 x0 a34).bind fun h36 =>
  lc_na h36 901 280 fun a37 h38 =>
  (lc_pP h38 17 1714 x0 a37).bind fun h39 =>
  lc_na h39 901 280 fun a40 h41 =>
  (lc_pP h41 17 1715 x0 a40).bind fun h42 =>
  lc_na h42 901 280 fun a43 h44 =>
  (lc_pP h44 17 1716 x0 a43).bind fun h45 =>
  lc_na h45 901 8400 fun a46 h47 =>
  (lc_pP h47 17 1718 x0 a46).bind fun h48 =>
  lc_na h48 901 8400 fun a49 h50 =>
  (lc_pP h50 17 1719 x0 a49).bind fun h51 =>
  lc_na h51 901 8400 fun a52 h53 =>
  (lc_pP h53 17 1720 x0 a52).bind fun h54 =>
  lc_na h54 901 8400 fun a55 h56 =>
  (lc_pP h56 17 1721 x0 a55).bind fun h57 =>
  lc_na h57 901 8400 fun a58 h59 =>
  (lc_pP h59 17 1722 x0 a58).bind fun h60 =>
  lc_na h60 901 8400 fun a61 h62 =>
  (lc_pP h62 17 1723 x0 a61).bind fun h63 =>
  lc_na h63 901 16600 fun a64 h65 =>
  (lc_pP h65 17 1724 x0 a64).bind fun h66 =>
  some h66
  )

def lc_X17_init (x0 : Nat) (h : ly_S) : Option ly_S :=
  lc_kd h 18 x0 (
  lc_new h 15 10 fun a1 h2 =>
  (lc_X14_init a1 h2).bind fun h3 =>
  (lc_pP h3 18 1801 x0 a1).bind fun h4 =>
  lc_new h4 16 21 fun a5 h6 =>
  (lc_X15_init a5 h6).bind fun h7 =>
  (lc_pP h7 18 1802 x0 a5).bind fun h8 =>
  lc_new h8 14 18 fun a9 h10 =>
  (lc_X13_init a9 h10).bind fun h11 =>
  (lc_pP h11 18 1803 x0 a9).bind fun h12 =>
  lc_new h12 17 28 fun a13 h14 =>
  (lc_X16_init a13 h14).bind fun h15 =>
  (lc_pP h15 18 1804 x0 a13).bind fun h16 =>
  lc_na h16 901 8192 fun a17 h18 =>
  (lc_pP h18 18 1805 x0 a17).bind fun h19 =>
  (lc_pI h19 18 1808 x0 ((-1))).bind fun h20 =>
  lc_na h20 901 128 fun a21 h22 =>
  (lc_pP h22 18 1820 x0 a21).bind fun h23 =>
  lc_na h23 901 128 fun a24 h25 =>
  (lc_pP h25 18 1822 x0 a24).bind fun h26 =>
  lc_na h26 901 48 fun a27 h28 =>
  (lc_pP h28 18 1824 x0 a27).bind fun h29 =>
  lc_na h29 901 48 fun a30 h31 =>
  (lc_pP h31 18 1825 x0 a30).bind fun h32 =>
  lc_na h32 901 3072 fun a33 h34 =>
  (lc_pP h34 18 1826 x0 a33).bind fun h35 =>
  some h35
  )

theorem lm_X0_init {B : Nat} (hB : 0 < B) {x0 : Nat} {h : ly_S} : lm B (fn_X0_init (B + x0) (lay B h)) (lc_X0_init x0 h) := by
  unfold fn_X0_init lc_X0_init
  refine lm_kd ?_
  refine lm_na (fun _ _ => ?_)
  refine lm_pP hB (fun _ => ?_)
  exact lm_rt

theorem lm_X4_init {B : Nat} (hB : 0 < B) {x0 : Nat} {x1 : Nat} {h : ly_S} : lm B (fn_X4_init (B + x0) (B + x1) (lay B h)) (lc_X4_init x0 x1 h) := by
  unfold fn_X4_init lc_X4_init
  refine lm_kd ?_
  refine lm_pI (fun _ => ?_)
  refine lm_pP hB (fun _ => ?_)
  exact lm_rt

theorem lm_X1_init {B : Nat} (hB : 0 < B) {x0 : Nat} {h : ly_S} : lm B (fn_X1_init (B + x0) (lay B h)) (lc_X1_init x0 h) := by
  unfold fn_X1_init lc_X1_init
  refine lm_kd ?_
  refine lm_na (fun _ _ => ?_)
  refine lm_pP hB (fun _ => ?_)
  refine lm_na (fun _ _ => ?_)
  refine lm_pP hB (fun _ => ?_)
  refine lm_na (fun _ _ => ?_)
  refine lm_pP hB (fun _ => ?_)
  refine lm_na (fun _ _ => ?_)
  refine lm_pP hB (fun _ => ?_)
  refine lm_na (fun _ _ => ?_)
  refine lm_pP hB (fun _ => ?_)
  refine lm_na (fun _ _ => ?_)
  refine lm_pP hB (fun _ => ?_)
  exact lm_rt

theorem lm_X8_init {B : Nat} (hB : 0 < B) {x0 : Nat} {h : ly_S} : lm B (fn_X8_init (B + x0) (lay B h)) (lc_X8_init x0 h) := by
  unfold fn_X8_init lc_X8_init
  refine lm_kd ?_
  refine lm_new (fun _ _ => ?_)
  refine lm_cl (lm_X1_init hB) (fun _ => ?_)
  refine lm_pP hB (fun _ => ?_)
  refine lm_na (fun _ _ => ?_)
  refine lm_pP hB (fun _ => ?_)
  refine lm_na (fun _ _ => ?_)
  refine lm_pP hB (fun _ => ?_)
  refine lm_na (fun _ _ => ?_)
  refine lm_pP hB (fun _ => ?_)
  refine lm_na (fun _ _ => ?_)
  refine lm_pP hB (fun _ => ?_)
  refine lm_na (fun _ _ => ?_)
  refine lm_pP hB (fun _ => ?_)
  refine lm_na (fun _ _ => ?_)
  refine lm_pP hB (fun _ => ?_)
  refine lm_na (fun _ _ => ?_)
  refine lm_pP hB (fun _ => ?_)
  refine lm_na (fun _ _ => ?_)
  refine lm_pP hB (fun _ => ?_)
  refine lm_na (fun _ _ => ?_)
  refine lm_pP hB (fun _ => ?_)
  exact lm_rt

theorem lm_X7_init {B : Nat} (hB : 0 < B) {x0 : Nat} {h : ly_S} : lm B (fn_X7_init (B + x0) (lay B h)) (lc_X7_init x0 h) := by
  unfold fn_X7_init lc_X7_init
  refine lm_kd ?_
  exact lm_rt

theorem lm_X6_init {B : Nat} (hB : 0 < B) {x0 : Nat} {h : ly_S} : lm B (fn_X6_init (B + x0) (lay B h)) (lc_X6_init x0 h) := by
  unfold fn_X6_init lc_X6_init
  refine lm_kd ?_
  refine lm_pI (fun _ => ?_)
  exact lm_rt

theorem lm_X11_init {B : Nat} (hB : 0 < B) {x0 : Nat} {h : ly_S} : lm B (fn_X11_init (B + x0) (lay B h)) (lc_X11_init x0 h) := by
  unfold fn_X11_init lc_X11_init
  refine lm_kd ?_
  refine lm_na (fun _ _ => ?_)
  refine lm_pP hB (fun _ => ?_)
  exact lm_rt

theorem lm_X2_init_116b {B : Nat} (hB : 0 < B) {k116 : Nat → Int32 → sv_H → Option (Unit × sv_H)} {j116 : Nat → Int32 → ly_S → Option ly_S} (hk116 : ∀ {x0 : Nat} {x1 : Int32} {h : ly_S}, lm B (k116 (B + x0) x1 (lay B h)) (j116 x0 x1 h)) {x0 : Nat} {x1 : Int32} {h : ly_S} : lm B (fn_X2_init_116b k116 (B + x0) x1 (lay B h)) (lc_X2_init_116b j116 x0 x1 h) := by
  unfold fn_X2_init_116b lc_X2_init_116b
  refine lm_if ?_ ?_
  · exact lm_rt
  · refine lm_gP hB (fun _ => ?_)
    refine lm_new (fun _ _ => ?_)
    refine lm_cl (lm_X11_init hB) (fun _ => ?_)
    refine lm_sP hB (fun _ => ?_)
    exact hk116
theorem lm_X2_init_116 {B : Nat} (hB : 0 < B) : ∀ (n fu : Nat), n ≤ fu → ∀ {x0 : Nat} {x1 : Int32} {h : ly_S}, lm B (fn_X2_init_116 fu (B + x0) x1 (lay B h)) (lc_X2_init_116 n x0 x1 h) := by
  intro n
  induction n with
  | zero => intro fu hf x0 x1 h; exact lm_no
  | succ n ih =>
    intro fu hf x0 x1 h
    obtain ⟨q, rfl⟩ : ∃ q, fu = q + 1 := ⟨fu - 1, by omega⟩
    exact lm_X2_init_116b hB (fun {x0 x1 h} => ih q (by omega))
theorem lm_X2_init_89b {B : Nat} (hB : 0 < B) {k89 : Nat → Int32 → sv_H → Option (Unit × sv_H)} {j89 : Nat → Int32 → ly_S → Option ly_S} (hk89 : ∀ {x0 : Nat} {x1 : Int32} {h : ly_S}, lm B (k89 (B + x0) x1 (lay B h)) (j89 x0 x1 h)) {x0 : Nat} {x1 : Int32} {h : ly_S} : lm B (fn_X2_init_89b k89 (B + x0) x1 (lay B h)) (lc_X2_init_89b j89 x0 x1 h) := by
  unfold fn_X2_init_89b lc_X2_init_89b
  refine lm_if ?_ ?_
  · exact lm_X2_init_116 hB 1000 sv_fuel (by decide)
  · refine lm_gP hB (fun _ => ?_)
    refine lm_new (fun _ _ => ?_)
    refine lm_cl (lm_X6_init hB) (fun _ => ?_)
    refine lm_sP hB (fun _ => ?_)
    exact hk89
theorem lm_X2_init_89 {B : Nat} (hB : 0 < B) : ∀ (n fu : Nat), n ≤ fu → ∀ {x0 : Nat} {x1 : Int32} {h : ly_S}, lm B (fn_X2_init_89 fu (B + x0) x1 (lay B h)) (lc_X2_init_89 n x0 x1 h) := by
  intro n
  induction n with
  | zero => intro fu hf x0 x1 h; exact lm_no
  | succ n ih =>
    intro fu hf x0 x1 h
    obtain ⟨q, rfl⟩ : ∃ q, fu = q + 1 := ⟨fu - 1, by omega⟩
    exact lm_X2_init_89b hB (fun {x0 x1 h} => ih q (by omega))
theorem lm_X2_init {B : Nat} (hB : 0 < B) {x0 : Nat} {h : ly_S} : lm B (fn_X2_init (B + x0) (lay B h)) (lc_X2_init x0 h) := by
  unfold fn_X2_init lc_X2_init
  refine lm_kd ?_
  refine lm_new (fun _ _ => ?_)
  refine lm_cl (lm_X0_init hB) (fun _ => ?_)
  refine lm_pP hB (fun _ => ?_)
  refine lm_new (fun _ _ => ?_)
  refine lm_cl (lm_X7_init hB) (fun _ => ?_)
  refine lm_pP hB (fun _ => ?_)
  refine lm_na (fun _ _ => ?_)
  refine lm_pP hB (fun _ => ?_)
  refine lm_na (fun _ _ => ?_)
  refine lm_pP hB (fun _ => ?_)
  refine lm_na (fun _ _ => ?_)
  refine lm_pP hB (fun _ => ?_)
  refine lm_na (fun _ _ => ?_)
  refine lm_pP hB (fun _ => ?_)
  refine lm_na (fun _ _ => ?_)
  refine lm_pP hB (fun _ => ?_)
  refine lm_na (fun _ _ => ?_)
  refine lm_pP hB (fun _ => ?_)
  refine lm_na (fun _ _ => ?_)
  refine lm_pP hB (fun _ => ?_)
  exact lm_X2_init_89 hB 1000 sv_fuel (by decide)

theorem lm_X3_init {B : Nat} (hB : 0 < B) {x0 : Nat} {h : ly_S} : lm B (fn_X3_init (B + x0) (lay B h)) (lc_X3_init x0 h) := by
  unfold fn_X3_init lc_X3_init
  refine lm_kd ?_
  refine lm_na (fun _ _ => ?_)
  refine lm_pP hB (fun _ => ?_)
  refine lm_na (fun _ _ => ?_)
  refine lm_pP hB (fun _ => ?_)
  refine lm_na (fun _ _ => ?_)
  refine lm_pP hB (fun _ => ?_)
  refine lm_na (fun _ _ => ?_)
  refine lm_pP hB (fun _ => ?_)
  refine lm_na (fun _ _ => ?_)
  refine lm_pP hB (fun _ => ?_)
  refine lm_na (fun _ _ => ?_)
  refine lm_pP hB (fun _ => ?_)
  exact lm_rt

theorem lm_X10_init {B : Nat} (hB : 0 < B) {x0 : Nat} {x1 : Nat} {x2 : Nat} {h : ly_S} : lm B (fn_X10_init (B + x0) (B + x1) (B + x2) (lay B h)) (lc_X10_init x0 x1 x2 h) := by
  unfold fn_X10_init lc_X10_init
  refine lm_kd ?_
  refine lm_pP hB (fun _ => ?_)
  refine lm_pP hB (fun _ => ?_)
  exact lm_rt

theorem lm_X9_init {B : Nat} (hB : 0 < B) {x0 : Nat} {x1 : Nat} {h : ly_S} : lm B (fn_X9_init (B + x0) (B + x1) (lay B h)) (lc_X9_init x0 x1 h) := by
  unfold fn_X9_init lc_X9_init
  refine lm_kd ?_
  refine lm_na (fun _ _ => ?_)
  refine lm_pP hB (fun _ => ?_)
  refine lm_na (fun _ _ => ?_)
  refine lm_pP hB (fun _ => ?_)
  refine lm_na (fun _ _ => ?_)
  refine lm_pP hB (fun _ => ?_)
  refine lm_pP hB (fun _ => ?_)
  exact lm_rt

theorem lm_X5_init {B : Nat} (hB : 0 < B) {x0 : Nat} {h : ly_S} : lm B (fn_X5_init (B + x0) (lay B h)) (lc_X5_init x0 h) := by
  unfold fn_X5_init lc_X5_init
  refine lm_kd ?_
  refine lm_new (fun _ _ => ?_)
  refine lm_cl (lm_X7_init hB) (fun _ => ?_)
  refine lm_pP hB (fun _ => ?_)
  refine lm_na (fun _ _ => ?_)
  refine lm_pP hB (fun _ => ?_)
  exact lm_rt

theorem lm_X12_init {B : Nat} (hB : 0 < B) {x0 : Nat} {h : ly_S} : lm B (fn_X12_init (B + x0) (lay B h)) (lc_X12_init x0 h) := by
  unfold fn_X12_init lc_X12_init
  refine lm_kd ?_
  refine lm_new (fun _ _ => ?_)
  refine lm_cl (lm_X0_init hB) (fun _ => ?_)
  refine lm_pP hB (fun _ => ?_)
  refine lm_new (fun _ _ => ?_)
  refine lm_cl (lm_X0_init hB) (fun _ => ?_)
  refine lm_pP hB (fun _ => ?_)
  refine lm_new (fun _ _ => ?_)
  refine lm_gP hB (fun _ => ?_)
  refine lm_cl (lm_X4_init hB) (fun _ => ?_)
  refine lm_pP hB (fun _ => ?_)
  refine lm_new (fun _ _ => ?_)
  refine lm_cl (lm_X8_init hB) (fun _ => ?_)
  refine lm_pP hB (fun _ => ?_)
  refine lm_new (fun _ _ => ?_)
  refine lm_cl (lm_X2_init hB) (fun _ => ?_)
  refine lm_pP hB (fun _ => ?_)
  refine lm_new (fun _ _ => ?_)
  refine lm_cl (lm_X2_init hB) (fun _ => ?_)
  refine lm_pP hB (fun _ => ?_)
  refine lm_new (fun _ _ => ?_)
  refine lm_cl (lm_X3_init hB) (fun _ => ?_)
  refine lm_new (fun _ _ => ?_)
  refine lm_gP hB (fun _ => ?_)
  refine lm_cl (lm_X10_init hB) (fun _ => ?_)
  refine lm_pP hB (fun _ => ?_)
  refine lm_new (fun _ _ => ?_)
  refine lm_cl (lm_X9_init hB) (fun _ => ?_)
  refine lm_pP hB (fun _ => ?_)
  refine lm_new (fun _ _ => ?_)
  refine lm_cl (lm_X5_init hB) (fun _ => ?_)
  refine lm_pP hB (fun _ => ?_)
  refine lm_new (fun _ _ => ?_)
  refine lm_cl (lm_X5_init hB) (fun _ => ?_)
  refine lm_pP hB (fun _ => ?_)
  exact lm_rt

theorem lm_X14_init {B : Nat} (hB : 0 < B) {x0 : Nat} {h : ly_S} : lm B (fn_X14_init (B + x0) (lay B h)) (lc_X14_init x0 h) := by
  unfold fn_X14_init lc_X14_init
  refine lm_kd ?_
  refine lm_na (fun _ _ => ?_)
  refine lm_pP hB (fun _ => ?_)
  refine lm_na (fun _ _ => ?_)
  refine lm_pP hB (fun _ => ?_)
  refine lm_pI (fun _ => ?_)
  refine lm_pI (fun _ => ?_)
  exact lm_rt

theorem lm_X15_init {B : Nat} (hB : 0 < B) {x0 : Nat} {h : ly_S} : lm B (fn_X15_init (B + x0) (lay B h)) (lc_X15_init x0 h) := by
  unfold fn_X15_init lc_X15_init
  refine lm_kd ?_
  refine lm_na (fun _ _ => ?_)
  refine lm_pP hB (fun _ => ?_)
  refine lm_na (fun _ _ => ?_)
  refine lm_pP hB (fun _ => ?_)
  refine lm_na (fun _ _ => ?_)
  refine lm_pP hB (fun _ => ?_)
  refine lm_na (fun _ _ => ?_)
  refine lm_pP hB (fun _ => ?_)
  refine lm_na (fun _ _ => ?_)
  refine lm_pP hB (fun _ => ?_)
  refine lm_na (fun _ _ => ?_)
  refine lm_pP hB (fun _ => ?_)
  refine lm_na (fun _ _ => ?_)
  refine lm_pP hB (fun _ => ?_)
  refine lm_na (fun _ _ => ?_)
  refine lm_pP hB (fun _ => ?_)
  refine lm_na (fun _ _ => ?_)
  refine lm_pP hB (fun _ => ?_)
  refine lm_na (fun _ _ => ?_)
  refine lm_pP hB (fun _ => ?_)
  refine lm_na (fun _ _ => ?_)
  refine lm_pP hB (fun _ => ?_)
  refine lm_na (fun _ _ => ?_)
  refine lm_pP hB (fun _ => ?_)
  refine lm_pI (fun _ => ?_)
  exact lm_rt

theorem lm_X13_init {B : Nat} (hB : 0 < B) {x0 : Nat} {h : ly_S} : lm B (fn_X13_init (B + x0) (lay B h)) (lc_X13_init x0 h) := by
  unfold fn_X13_init lc_X13_init
  refine lm_kd ?_
  refine lm_na (fun _ _ => ?_)
  refine lm_pP hB (fun _ => ?_)
  refine lm_na (fun _ _ => ?_)
  refine lm_pP hB (fun _ => ?_)
  refine lm_na (fun _ _ => ?_)
  refine lm_pP hB (fun _ => ?_)
  refine lm_na (fun _ _ => ?_)
  refine lm_pP hB (fun _ => ?_)
  refine lm_na (fun _ _ => ?_)
  refine lm_pP hB (fun _ => ?_)
  refine lm_na (fun _ _ => ?_)
  refine lm_pP hB (fun _ => ?_)
  refine lm_na (fun _ _ => ?_)
  refine lm_pP hB (fun _ => ?_)
  refine lm_na (fun _ _ => ?_)
  refine lm_pP hB (fun _ => ?_)
  refine lm_na (fun _ _ => ?_)
  refine lm_pP hB (fun _ => ?_)
  refine lm_na (fun _ _ => ?_)
  refine lm_pP hB (fun _ => ?_)
  refine lm_na (fun _ _ => ?_)
  refine lm_pP hB (fun _ => ?_)
  refine lm_na (fun _ _ => ?_)
  refine lm_pP hB (fun _ => ?_)
  refine lm_na (fun _ _ => ?_)
  refine lm_pP hB (fun _ => ?_)
  refine lm_pI (fun _ => ?_)
  exact lm_rt

theorem lm_X16_init {B : Nat} (hB : 0 < B) {x0 : Nat} {h : ly_S} : lm B (fn_X16_init (B + x0) (lay B h)) (lc_X16_init x0 h) := by
  unfold fn_X16_init lc_X16_init
  refine lm_kd ?_
  refine lm_na (fun _ _ => ?_)
  refine lm_pP hB (fun _ => ?_)
  refine lm_na (fun _ _ => ?_)
  refine lm_pP hB (fun _ => ?_)
  refine lm_na (fun _ _ => ?_)
  refine lm_pP hB (fun _ => ?_)
  refine lm_na (fun _ _ => ?_)
  refine lm_pP hB (fun _ => ?_)
  refine lm_na (fun _ _ => ?_)
  refine lm_pP hB (fun _ => ?_)
  refine lm_na (fun _ _ => ?_)
  refine lm_pP hB (fun _ => ?_)
  refine lm_na (fun _ _ => ?_)
  refine lm_pP hB (fun _ => ?_)
  refine lm_na (fun _ _ => ?_)
  refine lm_pP hB (fun _ => ?_)
  refine lm_na (fun _ _ => ?_)
  refine lm_pP hB (fun _ => ?_)
  refine lm_na (fun _ _ => ?_)
  refine lm_pP hB (fun _ => ?_)
  refine lm_na (fun _ _ => ?_)
  refine lm_pP hB (fun _ => ?_)
  refine lm_na (fun _ _ => ?_)
  refine lm_pP hB (fun _ => ?_)
  refine lm_na (fun _ _ => ?_)
  refine lm_pP hB (fun _ => ?_)
  refine lm_na (fun _ _ => ?_)
  refine lm_pP hB (fun _ => ?_)
  refine lm_na (fun _ _ => ?_)
  refine lm_pP hB (fun _ => ?_)
  refine lm_na (fun _ _ => ?_)
  refine lm_pP hB (fun _ => ?_)
  refine lm_na (fun _ _ => ?_)
  refine lm_pP hB (fun _ => ?_)
  refine lm_na (fun _ _ => ?_)
  refine lm_pP hB (fun _ => ?_)
  refine lm_na (fun _ _ => ?_)
  refine lm_pP hB (fun _ => ?_)
  refine lm_na (fun _ _ => ?_)
  refine lm_pP hB (fun _ => ?_)
  refine lm_na (fun _ _ => ?_)
  refine lm_pP hB (fun _ => ?_)
  refine lm_na (fun _ _ => ?_)
  refine lm_pP hB (fun _ => ?_)
  exact lm_rt

theorem lm_X17_init {B : Nat} (hB : 0 < B) {x0 : Nat} {h : ly_S} : lm B (fn_X17_init (B + x0) (lay B h)) (lc_X17_init x0 h) := by
  unfold fn_X17_init lc_X17_init
  refine lm_kd ?_
  refine lm_new (fun _ _ => ?_)
  refine lm_cl (lm_X14_init hB) (fun _ => ?_)
  refine lm_pP hB (fun _ => ?_)
  refine lm_new (fun _ _ => ?_)
  refine lm_cl (lm_X15_init hB) (fun _ => ?_)
  refine lm_pP hB (fun _ => ?_)
  refine lm_new (fun _ _ => ?_)
  refine lm_cl (lm_X13_init hB) (fun _ => ?_)
  refine lm_pP hB (fun _ => ?_)
  refine lm_new (fun _ _ => ?_)
  refine lm_cl (lm_X16_init hB) (fun _ => ?_)
  refine lm_pP hB (fun _ => ?_)
  refine lm_na (fun _ _ => ?_)
  refine lm_pP hB (fun _ => ?_)
  refine lm_pI (fun _ => ?_)
  refine lm_na (fun _ _ => ?_)
  refine lm_pP hB (fun _ => ?_)
  refine lm_na (fun _ _ => ?_)
  refine lm_pP hB (fun _ => ?_)
  refine lm_na (fun _ _ => ?_)
  refine lm_pP hB (fun _ => ?_)
  refine lm_na (fun _ _ => ?_)
  refine lm_pP hB (fun _ => ?_)
  refine lm_na (fun _ _ => ?_)
  refine lm_pP hB (fun _ => ?_)
  exact lm_rt

