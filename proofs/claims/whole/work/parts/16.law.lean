def sv_sc (xs : Nat → Int32) (L : Nat) (i : Int32) : Option Int32 := if ¬ (i < 0 ∨ L ≤ i.toNatClampNeg) then some (xs i.toNatClampNeg) else none
def fn_L_law_866 (xs : Nat → Int32) (L : Nat) (k18 : Nat → Nat → Int32 → sv_H → Option (Int32 × sv_H)) (x1 : Nat) (x2 : Nat) (x3 : Int32) (h : sv_H) : Option (Int32 × sv_H) :=
  k18 x1 x2 (x3 + 5) h

def fn_L_law_436 (xs : Nat → Int32) (L : Nat) (k18 : Nat → Nat → Int32 → sv_H → Option (Int32 × sv_H)) (x1 : Nat) (x2 : Nat) (x3 : Int32) (s0 : Int32) (s1 : Nat) (s2 : Int32) (s3 : Int32) (s4 : Int32) (s5 : Int32) (h : sv_H) : Option (Int32 × sv_H) :=
  sv_b (fn_X17_addInput s1 s2 s3 s4 s5 h) fun r1 h2 =>
  if s0 = r1 then
    fn_L_law_866 xs L k18 x1 x2 x3 h2
  else
    some (0, h2)

def fn_L_law_404 (xs : Nat → Int32) (L : Nat) (k18 : Nat → Nat → Int32 → sv_H → Option (Int32 × sv_H)) (x1 : Nat) (x2 : Nat) (x3 : Int32) (s0 : Nat) (s1 : Int32) (s2 : Int32) (s3 : Int32) (s4 : Int32) (h : sv_H) : Option (Int32 × sv_H) :=
  sv_b (fn_X12_addInput s0 s1 s2 s3 s4 h) fun r1 h2 =>
  (sv_sc xs L (x3 + 1)).bind fun v3 =>
  (sv_sc xs L (x3 + 2)).bind fun v4 =>
  (sv_sc xs L (x3 + 3)).bind fun v5 =>
  (sv_sc xs L (x3 + 4)).bind fun v6 =>
  if v6 = 0 then
    fn_L_law_436 xs L k18 x1 x2 x3 r1 x2 v3 v4 v5 0 h2
  else
    fn_L_law_436 xs L k18 x1 x2 x3 r1 x2 v3 v4 v5 1 h2

def fn_L_law_551 (xs : Nat → Int32) (L : Nat) (k18 : Nat → Nat → Int32 → sv_H → Option (Int32 × sv_H)) (x1 : Nat) (x2 : Nat) (x3 : Int32) (s0 : Int32) (s1 : Nat) (s2 : Int32) (s3 : Int32) (s4 : Int32) (s5 : Int32) (h : sv_H) : Option (Int32 × sv_H) :=
  sv_b (fn_X17_stepBy s1 s2 s3 s4 s5 h) fun r1 h2 =>
  if s0 = r1 then
    fn_L_law_866 xs L k18 x1 x2 x3 h2
  else
    some (0, h2)

def fn_L_law_519 (xs : Nat → Int32) (L : Nat) (k18 : Nat → Nat → Int32 → sv_H → Option (Int32 × sv_H)) (x1 : Nat) (x2 : Nat) (x3 : Int32) (s0 : Nat) (s1 : Int32) (s2 : Int32) (s3 : Int32) (s4 : Int32) (h : sv_H) : Option (Int32 × sv_H) :=
  sv_b (fn_X12_stepBy s0 s1 s2 s3 s4 h) fun r1 h2 =>
  (sv_sc xs L (x3 + 1)).bind fun v3 =>
  (sv_sc xs L (x3 + 2)).bind fun v4 =>
  (sv_sc xs L (x3 + 3)).bind fun v5 =>
  (sv_sc xs L (x3 + 4)).bind fun v6 =>
  if v6 = 0 then
    fn_L_law_551 xs L k18 x1 x2 x3 r1 x2 v3 v4 v5 0 h2
  else
    fn_L_law_551 xs L k18 x1 x2 x3 r1 x2 v3 v4 v5 1 h2

def fn_L_law_835 (xs : Nat → Int32) (L : Nat) (k18 : Nat → Nat → Int32 → sv_H → Option (Int32 × sv_H)) (x1 : Nat) (x2 : Nat) (x3 : Int32) (s0 : Int32) (s1 : Nat) (s2 : Int32) (s3 : Int32) (h : sv_H) : Option (Int32 × sv_H) :=
  sv_b (fn_X17_byteOf s1 s2 s3 h) fun r1 h2 =>
  if s0 = r1 then
    fn_L_law_866 xs L k18 x1 x2 x3 h2
  else
    some (0, h2)

def fn_L_law_813 (xs : Nat → Int32) (L : Nat) (k18 : Nat → Nat → Int32 → sv_H → Option (Int32 × sv_H)) (x1 : Nat) (x2 : Nat) (x3 : Int32) (s0 : Nat) (s1 : Int32) (s2 : Int32) (h : sv_H) : Option (Int32 × sv_H) :=
  sv_b (fn_X12_byteOf s0 s1 s2 h) fun r1 h2 =>
  (sv_sc xs L (x3 + 1)).bind fun v3 =>
  (sv_sc xs L (x3 + 2)).bind fun v4 =>
  if v4 = 0 then
    fn_L_law_835 xs L k18 x1 x2 x3 r1 x2 v3 0 h2
  else
    fn_L_law_835 xs L k18 x1 x2 x3 r1 x2 v3 1 h2

def fn_L_law_18b (xs : Nat → Int32) (L : Nat) (k18 : Nat → Nat → Int32 → sv_H → Option (Int32 × sv_H)) (x1 : Nat) (x2 : Nat) (x3 : Int32) (h : sv_H) : Option (Int32 × sv_H) :=
  if ((Int32.ofNat L) - 5) < x3 then
    some (1, h)
  else
    (sv_sc xs L x3).bind fun v1 =>
    if (v1 &&& 31) = 0 then
      (sv_sc xs L (x3 + 1)).bind fun v2 =>
      (sv_sc xs L (x3 + 2)).bind fun v3 =>
      (sv_sc xs L (x3 + 3)).bind fun v4 =>
      sv_b (fn_X12_giveBytes x1 (((Int32.toInt64 v2) <<< (Int32.toInt64 32 &&& 63)) ||| ((Int32.toInt64 v3) &&& 4294967295)) v4 h) fun r5 h6 =>
      (sv_sc xs L (x3 + 1)).bind fun v7 =>
      (sv_sc xs L (x3 + 2)).bind fun v8 =>
      (sv_sc xs L (x3 + 3)).bind fun v9 =>
      sv_b (fn_X17_giveBytes x2 (((Int32.toInt64 v7) <<< (Int32.toInt64 32 &&& 63)) ||| ((Int32.toInt64 v8) &&& 4294967295)) v9 h6) fun r10 h11 =>
      if r5 = r10 then
        fn_L_law_866 xs L k18 x1 x2 x3 h11
      else
        some (0, h11)
    else
    if (v1 &&& 31) = 1 then
      (sv_sc xs L (x3 + 1)).bind fun v12 =>
      sv_b (fn_X12_cutBytes x1 v12 h) fun r13 h14 =>
      (sv_sc xs L (x3 + 1)).bind fun v15 =>
      sv_b (fn_X17_cutBytes x2 v15 h14) fun r16 h17 =>
      if r13 = r16 then
        fn_L_law_866 xs L k18 x1 x2 x3 h17
      else
        some (0, h17)
    else
    if (v1 &&& 31) = 2 then
      (sv_sc xs L (x3 + 1)).bind fun v18 =>
      (sv_sc xs L (x3 + 2)).bind fun v19 =>
      sv_b (fn_X12_pokeByte x1 v18 v19 h) fun r20 h21 =>
      (sv_sc xs L (x3 + 1)).bind fun v22 =>
      (sv_sc xs L (x3 + 2)).bind fun v23 =>
      sv_b (fn_X17_pokeByte x2 v22 v23 h21) fun r24 h25 =>
      if r20 = r24 then
        fn_L_law_866 xs L k18 x1 x2 x3 h25
      else
        some (0, h25)
    else
    if (v1 &&& 31) = 3 then
      sv_b (fn_X12_loadMap x1 h) fun r26 h27 =>
      sv_b (fn_X17_loadMap x2 h27) fun r28 h29 =>
      if r26 = r28 then
        fn_L_law_866 xs L k18 x1 x2 x3 h29
      else
        some (0, h29)
    else
    if (v1 &&& 31) = 4 then
      sv_b (fn_X12_loadDemo x1 h) fun r30 h31 =>
      sv_b (fn_X17_loadDemo x2 h31) fun r32 h33 =>
      if r30 = r32 then
        fn_L_law_866 xs L k18 x1 x2 x3 h33
      else
        some (0, h33)
    else
    if (v1 &&& 31) = 5 then
      sv_b (fn_X12_saveMap x1 h) fun r34 h35 =>
      sv_b (fn_X17_saveMap x2 h35) fun r36 h37 =>
      if r34 = r36 then
        fn_L_law_866 xs L k18 x1 x2 x3 h37
      else
        some (0, h37)
    else
    if (v1 &&& 31) = 6 then
      sv_b (fn_X12_saveDemo x1 h) fun r38 h39 =>
      sv_b (fn_X17_saveDemo x2 h39) fun r40 h41 =>
      if r38 = r40 then
        fn_L_law_866 xs L k18 x1 x2 x3 h41
      else
        some (0, h41)
    else
    if (v1 &&& 31) = 7 then
      sv_b (fn_X12_turnBytes x1 h) fun _ h42 =>
      sv_b (fn_X17_turnBytes x2 h42) fun _ h43 =>
      fn_L_law_866 xs L k18 x1 x2 x3 h43
    else
    if (v1 &&& 31) = 8 then
      (sv_sc xs L (x3 + 1)).bind fun v44 =>
      (sv_sc xs L (x3 + 2)).bind fun v45 =>
      (sv_sc xs L (x3 + 3)).bind fun v46 =>
      (sv_sc xs L (x3 + 4)).bind fun v47 =>
      sv_b (fn_X12_startAt x1 v44 v45 v46 v47 h) fun r48 h49 =>
      (sv_sc xs L (x3 + 1)).bind fun v50 =>
      (sv_sc xs L (x3 + 2)).bind fun v51 =>
      (sv_sc xs L (x3 + 3)).bind fun v52 =>
      (sv_sc xs L (x3 + 4)).bind fun v53 =>
      sv_b (fn_X17_startAt x2 v50 v51 v52 v53 h49) fun r54 h55 =>
      if r48 = r54 then
        fn_L_law_866 xs L k18 x1 x2 x3 h55
      else
        some (0, h55)
    else
    if (v1 &&& 31) = 9 then
      (sv_sc xs L (x3 + 1)).bind fun v56 =>
      (sv_sc xs L (x3 + 2)).bind fun v57 =>
      (sv_sc xs L (x3 + 3)).bind fun v58 =>
      (sv_sc xs L (x3 + 4)).bind fun v59 =>
      if v59 = 0 then
        fn_L_law_404 xs L k18 x1 x2 x3 x1 v56 v57 v58 0 h
      else
        fn_L_law_404 xs L k18 x1 x2 x3 x1 v56 v57 v58 1 h
    else
    if (v1 &&& 31) = 10 then
      (sv_sc xs L (x3 + 1)).bind fun v60 =>
      sv_b (fn_X12_dropInputs x1 v60 h) fun r61 h62 =>
      (sv_sc xs L (x3 + 1)).bind fun v63 =>
      sv_b (fn_X17_dropInputs x2 v63 h62) fun r64 h65 =>
      if r61 = r64 then
        fn_L_law_866 xs L k18 x1 x2 x3 h65
      else
        some (0, h65)
    else
    if (v1 &&& 31) = 11 then
      (sv_sc xs L (x3 + 1)).bind fun v66 =>
      sv_b (fn_X12_playTo x1 v66 h) fun r67 h68 =>
      (sv_sc xs L (x3 + 1)).bind fun v69 =>
      sv_b (fn_X17_playTo x2 v69 h68) fun r70 h71 =>
      if r67 = r70 then
        fn_L_law_866 xs L k18 x1 x2 x3 h71
      else
        some (0, h71)
    else
    if (v1 &&& 31) = 12 then
      (sv_sc xs L (x3 + 1)).bind fun v72 =>
      (sv_sc xs L (x3 + 2)).bind fun v73 =>
      (sv_sc xs L (x3 + 3)).bind fun v74 =>
      (sv_sc xs L (x3 + 4)).bind fun v75 =>
      if v75 = 0 then
        fn_L_law_519 xs L k18 x1 x2 x3 x1 v72 v73 v74 0 h
      else
        fn_L_law_519 xs L k18 x1 x2 x3 x1 v72 v73 v74 1 h
    else
    if (v1 &&& 31) = 13 then
      (sv_sc xs L (x3 + 1)).bind fun v76 =>
      sv_b (fn_X12_walkerOf x1 v76 h) fun r77 h78 =>
      (sv_sc xs L (x3 + 1)).bind fun v79 =>
      sv_b (fn_X17_walkerOf x2 v79 h78) fun r80 h81 =>
      if r77 = r80 then
        fn_L_law_866 xs L k18 x1 x2 x3 h81
      else
        some (0, h81)
    else
    if (v1 &&& 31) = 14 then
      (sv_sc xs L (x3 + 1)).bind fun v82 =>
      (sv_sc xs L (x3 + 2)).bind fun v83 =>
      sv_b (fn_X12_sectorOf x1 v82 v83 h) fun r84 h85 =>
      (sv_sc xs L (x3 + 1)).bind fun v86 =>
      (sv_sc xs L (x3 + 2)).bind fun v87 =>
      sv_b (fn_X17_sectorOf x2 v86 v87 h85) fun r88 h89 =>
      if r84 = r88 then
        fn_L_law_866 xs L k18 x1 x2 x3 h89
      else
        some (0, h89)
    else
    if (v1 &&& 31) = 15 then
      (sv_sc xs L (x3 + 1)).bind fun v90 =>
      (sv_sc xs L (x3 + 2)).bind fun v91 =>
      sv_b (fn_X12_pixelAt x1 v90 v91 h) fun r92 h93 =>
      (sv_sc xs L (x3 + 1)).bind fun v94 =>
      (sv_sc xs L (x3 + 2)).bind fun v95 =>
      sv_b (fn_X17_pixelAt x2 v94 v95 h93) fun r96 h97 =>
      if r92 = r96 then
        fn_L_law_866 xs L k18 x1 x2 x3 h97
      else
        some (0, h97)
    else
    if (v1 &&& 31) = 16 then
      (sv_sc xs L (x3 + 1)).bind fun v98 =>
      (sv_sc xs L (x3 + 2)).bind fun v99 =>
      sv_b (fn_X12_surfaceAt x1 v98 v99 h) fun r100 h101 =>
      (sv_sc xs L (x3 + 1)).bind fun v102 =>
      (sv_sc xs L (x3 + 2)).bind fun v103 =>
      sv_b (fn_X17_surfaceAt x2 v102 v103 h101) fun r104 h105 =>
      if r100 = r104 then
        fn_L_law_866 xs L k18 x1 x2 x3 h105
      else
        some (0, h105)
    else
    if (v1 &&& 31) = 17 then
      (sv_sc xs L (x3 + 1)).bind fun v106 =>
      (sv_sc xs L (x3 + 2)).bind fun v107 =>
      sv_b (fn_X12_metAt x1 v106 v107 h) fun r108 h109 =>
      (sv_sc xs L (x3 + 1)).bind fun v110 =>
      (sv_sc xs L (x3 + 2)).bind fun v111 =>
      sv_b (fn_X17_metAt x2 v110 v111 h109) fun r112 h113 =>
      if r108 = r112 then
        fn_L_law_866 xs L k18 x1 x2 x3 h113
      else
        some (0, h113)
    else
    if (v1 &&& 31) = 18 then
      sv_b (fn_X12_frameOf x1 h) fun r114 h115 =>
      sv_b (fn_X17_frameOf x2 h115) fun r116 h117 =>
      if (lg_cmp r114 r116) = 0 then
        fn_L_law_866 xs L k18 x1 x2 x3 h117
      else
        some (0, h117)
    else
    if (v1 &&& 31) = 19 then
      (sv_sc xs L (x3 + 1)).bind fun v118 =>
      (sv_sc xs L (x3 + 2)).bind fun v119 =>
      sv_b (fn_X12_nodeOf x1 v118 v119 h) fun r120 h121 =>
      (sv_sc xs L (x3 + 1)).bind fun v122 =>
      (sv_sc xs L (x3 + 2)).bind fun v123 =>
      sv_b (fn_X17_nodeOf x2 v122 v123 h121) fun r124 h125 =>
      if r120 = r124 then
        fn_L_law_866 xs L k18 x1 x2 x3 h125
      else
        some (0, h125)
    else
    if (v1 &&& 31) = 20 then
      (sv_sc xs L (x3 + 1)).bind fun v126 =>
      (sv_sc xs L (x3 + 2)).bind fun v127 =>
      sv_b (fn_X12_leafOf x1 v126 v127 h) fun r128 h129 =>
      (sv_sc xs L (x3 + 1)).bind fun v130 =>
      (sv_sc xs L (x3 + 2)).bind fun v131 =>
      sv_b (fn_X17_leafOf x2 v130 v131 h129) fun r132 h133 =>
      if r128 = r132 then
        fn_L_law_866 xs L k18 x1 x2 x3 h133
      else
        some (0, h133)
    else
    if (v1 &&& 31) = 21 then
      (sv_sc xs L (x3 + 1)).bind fun v134 =>
      (sv_sc xs L (x3 + 2)).bind fun v135 =>
      if v135 = 0 then
        fn_L_law_813 xs L k18 x1 x2 x3 x1 v134 0 h
      else
        fn_L_law_813 xs L k18 x1 x2 x3 x1 v134 1 h
    else
    if (v1 &&& 31) = 22 then
      (sv_sc xs L (x3 + 1)).bind fun v136 =>
      sv_b (fn_X12_lookAt x1 v136 h) fun r137 h138 =>
      (sv_sc xs L (x3 + 1)).bind fun v139 =>
      sv_b (fn_X17_lookAt x2 v139 h138) fun r140 h141 =>
      if r137 = r140 then
        fn_L_law_866 xs L k18 x1 x2 x3 h141
      else
        some (0, h141)
    else
    fn_L_law_866 xs L k18 x1 x2 x3 h

def fn_L_law_18 (xs : Nat → Int32) (L : Nat) : Nat → Nat → Nat → Int32 → sv_H → Option (Int32 × sv_H)
  | 0, _, _, _, _ => none
  | sv_n + 1, x1, x2, x3, h => fn_L_law_18b xs L (fn_L_law_18 xs L sv_n) x1 x2 x3 h

def fn_L_law (xs : Nat → Int32) (L : Nat) (h : sv_H) : Option (Int32 × sv_H) :=
  sv_new h 13 11 fun a1 h2 =>
  sv_b (fn_X12_init a1 h2) fun _ h3 =>
  sv_new h3 18 29 fun a4 h5 =>
  sv_b (fn_X17_init a4 h5) fun _ h6 =>
  fn_L_law_18 xs L sv_fuel a1 a4 0 h6

theorem fr_L_law_866 {xs : Nat → Int32} {L : Nat} {h0 : sv_H} {k18 : Nat → Nat → Int32 → sv_H → Option (Int32 × sv_H)} (hk18 : ∀ {x1 : Nat} {x2 : Nat} {x3 : Int32} {h : sv_H}, sv_le h0 h → sv_fr sv_le h0 (k18 x1 x2 x3 h)) {x1 : Nat} {x2 : Nat} {x3 : Int32} {h : sv_H} (hs : sv_le h0 h) : sv_fr sv_le h0 (fn_L_law_866 xs L k18 x1 x2 x3 h) := by
  unfold fn_L_law_866
  exact hk18 hs
theorem fr_L_law_436 {xs : Nat → Int32} {L : Nat} {h0 : sv_H} {k18 : Nat → Nat → Int32 → sv_H → Option (Int32 × sv_H)} (hk18 : ∀ {x1 : Nat} {x2 : Nat} {x3 : Int32} {h : sv_H}, sv_le h0 h → sv_fr sv_le h0 (k18 x1 x2 x3 h)) {x1 : Nat} {x2 : Nat} {x3 : Int32} {s0 : Int32} {s1 : Nat} {s2 : Int32} {s3 : Int32} {s4 : Int32} {s5 : Int32} {h : sv_H} (hs : sv_le h0 h) : sv_fr sv_le h0 (fn_L_law_436 xs L k18 x1 x2 x3 s0 s1 s2 s3 s4 s5 h) := by
  unfold fn_L_law_436
  refine fr_cl (fun _ _ e => hs.trans (fr_X17_addInput e).le) (fun _ h hs => ?_)
  refine fr_if ?_ ?_
  · exact fr_L_law_866 hk18 hs
  · exact fr_rt hs
theorem fr_L_law_404 {xs : Nat → Int32} {L : Nat} {h0 : sv_H} {k18 : Nat → Nat → Int32 → sv_H → Option (Int32 × sv_H)} (hk18 : ∀ {x1 : Nat} {x2 : Nat} {x3 : Int32} {h : sv_H}, sv_le h0 h → sv_fr sv_le h0 (k18 x1 x2 x3 h)) {x1 : Nat} {x2 : Nat} {x3 : Int32} {s0 : Nat} {s1 : Int32} {s2 : Int32} {s3 : Int32} {s4 : Int32} {h : sv_H} (hs : sv_le h0 h) : sv_fr sv_le h0 (fn_L_law_404 xs L k18 x1 x2 x3 s0 s1 s2 s3 s4 h) := by
  unfold fn_L_law_404
  refine fr_cl (fun _ _ e => hs.trans (fr_X12_addInput e)) (fun _ h hs => ?_)
  refine fr_bd (fun _ => ?_)
  refine fr_bd (fun _ => ?_)
  refine fr_bd (fun _ => ?_)
  refine fr_bd (fun _ => ?_)
  refine fr_if ?_ ?_
  · exact fr_L_law_436 hk18 hs
  · exact fr_L_law_436 hk18 hs
theorem fr_L_law_551 {xs : Nat → Int32} {L : Nat} {h0 : sv_H} {k18 : Nat → Nat → Int32 → sv_H → Option (Int32 × sv_H)} (hk18 : ∀ {x1 : Nat} {x2 : Nat} {x3 : Int32} {h : sv_H}, sv_le h0 h → sv_fr sv_le h0 (k18 x1 x2 x3 h)) {x1 : Nat} {x2 : Nat} {x3 : Int32} {s0 : Int32} {s1 : Nat} {s2 : Int32} {s3 : Int32} {s4 : Int32} {s5 : Int32} {h : sv_H} (hs : sv_le h0 h) : sv_fr sv_le h0 (fn_L_law_551 xs L k18 x1 x2 x3 s0 s1 s2 s3 s4 s5 h) := by
  unfold fn_L_law_551
  refine fr_cl (fun _ _ e => hs.trans (fr_X17_stepBy e).le) (fun _ h hs => ?_)
  refine fr_if ?_ ?_
  · exact fr_L_law_866 hk18 hs
  · exact fr_rt hs
theorem fr_L_law_519 {xs : Nat → Int32} {L : Nat} {h0 : sv_H} {k18 : Nat → Nat → Int32 → sv_H → Option (Int32 × sv_H)} (hk18 : ∀ {x1 : Nat} {x2 : Nat} {x3 : Int32} {h : sv_H}, sv_le h0 h → sv_fr sv_le h0 (k18 x1 x2 x3 h)) {x1 : Nat} {x2 : Nat} {x3 : Int32} {s0 : Nat} {s1 : Int32} {s2 : Int32} {s3 : Int32} {s4 : Int32} {h : sv_H} (hs : sv_le h0 h) : sv_fr sv_le h0 (fn_L_law_519 xs L k18 x1 x2 x3 s0 s1 s2 s3 s4 h) := by
  unfold fn_L_law_519
  refine fr_cl (fun _ _ e => hs.trans (fr_X12_stepBy e).le) (fun _ h hs => ?_)
  refine fr_bd (fun _ => ?_)
  refine fr_bd (fun _ => ?_)
  refine fr_bd (fun _ => ?_)
  refine fr_bd (fun _ => ?_)
  refine fr_if ?_ ?_
  · exact fr_L_law_551 hk18 hs
  · exact fr_L_law_551 hk18 hs
theorem fr_L_law_835 {xs : Nat → Int32} {L : Nat} {h0 : sv_H} {k18 : Nat → Nat → Int32 → sv_H → Option (Int32 × sv_H)} (hk18 : ∀ {x1 : Nat} {x2 : Nat} {x3 : Int32} {h : sv_H}, sv_le h0 h → sv_fr sv_le h0 (k18 x1 x2 x3 h)) {x1 : Nat} {x2 : Nat} {x3 : Int32} {s0 : Int32} {s1 : Nat} {s2 : Int32} {s3 : Int32} {h : sv_H} (hs : sv_le h0 h) : sv_fr sv_le h0 (fn_L_law_835 xs L k18 x1 x2 x3 s0 s1 s2 s3 h) := by
  unfold fn_L_law_835
  refine fr_cl (fun _ _ e => hs.trans (fr_X17_byteOf e).le) (fun _ h hs => ?_)
  refine fr_if ?_ ?_
  · exact fr_L_law_866 hk18 hs
  · exact fr_rt hs
theorem fr_L_law_813 {xs : Nat → Int32} {L : Nat} {h0 : sv_H} {k18 : Nat → Nat → Int32 → sv_H → Option (Int32 × sv_H)} (hk18 : ∀ {x1 : Nat} {x2 : Nat} {x3 : Int32} {h : sv_H}, sv_le h0 h → sv_fr sv_le h0 (k18 x1 x2 x3 h)) {x1 : Nat} {x2 : Nat} {x3 : Int32} {s0 : Nat} {s1 : Int32} {s2 : Int32} {h : sv_H} (hs : sv_le h0 h) : sv_fr sv_le h0 (fn_L_law_813 xs L k18 x1 x2 x3 s0 s1 s2 h) := by
  unfold fn_L_law_813
  refine fr_cl (fun _ _ e => hs.trans (fr_X12_byteOf e).le) (fun _ h hs => ?_)
  refine fr_bd (fun _ => ?_)
  refine fr_bd (fun _ => ?_)
  refine fr_if ?_ ?_
  · exact fr_L_law_835 hk18 hs
  · exact fr_L_law_835 hk18 hs
theorem fr_L_law_18b {xs : Nat → Int32} {L : Nat} {h0 : sv_H} {k18 : Nat → Nat → Int32 → sv_H → Option (Int32 × sv_H)} (hk18 : ∀ {x1 : Nat} {x2 : Nat} {x3 : Int32} {h : sv_H}, sv_le h0 h → sv_fr sv_le h0 (k18 x1 x2 x3 h)) {x1 : Nat} {x2 : Nat} {x3 : Int32} {h : sv_H} (hs : sv_le h0 h) : sv_fr sv_le h0 (fn_L_law_18b xs L k18 x1 x2 x3 h) := by
  unfold fn_L_law_18b
  refine fr_if ?_ ?_
  · exact fr_rt hs
  · refine fr_bd (fun _ => ?_)
    refine fr_if ?_ ?_
    · refine fr_bd (fun _ => ?_)
      refine fr_bd (fun _ => ?_)
      refine fr_bd (fun _ => ?_)
      refine fr_cl (fun _ _ e => hs.trans (fr_X12_giveBytes e)) (fun _ h hs => ?_)
      refine fr_bd (fun _ => ?_)
      refine fr_bd (fun _ => ?_)
      refine fr_bd (fun _ => ?_)
      refine fr_cl (fun _ _ e => hs.trans (fr_X17_giveBytes e).le) (fun _ h hs => ?_)
      refine fr_if ?_ ?_
      · exact fr_L_law_866 hk18 hs
      · exact fr_rt hs
    refine fr_if ?_ ?_
    · refine fr_bd (fun _ => ?_)
      refine fr_cl (fun _ _ e => hs.trans (fr_X12_cutBytes e).le) (fun _ h hs => ?_)
      refine fr_bd (fun _ => ?_)
      refine fr_cl (fun _ _ e => hs.trans (fr_X17_cutBytes e).le) (fun _ h hs => ?_)
      refine fr_if ?_ ?_
      · exact fr_L_law_866 hk18 hs
      · exact fr_rt hs
    refine fr_if ?_ ?_
    · refine fr_bd (fun _ => ?_)
      refine fr_bd (fun _ => ?_)
      refine fr_cl (fun _ _ e => hs.trans (fr_X12_pokeByte e).le) (fun _ h hs => ?_)
      refine fr_bd (fun _ => ?_)
      refine fr_bd (fun _ => ?_)
      refine fr_cl (fun _ _ e => hs.trans (fr_X17_pokeByte e).le) (fun _ h hs => ?_)
      refine fr_if ?_ ?_
      · exact fr_L_law_866 hk18 hs
      · exact fr_rt hs
    refine fr_if ?_ ?_
    · refine fr_cl (fun _ _ e => hs.trans (fr_X12_loadMap e)) (fun _ h hs => ?_)
      refine fr_cl (fun _ _ e => hs.trans (fr_X17_loadMap e).le) (fun _ h hs => ?_)
      refine fr_if ?_ ?_
      · exact fr_L_law_866 hk18 hs
      · exact fr_rt hs
    refine fr_if ?_ ?_
    · refine fr_cl (fun _ _ e => hs.trans (fr_X12_loadDemo e)) (fun _ h hs => ?_)
      refine fr_cl (fun _ _ e => hs.trans (fr_X17_loadDemo e).le) (fun _ h hs => ?_)
      refine fr_if ?_ ?_
      · exact fr_L_law_866 hk18 hs
      · exact fr_rt hs
    refine fr_if ?_ ?_
    · refine fr_cl (fun _ _ e => hs.trans (fr_X12_saveMap e)) (fun _ h hs => ?_)
      refine fr_cl (fun _ _ e => hs.trans (fr_X17_saveMap e).le) (fun _ h hs => ?_)
      refine fr_if ?_ ?_
      · exact fr_L_law_866 hk18 hs
      · exact fr_rt hs
    refine fr_if ?_ ?_
    · refine fr_cl (fun _ _ e => hs.trans (fr_X12_saveDemo e)) (fun _ h hs => ?_)
      refine fr_cl (fun _ _ e => hs.trans (fr_X17_saveDemo e).le) (fun _ h hs => ?_)
      refine fr_if ?_ ?_
      · exact fr_L_law_866 hk18 hs
      · exact fr_rt hs
    refine fr_if ?_ ?_
    · refine fr_cl (fun _ _ e => hs.trans (fr_X12_turnBytes e)) (fun _ h hs => ?_)
      refine fr_cl (fun _ _ e => hs.trans (fr_X17_turnBytes e).le) (fun _ h hs => ?_)
      exact fr_L_law_866 hk18 hs
    refine fr_if ?_ ?_
    · refine fr_bd (fun _ => ?_)
      refine fr_bd (fun _ => ?_)
      refine fr_bd (fun _ => ?_)
      refine fr_bd (fun _ => ?_)
      refine fr_cl (fun _ _ e => hs.trans (fr_X12_startAt e).le) (fun _ h hs => ?_)
      refine fr_bd (fun _ => ?_)
      refine fr_bd (fun _ => ?_)
      refine fr_bd (fun _ => ?_)
      refine fr_bd (fun _ => ?_)
      refine fr_cl (fun _ _ e => hs.trans (fr_X17_startAt e).le) (fun _ h hs => ?_)
      refine fr_if ?_ ?_
      · exact fr_L_law_866 hk18 hs
      · exact fr_rt hs
    refine fr_if ?_ ?_
    · refine fr_bd (fun _ => ?_)
      refine fr_bd (fun _ => ?_)
      refine fr_bd (fun _ => ?_)
      refine fr_bd (fun _ => ?_)
      refine fr_if ?_ ?_
      · exact fr_L_law_404 hk18 hs
      · exact fr_L_law_404 hk18 hs
    refine fr_if ?_ ?_
    · refine fr_bd (fun _ => ?_)
      refine fr_cl (fun _ _ e => hs.trans (fr_X12_dropInputs e).le) (fun _ h hs => ?_)
      refine fr_bd (fun _ => ?_)
      refine fr_cl (fun _ _ e => hs.trans (fr_X17_dropInputs e).le) (fun _ h hs => ?_)
      refine fr_if ?_ ?_
      · exact fr_L_law_866 hk18 hs
      · exact fr_rt hs
    refine fr_if ?_ ?_
    · refine fr_bd (fun _ => ?_)
      refine fr_cl (fun _ _ e => hs.trans (fr_X12_playTo e).le) (fun _ h hs => ?_)
      refine fr_bd (fun _ => ?_)
      refine fr_cl (fun _ _ e => hs.trans (fr_X17_playTo e).le) (fun _ h hs => ?_)
      refine fr_if ?_ ?_
      · exact fr_L_law_866 hk18 hs
      · exact fr_rt hs
    refine fr_if ?_ ?_
    · refine fr_bd (fun _ => ?_)
      refine fr_bd (fun _ => ?_)
      refine fr_bd (fun _ => ?_)
      refine fr_bd (fun _ => ?_)
      refine fr_if ?_ ?_
      · exact fr_L_law_519 hk18 hs
      · exact fr_L_law_519 hk18 hs
    refine fr_if ?_ ?_
    · refine fr_bd (fun _ => ?_)
      refine fr_cl (fun _ _ e => hs.trans (fr_X12_walkerOf e).le) (fun _ h hs => ?_)
      refine fr_bd (fun _ => ?_)
      refine fr_cl (fun _ _ e => hs.trans (fr_X17_walkerOf e).le) (fun _ h hs => ?_)
      refine fr_if ?_ ?_
      · exact fr_L_law_866 hk18 hs
      · exact fr_rt hs
    refine fr_if ?_ ?_
    · refine fr_bd (fun _ => ?_)
      refine fr_bd (fun _ => ?_)
      refine fr_cl (fun _ _ e => hs.trans (fr_X12_sectorOf e).le) (fun _ h hs => ?_)
      refine fr_bd (fun _ => ?_)
      refine fr_bd (fun _ => ?_)
      refine fr_cl (fun _ _ e => hs.trans (fr_X17_sectorOf e).le) (fun _ h hs => ?_)
      refine fr_if ?_ ?_
      · exact fr_L_law_866 hk18 hs
      · exact fr_rt hs
    refine fr_if ?_ ?_
    · refine fr_bd (fun _ => ?_)
      refine fr_bd (fun _ => ?_)
      refine fr_cl (fun _ _ e => hs.trans (fr_X12_pixelAt e).le) (fun _ h hs => ?_)
      refine fr_bd (fun _ => ?_)
      refine fr_bd (fun _ => ?_)
      refine fr_cl (fun _ _ e => hs.trans (fr_X17_pixelAt e).le) (fun _ h hs => ?_)
      refine fr_if ?_ ?_
      · exact fr_L_law_866 hk18 hs
      · exact fr_rt hs
    refine fr_if ?_ ?_
    · refine fr_bd (fun _ => ?_)
      refine fr_bd (fun _ => ?_)
      refine fr_cl (fun _ _ e => hs.trans (fr_X12_surfaceAt e).le) (fun _ h hs => ?_)
      refine fr_bd (fun _ => ?_)
      refine fr_bd (fun _ => ?_)
      refine fr_cl (fun _ _ e => hs.trans (fr_X17_surfaceAt e).le) (fun _ h hs => ?_)
      refine fr_if ?_ ?_
      · exact fr_L_law_866 hk18 hs
      · exact fr_rt hs
    refine fr_if ?_ ?_
    · refine fr_bd (fun _ => ?_)
      refine fr_bd (fun _ => ?_)
      refine fr_cl (fun _ _ e => hs.trans (fr_X12_metAt e).le) (fun _ h hs => ?_)
      refine fr_bd (fun _ => ?_)
      refine fr_bd (fun _ => ?_)
      refine fr_cl (fun _ _ e => hs.trans (fr_X17_metAt e).le) (fun _ h hs => ?_)
      refine fr_if ?_ ?_
      · exact fr_L_law_866 hk18 hs
      · exact fr_rt hs
    refine fr_if ?_ ?_
    · refine fr_cl (fun _ _ e => hs.trans (fr_X12_frameOf e).le) (fun _ h hs => ?_)
      refine fr_cl (fun _ _ e => hs.trans (fr_X17_frameOf e).le) (fun _ h hs => ?_)
      refine fr_if ?_ ?_
      · exact fr_L_law_866 hk18 hs
      · exact fr_rt hs
    refine fr_if ?_ ?_
    · refine fr_bd (fun _ => ?_)
      refine fr_bd (fun _ => ?_)
      refine fr_cl (fun _ _ e => hs.trans (fr_X12_nodeOf e).le) (fun _ h hs => ?_)
      refine fr_bd (fun _ => ?_)
      refine fr_bd (fun _ => ?_)
      refine fr_cl (fun _ _ e => hs.trans (fr_X17_nodeOf e).le) (fun _ h hs => ?_)
      refine fr_if ?_ ?_
      · exact fr_L_law_866 hk18 hs
      · exact fr_rt hs
    refine fr_if ?_ ?_
    · refine fr_bd (fun _ => ?_)
      refine fr_bd (fun _ => ?_)
      refine fr_cl (fun _ _ e => hs.trans (fr_X12_leafOf e).le) (fun _ h hs => ?_)
      refine fr_bd (fun _ => ?_)
      refine fr_bd (fun _ => ?_)
      refine fr_cl (fun _ _ e => hs.trans (fr_X17_leafOf e).le) (fun _ h hs => ?_)
      refine fr_if ?_ ?_
      · exact fr_L_law_866 hk18 hs
      · exact fr_rt hs
    refine fr_if ?_ ?_
    · refine fr_bd (fun _ => ?_)
      refine fr_bd (fun _ => ?_)
      refine fr_if ?_ ?_
      · exact fr_L_law_813 hk18 hs
      · exact fr_L_law_813 hk18 hs
    refine fr_if ?_ ?_
    · refine fr_bd (fun _ => ?_)
      refine fr_cl (fun _ _ e => hs.trans (fr_X12_lookAt e).le) (fun _ h hs => ?_)
      refine fr_bd (fun _ => ?_)
      refine fr_cl (fun _ _ e => hs.trans (fr_X17_lookAt e).le) (fun _ h hs => ?_)
      refine fr_if ?_ ?_
      · exact fr_L_law_866 hk18 hs
      · exact fr_rt hs
    exact fr_L_law_866 hk18 hs
theorem fr_L_law_18 {xs : Nat → Int32} {L : Nat} {h0 : sv_H} : ∀ (n : Nat) {x1 : Nat} {x2 : Nat} {x3 : Int32} {h : sv_H}, sv_le h0 h → sv_fr sv_le h0 (fn_L_law_18 xs L n x1 x2 x3 h) := by
  intro n
  induction n with
  | zero => intro x1 x2 x3 h hs r hE e; cases (show (none : Option (Int32 × sv_H)) = some (r, hE) from e)
  | succ n ih => intro x1 x2 x3 h hs; exact fr_L_law_18b (fun hs => ih hs) hs
theorem fr_L_law_0 {xs : Nat → Int32} {L : Nat} {h0 : sv_H} {h : sv_H} (hs : sv_le h0 h) : sv_fr sv_le h0 (fn_L_law xs L h) := by
  unfold fn_L_law
  refine fr_new hs (fun hs => ?_)
  refine fr_cl (fun _ _ e => hs.trans (fr_X12_init e)) (fun _ h hs => ?_)
  refine fr_new hs (fun hs => ?_)
  refine fr_cl (fun _ _ e => hs.trans (fr_X17_init e)) (fun _ h hs => ?_)
  exact fr_L_law_18 sv_fuel hs
theorem fr_L_law {xs : Nat → Int32} {L : Nat} {h : sv_H} {r : Int32} {hE : sv_H} (hw : fn_L_law xs L h = some (r, hE)) : sv_le h hE := fr_L_law_0 (sv_le.refl h) r hE hw

