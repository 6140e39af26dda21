theorem dX4_blame_0 : decode cX4_blame 0 = .ok (.aload_n 0, 1) := by decide +kernel
theorem dX4_blame_1 : decode cX4_blame 1 = .ok (.getfield 22, 3) := by decide +kernel
theorem dX4_blame_4 : decode cX4_blame 4 = .ok (.ifCond .ne 13, 3) := by decide +kernel
theorem dX4_blame_7 : decode cX4_blame 7 = .ok (.aload_n 0, 1) := by decide +kernel
theorem dX4_blame_8 : decode cX4_blame 8 = .ok (.iload_n 1, 1) := by decide +kernel
theorem dX4_blame_9 : decode cX4_blame 9 = .ok (.putfield 22, 3) := by decide +kernel
theorem dX4_blame_12 : decode cX4_blame 12 = .ok (.aload_n 0, 1) := by decide +kernel
theorem dX4_blame_13 : decode cX4_blame 13 = .ok (.iload_n 2, 1) := by decide +kernel
theorem dX4_blame_14 : decode cX4_blame 14 = .ok (.putfield 9, 3) := by decide +kernel
theorem dX4_blame_17 : decode cX4_blame 17 = .ok (.return_, 1) := by decide +kernel
theorem dX4_well_0 : decode cX4_well 0 = .ok (.aload_n 0, 1) := by decide +kernel
theorem dX4_well_1 : decode cX4_well 1 = .ok (.getfield 22, 3) := by decide +kernel
theorem dX4_well_4 : decode cX4_well 4 = .ok (.ifCond .ne 7, 3) := by decide +kernel
theorem dX4_well_7 : decode cX4_well 7 = .ok (.iconst 1, 1) := by decide +kernel
theorem dX4_well_8 : decode cX4_well 8 = .ok (.goto 4, 3) := by decide +kernel
theorem dX4_well_11 : decode cX4_well 11 = .ok (.iconst 0, 1) := by decide +kernel
theorem dX4_well_12 : decode cX4_well 12 = .ok (.ireturn, 1) := by decide +kernel
theorem dX4_one_0 : decode cX4_one 0 = .ok (.aload_n 0, 1) := by decide +kernel
theorem dX4_one_1 : decode cX4_one 1 = .ok (.getfield 22, 3) := by decide +kernel
theorem dX4_one_4 : decode cX4_one 4 = .ok (.ifCond .eq 5, 3) := by decide +kernel
theorem dX4_one_7 : decode cX4_one 7 = .ok (.iconst 0, 1) := by decide +kernel
theorem dX4_one_8 : decode cX4_one 8 = .ok (.ireturn, 1) := by decide +kernel
theorem dX4_one_9 : decode cX4_one 9 = .ok (.aload_n 0, 1) := by decide +kernel
theorem dX4_one_10 : decode cX4_one 10 = .ok (.getfield 19, 3) := by decide +kernel
theorem dX4_one_13 : decode cX4_one 13 = .ok (.aload_n 0, 1) := by decide +kernel
theorem dX4_one_14 : decode cX4_one 14 = .ok (.getfield 15, 3) := by decide +kernel
theorem dX4_one_17 : decode cX4_one 17 = .ok (.getfield 25, 3) := by decide +kernel
theorem dX4_one_20 : decode cX4_one 20 = .ok (.if_icmp .lt 17, 3) := by decide +kernel
theorem dX4_one_23 : decode cX4_one 23 = .ok (.aload_n 0, 1) := by decide +kernel
theorem dX4_one_24 : decode cX4_one 24 = .ok (.iconst 1, 1) := by decide +kernel
theorem dX4_one_25 : decode cX4_one 25 = .ok (.aload_n 0, 1) := by decide +kernel
theorem dX4_one_26 : decode cX4_one 26 = .ok (.getfield 15, 3) := by decide +kernel
theorem dX4_one_29 : decode cX4_one 29 = .ok (.getfield 25, 3) := by decide +kernel
theorem dX4_one_32 : decode cX4_one 32 = .ok (.invokevirtual 30, 3) := by decide +kernel
theorem dX4_one_35 : decode cX4_one 35 = .ok (.iconst 0, 1) := by decide +kernel
theorem dX4_one_36 : decode cX4_one 36 = .ok (.ireturn, 1) := by decide +kernel
theorem dX4_one_37 : decode cX4_one 37 = .ok (.aload_n 0, 1) := by decide +kernel
theorem dX4_one_38 : decode cX4_one 38 = .ok (.getfield 15, 3) := by decide +kernel
theorem dX4_one_41 : decode cX4_one 41 = .ok (.getfield 34, 3) := by decide +kernel
theorem dX4_one_44 : decode cX4_one 44 = .ok (.aload_n 0, 1) := by decide +kernel
theorem dX4_one_45 : decode cX4_one 45 = .ok (.getfield 19, 3) := by decide +kernel
theorem dX4_one_48 : decode cX4_one 48 = .ok (.iaload, 1) := by decide +kernel
theorem dX4_one_49 : decode cX4_one 49 = .ok (.istore_n 1, 1) := by decide +kernel
theorem dX4_one_50 : decode cX4_one 50 = .ok (.aload_n 0, 1) := by decide +kernel
theorem dX4_one_51 : decode cX4_one 51 = .ok (.dup, 1) := by decide +kernel
theorem dX4_one_52 : decode cX4_one 52 = .ok (.getfield 19, 3) := by decide +kernel
theorem dX4_one_55 : decode cX4_one 55 = .ok (.iconst 1, 1) := by decide +kernel
theorem dX4_one_56 : decode cX4_one 56 = .ok (.iadd, 1) := by decide +kernel
theorem dX4_one_57 : decode cX4_one 57 = .ok (.putfield 19, 3) := by decide +kernel
theorem dX4_one_60 : decode cX4_one 60 = .ok (.iload_n 1, 1) := by decide +kernel
theorem dX4_one_61 : decode cX4_one 61 = .ok (.ireturn, 1) := by decide +kernel
def fn_X4_blame_17 (h : sv_H) : Option (Unit × sv_H) :=
  some ((), h)

def fn_X4_blame (x0 : Nat) (x1 : Int32) (x2 : Int32) (h : sv_H) : Option (Unit × sv_H) :=
  sv_kd h 5 x0 (
  (sv_gI h 5 502 x0).bind fun v1 =>
  if v1 = 0 then
    (sv_pI h 5 502 x0 x1).bind fun h2 =>
    (sv_pI h2 5 503 x0 x2).bind fun h3 =>
    fn_X4_blame_17 h3
  else
    fn_X4_blame_17 h
  )

def fn_X4_one (x0 : Nat) (h : sv_H) : Option (Int32 × sv_H) :=
  sv_kd h 5 x0 (
  (sv_gI h 5 502 x0).bind fun v1 =>
  if v1 = 0 then
    (sv_gI h 5 501 x0).bind fun v2 =>
    (sv_gP h 5 500 x0).bind fun v3 =>
    (sv_gI h 1 101 v3).bind fun v4 =>
    if v2 < v4 then
      (sv_gP h 5 500 x0).bind fun v5 =>
      (sv_gP h 1 100 v5).bind fun v6 =>
      (sv_gI h 5 501 x0).bind fun v7 =>
      (sv_lI h v6 v7).bind fun v8 =>
      (sv_gI h 5 501 x0).bind fun v9 =>
      (sv_pI h 5 501 x0 (v9 + 1)).bind fun h10 =>
      some (v8, h10)
    else
      (sv_gP h 5 500 x0).bind fun v11 =>
      (sv_gI h 1 101 v11).bind fun v12 =>
      sv_b (fn_X4_blame x0 1 v12 h) fun _ h13 =>
      some (0, h13)
  else
    some (0, h)
  )

def fn_X4_well_12 (s0 : Int32) (h : sv_H) : Option (Int32 × sv_H) :=
  sv_rz s0 h

def fn_X4_well (x0 : Nat) (h : sv_H) : Option (Int32 × sv_H) :=
  sv_kd h 5 x0 (
  (sv_gI h 5 502 x0).bind fun v1 =>
  if v1 = 0 then
    fn_X4_well_12 1 h
  else
    fn_X4_well_12 0 h
  )

def rm_X4_blame : Room := { frames := 0, cells := 0, slots := 0, locals := 0 }
theorem fl_X4_blame_22 {s : State} {meth : Method} {args : Array Value} {G : sv_G} {B : Nat} (hts : ∀ w ∈ sv_tb, w.before args s = true) (hC : sv_Cx G B s s.heap) (hni : meth.name = "blame") : sv_FL s meth args vwCl RX4 22 4 2 .int true :=
  ⟨_, RX4, TX4, 4, sv_tb, tyX4, rfl, by decide, hts, uw_X4, Or.inl (hts _ wd_195), fun _ h => h, tyX4_ok 2 (by decide), tyX4_ok, nmX4, fun _ => Or.inl rfl⟩
theorem fl_X4_blame_9 {s : State} {meth : Method} {args : Array Value} {G : sv_G} {B : Nat} (hts : ∀ w ∈ sv_tb, w.before args s = true) (hC : sv_Cx G B s s.heap) (hni : meth.name = "blame") : sv_FL s meth args vwCl RX4 9 4 3 .int true :=
  ⟨_, RX4, TX4, 4, sv_tb, tyX4, rfl, by decide, hts, uw_X4, Or.inl (hts _ wd_197), fun _ h => h, tyX4_ok 3 (by decide), tyX4_ok, nmX4, fun _ => Or.inl rfl⟩
set_option maxHeartbeats 4000000 in
set_option maxRecDepth 100000 in
theorem lk_X4_blame_17 {p : Program} {l : Launch} {e : Env} {s : State} {m : MethodId} {args : Array Value} {below : List Frame} {meth : Method} {c : Code} {G : sv_G} {B : Nat} (K : sv_W p s m args meth c cX4_blame RX4 3 none G B "blame") {r : Unit} {hE : sv_H} {h : sv_H} (hw : fn_X4_blame_17 h = some (r, hE)) {H : Heap} {locs : List Loc} {ls : Array Slot} (hR : sv_R G vwCl sv_ft B h H) (hS : va_S (fun q => B ≤ q) s.heap H locs) (hl : lv_has ls 3 []) : W p l e rm_X4_blame s m args below meth c H locs 0 0 (sv_Z below s args G B none hE) (F0 m 17 ls []) := by
  obtain ⟨hx, hb, hml, hown, hts, hC, hlk, hr, hBs, hni⟩ := id K
  unfold fn_X4_blame_17 at hw
  obtain ⟨rfl, rfl⟩ := sv_ret hw
  exact W.vret hx hb hr (fun t ht hW => ⟨⟨rfl, by rw [ht]; exact hR⟩, hS.F ht⟩) hS.2.2 dX4_blame_17
set_option maxHeartbeats 4000000 in
set_option maxRecDepth 100000 in
theorem lk_X4_blame_0 {p : Program} {l : Launch} {e : Env} {s : State} {m : MethodId} {args : Array Value} {below : List Frame} {meth : Method} {c : Code} {G : sv_G} {B : Nat} (K : sv_W p s m args meth c cX4_blame RX4 3 none G B "blame") {r : Unit} {hE : sv_H} {x0 : Nat} {x1 : Int32} {x2 : Int32} {h : sv_H} (hw : fn_X4_blame x0 x1 x2 h = some (r, hE)) {H : Heap} {locs : List Loc} {ls : Array Slot} (hR : sv_R G vwCl sv_ft B h H) (hS : va_S (fun q => B ≤ q) s.heap H locs) (hl : lv_has ls 3 [(0, .ref x0), (1, .int x1), (2, .int x2)]) : W p l e rm_X4_blame s m args below meth c H locs 0 0 (sv_Z below s args G B none hE) (F0 m 0 ls []) := by
  obtain ⟨hx, hb, hml, hown, hts, hC, hlk, hr, hBs, hni⟩ := id K
  unfold fn_X4_blame at hw
  have hw := (sv_go hw).2
  refine lv_aload_n hx hb dX4_blame_0 rfl (lv_at hl 0 rfl) ?_
  obtain ⟨v1, hv, hw⟩ := sv_bd hw
  refine sv_rgI hx hb hown hC.1 hR (fl_X4_blame_22 hts hC hni) rfl (by decide) rfl rfl hv dX4_blame_1 ?_
  refine lv_if_ne (tgt := 17) hx hb dX4_blame_4 (by decide) (fun cc => ?_) (fun cc => ?_)
  · have hw := sv_iff cc hw
    exact lk_X4_blame_17 K hw hR hS (lv_sub hl [] rfl)
  · have hw := sv_ift cc hw
    refine lv_aload_n hx hb dX4_blame_7 rfl (lv_at hl 0 rfl) ?_
    refine lv_iload_n hx hb dX4_blame_8 rfl (lv_at hl 1 rfl) ?_
    obtain ⟨h2, hv, hw⟩ := sv_bd hw
    refine sv_rpI hx hb hown hC.1 hR hS (fl_X4_blame_22 hts hC hni) rfl (by decide) rfl rfl hv dX4_blame_9 (fun H locs hR hS => ?_)
    refine lv_aload_n hx hb dX4_blame_12 rfl (lv_at hl 0 rfl) ?_
    refine lv_iload_n hx hb dX4_blame_13 rfl (lv_at hl 2 rfl) ?_
    obtain ⟨h3, hv, hw⟩ := sv_bd hw
    refine sv_rpI hx hb hown hC.1 hR hS (fl_X4_blame_9 hts hC hni) rfl (by decide) rfl rfl hv dX4_blame_14 (fun H locs hR hS => ?_)
    exact lk_X4_blame_17 K hw hR hS (lv_sub hl [] rfl)
set_option maxHeartbeats 4000000 in
set_option maxRecDepth 100000 in
theorem mt_X4_blame (l : Launch) (G : sv_G) (B : Nat) {x0 : Nat} {x1 : Int32} {x2 : Int32} {h : sv_H} {r : Unit} {hE : sv_H} (hw : fn_X4_blame x0 x1 x2 h = some (r, hE)) : Met l yX4_blame (.code yX4_blame cX4_blame 3 none :: sv_tb) rm_X4_blame (sv_Pc G B [.ref x0, .int x1, .int x2] h) (sv_Q G B none hE) 0 0 (fun q => B ≤ q) := by
  refine Met.ofW (cc := cX4_blame) (maxL := 3) (ret := none) (by decide) rfl ?_
  intro p e s m args below meth c s₁ Bd hml hv
  obtain ⟨rfl, hR, hC, hB⟩ := hv
  have hl := lv_entry ([.ref x0, .int x1, .int x2]) (n := 3) (Nat.le_of_ble_eq_true rfl)
  rw [lg_entry_eq]
  generalize (lg_sl ([.ref x0, .int x1, .int x2]) ++ List.replicate (3 - (lg_sl ([.ref x0, .int x1, .int x2])).length) Slot.unset).toArray = ls at hl ⊢
  have hl : lv_has ls 3 [(0, .ref x0), (1, .int x1), (2, .int x2)] := hl
  exact lk_X4_blame_0 ⟨Bd.exec, Bd.bytes, hml, findClass_of_methodNamed Bd.named, fun w h => atoms_spec (ws := .code yX4_blame cX4_blame 3 none :: sv_tb) Bd.pre w (List.mem_cons_of_mem _ h), hC, Bd.notSynchronized, Bd.returns, hB, (name_of_methodNamed Bd.named Bd.method).1⟩ hw hR va_S.rf hl

def rm_X4_one : Room := { frames := 1, cells := 0, slots := 0, locals := 22 }
theorem fl_X4_one_22 {s : State} {meth : Method} {args : Array Value} {G : sv_G} {B : Nat} (hts : ∀ w ∈ sv_tb, w.before args s = true) (hC : sv_Cx G B s s.heap) (hni : meth.name = "one") : sv_FL s meth args vwCl RX4 22 4 2 .int true :=
  ⟨_, RX4, TX4, 4, sv_tb, tyX4, rfl, by decide, hts, uw_X4, Or.inl (hts _ wd_195), fun _ h => h, tyX4_ok 2 (by decide), tyX4_ok, nmX4, fun _ => Or.inl rfl⟩
theorem fl_X4_one_19 {s : State} {meth : Method} {args : Array Value} {G : sv_G} {B : Nat} (hts : ∀ w ∈ sv_tb, w.before args s = true) (hC : sv_Cx G B s s.heap) (hni : meth.name = "one") : sv_FL s meth args vwCl RX4 19 4 1 .int true :=
  ⟨_, RX4, TX4, 4, sv_tb, tyX4, rfl, by decide, hts, uw_X4, Or.inl (hts _ wd_192), fun _ h => h, tyX4_ok 1 (by decide), tyX4_ok, nmX4, fun _ => Or.inl rfl⟩
theorem fl_X4_one_15 {s : State} {meth : Method} {args : Array Value} {G : sv_G} {B : Nat} (hts : ∀ w ∈ sv_tb, w.before args s = true) (hC : sv_Cx G B s s.heap) (hni : meth.name = "one") : sv_FL s meth args vwCl RX4 15 4 0 (.object "SectorView$ByteRow") false :=
  ⟨_, RX4, TX4, 4, sv_tb, tyX4, rfl, by decide, hts, uw_X4, Or.inl (hts _ wd_189), fun _ h => h, tyX4_ok 0 (by decide), tyX4_ok, nmX4, fun h => by cases h⟩
theorem fl_X4_one_25 {s : State} {meth : Method} {args : Array Value} {G : sv_G} {B : Nat} (hts : ∀ w ∈ sv_tb, w.before args s = true) (hC : sv_Cx G B s s.heap) (hni : meth.name = "one") : sv_FL s meth args vwCl RX4 25 0 1 .int true :=
  ⟨_, RX0, TX0, 2, sv_tb, tyX0, rfl, by decide, hts, uw_X0, Or.inl (hts _ wd_175), fun _ h => h, tyX0_ok 1 (by decide), tyX0_ok, nmX0, fun _ => Or.inl rfl⟩
theorem fl_X4_one_34 {s : State} {meth : Method} {args : Array Value} {G : sv_G} {B : Nat} (hts : ∀ w ∈ sv_tb, w.before args s = true) (hC : sv_Cx G B s s.heap) (hni : meth.name = "one") : sv_FL s meth args vwCl RX4 34 0 0 (.array .int) true :=
  ⟨_, RX0, TX0, 2, sv_tb, tyX0, rfl, by decide, hts, uw_X0, Or.inl (hts _ wd_170), fun _ h => h, tyX0_ok 0 (by decide), tyX0_ok, nmX0, fun _ => Or.inl rfl⟩
set_option maxHeartbeats 4000000 in
set_option maxRecDepth 100000 in
theorem lk_X4_one_0 {p : Program} {l : Launch} {e : Env} {s : State} {m : MethodId} {args : Array Value} {below : List Frame} {meth : Method} {c : Code} {G : sv_G} {B : Nat} (K : sv_W p s m args meth c cX4_one RX4 2 (some .int) G B "one") {r : Int32} {hE : sv_H} {x0 : Nat} {h : sv_H} (hw : fn_X4_one x0 h = some (r, hE)) {H : Heap} {locs : List Loc} {ls : Array Slot} (hR : sv_R G vwCl sv_ft B h H) (hS : va_S (fun q => B ≤ q) s.heap H locs) (hl : lv_has ls 2 [(0, .ref x0)]) : W p l e rm_X4_one s m args below meth c H locs 0 0 (sv_Z below s args G B (some (.int r)) hE) (F0 m 0 ls []) := by
  obtain ⟨hx, hb, hml, hown, hts, hC, hlk, hr, hBs, hni⟩ := id K
  unfold fn_X4_one at hw
  have hw := (sv_go hw).2
  refine lv_aload_n hx hb dX4_one_0 rfl (lv_at hl 0 rfl) ?_
  obtain ⟨v1, hv, hw⟩ := sv_bd hw
  refine sv_rgI hx hb hown hC.1 hR (fl_X4_one_22 hts hC hni) rfl (by decide) rfl rfl hv dX4_one_1 ?_
  refine lv_if_eq (tgt := 9) hx hb dX4_one_4 (by decide) (fun cc => ?_) (fun cc => ?_)
  · have hw := sv_ift cc hw
    refine lv_aload_n hx hb dX4_one_9 rfl (lv_at hl 0 rfl) ?_
    obtain ⟨v2, hv, hw⟩ := sv_bd hw
    refine sv_rgI hx hb hown hC.1 hR (fl_X4_one_19 hts hC hni) rfl (by decide) rfl rfl hv dX4_one_10 ?_
    refine lv_aload_n hx hb dX4_one_13 rfl (lv_at hl 0 rfl) ?_
    obtain ⟨v3, hv, hw⟩ := sv_bd hw
    refine sv_rgP hx hb hown hC.1 hR (fl_X4_one_15 hts hC hni) rfl (by decide) rfl rfl hv dX4_one_14 ?_
    obtain ⟨v4, hv, hw⟩ := sv_bd hw
    refine sv_rgI hx hb hown hC.1 hR (fl_X4_one_25 hts hC hni) rfl (by decide) rfl rfl hv dX4_one_17 ?_
    refine lv_icmp_lt (tgt := 37) hx hb dX4_one_20 (by decide) (fun cc => ?_) (fun cc => ?_)
    · have hw := sv_ift cc hw
      refine lv_aload_n hx hb dX4_one_37 rfl (lv_at hl 0 rfl) ?_
      obtain ⟨v5, hv, hw⟩ := sv_bd hw
      refine sv_rgP hx hb hown hC.1 hR (fl_X4_one_15 hts hC hni) rfl (by decide) rfl rfl hv dX4_one_38 ?_
      obtain ⟨v6, hv, hw⟩ := sv_bd hw
      refine sv_rgP hx hb hown hC.1 hR (fl_X4_one_34 hts hC hni) rfl (by decide) rfl rfl hv dX4_one_41 ?_
      refine lv_aload_n hx hb dX4_one_44 rfl (lv_at hl 0 rfl) ?_
      obtain ⟨v7, hv, hw⟩ := sv_bd hw
      refine sv_rgI hx hb hown hC.1 hR (fl_X4_one_19 hts hC hni) rfl (by decide) rfl rfl hv dX4_one_45 ?_
      obtain ⟨v8, hv, hw⟩ := sv_bd hw
      refine sv_rlI hx hb hC.1 rfl hR hv dX4_one_48 ?_
      refine lv_istore_n (lv' := [(1, .int v8), (0, .ref x0)]) hx hb dX4_one_49 rfl hl (by decide) rfl (fun ls hl => ?_)
      refine lv_aload_n hx hb dX4_one_50 rfl (lv_at hl 1 rfl) ?_
      refine lv_dup hx hb dX4_one_51 rfl ?_
      obtain ⟨v9, hv, hw⟩ := sv_bd hw
      refine sv_rgI hx hb hown hC.1 hR (fl_X4_one_19 hts hC hni) rfl (by decide) rfl rfl hv dX4_one_52 ?_
      refine lv_iconst (v := 1) hx hb dX4_one_55 (by decide) ?_
      refine lv_iadd hx hb dX4_one_56 ?_
      obtain ⟨h10, hv, hw⟩ := sv_bd hw
      refine sv_rpI hx hb hown hC.1 hR hS (fl_X4_one_19 hts hC hni) rfl (by decide) rfl rfl hv dX4_one_57 (fun H locs hR hS => ?_)
      refine lv_iload_n hx hb dX4_one_60 rfl (lv_at hl 0 rfl) ?_
      obtain ⟨rfl, rfl⟩ := sv_ret hw
      exact W.iret hx hb hr (fun t ht hW => ⟨⟨rfl, by rw [ht]; exact hR⟩, hS.F ht⟩) hS.2.2 dX4_one_61
    · have hw := sv_iff cc hw
      refine lv_aload_n hx hb dX4_one_23 rfl (lv_at hl 0 rfl) ?_
      refine lv_iconst (v := 1) hx hb dX4_one_24 (by decide) ?_
      refine lv_aload_n hx hb dX4_one_25 rfl (lv_at hl 0 rfl) ?_
      obtain ⟨v11, hv, hw⟩ := sv_bd hw
      refine sv_rgP hx hb hown hC.1 hR (fl_X4_one_15 hts hC hni) rfl (by decide) rfl rfl hv dX4_one_26 ?_
      obtain ⟨v12, hv, hw⟩ := sv_bd hw
      refine sv_rgI hx hb hown hC.1 hR (fl_X4_one_25 hts hC hni) rfl (by decide) rfl rfl hv dX4_one_29 ?_
      obtain ⟨_, h13, hv1, hw⟩ := sv_b_some hw
      refine sv_call (va_runV (As := [.int 1, .int v12]) (rest := []) ⟨hx, hb, hml, hown, hts⟩ (mt_X4_blame l G B hv1) (cwV 2 hts (sv_gV wd_775 wd_776 wd_777 wd_133 wd_778) rfl rfl rfl (by decide +kernel) ⟨Nat.le_of_ble_eq_true rfl, Nat.le_of_ble_eq_true rfl⟩) ⟨sv_blind, sv_recv hC.1 hR (ci := 4) (sv_go hv1).1 (by decide) rfl, fun U hU hW => sv_pre hC hR hS hBs hU hW⟩ rfl rfl hl.1 rfl (lv_room (Nat.le_of_ble_eq_true rfl)) dX4_one_32 ⟨Nat.zero_le _, Nat.zero_le _⟩) hS (fun H locs hR hS => ?_)
      refine lv_iconst (v := 0) hx hb dX4_one_35 (by decide) ?_
      obtain ⟨rfl, rfl⟩ := sv_ret hw
      exact W.iret hx hb hr (fun t ht hW => ⟨⟨rfl, by rw [ht]; exact hR⟩, hS.F ht⟩) hS.2.2 dX4_one_36
  · have hw := sv_iff cc hw
    refine lv_iconst (v := 0) hx hb dX4_one_7 (by decide) ?_
    obtain ⟨rfl, rfl⟩ := sv_ret hw
    exact W.iret hx hb hr (fun t ht hW => ⟨⟨rfl, by rw [ht]; exact hR⟩, hS.F ht⟩) hS.2.2 dX4_one_8
set_option maxHeartbeats 4000000 in
set_option maxRecDepth 100000 in
theorem mt_X4_one (l : Launch) (G : sv_G) (B : Nat) {x0 : Nat} {h : sv_H} {r : Int32} {hE : sv_H} (hw : fn_X4_one x0 h = some (r, hE)) : Met l yX4_one (.code yX4_one cX4_one 2 (some .int) :: sv_tb) rm_X4_one (sv_Pc G B [.ref x0] h) (sv_Q G B (some (.int r)) hE) 0 0 (fun q => B ≤ q) := by
  refine Met.ofW (cc := cX4_one) (maxL := 2) (ret := (some .int)) (by decide) rfl ?_
  intro p e s m args below meth c s₁ Bd hml hv
  obtain ⟨rfl, hR, hC, hB⟩ := hv
  have hl := lv_entry ([.ref x0]) (n := 2) (Nat.le_of_ble_eq_true rfl)
  rw [lg_entry_eq]
  generalize (lg_sl ([.ref x0]) ++ List.replicate (2 - (lg_sl ([.ref x0])).length) Slot.unset).toArray = ls at hl ⊢
  have hl : lv_has ls 2 [(0, .ref x0)] := hl
  exact lk_X4_one_0 ⟨Bd.exec, Bd.bytes, hml, findClass_of_methodNamed Bd.named, fun w h => atoms_spec (ws := .code yX4_one cX4_one 2 (some .int) :: sv_tb) Bd.pre w (List.mem_cons_of_mem _ h), hC, Bd.notSynchronized, Bd.returns, hB, (name_of_methodNamed Bd.named Bd.method).1⟩ hw hR va_S.rf hl

def rm_X4_well : Room := { frames := 0, cells := 0, slots := 0, locals := 0 }
theorem fl_X4_well_22 {s : State} {meth : Method} {args : Array Value} {G : sv_G} {B : Nat} (hts : ∀ w ∈ sv_tb, w.before args s = true) (hC : sv_Cx G B s s.heap) (hni : meth.name = "well") : sv_FL s meth args vwCl RX4 22 4 2 .int true :=
  ⟨_, RX4, TX4, 4, sv_tb, tyX4, rfl, by decide, hts, uw_X4, Or.inl (hts _ wd_195), fun _ h => h, tyX4_ok 2 (by decide), tyX4_ok, nmX4, fun _ => Or.inl rfl⟩
set_option maxHeartbeats 4000000 in
set_option maxRecDepth 100000 in
theorem lk_X4_well_12 {p : Program} {l : Launch} {e : Env} {s : State} {m : MethodId} {args : Array Value} {below : List Frame} {meth : Method} {c : Code} {G : sv_G} {B : Nat} (K : sv_W p s m args meth c cX4_well RX4 1 (some .boolean) G B "well") {r : Int32} {hE : sv_H} {s0 : Int32} {h : sv_H} (hw : fn_X4_well_12 s0 h = some (r, hE)) {H : Heap} {locs : List Loc} {ls : Array Slot} (hR : sv_R G vwCl sv_ft B h H) (hS : va_S (fun q => B ≤ q) s.heap H locs) (hl : lv_has ls 1 []) : W p l e rm_X4_well s m args below meth c H locs 0 0 (sv_Z below s args G B (some (.int r)) hE) (F0 m 12 ls [.int s0]) := by
  obtain ⟨hx, hb, hml, hown, hts, hC, hlk, hr, hBs, hni⟩ := id K
  unfold fn_X4_well_12 at hw
  obtain ⟨h01, hw⟩ := sv_rz_some hw
  obtain ⟨rfl, rfl⟩ := sv_ret hw
  exact W.zret hx hb hr (sv_nz01 h01) (fun t ht hW => ⟨⟨rfl, by rw [ht]; exact hR⟩, hS.F ht⟩) hS.2.2 dX4_well_12
set_option maxHeartbeats 4000000 in
set_option maxRecDepth 100000 in
theorem lk_X4_well_0 {p : Program} {l : Launch} {e : Env} {s : State} {m : MethodId} {args : Array Value} {below : List Frame} {meth : Method} {c : Code} {G : sv_G} {B : Nat} (K : sv_W p s m args meth c cX4_well RX4 1 (some .boolean) G B "well") {r : Int32} {hE : sv_H} {x0 : Nat} {h : sv_H} (hw : fn_X4_well x0 h = some (r, hE)) {H : Heap} {locs : List Loc} {ls : Array Slot} (hR : sv_R G vwCl sv_ft B h H) (hS : va_S (fun q => B ≤ q) s.heap H locs) (hl : lv_has ls 1 [(0, .ref x0)]) : W p l e rm_X4_well s m args below meth c H locs 0 0 (sv_Z below s args G B (some (.int r)) hE) (F0 m 0 ls []) := by
  obtain ⟨hx, hb, hml, hown, hts, hC, hlk, hr, hBs, hni⟩ := id K
  unfold fn_X4_well at hw
  have hw := (sv_go hw).2
  refine lv_aload_n hx hb dX4_well_0 rfl (lv_at hl 0 rfl) ?_
  obtain ⟨v1, hv, hw⟩ := sv_bd hw
  refine sv_rgI hx hb hown hC.1 hR (fl_X4_well_22 hts hC hni) rfl (by decide) rfl rfl hv dX4_well_1 ?_
  refine lv_if_ne (tgt := 11) hx hb dX4_well_4 (by decide) (fun cc => ?_) (fun cc => ?_)
  · have hw := sv_iff cc hw
    refine lv_iconst (v := 0) hx hb dX4_well_11 (by decide) ?_
    exact lk_X4_well_12 K hw hR hS (lv_sub hl [] rfl)
  · have hw := sv_ift cc hw
    refine lv_iconst (v := 1) hx hb dX4_well_7 (by decide) ?_
    refine lv_goto (tgt := 12) hx hb dX4_well_8 (by decide) ?_
    exact lk_X4_well_12 K hw hR hS (lv_sub hl [] rfl)
set_option maxHeartbeats 4000000 in
set_option maxRecDepth 100000 in
theorem mt_X4_well (l : Launch) (G : sv_G) (B : Nat) {x0 : Nat} {h : sv_H} {r : Int32} {hE : sv_H} (hw : fn_X4_well x0 h = some (r, hE)) : Met l yX4_well (.code yX4_well cX4_well 1 (some .boolean) :: sv_tb) rm_X4_well (sv_Pc G B [.ref x0] h) (sv_Q G B (some (.int r)) hE) 0 0 (fun q => B ≤ q) := by
  refine Met.ofW (cc := cX4_well) (maxL := 1) (ret := (some .boolean)) (by decide) rfl ?_
  intro p e s m args below meth c s₁ Bd hml hv
  obtain ⟨rfl, hR, hC, hB⟩ := hv
  have hl := lv_entry ([.ref x0]) (n := 1) (Nat.le_of_ble_eq_true rfl)
  rw [lg_entry_eq]
  generalize (lg_sl ([.ref x0]) ++ List.replicate (1 - (lg_sl ([.ref x0])).length) Slot.unset).toArray = ls at hl ⊢
  have hl : lv_has ls 1 [(0, .ref x0)] := hl
  exact lk_X4_well_0 ⟨Bd.exec, Bd.bytes, hml, findClass_of_methodNamed Bd.named, fun w h => atoms_spec (ws := .code yX4_well cX4_well 1 (some .boolean) :: sv_tb) Bd.pre w (List.mem_cons_of_mem _ h), hC, Bd.notSynchronized, Bd.returns, hB, (name_of_methodNamed Bd.named Bd.method).1⟩ hw hR va_S.rf hl

