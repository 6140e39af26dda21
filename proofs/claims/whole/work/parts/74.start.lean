theorem sv_R0 {G : sv_G} {H : Heap} : sv_R G vwCl sv_ft H.size (sv_h0 H.size) H := ⟨rfl, fun a h => absurd rfl h, fun a => ⟨fun ci r h => (by cases h), fun h => absurd h (by show ¬ 901 ≤ 0; decide)⟩⟩
theorem sv_start_K {s : State} {args : Array Value} (hts : ∀ w ∈ sv_tb, w.before args s = true) : ∃ D : va_G, va_K D vwCl [] s := by
  have h1 : ∀ ci : Nat, ∃ q : ClassId × (Nat → Nat), ∀ r : vw_C, vwCl[ci]? = some r → u_Kn s r.1 r.2.1 r.2.2 q.1 q.2 := by
    intro ci
    match ci with
    | 0 => obtain ⟨c9, i9, h9⟩ := u_known (C := RX0) (T := TX0) (N := 2) (n := 2) hts uw_X0 (hts _ wd_163); exact ⟨(c9, i9), fun r hr => by cases hr; exact h9⟩
    | 1 => obtain ⟨c9, i9, h9⟩ := u_known (C := RX1) (T := TX1) (N := 7) (n := 7) hts uw_X1 (hts _ wd_215); exact ⟨(c9, i9), fun r hr => by cases hr; exact h9⟩
    | 2 => obtain ⟨c9, i9, h9⟩ := u_known (C := RX2) (T := TX2) (N := 13) (n := 13) hts uw_X2 (hts _ wd_310); exact ⟨(c9, i9), fun r hr => by cases hr; exact h9⟩
    | 3 => obtain ⟨c9, i9, h9⟩ := u_known (C := RX3) (T := TX3) (N := 11) (n := 11) hts uw_X3 (hts _ wd_538); exact ⟨(c9, i9), fun r hr => by cases hr; exact h9⟩
    | 4 => obtain ⟨c9, i9, h9⟩ := u_known (C := RX4) (T := TX4) (N := 4) (n := 4) hts uw_X4 (hts _ wd_184); exact ⟨(c9, i9), fun r hr => by cases hr; exact h9⟩
    | 5 => obtain ⟨c9, i9, h9⟩ := u_known (C := RX5) (T := TX5) (N := 3) (n := 3) hts uw_X5 (hts _ wd_665); exact ⟨(c9, i9), fun r hr => by cases hr; exact h9⟩
    | 6 => obtain ⟨c9, i9, h9⟩ := u_known (C := RX6) (T := TX6) (N := 14) (n := 14) hts uw_X6 (hts _ wd_353); exact ⟨(c9, i9), fun r hr => by cases hr; exact h9⟩
    | 7 => obtain ⟨c9, i9, h9⟩ := u_known (C := RX7) (T := TX7) (N := 4) (n := 4) hts uw_X7 (hts _ wd_318); exact ⟨(c9, i9), fun r hr => by cases hr; exact h9⟩
    | 8 => obtain ⟨c9, i9, h9⟩ := u_known (C := RX8) (T := TX8) (N := 18) (n := 18) hts uw_X8 (hts _ wd_209); exact ⟨(c9, i9), fun r hr => by cases hr; exact h9⟩
    | 9 => obtain ⟨c9, i9, h9⟩ := u_known (C := RX9) (T := TX9) (N := 8) (n := 8) hts uw_X9 (hts _ wd_630); exact ⟨(c9, i9), fun r hr => by cases hr; exact h9⟩
    | 10 => obtain ⟨c9, i9, h9⟩ := u_known (C := RX10) (T := TX10) (N := 7) (n := 7) hts uw_X10 (hts _ wd_592); exact ⟨(c9, i9), fun r hr => by cases hr; exact h9⟩
    | 11 => obtain ⟨c9, i9, h9⟩ := u_known (C := RX11) (T := TX11) (N := 12) (n := 12) hts uw_X11 (hts _ wd_417); exact ⟨(c9, i9), fun r hr => by cases hr; exact h9⟩
    | 12 => obtain ⟨c9, i9, h9⟩ := u_known (C := RX12) (T := TX12) (N := 11) (n := 11) hts uw_X12 (hts _ wd_155); exact ⟨(c9, i9), fun r hr => by cases hr; exact h9⟩
    | 13 => obtain ⟨c9, i9, h9⟩ := u_known (C := RX13) (T := TX13) (N := 18) (n := 18) hts uw_X13 (hts _ wd_1526); exact ⟨(c9, i9), fun r hr => by cases hr; exact h9⟩
    | 14 => obtain ⟨c9, i9, h9⟩ := u_known (C := RX14) (T := TX14) (N := 10) (n := 10) hts uw_X14 (hts _ wd_1403); exact ⟨(c9, i9), fun r hr => by cases hr; exact h9⟩
    | 15 => obtain ⟨c9, i9, h9⟩ := u_known (C := RX15) (T := TX15) (N := 21) (n := 21) hts uw_X15 (hts _ wd_1446); exact ⟨(c9, i9), fun r hr => by cases hr; exact h9⟩
    | 16 => obtain ⟨c9, i9, h9⟩ := u_known (C := RX16) (T := TX16) (N := 28) (n := 28) hts uw_X16 (hts _ wd_1592); exact ⟨(c9, i9), fun r hr => by cases hr; exact h9⟩
    | 17 => obtain ⟨c9, i9, h9⟩ := u_known (C := RX17) (T := TX17) (N := 29) (n := 29) hts uw_X17 (hts _ wd_1397); exact ⟨(c9, i9), fun r hr => by cases hr; exact h9⟩
    | n + 18 => exact ⟨(0, fun _ => 0), fun r h => by simp [vwCl] at h⟩
  obtain ⟨f, hf⟩ := Classical.axiomOfChoice h1
  exact ⟨(fun ci => (f ci).1, fun ci => (f ci).2), fun ci r h => hf ci r h, fun k q h => by simp at h⟩
theorem sv_nest_in : ∀ w ∈ sv_nest, w ∈ lw_tbl := by
  have h : sv_nest = ([1411, 1409, 1418, 1462, 1452, 1599, 1601, 1603, 1605, 1607, 1609, 1467, 1469, 1479, 1414, 1413, 1464, 1541, 1543, 1537, 1552, 1454, 1456, 1458, 1460, 1550, 1630, 1633, 164, 210, 539, 666, 937, 316, 319, 354, 418, 1156, 1162, 671, 216, 1286, 1287, 1122, 1127, 846, 1404, 1447, 1527, 1593, 1882, 2046, 2223, 2317, 2318, 350, 352] : List Nat).filterMap (fun i => lw_tbl[i]?) := by decide +kernel
  intro w hw
  rw [h] at hw
  obtain ⟨i, -, hi⟩ := List.mem_filterMap.mp hw
  exact List.mem_of_getElem? hi
theorem sv_start_A {s : State} {args : Array Value} (hts : ∀ w ∈ sv_tb, w.before args s = true) (hts0 : ∀ w ∈ lw_tbl, w.before args s = true) : ∃ id : Nat → ClassId, ∀ (c : Nat) (ty : FieldType), sv_ak c = some ty → ArrOfT s (id c) ty ∧ va_RA s (id c) ty := by
  have prim : ∀ ty : FieldType, (Cond.arrayClass ty).before args s = true → (∀ id, va_RA s id ty = (s.vm.findClass ("[" ++ ty.toString) = some id)) → ∃ id : ClassId, ArrOfT s id ty ∧ va_RA s id ty := by
    intro ty h hra
    obtain ⟨cA, kA, comp, hfind, hk, hkind⟩ := Cond.arrayClass_spec h
    exact ⟨cA, fun n z => ⟨fun k h => (by cases h), kA, hk, comp, hkind⟩, by rw [hra]; exact hfind⟩
  have obj : ∀ C : String, (Cond.arrayOver (.object C)).before args s = true → ∃ id : ClassId, ArrOfT s id (.object C) ∧ va_RA s id (.object C) := by
    intro C h
    obtain ⟨comp, cA, kA, g1, g2, g3, g4, g5⟩ := Cond.arrayOver_spec h
    exact ⟨cA, fun n z => ⟨fun k h => (by cases h), kA, g3, comp, g4⟩, kA, comp, g3, g4, g1, g5⟩
  have h1 : ∀ c : Nat, ∃ id : ClassId, ∀ ty : FieldType, sv_ak c = some ty → ArrOfT s id ty ∧ va_RA s id ty := by
    intro c
    unfold sv_ak
    by_cases c1 : c = 901
    · obtain ⟨id, q⟩ := prim .int (hts _ wd_182) (fun _ => rfl)
      exact ⟨id, fun ty h => by rw [if_pos c1] at h; cases h; exact q⟩
    by_cases c2 : c = 902
    · obtain ⟨id, q⟩ := prim .long (hts _ wd_244) (fun _ => rfl)
      exact ⟨id, fun ty h => by rw [if_neg c1, if_pos c2] at h; cases h; exact q⟩
    by_cases c3 : c = 903
    · obtain ⟨id, q⟩ := prim .boolean (hts _ wd_308) (fun _ => rfl)
      exact ⟨id, fun ty h => by rw [if_neg c1, if_neg c2, if_pos c3] at h; cases h; exact q⟩
    by_cases c4 : c = 904
    · obtain ⟨id, q⟩ := prim .byte (hts _ wd_1444) (fun _ => rfl)
      exact ⟨id, fun ty h => by rw [if_neg c1, if_neg c2, if_neg c3, if_pos c4] at h; cases h; exact q⟩
    by_cases c5 : c = 917
    · obtain ⟨id, q⟩ := obj "SectorView$Sector" (hts0 _ (sv_nest_in _ (by decide +kernel)))
      exact ⟨id, fun ty h => by rw [if_neg c1, if_neg c2, if_neg c3, if_neg c4, if_pos c5] at h; cases h; exact q⟩
    by_cases c6 : c = 922
    · obtain ⟨id, q⟩ := obj "SectorView$Wall" (hts0 _ (sv_nest_in _ (by decide +kernel)))
      exact ⟨id, fun ty h => by rw [if_neg c1, if_neg c2, if_neg c3, if_neg c4, if_neg c5, if_pos c6] at h; cases h; exact q⟩
    exact ⟨0, fun ty h => by rw [if_neg c1, if_neg c2, if_neg c3, if_neg c4, if_neg c5, if_neg c6] at h; cases h⟩
  obtain ⟨f, hf⟩ := Classical.axiomOfChoice h1
  exact ⟨f, fun c ty h => hf c ty h⟩
theorem sv_start_Q {s : State} {args : Array Value} (hts : ∀ w ∈ lw_tbl, w.before args s = true) (hg : (Jvm.Cond.and given_1 narrow_1).before args s = true) : ∃ t : Nat, va_Z "SectorView" "QUARTER" "[I" (.ref t) (fun q => s.heap.size ≤ q) s s.heap ∧ va_T .int t 17 (fun j => .int (sv_quarter.getD j 0)) (fun q => s.heap.size ≤ q) s s.heap := by
  have hs := flat_of_before _ hg
  have hA : ∀ a : Nat, a < s.heap.size → ¬ s.heap.size ≤ a := fun a h => Nat.not_le.mpr h
  obtain ⟨t, h1, h2⟩ := va_Tof (tm := .static "SectorView" "QUARTER" "[I") (ty := .int) (N := 17) (f := fun j => .int (sv_quarter.getD j 0)) (A := fun q => s.heap.size ≤ q) (by decide) (hs _ (by decide +kernel)) (va_eqt (hs _ (by decide +kernel))) (fun j hj => by
    match j, hj with
    | 0, _ => exact va_eqt (hs _ (by decide +kernel))
    | 1, _ => exact va_eqt (hs _ (by decide +kernel))
    | 2, _ => exact va_eqt (hs _ (by decide +kernel))
    | 3, _ => exact va_eqt (hs _ (by decide +kernel))
    | 4, _ => exact va_eqt (hs _ (by decide +kernel))
    | 5, _ => exact va_eqt (hs _ (by decide +kernel))
    | 6, _ => exact va_eqt (hs _ (by decide +kernel))
    | 7, _ => exact va_eqt (hs _ (by decide +kernel))
    | 8, _ => exact va_eqt (hs _ (by decide +kernel))
    | 9, _ => exact va_eqt (hs _ (by decide +kernel))
    | 10, _ => exact va_eqt (hs _ (by decide +kernel))
    | 11, _ => exact va_eqt (hs _ (by decide +kernel))
    | 12, _ => exact va_eqt (hs _ (by decide +kernel))
    | 13, _ => exact va_eqt (hs _ (by decide +kernel))
    | 14, _ => exact va_eqt (hs _ (by decide +kernel))
    | 15, _ => exact va_eqt (hs _ (by decide +kernel))
    | 16, _ => exact va_eqt (hs _ (by decide +kernel))
    | n + 17, h => omega) hA
  exact ⟨t, va_Zref (hts (.laysStatic "SectorView" "QUARTER" "[I") (List.mem_of_getElem? (i := 1126) (by decide +kernel))) (hts (.initialized "SectorView") (List.mem_of_getElem? (i := 131) (by decide +kernel))) h1 hA, h2⟩
set_option maxHeartbeats 4000000 in
theorem whole_start_open (hcl : sv_claim) {p : Program} {e : Env} {s : State} {m : MethodId} {below : List Frame} {meth : Method} {c : Code} (l : Launch) {b L : Nat} {xs : Nat → Int32} (hL : L ≤ 2560) (C0 : lw_At p s m meth c b L xs) : W p l e room_1 s m #[Value.ref b] below meth c s.heap [] 0 0 (lw_Z below #[Value.ref b] s) (entryFrame m ([Value.ref b] : List Value).toArray 4) := by
  obtain ⟨hx, hb, hr, hml, hown, hts0, hX, hbl, hlocks, hgv⟩ := id C0
  have hts : ∀ w ∈ sv_tb, w.before #[Value.ref b] s = true := fun w h => hts0 w (List.mem_filter.mp h).1
  obtain ⟨hE, hw, q1, q2⟩ := hcl L xs s.heap.size hL (by omega)
  obtain ⟨D, hD⟩ := sv_start_K hts
  obtain ⟨id9, hid⟩ := sv_start_A hts hts0
  obtain ⟨t, hZ, hT⟩ := sv_start_Q hts0 hgv
  have hN : ∀ w ∈ sv_nest, va_Nw w s := by
    intro w hw
    have h1 := List.all_eq_true.mp sv_nest_ok w hw
    have h2 := hts0 w (sv_nest_in w hw)
    cases w <;> first | exact absurd h1 Bool.false_ne_true | exact va_Nw.of rfl h2 | (rename_i ty; cases ty <;> first | exact absurd h1 Bool.false_ne_true | exact va_AO.of h2)
  have hC : sv_Cx (D, id9) s.heap.size s s.heap := ⟨⟨hD, hid⟩, hN, t, hZ, hT⟩
  have hl := lv_entry ([.ref b]) (n := 4) (Nat.le_of_ble_eq_true rfl)
  rw [lg_entry_eq]
  generalize (lg_sl ([.ref b]) ++ List.replicate (4 - (lg_sl ([.ref b])).length) Slot.unset).toArray = ls at hl ⊢
  have hl : lv_has ls 4 [(0, .ref b)] := hl
  refine sv_csE (Nat.sub_self (sv_sz (sv_h0 s.heap.size))).symm (Nat.sub_self (sv_sl (sv_h0 s.heap.size))).symm rfl ?_
  exact lk_L_law_0 (h0 := sv_h0 s.heap.size) ⟨C0, hC, rfl⟩ rfl q1 q2 hw (sv_le.refl _) sv_R0 va_S.rf hl
