def sv_dv (t : Nat) : Value := if t = 0 then .int 0 else if t = 1 then .long 0 else .null
theorem sv_V_mk {ft : Nat → Nat → Nat} {h : sv_H} {c n j : Nat} : sv_V ft (sv_mk h c n) c j (sv_sz h) = sv_dv (ft c j) := by
  simp [sv_V, sv_mk, sv_FI, sv_FJ, sv_FP, sv_dv, sv_va]
section SVM
variable {p : Program} {l : Launch} {e : Env} {R : Room} {s : State} {m : MethodId} {args : Array Value} {below : List Frame} {meth : Method} {c : Code} {H : Heap} {locs : List Loc} {cells slots : Nat} {Q : State → Prop}
variable {cc : ByteArray} {pc : Nat} {ls : Array Slot} {rest : List Value} {G : sv_G} {cl : List vw_C} {ft : Nat → Nat → Nat} {ak : Nat → Option FieldType} {B a : Nat} {h h1 : sv_H} {own C : String} {index ci k : Nat} {ty : FieldType}
theorem sv_rnew (hexec : p.tables.exec = Jvm.exec) (hb : c.code = cc) {T : u_T} {N : Nat} {Ts : List Cond} (hts : ∀ w ∈ Ts, w.before args s = true) (hin : ∀ w ∈ u_ws C T N, w ∈ Ts) (ty0 : Nat → FieldType) (hty : ∀ k, k < N → parseFieldDescriptor (T k).2.2.1 = some (ty0 k)) (hown : s.vm.findClass own = some m.cls) (hcl : (Cond.classLink own index C).before args s = true) (hinst : (Cond.instantiable C N).before args s = true) (hini : (Cond.initialized C).before args s = true)
    (hK : sv_Kn G cl ak s) (hR : sv_R G cl ft B h H) (hS : va_S (fun q => B ≤ q) s.heap H locs) (hB : B ≤ s.heap.size) (hc : cl[ci]? = some (C, T, N)) (hci : ci < 900) {c1 : Nat} (hc1 : c1 = ci + 1) (hdv : ∀ j, j < N → defaultValue (ty0 j) = sv_dv (ft (ci + 1) j)) (hcells : cells + 1 ≤ R.cells) (hslots : slots + N ≤ R.slots) (hdg : decode cc pc = .ok (.new index, 3))
    (kk : ∀ H1 : Heap, sv_R G cl ft B (sv_mk h c1 N) H1 → va_S (fun q => B ≤ q) s.heap H1 locs → W p l e R s m args below meth c H1 locs (cells + 1) (slots + N) Q (F0 m (pc + 3) ls (.ref (sv_sz h) :: rest))) : W p l e R s m args below meth c H locs cells slots Q (F0 m pc ls rest) := by
  subst hc1
  have hKn := hK.1.1 ci _ hc
  refine W.newcK hexec hb hown hcl hinst hini rfl hdg hcells hslots hKn.2.1 (h := sv_sz h) hR.1 fun H1 kC hkC e1 z1 o1 => ?_
  have hBz : B ≤ sv_sz h := by rw [← hR.1]; exact Nat.le_trans hB hS.1
  refine kk H1 (hR.new (c0 := ci + 1) hBz rfl rfl (fun _ _ => rfl) (fun c k q hq => ?_) (fun _ _ _ _ => rfl) (by rw [z1, hR.1]) (fun q hq => o1 q (by rw [← hR.1]; exact hq)) ⟨fun cj r h2 h3 h4 => ?_, fun h9 => ?_⟩) ⟨Nat.le_trans hS.1 (by rw [z1, hR.1]; omega), fun x h1 h2 => (o1 x (by rw [← hR.1]; exact Nat.lt_of_lt_of_le h1 hS.1)).trans (hS.2.1 x h1 h2), hS.2.2⟩
  · simp [sv_V, sv_mk, sv_FI, sv_FJ, sv_FP, hq]
  · have e2 : sv_K (sv_mk h (ci + 1) N) (sv_sz h) = ci + 1 := va_up_self _ _ _
    rw [e2] at h2
    have : cj = ci := by omega
    subst this
    have hrr : r = (C, T, N) := Option.some.inj (h4.symm.trans hc)
    subst hrr
    exact (u_born ty0 hts hin hKn hkC e1 hty).to (fun j hj => by rw [sv_V_mk]; exact hdv j hj)
  · have e2 : sv_K (sv_mk h (ci + 1) N) (sv_sz h) = ci + 1 := va_up_self _ _ _
    rw [e2] at h9
    omega
theorem sv_arr_new {h : sv_H} {H H1 : Heap} {c1 n : Nat} {v : Value} (hR : sv_R G cl ft B h H) (hBz : B ≤ sv_sz h) (h901 : 901 ≤ c1) (hv : ∀ j, sv_E (sv_ma h c1 n) c1 (sv_sz h) j = v) (e1 : H1[sv_sz h]? = some (arrV (G.2 c1) n (fun _ => v))) (z1 : H1.size = sv_sz h + 1) (o1 : ∀ q : Nat, q < sv_sz h → H1[q]? = H[q]?) : sv_R G cl ft B (sv_ma h c1 n) H1 := by
  have e2 : sv_K (sv_ma h c1 n) (sv_sz h) = c1 := va_up_self _ _ _
  have e3 : sv_N (sv_ma h c1 n) (sv_sz h) = n := va_up_self _ _ _
  refine hR.new (c0 := c1) hBz rfl rfl (fun q hq => va_up_ne _ _ hq) (fun _ _ _ _ => rfl) (fun c q j hq => by simp [sv_E, sv_ma, sv_AI, sv_AJ, sv_AP, hq]) (by rw [z1, hR.1]) (fun q hq => o1 q (by rw [← hR.1]; exact hq)) ⟨fun cj r h2 h3 h4 => ?_, fun _ => ?_⟩
  · rw [e2] at h2; omega
  · rw [e2, e3, e1]
    congr 2
    funext j
    exact (hv j).symm
theorem sv_rna (hexec : p.tables.exec = Jvm.exec) (hb : c.code = cc) {atype : ArrayType} (harr : (Cond.arrayClass (newarray.typeOf atype)).before args s = true) (hK : sv_Kn G cl ak s) {c1 : Nat} (h901 : 901 ≤ c1) (hak : ak c1 = some ty) (hty : newarray.typeOf atype = ty) (hRA : va_RA s (G.2 c1) ty = (s.vm.findClass ("[" ++ ty.toString) = some (G.2 c1))) (hcb : componentBytes ty ≤ 8)
    (hv : ∀ n j, sv_E (sv_ma h c1 n) c1 (sv_sz h) j = defaultValue ty) (hR : sv_R G cl ft B h H) (hS : va_S (fun q => B ≤ q) s.heap H locs) (hB : B ≤ s.heap.size) {n : Int32} (hn : ¬ n < 0 ∧ n ≤ 1048576) (hcells : cells + 1 ≤ R.cells) (hslots : slots + n.toNatClampNeg ≤ R.slots) (hdg : decode cc pc = .ok (.newarray atype, 2))
    (kk : ∀ H1 : Heap, sv_R G cl ft B (sv_ma h c1 n.toNatClampNeg) H1 → va_S (fun q => B ≤ q) s.heap H1 locs → W p l e R s m args below meth c H1 locs (cells + 1) (slots + n.toNatClampNeg) Q (F0 m (pc + 2) ls (.ref (sv_sz h) :: rest))) : W p l e R s m args below meth c H locs cells slots Q (F0 m pc ls (.int n :: rest)) := by
  subst hty
  have hnb : n.toNatClampNeg ≤ 1048576 := by
    have h1 := Int32.le_iff_toInt_le.mp hn.2
    have h2 : (1048576 : Int32).toInt = 1048576 := by decide
    rw [h2] at h1
    show n.toInt.toNat ≤ 1048576
    omega
  refine va_newaK hexec hb harr rfl hdg rfl hn.1 rfl (Nat.le_trans (Nat.mul_le_mul hnb hcb) (by decide)) hcells hslots hR.1 fun H1 cA e1 z1 o1 hAr hNm => ?_
  have hBz : B ≤ sv_sz h := by rw [← hR.1]; exact Nat.le_trans hB hS.1
  have hRA2 := (hK.2 c1 _ hak).2
  rw [hRA] at hRA2
  have hcA : cA = G.2 c1 := Option.some.inj (hNm.symm.trans hRA2)
  subst hcA
  exact kk H1 (sv_arr_new hR hBz h901 (hv _) e1 z1 o1) ⟨Nat.le_trans hS.1 (by rw [z1, hR.1]; omega), fun x h1 h2 => (o1 x (by rw [← hR.1]; exact Nat.lt_of_lt_of_le h1 hS.1)).trans (hS.2.1 x h1 h2), hS.2.2⟩
theorem sv_rnq (hexec : p.tables.exec = Jvm.exec) (hb : c.code = cc) (hown : s.vm.findClass own = some m.cls) (hclink : (Cond.classLink own index C).before args s = true) (hover : (Cond.arrayOver (.object C)).before args s = true) (hK : sv_Kn G cl ak s) {c1 : Nat} (h910 : 910 ≤ c1) (hak : ak c1 = some (.object C)) (hR : sv_R G cl ft B h H) (hS : va_S (fun q => B ≤ q) s.heap H locs) (hB : B ≤ s.heap.size) {n : Int32} (hn : ¬ n < 0 ∧ n ≤ 1048576) (hcells : cells + 1 ≤ R.cells) (hslots : slots + n.toNatClampNeg ≤ R.slots) (hdg : decode cc pc = .ok (.anewarray index, 3))
    (kk : ∀ H1 : Heap, sv_R G cl ft B (sv_ma h c1 n.toNatClampNeg) H1 → va_S (fun q => B ≤ q) s.heap H1 locs → W p l e R s m args below meth c H1 locs (cells + 1) (slots + n.toNatClampNeg) Q (F0 m (pc + 3) ls (.ref (sv_sz h) :: rest))) : W p l e R s m args below meth c H locs cells slots Q (F0 m pc ls (.int n :: rest)) := by
  have hnb : n.toNatClampNeg ≤ 1048576 := by
    have h1 := Int32.le_iff_toInt_le.mp hn.2
    have h2 : (1048576 : Int32).toInt = 1048576 := by decide
    rw [h2] at h1
    show n.toInt.toNat ≤ 1048576
    omega
  refine W.anew hexec hb hown hclink hover rfl hdg rfl hn.1 (by omega) hcells hslots fun cA kA comp f1 f2 f3 f4 => ?_
  rw [hR.1]
  generalize hH1 : H.push ({ cls := cA, slots := Array.replicate n.toNatClampNeg .null, vm := .none } : Cell) = H1
  have z1 : H1.size = sv_sz h + 1 := by rw [← hH1, Array.size_push, hR.1]
  have e1 : H1[sv_sz h]? = some (arrV cA n.toNatClampNeg (fun _ => .null)) := by rw [← hH1, ← hR.1, Array.getElem?_push_size, ← arrV_new]
  have o1 : ∀ q : Nat, q < sv_sz h → H1[q]? = H[q]? := fun q hq => by rw [← hH1, Array.getElem?_push, if_neg (by rw [hR.1]; exact Nat.ne_of_lt hq)]
  have hBz : B ≤ sv_sz h := by rw [← hR.1]; exact Nat.le_trans hB hS.1
  obtain ⟨kB, comp2, -, -, -, g4⟩ := (hK.2 c1 _ hak).2
  have hcA : cA = G.2 c1 := Option.some.inj (f1.symm.trans g4)
  subst hcA
  have n1 : ¬ c1 = 902 := by omega
  exact kk H1 (sv_arr_new hR hBz (by omega) (fun j => by simp [sv_E, n1, h910, sv_ma, sv_AP, sv_va]) e1 z1 o1) ⟨Nat.le_trans hS.1 (by rw [z1, hR.1]; omega), fun x h1 h2 => (o1 x (by rw [← hR.1]; exact Nat.lt_of_lt_of_le h1 hS.1)).trans (hS.2.1 x h1 h2), hS.2.2⟩
theorem sv_nnz (z : Int32) (hz : ¬ z < 0) : z.toInt = (z.toNatClampNeg : Int) := by
  have hz0 : (0 : Int) ≤ z.toInt := by
    have := Int32.not_lt.mp hz
    simpa using Int32.le_iff_toInt_le.mp this
  show z.toInt = ((z.toInt.toNat : Nat) : Int)
  omega
theorem sv_rcopy {α : Type} (mk : α → Value) (hexec : p.tables.exec = Jvm.exec) (hb : c.code = cc) (hml : c.maxLocals = ls.size) (hown : s.vm.findClass own = some m.cls) (hlink : (Cond.methodLink own index arraycopyName).before args s = true) (hnat : (Cond.native arraycopyName).before args s = true) (hstat : (Cond.static arraycopyName).before args s = true) (hini : (Cond.initialized "java/lang/System").before args s = true)
    (hK : sv_Kn G cl ak s) {c1 src : Nat} {f : Nat → Nat → α} (h901 : 901 ≤ c1) (hak : ak c1 = some ty) (hprim : refKind ty = false) (hfit : ∀ x, fits ty (mk x) = true) (hmk : ∀ x : α, ∀ q, mk x ≠ .ref q) (hE : ∀ q j, sv_E h c1 q j = mk (f q j)) (hR : sv_R G cl ft B h H) (hS : va_S (fun q => B ≤ q) s.heap H locs)
    {sp dp n : Int32} (hE1 : ∀ q j, sv_E h1 c1 q j = mk (if q = a then va_cpy (f src) (f a) sp.toNatClampNeg dp.toNatClampNeg n.toNatClampNeg j else f q j)) (hoth : ∀ c q j, q ≠ a → sv_E h1 c q j = sv_E h c q j) (hs1 : sv_sz h1 = sv_sz h) (hk1 : sv_K h1 = sv_K h) (hn1 : sv_N h1 = sv_N h) (hv1 : ∀ c k q, sv_V ft h1 c k q = sv_V ft h c k q) (hv : sv_copy h c1 src sp a dp n = some h1)
    (hframes : 1 ≤ R.frames) (hlocals : (rest.map fun v => v.category).sum + (nativeFrameWords "java/lang/System" "arraycopy" 5 + 11) ≤ R.locals) (hdg : decode cc pc = .ok (.invokestatic index, 3))
    (kk : ∀ (H1 : Heap) (locs1 : List Loc), sv_R G cl ft B h1 H1 → va_S (fun q => B ≤ q) s.heap H1 locs1 → W p l e R s m args below meth c H1 locs1 cells slots Q (F0 m (pc + 3) ls rest)) : W p l e R s m args below meth c H locs cells slots Q (F0 m pc ls (.int n :: .int dp :: .ref a :: .int sp :: .ref src :: rest)) := by
  obtain ⟨⟨g1, g2, k1, k2, k3, k4, k5⟩, -⟩ := sv_if hv
  intro T hT X
  have hc0 := (hR.2.2 src).2 (by omega)
  have hc1 := (hR.2.2 a).2 (by omega)
  rw [g1] at hc0
  rw [g2] at hc1
  have f0 : (fun j => sv_E h c1 src j) = fun j => mk (f src j) := funext (hE src)
  have f1 : (fun j => sv_E h c1 a j) = fun j => mk (f a j) := funext (hE a)
  rw [f0] at hc0
  rw [f1] at hc1
  have hBa : B ≤ a := (hR.2.1 a (by omega)).1
  obtain ⟨-, q0, hk0, cm0, hkk0⟩ := (hK.2 c1 _ hak).1 (sv_N h src) (fun j => mk (f src j))
  obtain ⟨-, q1, hk1', cm1, hkk1⟩ := (hK.2 c1 _ hak).1 (sv_N h a) (fun j => mk (f a j))
  obtain ⟨vm', X', step⟩ := X.arraycopy hexec hown hlink hnat hstat hini (src := src) (dst := a) (cs := arrV (G.2 c1) (sv_N h src) (fun j => mk (f src j))) (cd := arrV (G.2 c1) (sv_N h a) (fun j => mk (f a j))) (srcPos := sp) (destPos := dp) (n := n) (by rw [hT]; exact hc0) (by rw [hT]; exact hc1)
    (fun _ h => by cases h) (fun _ h => by cases h) (fun h => by cases h) (fun h => by cases h) hk0 hk1' hkk0 hkk1 (by simp [hprim]) k1 k2 k3
    (by rw [sv_nnz sp k1, sv_nnz n k3, arrV_size]; omega)
    (by rw [sv_nnz dp k2, sv_nnz n k3, arrV_size]; omega)
    (fun vm₁ _ i hi => by
      have e : (arrV (G.2 c1) (sv_N h src) (fun j => mk (f src j))).slots.getD (sp.toNatClampNeg + i) .null = mk (f src (sp.toNatClampNeg + i)) := by
        rw [Array.getD_eq_getD_getElem?, arrV_read _ _ (by omega)]
        rfl
      refine ⟨?_, ?_⟩
      · rw [e]
        exact hfit _
      · rw [e]
        cases hz : mk (f src (sp.toNatClampNeg + i)) with
        | ref q => exact absurd hz (hmk _ q)
        | _ => trivial)
    (g := F0 m pc ls (.int n :: .int dp :: .ref a :: .int sp :: .ref src :: rest)) rfl (by rw [hml]) (rest := rest) rfl (by rw [hb]; exact hdg) hframes (by show 2 * 0 + _ + _ ≤ _; omega)
  have e1 : copied (arrV (G.2 c1) (sv_N h src) (fun j => mk (f src j))) (arrV (G.2 c1) (sv_N h a) (fun j => mk (f a j))) sp dp n = arrV (G.2 c1) (sv_N h a) (fun j => mk (va_cpy (f src) (f a) sp.toNatClampNeg dp.toNatClampNeg n.toNatClampNeg j)) := va_copied mk (G.2 c1) (G.2 c1) (f src) (f a) k4
  rw [e1] at X' step
  have hl : a < H.size := (Array.getElem?_eq_some_iff.mp hc1).1
  generalize hcell : arrV (G.2 c1) (sv_N h a) (fun j => mk (va_cpy (f src) (f a) sp.toNatClampNeg dp.toNatClampNeg n.toNatClampNeg j)) = cell at X' step
  have hheap : ((T.setVm vm').setCell a cell).heap = H.setIfInBounds a cell := by rw [← hT]; rfl
  have oq : ∀ q : Nat, q ≠ a → (H.setIfInBounds a cell)[q]? = H[q]? := fun q hq => by simp [Array.getElem?_setIfInBounds, Ne.symm hq]
  have es : (H.setIfInBounds a cell)[a]? = some cell := by simp [Array.getElem?_setIfInBounds, hl]
  obtain ⟨t, a1, b1⟩ := kk _ _ (hR.ast hs1 hk1 hn1 hv1 hoth (by simp) oq (by omega) (by
      rw [es, ← hcell, g2]
      congr 2
      funext j
      rw [hE1 a j, if_pos rfl])) ⟨by simp; exact hS.1, fun q g1 g2 => by
      rw [oq q (fun e => g2 (by rw [e]; exact hBa))]
      exact hS.2.1 q g1 g2, fun q hq => by
      rcases List.mem_append.mp hq with h | h
      · exact hS.2.2 q h
      · obtain ⟨z, -, hz⟩ := List.mem_map.mp h
        rw [← hz]
        exact hBa⟩ _ hheap X'
  exact ⟨t, step t a1, b1⟩
theorem sv_rcopyI (hexec : p.tables.exec = Jvm.exec) (hb : c.code = cc) (hml : c.maxLocals = ls.size) (hown : s.vm.findClass own = some m.cls) (hlink : (Cond.methodLink own index arraycopyName).before args s = true) (hnat : (Cond.native arraycopyName).before args s = true) (hstat : (Cond.static arraycopyName).before args s = true) (hini : (Cond.initialized "java/lang/System").before args s = true)
    (hK : sv_Kn G cl ak s) {src : Nat} (hak : ak 901 = some .int) (hR : sv_R G cl ft B h H) (hS : va_S (fun q => B ≤ q) s.heap H locs) {sp dp n : Int32} (hv : sv_copy h 901 src sp a dp n = some h1)
    (hframes : 1 ≤ R.frames) (hlocals : (rest.map fun v => v.category).sum + (nativeFrameWords "java/lang/System" "arraycopy" 5 + 11) ≤ R.locals) (hdg : decode cc pc = .ok (.invokestatic index, 3))
    (kk : ∀ (H1 : Heap) (locs1 : List Loc), sv_R G cl ft B h1 H1 → va_S (fun q => B ≤ q) s.heap H1 locs1 → W p l e R s m args below meth c H1 locs1 cells slots Q (F0 m (pc + 3) ls rest)) : W p l e R s m args below meth c H locs cells slots Q (F0 m pc ls (.int n :: .int dp :: .ref a :: .int sp :: .ref src :: rest)) := by
  have e1 : h1 = (sv_sz h, sv_sl h, sv_K h, sv_N h, sv_FI h, sv_FJ h, sv_FP h, fun q j => if q = a then va_cpy (sv_AI h src) (sv_AI h a) sp.toNatClampNeg dp.toNatClampNeg n.toNatClampNeg j else sv_AI h q j, sv_AJ h, sv_AP h) := (sv_if hv).2.symm.trans (by rw [sv_cp, if_neg (by decide)])
  refine sv_rcopy (mk := Value.int) (f := sv_AI h) hexec hb hml hown hlink hnat hstat hini hK (by decide) hak rfl (fun _ => rfl) (fun _ _ e => by cases e) (fun _ _ => rfl) hR hS (fun q j => by rw [e1]; rfl) (fun c q j hq => by rw [e1]; simp [sv_E, sv_AI, sv_AJ, sv_AP, hq]) (by rw [e1]; rfl) (by rw [e1]; rfl) (by rw [e1]; rfl) (fun c k q => by rw [e1]; rfl) hv hframes hlocals hdg kk
theorem sv_rcopyJ (hexec : p.tables.exec = Jvm.exec) (hb : c.code = cc) (hml : c.maxLocals = ls.size) (hown : s.vm.findClass own = some m.cls) (hlink : (Cond.methodLink own index arraycopyName).before args s = true) (hnat : (Cond.native arraycopyName).before args s = true) (hstat : (Cond.static arraycopyName).before args s = true) (hini : (Cond.initialized "java/lang/System").before args s = true)
    (hK : sv_Kn G cl ak s) {src : Nat} (hak : ak 902 = some .long) (hR : sv_R G cl ft B h H) (hS : va_S (fun q => B ≤ q) s.heap H locs) {sp dp n : Int32} (hv : sv_copy h 902 src sp a dp n = some h1)
    (hframes : 1 ≤ R.frames) (hlocals : (rest.map fun v => v.category).sum + (nativeFrameWords "java/lang/System" "arraycopy" 5 + 11) ≤ R.locals) (hdg : decode cc pc = .ok (.invokestatic index, 3))
    (kk : ∀ (H1 : Heap) (locs1 : List Loc), sv_R G cl ft B h1 H1 → va_S (fun q => B ≤ q) s.heap H1 locs1 → W p l e R s m args below meth c H1 locs1 cells slots Q (F0 m (pc + 3) ls rest)) : W p l e R s m args below meth c H locs cells slots Q (F0 m pc ls (.int n :: .int dp :: .ref a :: .int sp :: .ref src :: rest)) := by
  have e1 : h1 = (sv_sz h, sv_sl h, sv_K h, sv_N h, sv_FI h, sv_FJ h, sv_FP h, sv_AI h, fun q j => if q = a then va_cpy (sv_AJ h src) (sv_AJ h a) sp.toNatClampNeg dp.toNatClampNeg n.toNatClampNeg j else sv_AJ h q j, sv_AP h) := (sv_if hv).2.symm.trans (by rw [sv_cp, if_pos rfl])
  refine sv_rcopy (mk := Value.long) (f := sv_AJ h) hexec hb hml hown hlink hnat hstat hini hK (by decide) hak rfl (fun _ => rfl) (fun _ _ e => by cases e) (fun _ _ => rfl) hR hS (fun q j => by rw [e1]; rfl) (fun c q j hq => by rw [e1]; simp [sv_E, sv_AI, sv_AJ, sv_AP, hq]) (by rw [e1]; rfl) (by rw [e1]; rfl) (by rw [e1]; rfl) (fun c k q => by rw [e1]; rfl) hv hframes hlocals hdg kk
end SVM
theorem sv_new_ex {α : Type} {h : sv_H} {c n : Nat} {k : Nat → sv_H → Option α} {r : α} (hw : sv_new h c n k = some r) : ∃ (a2 : Nat) (h3 : sv_H), a2 = sv_sz h ∧ h3 = sv_mk h c n ∧ k a2 h3 = some r := ⟨_, _, rfl, rfl, hw⟩
theorem sv_na_ex {α : Type} {h : sv_H} {c : Nat} {n : Int32} {k : Nat → sv_H → Option α} {r : α} (hw : sv_na h c n k = some r) : ∃ (a2 : Nat) (h3 : sv_H), (¬ n < 0 ∧ n ≤ 1048576) ∧ a2 = sv_sz h ∧ h3 = sv_ma h c n.toNatClampNeg ∧ k a2 h3 = some r := by
  obtain ⟨h1, h2⟩ := sv_go hw
  exact ⟨_, _, h1, rfl, rfl, h2⟩
theorem sv_csE {p : Program} {l : Launch} {e : Env} {R : Room} {s : State} {m : MethodId} {args : Array Value} {below : List Frame} {meth : Method} {c : Code} {H : Heap} {locs : List Loc} {cells slots : Nat} {Q : State → Prop} {pc : Nat} {ls : Array Slot} {st st2 : List Value} {cells' slots' : Nat} (hc : cells = cells') (hs : slots = slots') (ht : st = st2) (k : W p l e R s m args below meth c H locs cells' slots' Q (F0 m pc ls st2)) : W p l e R s m args below meth c H locs cells slots Q (F0 m pc ls st) := by
  subst hc; subst hs; subst ht; exact k
