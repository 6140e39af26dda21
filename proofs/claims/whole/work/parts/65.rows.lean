/-- class numbers and slots, and the array classes by kind -/
abbrev sv_G : Type := va_G × (Nat → ClassId)
def sv_va (q : Nat) : Value := if q = 0 then .null else .ref q
theorem sv_va_ne {q : Nat} (h : q ≠ 0) : sv_va q = .ref q := if_neg h
/-- a field's value: ft says of a class's field whether it is an int (0), a long (1) or a reference (2) -/
def sv_V (ft : Nat → Nat → Nat) (h : sv_H) (c k a : Nat) : Value := if ft c k = 0 then .int (sv_FI h (100 * c + k) a) else if ft c k = 1 then .long (sv_FJ h (100 * c + k) a) else sv_va (sv_FP h (100 * c + k) a)
def sv_E (h : sv_H) (c a j : Nat) : Value := if c = 902 then .long (sv_AJ h a j) else if 910 ≤ c then sv_va (sv_AP h a j) else .int (sv_AI h a j)
def sv_at (G : sv_G) (cl : List vw_C) (ft : Nat → Nat → Nat) (h : sv_H) (a : Nat) (H : Heap) : Prop :=
  (∀ (ci : Nat) (r : vw_C), sv_K h a = ci + 1 → ci < 900 → cl[ci]? = some r → t_OB a (G.1.1 ci) r.2.2 (G.1.2 ci) H (fun k => sv_V ft h (ci + 1) k a)) ∧ (901 ≤ sv_K h a → H[a]? = some (arrV (G.2 (sv_K h a)) (sv_N h a) (fun j => sv_E h (sv_K h a) a j)))
/-- the heap holds the picture: all that was made from B on -/
def sv_R (G : sv_G) (cl : List vw_C) (ft : Nat → Nat → Nat) (B : Nat) (h : sv_H) (H : Heap) : Prop := H.size = sv_sz h ∧ (∀ a, sv_K h a ≠ 0 → B ≤ a ∧ a < sv_sz h) ∧ ∀ a, sv_at G cl ft h a H
/-- one object's cell is written -/
theorem sv_R.put {G : sv_G} {cl : List vw_C} {ft : Nat → Nat → Nat} {B : Nat} {h h1 : sv_H} {H H1 : Heap} {a ci : Nat} (hR : sv_R G cl ft B h H) (hs : sv_sz h1 = sv_sz h) (hk : sv_K h1 = sv_K h) (hn : sv_N h1 = sv_N h) (hv : ∀ c k q, q ≠ a → sv_V ft h1 c k q = sv_V ft h c k q) (he : ∀ c q j, sv_E h1 c q j = sv_E h c q j) (z : H1.size = H.size) (oq : ∀ q : Nat, q ≠ a → H1[q]? = H[q]?) (hci : ci < 900) (hKa : sv_K h a = ci + 1) (hob : ∀ r : vw_C, cl[ci]? = some r → t_OB a (G.1.1 ci) r.2.2 (G.1.2 ci) H1 (fun k => sv_V ft h1 (ci + 1) k a)) : sv_R G cl ft B h1 H1 := by
  refine ⟨z.trans (hR.1.trans hs.symm), fun q hq => ?_, fun q => ?_⟩
  · rw [hs]; rw [hk] at hq; exact hR.2.1 q hq
  · by_cases e : q = a
    · subst e
      refine ⟨fun cj r h2 h3 h4 => ?_, fun h9 => ?_⟩
      · rw [hk, hKa] at h2
        have : cj = ci := by omega
        subst this
        exact hob r h4
      · rw [hk, hKa] at h9; omega
    · obtain ⟨p1, p2⟩ := hR.2.2 q
      refine ⟨fun cj r h2 h3 h4 => ?_, fun h9 => ?_⟩
      · rw [hk] at h2
        exact ((p1 cj r h2 h3 h4).kept (oq q e)).to (fun k _ => (hv _ _ _ e).symm)
      · rw [hk] at h9 ⊢
        rw [oq q e, p2 h9, hn]
        congr 2
        funext j
        rw [he]
/-- one array's cell is written -/
theorem sv_R.ast {G : sv_G} {cl : List vw_C} {ft : Nat → Nat → Nat} {B : Nat} {h h1 : sv_H} {H H1 : Heap} {a : Nat} (hR : sv_R G cl ft B h H) (hs : sv_sz h1 = sv_sz h) (hk : sv_K h1 = sv_K h) (hn : sv_N h1 = sv_N h) (hv : ∀ c k q, sv_V ft h1 c k q = sv_V ft h c k q) (he : ∀ c q j, q ≠ a → sv_E h1 c q j = sv_E h c q j) (z : H1.size = H.size) (oq : ∀ q : Nat, q ≠ a → H1[q]? = H[q]?) (hKa : 901 ≤ sv_K h a) (hob : H1[a]? = some (arrV (G.2 (sv_K h a)) (sv_N h a) (fun j => sv_E h1 (sv_K h a) a j))) : sv_R G cl ft B h1 H1 := by
  refine ⟨z.trans (hR.1.trans hs.symm), fun q hq => ?_, fun q => ?_⟩
  · rw [hs]; rw [hk] at hq; exact hR.2.1 q hq
  · by_cases e : q = a
    · subst e
      refine ⟨fun cj r h2 h3 h4 => ?_, fun h9 => ?_⟩
      · rw [hk] at h2; omega
      · rw [hk, hn]; exact hob
    · obtain ⟨p1, p2⟩ := hR.2.2 q
      refine ⟨fun cj r h2 h3 h4 => ?_, fun h9 => ?_⟩
      · rw [hk] at h2
        exact ((p1 cj r h2 h3 h4).kept (oq q e)).to (fun k _ => (hv _ _ _).symm)
      · rw [hk] at h9 ⊢
        rw [oq q e, p2 h9, hn]
        congr 2
        funext j
        rw [he _ _ _ e]
theorem sv_R.dom {G : sv_G} {cl : List vw_C} {ft : Nat → Nat → Nat} {B : Nat} {h : sv_H} {H : Heap} {a : Nat} (hR : sv_R G cl ft B h H) (ha : sv_K h a ≠ 0) : B ≤ a ∧ a < sv_sz h := hR.2.1 a ha
/-- a cell comes -/
theorem sv_R.new {G : sv_G} {cl : List vw_C} {ft : Nat → Nat → Nat} {B : Nat} {h h1 : sv_H} {H H1 : Heap} {c0 : Nat} (hR : sv_R G cl ft B h H) (hB : B ≤ sv_sz h) (hs : sv_sz h1 = sv_sz h + 1) (hk : sv_K h1 = va_up (sv_K h) (sv_sz h) c0) (hn : ∀ q, q ≠ sv_sz h → sv_N h1 q = sv_N h q) (hv : ∀ c k q, q ≠ sv_sz h → sv_V ft h1 c k q = sv_V ft h c k q) (he : ∀ c q j, q ≠ sv_sz h → sv_E h1 c q j = sv_E h c q j) (z : H1.size = H.size + 1) (oq : ∀ q : Nat, q < H.size → H1[q]? = H[q]?) (hob : sv_at G cl ft h1 (sv_sz h) H1) : sv_R G cl ft B h1 H1 := by
  refine ⟨by rw [z, hR.1, hs], fun q hq => ?_, fun q => ?_⟩
  · by_cases e : q = sv_sz h
    · rw [hs, e]; omega
    · rw [hk, va_up_ne _ _ e] at hq
      have := hR.2.1 q hq
      rw [hs]; omega
  · by_cases e : q = sv_sz h
    · rw [e]; exact hob
    · obtain ⟨p1, p2⟩ := hR.2.2 q
      have hkq : sv_K h1 q = sv_K h q := by rw [hk, va_up_ne _ _ e]
      have old : sv_K h q ≠ 0 → H1[q]? = H[q]? := fun h0 => oq q (by rw [hR.1]; exact (hR.2.1 q h0).2)
      refine ⟨fun cj r h2 h3 h4 => ?_, fun h9 => ?_⟩
      · rw [hkq] at h2
        exact ((p1 cj r h2 h3 h4).kept (old (by omega))).to (fun k _ => (hv _ _ _ e).symm)
      · rw [hkq] at h9 ⊢
        rw [old (by omega), p2 h9, hn _ e]
        congr 2
        funext j
        rw [he _ _ _ e]
/-- what the tables say, at a state: the classes, the array classes by kind -/
def sv_Kn (G : sv_G) (cl : List vw_C) (ak : Nat → Option FieldType) (U : State) : Prop := va_K G.1 cl [] U ∧ ∀ (c : Nat) (ty : FieldType), ak c = some ty → ArrOfT U (G.2 c) ty ∧ va_RA U (G.2 c) ty
theorem sv_Kn.moved {G : sv_G} {cl : List vw_C} {ak : Nat → Option FieldType} {u U : State} (hvm : u.vm.Alike U.vm) (h : sv_Kn G cl ak u) : sv_Kn G cl ak U := ⟨h.1.moved hvm, fun c ty hc => ⟨arrOfT_moved hvm (h.2 c ty hc).1, (h.2 c ty hc).2.moved hvm⟩⟩
/-- a field's link: of the class ci the field k, of type ty; wr: it may be written here -/
def sv_FL (s : State) (meth : Method) (args : Array Value) (cl : List vw_C) (own : String) (index ci k : Nat) (ty : FieldType) (wr : Bool) : Prop :=
  ∃ (ref C : String) (T : u_T) (N : Nat) (Ts : List Cond) (ty0 : Nat → FieldType), cl[ci]? = some (C, T, N) ∧ k < N ∧ (∀ w ∈ Ts, w.before args s = true) ∧ (∀ w ∈ u_ws C T N, w ∈ Ts) ∧
    ((Cond.fieldLink own index ref (T k).2.1 (T k).2.2.1).before args s = true ∨ ∃ host, (T k).2.2.2 = false ∧ (Cond.fieldLinkNest own index ref (T k).2.1 (T k).2.2.1 host).before args s = true ∨ (wr = false ∧ (Cond.fieldLinkNest own index ref (T k).2.1 (T k).2.2.1 host).before args s = true)) ∧
    (∀ x, s.fieldFound? (T k).1 (T k).2.1 (T k).2.2.1 = some x → s.fieldFound? ref (T k).2.1 (T k).2.2.1 = some x) ∧ parseFieldDescriptor (T k).2.2.1 = some ty ∧ (∀ k, k < N → parseFieldDescriptor (T k).2.2.1 = some (ty0 k)) ∧ (∀ a, a < N → ∀ b, b < N → a ≠ b → (T a).2.1 ≠ (T b).2.1) ∧
    (wr = true → (T k).2.2.2 = false ∨ (T k).2.2.2 = true ∧ meth.name = "<init>" ∧ (T k).1 = own)
section SVR
variable {p : Program} {l : Launch} {e : Env} {R : Room} {s : State} {m : MethodId} {args : Array Value} {below : List Frame} {meth : Method} {c : Code} {H : Heap} {locs : List Loc} {cells slots : Nat} {Q : State → Prop}
variable {cc : ByteArray} {pc : Nat} {ls : Array Slot} {rest : List Value} {G : sv_G} {cl : List vw_C} {ft : Nat → Nat → Nat} {ak : Nat → Option FieldType} {B a : Nat} {h : sv_H} {own : String} {index ci k : Nat} {ty : FieldType} {wr : Bool}
theorem sv_get (hexec : p.tables.exec = Jvm.exec) (hb : c.code = cc) (hown : s.vm.findClass own = some m.cls) (hK : sv_Kn G cl ak s) (hR : sv_R G cl ft B h H) (hF : sv_FL s meth args cl own index ci k ty wr) (hKa : sv_K h a = ci + 1) (hci : ci < 900) (hdg : decode cc pc = .ok (.getfield index, 3))
    (kk : W p l e R s m args below meth c H locs cells slots Q (F0 m (pc + 3) ls (sv_V ft h (ci + 1) k a :: rest))) : W p l e R s m args below meth c H locs cells slots Q (F0 m pc ls (.ref a :: rest)) := by
  obtain ⟨ref, C, T, N, Ts, ty0, hc, hk, hts, hin, hlink, hsame, -⟩ := hF
  obtain ⟨cell, q1, q2, q3, q4⟩ := (hR.2.2 a).1 ci _ hKa hci hc
  obtain ⟨hS, hfc, kC, hkC, hkind⟩ := hK.1.1 ci _ hc
  obtain ⟨cf, kf, fi, f, hi, hsl⟩ := hS k hk
  have hfs : cell.slots[f.slot]? = some (sv_V ft h (ci + 1) k a) := by rw [hsl]; exact q4 k hk
  rcases hlink with hlink | ⟨host, ⟨-, hlink⟩ | ⟨-, hlink⟩⟩
  · exact W.getf hexec hb hown hlink (hsame _ hi) (u_facts hfc hkC (u_lays hts hin hk) hi).1 q1 (by rw [q3]; exact fun h => by cases h) hfs rfl rfl hdg kk
  · exact va_Wgetf hexec hb hown hlink (hsame _ hi) (u_facts hfc hkC (u_lays hts hin hk) hi).1 q1 (by rw [q3]; exact fun h => by cases h) hfs rfl rfl hdg kk
  · exact va_Wgetf hexec hb hown hlink (hsame _ hi) (u_facts hfc hkC (u_lays hts hin hk) hi).1 q1 (by rw [q3]; exact fun h => by cases h) hfs rfl rfl hdg kk
theorem sv_rgI (hexec : p.tables.exec = Jvm.exec) (hb : c.code = cc) (hown : s.vm.findClass own = some m.cls) (hK : sv_Kn G cl ak s) (hR : sv_R G cl ft B h H) (hF : sv_FL s meth args cl own index ci k ty wr) (hft : ft (ci + 1) k = 0) (hci : ci < 900) {v : Int32} {f : Nat} (hf : f = 100 * (ci + 1) + k) {c1 : Nat} (hc1 : c1 = ci + 1) (hv : sv_gI h c1 f a = some v) (hdg : decode cc pc = .ok (.getfield index, 3))
    (kk : W p l e R s m args below meth c H locs cells slots Q (F0 m (pc + 3) ls (.int v :: rest))) : W p l e R s m args below meth c H locs cells slots Q (F0 m pc ls (.ref a :: rest)) := by
  subst hf; subst hc1
  obtain ⟨hKa, e⟩ := sv_if hv
  refine sv_get hexec hb hown hK hR hF hKa hci hdg ?_
  rw [show sv_V ft h (ci + 1) k a = .int v by rw [sv_V, if_pos hft, e]]
  exact kk
theorem sv_rgJ (hexec : p.tables.exec = Jvm.exec) (hb : c.code = cc) (hown : s.vm.findClass own = some m.cls) (hK : sv_Kn G cl ak s) (hR : sv_R G cl ft B h H) (hF : sv_FL s meth args cl own index ci k ty wr) (hft : ft (ci + 1) k = 1) (hci : ci < 900) {v : Int64} {f : Nat} (hf : f = 100 * (ci + 1) + k) {c1 : Nat} (hc1 : c1 = ci + 1) (hv : sv_gJ h c1 f a = some v) (hdg : decode cc pc = .ok (.getfield index, 3))
    (kk : W p l e R s m args below meth c H locs cells slots Q (F0 m (pc + 3) ls (.long v :: rest))) : W p l e R s m args below meth c H locs cells slots Q (F0 m pc ls (.ref a :: rest)) := by
  subst hf; subst hc1
  obtain ⟨hKa, e⟩ := sv_if hv
  refine sv_get hexec hb hown hK hR hF hKa hci hdg ?_
  rw [show sv_V ft h (ci + 1) k a = .long v by rw [sv_V, if_neg (by rw [hft]; decide), if_pos hft, e]]
  exact kk
theorem sv_rgP (hexec : p.tables.exec = Jvm.exec) (hb : c.code = cc) (hown : s.vm.findClass own = some m.cls) (hK : sv_Kn G cl ak s) (hR : sv_R G cl ft B h H) (hF : sv_FL s meth args cl own index ci k ty wr) (hft : ft (ci + 1) k = 2) (hci : ci < 900) {v : Nat} {f : Nat} (hf : f = 100 * (ci + 1) + k) {c1 : Nat} (hc1 : c1 = ci + 1) (hv : sv_gP h c1 f a = some v) (hdg : decode cc pc = .ok (.getfield index, 3))
    (kk : W p l e R s m args below meth c H locs cells slots Q (F0 m (pc + 3) ls (.ref v :: rest))) : W p l e R s m args below meth c H locs cells slots Q (F0 m pc ls (.ref a :: rest)) := by
  subst hf; subst hc1
  obtain ⟨⟨hKa, hne⟩, e⟩ := sv_if hv
  refine sv_get hexec hb hown hK hR hF hKa hci hdg ?_
  rw [show sv_V ft h (ci + 1) k a = .ref v by rw [sv_V, if_neg (by rw [hft]; decide), if_neg (by rw [hft]; decide), ← e]; exact sv_va_ne hne]
  exact kk
theorem sv_put (hexec : p.tables.exec = Jvm.exec) (hb : c.code = cc) (hown : s.vm.findClass own = some m.cls) (hK : sv_Kn G cl ak s) (hR : sv_R G cl ft B h H) (hS : va_S (fun q => B ≤ q) s.heap H locs) (hF : sv_FL s meth args cl own index ci k ty true) (hKa : sv_K h a = ci + 1) (hci : ci < 900) {h1 : sv_H} {v : Value} (hn : narrow ty v = v) (hfit : fits ty v = true)
    (hs : sv_sz h1 = sv_sz h) (hk1 : sv_K h1 = sv_K h) (hn1 : sv_N h1 = sv_N h) (hv : ∀ c k q, q ≠ a → sv_V ft h1 c k q = sv_V ft h c k q) (he : ∀ c q j, sv_E h1 c q j = sv_E h c q j) (hva : ∀ j, sv_V ft h1 (ci + 1) j a = if j = k then v else sv_V ft h (ci + 1) j a) (hdg : decode cc pc = .ok (.putfield index, 3))
    (kk : ∀ (H1 : Heap) (locs1 : List Loc), sv_R G cl ft B h1 H1 → va_S (fun q => B ≤ q) s.heap H1 locs1 → W p l e R s m args below meth c H1 locs1 cells slots Q (F0 m (pc + 3) ls rest)) : W p l e R s m args below meth c H locs cells slots Q (F0 m pc ls (v :: .ref a :: rest)) := by
  obtain ⟨ref, C, T, N, Ts, ty0, hc, hk, hts, hin, hlink, hsame, hd, hty, hnm, hwr⟩ := hF
  obtain ⟨cell, q1, q2, q3, q4⟩ := (hR.2.2 a).1 ci _ hKa hci hc
  have hap := va_apart (own := own) hts hin ty0 hty hnm hK.1 hc
  obtain ⟨hSl, hfc, kC, hkC, hkind⟩ := hK.1.1 ci _ hc
  obtain ⟨cf, kf, fi, f, hi, hsl⟩ := hSl k hk
  have hst := (u_facts hfc hkC (u_lays hts hin hk) hi).1
  have hlt : f.slot < cell.slots.size := by rw [hsl]; exact k2_hasslot (q4 k hk)
  have hBa : B ≤ a := (hR.2.1 a (by omega)).1
  have fin : ∀ H' : Heap, H'[a]? = some (cell.setSlot f.slot v) → H'.size = H.size → (∀ q : Nat, q ≠ a → H'[q]? = H[q]?) → W p l e R s m args below meth c H' (locs ++ [⟨a, f.slot⟩]) cells slots Q (F0 m (pc + 3) ls rest) := by
    intro H' e1 e2 e3
    refine kk H' _ (hR.put hs hk1 hn1 hv he e2 e3 hci hKa (fun r hr => ?_)) (hS.put e2 e3 hBa)
    have hrr : r = (C, T, N) := Option.some.inj (hr.symm.trans hc)
    subst hrr
    rw [hsl] at e1
    refine t_OB.to (V := updV (fun k => sv_V ft h (ci + 1) k a) k v) ⟨_, e1, q2, q3, t_set q4 hap hk v⟩ (fun j _ => ?_)
    rw [hva j]
    rfl
  rcases hwr rfl with hfin | ⟨hfin, hin2, hdecl⟩
  · have hlay := hts _ (hin _ (u_in_lay hk))
    unfold u_lay at hlay
    rw [if_neg (by rw [hfin]; decide)] at hlay
    have h6 := u_store hfc hkC hkind hlay hi hd hn hfit
    rcases hlink with hlink | ⟨host, ⟨-, hlink⟩ | ⟨h0, -⟩⟩
    · exact W.putK hexec hb (f := f) ⟨hown, hlink, ⟨_, _, _, hsame _ hi⟩, hst⟩ (by rw [q2]; exact h6) q1 q3 hlt rfl rfl hdg fin
    · exact va_WputK hexec hb (f := f) hown hlink (hsame _ hi) hst (by rw [q2]; exact h6) q1 q3 hlt rfl rfl hdg fin
    · cases h0
  · have hlay := hts _ (hin _ (u_in_lay hk))
    unfold u_lay at hlay
    rw [if_pos hfin] at hlay
    have hcf : m.cls = cf := by
      obtain ⟨_, _, c', _, _, _, -, -, hf', -, -, -, hown2, -⟩ := Cond.laysFinal_spec hlay
      have e1 : c' = cf := by have := hi.symm.trans hf'; simp at this; exact this.1.symm
      rw [hdecl] at hown2
      rw [← e1]; exact Option.some.inj (hown.symm.trans hown2)
    have h6 := u_fits hfc hkC hkind (Or.inr hlay) hi hd hn hfit
    rcases hlink with hlink | ⟨host, ⟨h0, -⟩ | ⟨h0, -⟩⟩
    · exact W.putFinK hexec hb hown hlink (hsame _ hi) hst hcf hin2 (by rw [q2]; exact h6) q1 q3 hlt rfl rfl hdg fin
    · rw [hfin] at h0; cases h0
    · cases h0
end SVR
section SVP
variable {ft : Nat → Nat → Nat} {h : sv_H}
theorem sv_V_uI {c k f a v q : _} (hq : q ≠ a) : sv_V ft (sv_uI h f a v) c k q = sv_V ft h c k q := by
  simp [sv_V, sv_uI, sv_FI, sv_FJ, sv_FP, sv_up, hq]
theorem sv_V_uJ {c k f a v q : _} (hq : q ≠ a) : sv_V ft (sv_uJ h f a v) c k q = sv_V ft h c k q := by
  simp [sv_V, sv_uJ, sv_FI, sv_FJ, sv_FP, sv_up, hq]
theorem sv_V_uP {c k f a v q : _} (hq : q ≠ a) : sv_V ft (sv_uP h f a v) c k q = sv_V ft h c k q := by
  simp [sv_V, sv_uP, sv_FI, sv_FJ, sv_FP, sv_up, hq]
theorem sv_V_uIs {c k a v j : _} (hf : ft c k = 0) : sv_V ft (sv_uI h (100 * c + k) a v) c j a = if j = k then .int v else sv_V ft h c j a := by
  by_cases e : j = k
  · subst e
    simp [sv_V, hf, sv_uI, sv_FI, sv_up]
  · have : ¬ (100 * c + j = 100 * c + k) := by omega
    simp [sv_V, sv_uI, sv_FI, sv_FJ, sv_FP, sv_up, e]
theorem sv_V_uJs {c k a v j : _} (hf : ft c k = 1) : sv_V ft (sv_uJ h (100 * c + k) a v) c j a = if j = k then .long v else sv_V ft h c j a := by
  by_cases e : j = k
  · subst e
    simp [sv_V, hf, sv_uJ, sv_FJ, sv_up]
  · simp [sv_V, sv_uJ, sv_FI, sv_FJ, sv_FP, sv_up, e]
theorem sv_V_uPs {c k a v j : _} (hf : ft c k = 2) (hv : v ≠ 0) : sv_V ft (sv_uP h (100 * c + k) a v) c j a = if j = k then .ref v else sv_V ft h c j a := by
  by_cases e : j = k
  · subst e
    simp [sv_V, hf, sv_uP, sv_FP, sv_up, sv_va, hv]
  · simp [sv_V, sv_uP, sv_FI, sv_FJ, sv_FP, sv_up, e]
end SVP
section SVW
variable {p : Program} {l : Launch} {e : Env} {R : Room} {s : State} {m : MethodId} {args : Array Value} {below : List Frame} {meth : Method} {c : Code} {H : Heap} {locs : List Loc} {cells slots : Nat} {Q : State → Prop}
variable {cc : ByteArray} {pc : Nat} {ls : Array Slot} {rest : List Value} {G : sv_G} {cl : List vw_C} {ft : Nat → Nat → Nat} {ak : Nat → Option FieldType} {B a : Nat} {h h1 : sv_H} {own : String} {index ci k : Nat} {ty : FieldType}
theorem sv_rpI (hexec : p.tables.exec = Jvm.exec) (hb : c.code = cc) (hown : s.vm.findClass own = some m.cls) (hK : sv_Kn G cl ak s) (hR : sv_R G cl ft B h H) (hS : va_S (fun q => B ≤ q) s.heap H locs) (hF : sv_FL s meth args cl own index ci k .int true) (hft : ft (ci + 1) k = 0) (hci : ci < 900) {v : Int32} {f : Nat} (hf : f = 100 * (ci + 1) + k) {c1 : Nat} (hc1 : c1 = ci + 1) (hv : sv_pI h c1 f a v = some h1) (hdg : decode cc pc = .ok (.putfield index, 3))
    (kk : ∀ (H1 : Heap) (locs1 : List Loc), sv_R G cl ft B h1 H1 → va_S (fun q => B ≤ q) s.heap H1 locs1 → W p l e R s m args below meth c H1 locs1 cells slots Q (F0 m (pc + 3) ls rest)) : W p l e R s m args below meth c H locs cells slots Q (F0 m pc ls (.int v :: .ref a :: rest)) := by
  subst hf; subst hc1
  obtain ⟨hKa, rfl⟩ := sv_if hv
  exact sv_put (h1 := sv_uI h (100 * (ci + 1) + k) a v) hexec hb hown hK hR hS hF hKa hci rfl rfl rfl rfl rfl (fun _ _ _ hq => sv_V_uI hq) (fun _ _ _ => rfl) (fun _ => sv_V_uIs hft) hdg kk
theorem sv_rpZ (hexec : p.tables.exec = Jvm.exec) (hb : c.code = cc) (hown : s.vm.findClass own = some m.cls) (hK : sv_Kn G cl ak s) (hR : sv_R G cl ft B h H) (hS : va_S (fun q => B ≤ q) s.heap H locs) (hF : sv_FL s meth args cl own index ci k .boolean true) (hft : ft (ci + 1) k = 0) (hci : ci < 900) {v : Int32} {f : Nat} (hf : f = 100 * (ci + 1) + k) {c1 : Nat} (hc1 : c1 = ci + 1) (hv : sv_pZ h c1 f a v = some h1) (hdg : decode cc pc = .ok (.putfield index, 3))
    (kk : ∀ (H1 : Heap) (locs1 : List Loc), sv_R G cl ft B h1 H1 → va_S (fun q => B ≤ q) s.heap H1 locs1 → W p l e R s m args below meth c H1 locs1 cells slots Q (F0 m (pc + 3) ls rest)) : W p l e R s m args below meth c H locs cells slots Q (F0 m pc ls (.int v :: .ref a :: rest)) := by
  subst hf; subst hc1
  obtain ⟨⟨hKa, h01⟩, rfl⟩ := sv_if hv
  refine sv_put (h1 := sv_uI h (100 * (ci + 1) + k) a v) hexec hb hown hK hR hS hF hKa hci ?_ ?_ rfl rfl rfl (fun _ _ _ hq => sv_V_uI hq) (fun _ _ _ => rfl) (fun _ => sv_V_uIs hft) hdg kk
  · rcases h01 with rfl | rfl <;> decide +kernel
  · rcases h01 with rfl | rfl <;> decide +kernel
theorem sv_rpJ (hexec : p.tables.exec = Jvm.exec) (hb : c.code = cc) (hown : s.vm.findClass own = some m.cls) (hK : sv_Kn G cl ak s) (hR : sv_R G cl ft B h H) (hS : va_S (fun q => B ≤ q) s.heap H locs) (hF : sv_FL s meth args cl own index ci k .long true) (hft : ft (ci + 1) k = 1) (hci : ci < 900) {v : Int64} {f : Nat} (hf : f = 100 * (ci + 1) + k) {c1 : Nat} (hc1 : c1 = ci + 1) (hv : sv_pJ h c1 f a v = some h1) (hdg : decode cc pc = .ok (.putfield index, 3))
    (kk : ∀ (H1 : Heap) (locs1 : List Loc), sv_R G cl ft B h1 H1 → va_S (fun q => B ≤ q) s.heap H1 locs1 → W p l e R s m args below meth c H1 locs1 cells slots Q (F0 m (pc + 3) ls rest)) : W p l e R s m args below meth c H locs cells slots Q (F0 m pc ls (.long v :: .ref a :: rest)) := by
  subst hf; subst hc1
  obtain ⟨hKa, rfl⟩ := sv_if hv
  exact sv_put (h1 := sv_uJ h (100 * (ci + 1) + k) a v) hexec hb hown hK hR hS hF hKa hci rfl rfl rfl rfl rfl (fun _ _ _ hq => sv_V_uJ hq) (fun _ _ _ => rfl) (fun _ => sv_V_uJs hft) hdg kk
theorem sv_rpP (hexec : p.tables.exec = Jvm.exec) (hb : c.code = cc) (hown : s.vm.findClass own = some m.cls) (hK : sv_Kn G cl ak s) (hR : sv_R G cl ft B h H) (hS : va_S (fun q => B ≤ q) s.heap H locs) (hF : sv_FL s meth args cl own index ci k ty true) (hnw : ∀ q, narrow ty (.ref q) = .ref q) (hfw : ∀ q, fits ty (.ref q) = true) (hft : ft (ci + 1) k = 2) (hci : ci < 900) {v : Nat} {f : Nat} (hf : f = 100 * (ci + 1) + k) {c1 : Nat} (hc1 : c1 = ci + 1) (hv : sv_pP h c1 f a v = some h1) (hdg : decode cc pc = .ok (.putfield index, 3))
    (kk : ∀ (H1 : Heap) (locs1 : List Loc), sv_R G cl ft B h1 H1 → va_S (fun q => B ≤ q) s.heap H1 locs1 → W p l e R s m args below meth c H1 locs1 cells slots Q (F0 m (pc + 3) ls rest)) : W p l e R s m args below meth c H locs cells slots Q (F0 m pc ls (.ref v :: .ref a :: rest)) := by
  subst hf; subst hc1
  obtain ⟨⟨hKa, hne⟩, rfl⟩ := sv_if hv
  exact sv_put (h1 := sv_uP h (100 * (ci + 1) + k) a v) hexec hb hown hK hR hS hF hKa hci (hnw v) (hfw v) rfl rfl rfl (fun _ _ _ hq => sv_V_uP hq) (fun _ _ _ => rfl) (fun _ => sv_V_uPs hft hne) hdg kk
-- arrays
theorem sv_rlI (hexec : p.tables.exec = Jvm.exec) (hb : c.code = cc) (hK : sv_Kn G cl ak s) (hak : ak 901 = some .int) (hR : sv_R G cl ft B h H) {i v : Int32} (hv : sv_lI h a i = some v) (hdg : decode cc pc = .ok (.iaload, 1))
    (kk : W p l e R s m args below meth c H locs cells slots Q (F0 m (pc + 1) ls (.int v :: rest))) : W p l e R s m args below meth c H locs cells slots Q (F0 m pc ls (.int i :: .ref a :: rest)) := by
  obtain ⟨⟨hKa, hin⟩, rfl⟩ := sv_if hv
  have hc := (hR.2.2 a).2 (by omega)
  rw [hKa] at hc
  exact W.iald (v := .int (sv_AI h a i.toNatClampNeg)) hexec hb hc ((hK.2 901 _ hak).1 _ _) (fun q => by cases q) (by rw [arrV_size]; exact hin) (by rw [arrV_read _ _ (Nat.not_le.mp fun q => hin (Or.inr q))]; rfl) rfl rfl hdg kk
theorem sv_rlJ (hexec : p.tables.exec = Jvm.exec) (hb : c.code = cc) (hK : sv_Kn G cl ak s) (hak : ak 902 = some .long) (hR : sv_R G cl ft B h H) {i : Int32} {v : Int64} (hv : sv_lJ h a i = some v) (hdg : decode cc pc = .ok (.laload, 1))
    (kk : W p l e R s m args below meth c H locs cells slots Q (F0 m (pc + 1) ls (.long v :: rest))) : W p l e R s m args below meth c H locs cells slots Q (F0 m pc ls (.int i :: .ref a :: rest)) := by
  obtain ⟨⟨hKa, hin⟩, rfl⟩ := sv_if hv
  have hc := (hR.2.2 a).2 (by omega)
  rw [hKa] at hc
  exact W.lald (v := .long (sv_AJ h a i.toNatClampNeg)) hexec hb hc ((hK.2 902 _ hak).1 _ _) (fun q => by cases q) (by rw [arrV_size]; exact hin) (by rw [arrV_read _ _ (Nat.not_le.mp fun q => hin (Or.inr q))]; rfl) rfl rfl hdg kk
theorem sv_rlZ (hexec : p.tables.exec = Jvm.exec) (hb : c.code = cc) (hK : sv_Kn G cl ak s) (hak : ak 903 = some .boolean) (hR : sv_R G cl ft B h H) {i v : Int32} (hv : sv_lZ h a i = some v) (hdg : decode cc pc = .ok (.baload, 1))
    (kk : W p l e R s m args below meth c H locs cells slots Q (F0 m (pc + 1) ls (.int v :: rest))) : W p l e R s m args below meth c H locs cells slots Q (F0 m pc ls (.int i :: .ref a :: rest)) := by
  obtain ⟨⟨hKa, hin⟩, rfl⟩ := sv_if hv
  have hc := (hR.2.2 a).2 (by omega)
  rw [hKa] at hc
  exact W.zald (v := .int (sv_AI h a i.toNatClampNeg)) hexec hb hc ((hK.2 903 _ hak).1 _ _) (fun q => by cases q) (by rw [arrV_size]; exact hin) (by rw [arrV_read _ _ (Nat.not_le.mp fun q => hin (Or.inr q))]; rfl) rfl rfl hdg kk
theorem sv_rlB (hexec : p.tables.exec = Jvm.exec) (hb : c.code = cc) (hK : sv_Kn G cl ak s) (hak : ak 904 = some .byte) (hR : sv_R G cl ft B h H) {i v : Int32} (hv : sv_lB h a i = some v) (hdg : decode cc pc = .ok (.baload, 1))
    (kk : W p l e R s m args below meth c H locs cells slots Q (F0 m (pc + 1) ls (.int v :: rest))) : W p l e R s m args below meth c H locs cells slots Q (F0 m pc ls (.int i :: .ref a :: rest)) := by
  obtain ⟨⟨hKa, hin⟩, rfl⟩ := sv_if hv
  have hc := (hR.2.2 a).2 (by omega)
  rw [hKa] at hc
  exact W.bald (v := .int (sv_AI h a i.toNatClampNeg)) hexec hb hc ((hK.2 904 _ hak).1 _ _) (fun q => by cases q) (by rw [arrV_size]; exact hin) (by rw [arrV_read _ _ (Nat.not_le.mp fun q => hin (Or.inr q))]; rfl) rfl rfl hdg kk
theorem sv_rlP (hexec : p.tables.exec = Jvm.exec) (hb : c.code = cc) (hK : sv_Kn G cl ak s) {c1 : Nat} {C : String} (hak : ak c1 = some (.object C)) (h910 : 910 ≤ c1) (hR : sv_R G cl ft B h H) {i : Int32} {v : Nat} (hv : sv_lP c1 h a i = some v) (hdg : decode cc pc = .ok (.aaload, 1))
    (kk : W p l e R s m args below meth c H locs cells slots Q (F0 m (pc + 1) ls (.ref v :: rest))) : W p l e R s m args below meth c H locs cells slots Q (F0 m pc ls (.int i :: .ref a :: rest)) := by
  obtain ⟨⟨hKa, hin, hne⟩, rfl⟩ := sv_if hv
  have hc := (hR.2.2 a).2 (by omega)
  rw [hKa] at hc
  refine W.aald (v := .ref (sv_AP h a i.toNatClampNeg)) hexec hb hc ((hK.2 c1 _ hak).1 _ _) rfl (fun q => by cases q) (by rw [arrV_size]; exact hin) ?_ rfl rfl hdg kk
  rw [arrV_read _ _ (Nat.not_le.mp fun q => hin (Or.inr q)), sv_E, if_neg (by omega), if_pos h910, sv_va_ne hne]
theorem sv_rlen (hexec : p.tables.exec = Jvm.exec) (hb : c.code = cc) (hK : sv_Kn G cl ak s) {c1 : Nat} {ty : FieldType} (hak : ak c1 = some ty) (h901 : 901 ≤ c1) (hR : sv_R G cl ft B h H) {v : Int32} (hv : sv_len h c1 a = some v) (hdg : decode cc pc = .ok (.arraylength, 1))
    (kk : W p l e R s m args below meth c H locs cells slots Q (F0 m (pc + 1) ls (.int v :: rest))) : W p l e R s m args below meth c H locs cells slots Q (F0 m pc ls (.ref a :: rest)) := by
  obtain ⟨hKa, rfl⟩ := sv_if hv
  have hc := (hR.2.2 a).2 (by omega)
  rw [hKa] at hc
  exact W.alen hexec hb hc ((hK.2 _ _ hak).1 _ _) (by rw [arrV_size] <;> rfl) rfl rfl hdg kk
theorem sv_updE {h h1 : sv_H} {c a n : Nat} {x : Value} (hx : ∀ j, sv_E h1 c a j = if j = n then x else sv_E h c a j) : (updV (fun j => sv_E h c a j) n x) = (fun j => sv_E h1 c a j) := by
  funext j
  rw [hx j]
  rfl
theorem sv_rsI (hexec : p.tables.exec = Jvm.exec) (hb : c.code = cc) (hK : sv_Kn G cl ak s) (hak : ak 901 = some .int) (hR : sv_R G cl ft B h H) (hS : va_S (fun q => B ≤ q) s.heap H locs) {i x : Int32} (hv : sv_sI h a i x = some h1) (hdg : decode cc pc = .ok (.iastore, 1))
    (kk : ∀ (H1 : Heap) (locs1 : List Loc), sv_R G cl ft B h1 H1 → va_S (fun q => B ≤ q) s.heap H1 locs1 → W p l e R s m args below meth c H1 locs1 cells slots Q (F0 m (pc + 1) ls rest)) : W p l e R s m args below meth c H locs cells slots Q (F0 m pc ls (.int x :: .int i :: .ref a :: rest)) := by
  obtain ⟨⟨hKa, hin⟩, rfl⟩ := sv_if hv
  have hc := (hR.2.2 a).2 (by omega)
  have hBa : B ≤ a := (hR.2.1 a (by omega)).1
  rw [hKa] at hc
  refine W.iast hexec hb hc ((hK.2 901 _ hak).1 _ _) (fun q => by cases q) (by rw [arrV_size]; exact hin) rfl rfl hdg fun H1 e1 z oq => ?_
  refine kk H1 _ (hR.ast rfl rfl rfl (fun _ _ _ => rfl) (fun c q j hq => by simp [sv_E, sv_wI, sv_AI, sv_AJ, sv_AP, sv_up, hq]) z oq (by omega) ?_) (hS.put z oq hBa)
  rw [e1, arrV_store, hKa, sv_updE]
  intro j
  by_cases e : j = i.toNatClampNeg
  · simp [sv_E, sv_wI, sv_AI, sv_up, e]
  · simp [sv_E, sv_wI, sv_AI, sv_AJ, sv_AP, sv_up, e]
theorem sv_rsJ (hexec : p.tables.exec = Jvm.exec) (hb : c.code = cc) (hK : sv_Kn G cl ak s) (hak : ak 902 = some .long) (hR : sv_R G cl ft B h H) (hS : va_S (fun q => B ≤ q) s.heap H locs) {i : Int32} {x : Int64} (hv : sv_sJ h a i x = some h1) (hdg : decode cc pc = .ok (.lastore, 1))
    (kk : ∀ (H1 : Heap) (locs1 : List Loc), sv_R G cl ft B h1 H1 → va_S (fun q => B ≤ q) s.heap H1 locs1 → W p l e R s m args below meth c H1 locs1 cells slots Q (F0 m (pc + 1) ls rest)) : W p l e R s m args below meth c H locs cells slots Q (F0 m pc ls (.long x :: .int i :: .ref a :: rest)) := by
  obtain ⟨⟨hKa, hin⟩, rfl⟩ := sv_if hv
  have hc := (hR.2.2 a).2 (by omega)
  have hBa : B ≤ a := (hR.2.1 a (by omega)).1
  rw [hKa] at hc
  refine W.last hexec hb hc ((hK.2 902 _ hak).1 _ _) (fun q => by cases q) (by rw [arrV_size]; exact hin) rfl rfl hdg fun H1 e1 z oq => ?_
  refine kk H1 _ (hR.ast rfl rfl rfl (fun _ _ _ => rfl) (fun c q j hq => by simp [sv_E, sv_wJ, sv_AI, sv_AJ, sv_AP, sv_up, hq]) z oq (by omega) ?_) (hS.put z oq hBa)
  rw [e1, arrV_store, hKa, sv_updE]
  intro j
  by_cases e : j = i.toNatClampNeg
  · simp [sv_E, sv_wJ, sv_AJ, sv_up, e]
  · simp [sv_E, sv_wJ, sv_AI, sv_AJ, sv_AP, sv_up, e]
theorem sv_rsZ (hexec : p.tables.exec = Jvm.exec) (hb : c.code = cc) (hK : sv_Kn G cl ak s) (hak : ak 903 = some .boolean) (hR : sv_R G cl ft B h H) (hS : va_S (fun q => B ≤ q) s.heap H locs) {i x : Int32} (hv : sv_sZ h a i x = some h1) (hdg : decode cc pc = .ok (.bastore, 1))
    (kk : ∀ (H1 : Heap) (locs1 : List Loc), sv_R G cl ft B h1 H1 → va_S (fun q => B ≤ q) s.heap H1 locs1 → W p l e R s m args below meth c H1 locs1 cells slots Q (F0 m (pc + 1) ls rest)) : W p l e R s m args below meth c H locs cells slots Q (F0 m pc ls (.int x :: .int i :: .ref a :: rest)) := by
  obtain ⟨⟨hKa, hin⟩, rfl⟩ := sv_if hv
  have hc := (hR.2.2 a).2 (by omega)
  have hBa : B ≤ a := (hR.2.1 a (by omega)).1
  rw [hKa] at hc
  refine W.zast hexec hb hc ((hK.2 903 _ hak).1 _ _) (fun q => by cases q) (by rw [arrV_size]; exact hin) rfl rfl hdg fun H1 e1 z oq => ?_
  refine kk H1 _ (hR.ast rfl rfl rfl (fun _ _ _ => rfl) (fun c q j hq => by simp [sv_E, sv_wI, sv_AI, sv_AJ, sv_AP, sv_up, hq]) z oq (by omega) ?_) (hS.put z oq hBa)
  rw [e1, arrV_store, hKa, sv_updE]
  intro j
  by_cases e : j = i.toNatClampNeg
  · simp [sv_E, sv_wI, sv_AI, sv_up, e]; rfl
  · simp [sv_E, sv_wI, sv_AI, sv_AJ, sv_AP, sv_up, e]
theorem sv_rsB (hexec : p.tables.exec = Jvm.exec) (hb : c.code = cc) (hK : sv_Kn G cl ak s) (hak : ak 904 = some .byte) (hR : sv_R G cl ft B h H) (hS : va_S (fun q => B ≤ q) s.heap H locs) {i x : Int32} (hv : sv_sB h a i x = some h1) (hdg : decode cc pc = .ok (.bastore, 1))
    (kk : ∀ (H1 : Heap) (locs1 : List Loc), sv_R G cl ft B h1 H1 → va_S (fun q => B ≤ q) s.heap H1 locs1 → W p l e R s m args below meth c H1 locs1 cells slots Q (F0 m (pc + 1) ls rest)) : W p l e R s m args below meth c H locs cells slots Q (F0 m pc ls (.int x :: .int i :: .ref a :: rest)) := by
  obtain ⟨⟨hKa, hin⟩, rfl⟩ := sv_if hv
  have hc := (hR.2.2 a).2 (by omega)
  have hBa : B ≤ a := (hR.2.1 a (by omega)).1
  rw [hKa] at hc
  refine W.bast hexec hb hc ((hK.2 904 _ hak).1 _ _) (fun q => by cases q) (by rw [arrV_size]; exact hin) rfl rfl hdg fun H1 e1 z oq => ?_
  refine kk H1 _ (hR.ast rfl rfl rfl (fun _ _ _ => rfl) (fun c q j hq => by simp [sv_E, sv_wI, sv_AI, sv_AJ, sv_AP, sv_up, hq]) z oq (by omega) ?_) (hS.put z oq hBa)
  rw [e1, arrV_store, hKa, sv_updE]
  intro j
  by_cases e : j = i.toNatClampNeg
  · simp [sv_E, sv_wI, sv_AI, sv_up, e]; rfl
  · simp [sv_E, sv_wI, sv_AI, sv_AJ, sv_AP, sv_up, e]
theorem sv_rsP (hexec : p.tables.exec = Jvm.exec) (hb : c.code = cc) (hK : sv_Kn G cl ak s) {c1 : Nat} {r : vw_C} (hc1 : c1 = 910 + (ci + 1)) (hci : ci < 900) (hcl : cl[ci]? = some r) (hak : ak c1 = some (.object r.1)) (hR : sv_R G cl ft B h H) (hS : va_S (fun q => B ≤ q) s.heap H locs) {i : Int32} {x : Nat} (hv : sv_sP c1 h a i x = some h1) (hdg : decode cc pc = .ok (.aastore, 1))
    (kk : ∀ (H1 : Heap) (locs1 : List Loc), sv_R G cl ft B h1 H1 → va_S (fun q => B ≤ q) s.heap H1 locs1 → W p l e R s m args below meth c H1 locs1 cells slots Q (F0 m (pc + 1) ls rest)) : W p l e R s m args below meth c H locs cells slots Q (F0 m pc ls (.ref x :: .int i :: .ref a :: rest)) := by
  obtain ⟨⟨hKa, hin, hkx, hne⟩, rfl⟩ := sv_if hv
  have hc := (hR.2.2 a).2 (by omega)
  have hBa : B ≤ a := (hR.2.1 a (by omega)).1
  rw [hKa] at hc
  obtain ⟨cellV, g1, g2, g3, -⟩ := (hR.2.2 x).1 ci r (by omega) hci hcl
  have hcls := (hK.1.1 ci r hcl).2
  obtain ⟨kA, comp, k1, k2, k3, -⟩ := (hK.2 c1 _ hak).2
  have hcomp : comp = G.1.1 ci := Option.some.inj (k3.symm.trans hcls.1)
  subst hcomp
  obtain ⟨kC, hkC, -⟩ := hcls.2
  have hlt : i.toNatClampNeg < sv_N h a := Nat.not_le.mp fun q => hin (Or.inr q)
  have h0 : ¬ i < 0 := fun q => hin (Or.inl q)
  refine W.aast hexec hb hc (fun q h => by cases h) (fun h => by cases h) k1 k2 rfl hkC ⟨h0, by rw [arrV_size]; exact hlt⟩ g1 (fun q h => by rw [g3] at h; cases h) (by rw [g2]; exact hkC) (by rw [g2]; exact va_assign hcls) rfl rfl hdg fun H1 e1 z oq => ?_
  refine kk H1 _ (hR.ast rfl rfl rfl (fun _ _ _ => rfl) (fun c q j hq => by simp [sv_E, sv_wP, sv_AI, sv_AJ, sv_AP, sv_up, hq]) z oq (by omega) ?_) (hS.put z oq hBa)
  rw [e1, arrV_store, hKa, sv_updE]
  intro j
  have n1 : ¬ c1 = 902 := by omega
  have n2 : 910 ≤ c1 := by omega
  by_cases e : j = i.toNatClampNeg
  · simp [sv_E, n1, n2, sv_wP, sv_AP, sv_up, e, sv_va, hne]
  · simp [sv_E, n1, n2, sv_wP, sv_AI, sv_AJ, sv_AP, sv_up, e]
end SVW
