def sv_ftl : List (List Nat) := [[2, 0], [2, 2, 2, 2, 2, 2, 0], [2, 2, 2, 2, 2, 2, 2, 2, 2, 0, 0, 0, 0], [2, 2, 2, 2, 2, 2, 0, 0, 0, 0, 0], [2, 0, 0, 0], [2, 2, 0], [0, 0, 0, 0, 0, 0, 0, 0, 0, 0, 0, 0, 0, 0], [0, 0, 0, 0], [2, 2, 2, 2, 2, 2, 2, 2, 2, 2, 0, 0, 0, 0, 0, 0, 0, 0], [2, 2, 2, 2, 0, 0, 0, 0], [2, 2, 0, 0, 0, 0, 0], [0, 0, 0, 0, 0, 0, 0, 0, 0, 0, 0, 2], [2, 2, 2, 2, 2, 2, 2, 2, 2, 2, 0], [0, 2, 2, 2, 2, 2, 2, 0, 2, 2, 2, 2, 2, 2, 2, 0, 0, 0], [2, 0, 2, 0, 0, 0, 0, 0, 0, 0], [2, 2, 2, 2, 2, 0, 2, 0, 2, 0, 2, 2, 2, 2, 2, 0, 0, 0, 0, 0, 0], [2, 2, 2, 2, 2, 0, 2, 2, 2, 2, 2, 0, 2, 2, 2, 2, 2, 0, 2, 2, 2, 2, 2, 2, 2, 0, 0, 0], [0, 2, 2, 2, 2, 2, 0, 0, 0, 0, 0, 0, 0, 0, 0, 1, 1, 1, 1, 0, 2, 0, 2, 0, 2, 2, 2, 1, 1]]
def sv_ft (c k : Nat) : Nat := (sv_ftl.getD (c - 1) []).getD k 2
def sv_ak (c : Nat) : Option FieldType := if c = 901 then some .int else if c = 902 then some .long else if c = 903 then some .boolean else if c = 904 then some .byte else if c = 917 then some (.object "SectorView$Sector") else if c = 922 then some (.object "SectorView$Wall") else none
def sv_nest : List Cond := [.fieldLinkNest "SectorViewModel" 70 "SectorViewModel$Lumps" "size" "I" "SectorViewModel",
  .fieldLinkNest "SectorViewModel" 73 "SectorViewModel$Lumps" "input" "[B" "SectorViewModel",
  .fieldLinkNest "SectorViewModel" 91 "SectorViewModel$Lumps" "place" "I" "SectorViewModel",
  .fieldLinkNest "SectorViewModel" 98 "SectorViewModel$Tape" "many" "I" "SectorViewModel",
  .fieldLinkNest "SectorViewModel" 100 "SectorViewModel$Tape" "start" "[I" "SectorViewModel",
  .fieldLinkNest "SectorViewModel" 121 "SectorViewModel$Tree" "there" "[Z" "SectorViewModel",
  .fieldLinkNest "SectorViewModel" 135 "SectorViewModel$Tree" "ax" "[I" "SectorViewModel",
  .fieldLinkNest "SectorViewModel" 142 "SectorViewModel$Tree" "ay" "[I" "SectorViewModel",
  .fieldLinkNest "SectorViewModel" 145 "SectorViewModel$Tree" "bx" "[I" "SectorViewModel",
  .fieldLinkNest "SectorViewModel" 148 "SectorViewModel$Tree" "by" "[I" "SectorViewModel",
  .fieldLinkNest "SectorViewModel" 151 "SectorViewModel$Tree" "known" "Z" "SectorViewModel",
  .fieldLinkNest "SectorViewModel" 154 "SectorViewModel$Tape" "input" "[I" "SectorViewModel",
  .fieldLinkNest "SectorViewModel" 156 "SectorViewModel$Tape" "size" "I" "SectorViewModel",
  .fieldLinkNest "SectorViewModel" 159 "SectorViewModel$Tape" "place" "I" "SectorViewModel",
  .fieldLinkNest "SectorViewModel" 160 "SectorViewModel$Lumps" "mapSize" "I" "SectorViewModel",
  .fieldLinkNest "SectorViewModel" 166 "SectorViewModel$Lumps" "map" "[B" "SectorViewModel",
  .fieldLinkNest "SectorViewModel" 172 "SectorViewModel$Tape" "output" "[I" "SectorViewModel",
  .fieldLinkNest "SectorViewModel" 221 "SectorViewModel$Hall" "floors" "[I" "SectorViewModel",
  .fieldLinkNest "SectorViewModel" 247 "SectorViewModel$Hall" "ceilings" "[I" "SectorViewModel",
  .fieldLinkNest "SectorViewModel" 315 "SectorViewModel$Hall" "tags" "[I" "SectorViewModel",
  .fieldLinkNest "SectorViewModel" 337 "SectorViewModel$Hall" "guest" "I" "SectorViewModel",
  .fieldLinkNest "SectorViewModel" 343 "SectorViewModel$Tape" "aheads" "[I" "SectorViewModel",
  .fieldLinkNest "SectorViewModel" 346 "SectorViewModel$Tape" "asides" "[I" "SectorViewModel",
  .fieldLinkNest "SectorViewModel" 349 "SectorViewModel$Tape" "turns" "[I" "SectorViewModel",
  .fieldLinkNest "SectorViewModel" 352 "SectorViewModel$Tape" "uses" "[Z" "SectorViewModel",
  .fieldLinkNest "SectorViewModel" 363 "SectorViewModel$Hall" "time" "I" "SectorViewModel",
  .fieldLinkNest "SectorViewModel" 375 "SectorViewModel$Tree" "nodes" "I" "SectorViewModel",
  .fieldLinkNest "SectorViewModel" 378 "SectorViewModel$Tree" "ons" "I" "SectorViewModel",
  .methodLinkNest "SectorView" 9 ⟨"SectorView$ByteRow", "<init>", "()V"⟩ "SectorView",
  .methodLinkNest "SectorView" 30 ⟨"SectorView$Tree", "<init>", "()V"⟩ "SectorView",
  .methodLinkNest "SectorView" 47 ⟨"SectorView$Rays", "<init>", "()V"⟩ "SectorView",
  .methodLinkNest "SectorView" 68 ⟨"SectorView$Run", "<init>", "()V"⟩ "SectorView",
  .methodLinkNest "SectorView$Pieces" 95 ⟨"SectorView", "compareQuotients", "(JJJJ)I"⟩ "SectorView",
  .methodLinkNest "SectorView$Plan" 11 ⟨"SectorView$ByteRow", "<init>", "()V"⟩ "SectorView",
  .methodLinkNest "SectorView$Plan" 20 ⟨"SectorView$Start", "<init>", "()V"⟩ "SectorView",
  .methodLinkNest "SectorView$Plan" 53 ⟨"SectorView$Sector", "<init>", "()V"⟩ "SectorView",
  .methodLinkNest "SectorView$Plan" 54 ⟨"SectorView$Wall", "<init>", "()V"⟩ "SectorView",
  .methodLinkNest "SectorView$Rays" 82 ⟨"SectorView", "cross", "(JJJJ)J"⟩ "SectorView",
  .methodLinkNest "SectorView$Rays" 99 ⟨"SectorView", "compareQuotients", "(JJJJ)I"⟩ "SectorView",
  .methodLinkNest "SectorView$Run" 11 ⟨"SectorView$Start", "<init>", "()V"⟩ "SectorView",
  .methodLinkNest "SectorView$Tree" 11 ⟨"SectorView$Pieces", "<init>", "()V"⟩ "SectorView",
  .methodLinkNest "SectorView$View" 31 ⟨"SectorView", "cosine", "(I)I"⟩ "SectorView",
  .methodLinkNest "SectorView$View" 35 ⟨"SectorView", "sine", "(I)I"⟩ "SectorView",
  .methodLinkNest "SectorView$Walk" 67 ⟨"SectorView", "cosine", "(I)I"⟩ "SectorView",
  .methodLinkNest "SectorView$Walk" 70 ⟨"SectorView", "sine", "(I)I"⟩ "SectorView",
  .methodLinkNest "SectorView$Wall" 53 ⟨"SectorView", "cross", "(JJJJ)J"⟩ "SectorView",
  .methodLinkNest "SectorViewModel" 9 ⟨"SectorViewModel$Lumps", "<init>", "()V"⟩ "SectorViewModel",
  .methodLinkNest "SectorViewModel" 18 ⟨"SectorViewModel$Tape", "<init>", "()V"⟩ "SectorViewModel",
  .methodLinkNest "SectorViewModel" 25 ⟨"SectorViewModel$Hall", "<init>", "()V"⟩ "SectorViewModel",
  .methodLinkNest "SectorViewModel" 32 ⟨"SectorViewModel$Tree", "<init>", "()V"⟩ "SectorViewModel",
  .methodLinkNest "SectorViewModel" 81 ⟨"SectorViewModel$Lumps", "many", "(I)I"⟩ "SectorViewModel",
  .methodLinkNest "SectorViewModel" 214 ⟨"SectorViewModel$Tree", "order", "(JJJJ)I"⟩ "SectorViewModel",
  .methodLinkNest "SectorViewModel" 359 ⟨"SectorViewModel$Tape", "isIn", "(II)Z"⟩ "SectorViewModel",
  .methodLinkNest "SectorViewModel" 372 ⟨"SectorViewModel$Tree", "know", "()V"⟩ "SectorViewModel",
  .methodLinkNest "SectorViewModel" 381 ⟨"SectorViewModel$Hall", "many", "()I"⟩ "SectorViewModel",
  .arrayOver (.object "SectorView$Sector"),
  .arrayOver (.object "SectorView$Wall")]
theorem sv_sQ_some {i v : Int32} (h : sv_sQ i = some v) : vp_in i 17 ∧ Value.int (sv_quarter.getD i.toNatClampNeg 0) = .int v := by
  obtain ⟨h1, h2⟩ := sv_if h
  exact ⟨h1, by rw [h2]⟩
/-- what holds at a state in which one of our methods stands: the tables, the nest's words, the static array -/
def sv_Cx (G : sv_G) (B : Nat) (U : State) (hp : Heap) : Prop := sv_Kn G vwCl sv_ak U ∧ (∀ w ∈ sv_nest, va_Nw w U) ∧ ∃ t : Nat, va_Z "SectorView" "QUARTER" "[I" (.ref t) (fun q => B ≤ q) U hp ∧ va_T .int t 17 (fun j => .int (sv_quarter.getD j 0)) (fun q => B ≤ q) U hp
def sv_isNest : Cond → Bool
  | .fieldLinkNest _ _ _ _ _ _ => true
  | .methodLinkNest _ _ _ _ => true
  | .arrayOver (.object _) => true
  | _ => false
theorem sv_nest_ok : sv_nest.all sv_isNest = true := by decide +kernel
theorem sv_nest_warm {w : Cond} (h : sv_isNest w = true) {s U : State} (hW : s.WarmedH U.vm) (hZ : va_Nw w s) : va_Nw w U := by
  cases w <;> first | exact va_Nw.warmF hW hZ | exact va_Nw.warmM hW hZ | cases h | (rename_i ty; cases ty <;> first | exact va_AO.moved hW.alike hZ | cases h)
theorem sv_nest_same {w : Cond} (h : sv_isNest w = true) {u U : State} (hW : u.vm = U.vm) (hZ : va_Nw w u) : va_Nw w U := by
  cases w <;> first | exact absurd h Bool.false_ne_true | exact va_Nw.same rfl hW hZ | (rename_i ty; cases ty <;> first | exact absurd h Bool.false_ne_true | exact va_AO.moved (by rw [hW]; exact Vm.Alike.refl _) hZ)
theorem sv_Cx.go {G : sv_G} {B : Nat} {s U : State} {H : Heap} {locs : List Loc} (h : sv_Cx G B s s.heap) (hS : va_S (fun q => B ≤ q) s.heap H locs) (hB : B ≤ s.heap.size) (hU : U.heap = H) (hW : s.WarmedH U.vm) : sv_Cx G B U U.heap := by
  obtain ⟨h1, h2, t, h3, h4⟩ := h
  refine ⟨h1.moved hW.alike, fun w hw => sv_nest_warm (List.all_eq_true.mp sv_nest_ok w hw) hW (h2 w hw), t, ?_, ?_⟩
  · refine (h3.moved hW.alike).kept (fun a _ ha => ?_)
    rw [hU]
    exact hS.2.1 a (Nat.lt_of_lt_of_le (Nat.lt_of_not_le ha) hB) ha
  · refine (h4.moved hW.alike).kept (fun a _ ha => ?_)
    rw [hU]
    exact hS.2.1 a (Nat.lt_of_lt_of_le (Nat.lt_of_not_le ha) hB) ha
/-- a method's start: its arguments, the picture, the context; its end: its answer, the new picture, nothing below B changed -/
def sv_Pc (G : sv_G) (B : Nat) (av : List Value) (h : sv_H) : Array Value → State → Prop := fun v U => v = av.toArray ∧ sv_R G vwCl sv_ft B h U.heap ∧ sv_Cx G B U U.heap ∧ B ≤ U.heap.size
def sv_Q (G : sv_G) (B : Nat) (rv : Option Value) (hE : sv_H) : Array Value → State → Outcome → State → Prop := fun _ st oc t => (oc = .returned rv ∧ sv_R G vwCl sv_ft B hE t.heap) ∧ va_F (fun q => B ≤ q) st t
abbrev sv_Z (below : List Frame) (s : State) (args : Array Value) (G : sv_G) (B : Nat) (rv : Option Value) (hE : sv_H) : State → Prop := MQ below (sv_Q G B rv hE) args s 0 0 (fun q => B ≤ q)
/-- what a walk stands on -/
def sv_W (p : Program) (s : State) (m : MethodId) (args : Array Value) (meth : Method) (c : Code) (cc : ByteArray) (own : String) (nL : Nat) (ret : Option FieldType) (G : sv_G) (B : Nat) (nm : String) : Prop :=
  p.tables.exec = Jvm.exec ∧ c.code = cc ∧ c.maxLocals = nL ∧ s.vm.findClass own = some m.cls ∧ (∀ w ∈ sv_tb, w.before args s = true) ∧ sv_Cx G B s s.heap ∧ meth.locks = false ∧ meth.sig.returnType = ret ∧ B ≤ s.heap.size ∧ meth.name = nm
theorem sv_blind {G : sv_G} {B : Nat} {av : List Value} {h : sv_H} : FrameBlind (sv_Pc G B av h) := by
  intro a U g mk q
  obtain ⟨h1, h2, ⟨k1, k2, t, k3, k4⟩, h4⟩ := q
  exact ⟨h1, h2, ⟨k1.moved (U := U.calling g mk a) (Vm.Alike.refl U.vm), fun w hw => sv_nest_same (u := U) (U := U.calling g mk a) (List.all_eq_true.mp sv_nest_ok w hw) rfl (k2 w hw), t, k3.moved (U := U.calling g mk a) (Vm.Alike.refl U.vm), k4.moved (U := U.calling g mk a) (Vm.Alike.refl U.vm)⟩, h4⟩
theorem sv_pre {G : sv_G} {B : Nat} {s U : State} {H : Heap} {locs : List Loc} {h : sv_H} {av : List Value} (hC : sv_Cx G B s s.heap) (hR : sv_R G vwCl sv_ft B h H) (hS : va_S (fun q => B ≤ q) s.heap H locs) (hB : B ≤ s.heap.size) (hU : U.heap = H) (hW : s.WarmedH U.vm) : sv_Pc G B av h av.toArray U :=
  ⟨rfl, by rw [hU]; exact hR, hC.go hS hB hU hW, by rw [hU]; exact Nat.le_trans hB hS.1⟩
theorem sv_recv {G : sv_G} {B : Nat} {s : State} {H : Heap} {h : sv_H} {a ci : Nat} {r : vw_C} (hK : sv_Kn G vwCl sv_ak s) (hR : sv_R G vwCl sv_ft B h H) (hKa : sv_K h a = ci + 1) (hci : ci < 900) (hc : vwCl[ci]? = some r) : ∃ cell : Cell, H[a]? = some cell ∧ cell.vm.isStatics = false ∧ s.vm.findClass r.1 = some cell.cls := by
  obtain ⟨cell, g1, g2, g3, -⟩ := (hR.2.2 a).1 ci r hKa hci hc
  exact ⟨cell, g1, by rw [g3]; rfl, by rw [g2]; exact (hK.1.1 ci r hc).2.1⟩
section SVC
variable {p : Program} {l : Launch} {e : Env} {R : Room} {s : State} {m : MethodId} {args : Array Value} {below : List Frame} {meth : Method} {c : Code} {H : Heap} {locs : List Loc} {cells slots mc ms : Nat} {Q : State → Prop}
theorem sv_call {pc : Nat} {ls : Array Slot} {rest st0 : List Value} {a : Array Value} {G : sv_G} {B : Nat} {v : Option Value} {h2 : sv_H} (hr : va_Run p l e R s m args below meth c H locs cells slots mc ms (F0 m pc ls st0) rest (sv_Q G B v h2 a) (fun q => B ≤ q)) (hS : va_S (fun q => B ≤ q) s.heap H locs)
    (kk : ∀ (H1 : Heap) (locs1 : List Loc), sv_R G vwCl sv_ft B h2 H1 → va_S (fun q => B ≤ q) s.heap H1 locs1 → W p l e R s m args below meth c H1 locs1 (cells + mc) (slots + ms) Q (F0 m (pc + 3) ls (v.toList ++ rest))) : W p l e R s m args below meth c H locs cells slots Q (F0 m pc ls st0) := by
  intro T hT X
  obtain ⟨w, st₀, t, T', L, h0, X', hL, e1, e2, ⟨⟨hv, hp⟩, hz, hk⟩, st⟩ := hr T hT X
  cases hv
  rw [h0] at hz hk
  obtain ⟨t2, a1, b1⟩ := kk T'.heap (locs ++ L) (by rw [e1]; exact hp)
    ⟨Nat.le_trans hS.1 (by rw [e1]; exact hz), fun q h1 h2 => by rw [e1, hk q (Nat.lt_of_lt_of_le h1 hS.1) h2]; exact hS.2.1 q h1 h2, fun q hq => by
      rcases List.mem_append.mp hq with h | h
      · exact hS.2.2 q h
      · exact hL q h⟩ T' rfl X'
  exact ⟨t2, st t2 a1, b1⟩
end SVC
-- the pieces that the printed walks use
theorem sv_rz_some {v : Int32} {h : sv_H} {r : Int32 × sv_H} (hw : sv_rz v h = some r) : (v = 0 ∨ v = 1) ∧ some (v, h) = some r := by
  obtain ⟨h1, h2⟩ := sv_if hw
  exact ⟨h1, by rw [h2]⟩
theorem sv_nz01 {v : Int32} (h : v = 0 ∨ v = 1) : narrow .boolean (.int v) = .int v := by
  rcases h with rfl | rfl <;> decide +kernel
theorem sv_bd {α β : Type} {o : Option α} {f : α → Option β} {r : β} (h : o.bind f = some r) : ∃ a, o = some a ∧ f a = some r := by
  cases o with
  | none => cases h
  | some a => exact ⟨a, rfl, h⟩
theorem sv_ift {β : Type} {P : Prop} [Decidable P] {a b : Option β} {r : β} (c : P) (h : (if P then a else b) = some r) : a = some r := by rw [if_pos c] at h; exact h
theorem sv_iff {β : Type} {P : Prop} [Decidable P] {a b : Option β} {r : β} (c : ¬ P) (h : (if P then a else b) = some r) : b = some r := by rw [if_neg c] at h; exact h
theorem sv_lt {α β : Type} {x : α} {k : α → Option β} {r : β} (h : sv_let x k = some r) : ∃ a, a = x ∧ k a = some r := ⟨x, rfl, h⟩
theorem sv_ret {α : Type} {x y : α} {h h2 : sv_H} (hw : some (x, h) = some (y, h2)) : x = y ∧ h = h2 := by cases hw; exact ⟨rfl, rfl⟩
theorem sv_em {G : Prop} (P : Prop) (h1 : P → G) (h2 : ¬ P → G) : G := (Classical.em P).elim h1 h2

