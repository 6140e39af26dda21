/-- the picture of the heap: its size; how many slots were made; each cell's kind; an array's length; the ints, longs and references of fields (by the field's number, then the cell) and of arrays (by the cell, then the place) -/
abbrev sv_H : Type := Nat × Nat × (Nat → Nat) × (Nat → Nat) × (Nat → Nat → Int32) × (Nat → Nat → Int64) × (Nat → Nat → Nat) × (Nat → Nat → Int32) × (Nat → Nat → Int64) × (Nat → Nat → Nat)
def sv_sz (h : sv_H) : Nat := h.1
def sv_sl (h : sv_H) : Nat := h.2.1
def sv_K (h : sv_H) : Nat → Nat := h.2.2.1
def sv_N (h : sv_H) : Nat → Nat := h.2.2.2.1
def sv_FI (h : sv_H) : Nat → Nat → Int32 := h.2.2.2.2.1
def sv_FJ (h : sv_H) : Nat → Nat → Int64 := h.2.2.2.2.2.1
def sv_FP (h : sv_H) : Nat → Nat → Nat := h.2.2.2.2.2.2.1
def sv_AI (h : sv_H) : Nat → Nat → Int32 := h.2.2.2.2.2.2.2.1
def sv_AJ (h : sv_H) : Nat → Nat → Int64 := h.2.2.2.2.2.2.2.2.1
def sv_AP (h : sv_H) : Nat → Nat → Nat := h.2.2.2.2.2.2.2.2.2
def sv_up {α : Type} (f : Nat → Nat → α) (i j : Nat) (v : α) : Nat → Nat → α := fun a b => if a = i ∧ b = j then v else f a b
def sv_uI (h : sv_H) (f a : Nat) (v : Int32) : sv_H := (sv_sz h, sv_sl h, sv_K h, sv_N h, sv_up (sv_FI h) f a v, sv_FJ h, sv_FP h, sv_AI h, sv_AJ h, sv_AP h)
def sv_uJ (h : sv_H) (f a : Nat) (v : Int64) : sv_H := (sv_sz h, sv_sl h, sv_K h, sv_N h, sv_FI h, sv_up (sv_FJ h) f a v, sv_FP h, sv_AI h, sv_AJ h, sv_AP h)
def sv_uP (h : sv_H) (f a : Nat) (v : Nat) : sv_H := (sv_sz h, sv_sl h, sv_K h, sv_N h, sv_FI h, sv_FJ h, sv_up (sv_FP h) f a v, sv_AI h, sv_AJ h, sv_AP h)
def sv_wI (h : sv_H) (a j : Nat) (v : Int32) : sv_H := (sv_sz h, sv_sl h, sv_K h, sv_N h, sv_FI h, sv_FJ h, sv_FP h, sv_up (sv_AI h) a j v, sv_AJ h, sv_AP h)
def sv_wJ (h : sv_H) (a j : Nat) (v : Int64) : sv_H := (sv_sz h, sv_sl h, sv_K h, sv_N h, sv_FI h, sv_FJ h, sv_FP h, sv_AI h, sv_up (sv_AJ h) a j v, sv_AP h)
def sv_wP (h : sv_H) (a j : Nat) (v : Nat) : sv_H := (sv_sz h, sv_sl h, sv_K h, sv_N h, sv_FI h, sv_FJ h, sv_FP h, sv_AI h, sv_AJ h, sv_up (sv_AP h) a j v)
/-- a new object of class c with n fields; a new array of kind c and length n -/
def sv_mk (h : sv_H) (c n : Nat) : sv_H := (sv_sz h + 1, sv_sl h + n, va_up (sv_K h) (sv_sz h) c, sv_N h, fun f a => if a = sv_sz h then 0 else sv_FI h f a, fun f a => if a = sv_sz h then 0 else sv_FJ h f a, fun f a => if a = sv_sz h then 0 else sv_FP h f a, sv_AI h, sv_AJ h, sv_AP h)
def sv_ma (h : sv_H) (c n : Nat) : sv_H := (sv_sz h + 1, sv_sl h + n, va_up (sv_K h) (sv_sz h) c, va_up (sv_N h) (sv_sz h) n, sv_FI h, sv_FJ h, sv_FP h, fun a j => if a = sv_sz h then 0 else sv_AI h a j, fun a j => if a = sv_sz h then 0 else sv_AJ h a j, fun a j => if a = sv_sz h then 0 else sv_AP h a j)
-- what an instruction does to the picture, or none where it can't
def sv_gI (h : sv_H) (c f a : Nat) : Option Int32 := if sv_K h a = c then some (sv_FI h f a) else none
def sv_gJ (h : sv_H) (c f a : Nat) : Option Int64 := if sv_K h a = c then some (sv_FJ h f a) else none
def sv_gP (h : sv_H) (c f a : Nat) : Option Nat := if sv_K h a = c ∧ sv_FP h f a ≠ 0 then some (sv_FP h f a) else none
def sv_pI (h : sv_H) (c f a : Nat) (v : Int32) : Option sv_H := if sv_K h a = c then some (sv_uI h f a v) else none
def sv_pZ (h : sv_H) (c f a : Nat) (v : Int32) : Option sv_H := if sv_K h a = c ∧ (v = 0 ∨ v = 1) then some (sv_uI h f a v) else none
def sv_pJ (h : sv_H) (c f a : Nat) (v : Int64) : Option sv_H := if sv_K h a = c then some (sv_uJ h f a v) else none
def sv_pP (h : sv_H) (c f a : Nat) (v : Nat) : Option sv_H := if sv_K h a = c ∧ v ≠ 0 then some (sv_uP h f a v) else none
def sv_lI (h : sv_H) (a : Nat) (i : Int32) : Option Int32 := if sv_K h a = 901 ∧ ¬ (i < 0 ∨ sv_N h a ≤ i.toNatClampNeg) then some (sv_AI h a i.toNatClampNeg) else none
def sv_lJ (h : sv_H) (a : Nat) (i : Int32) : Option Int64 := if sv_K h a = 902 ∧ ¬ (i < 0 ∨ sv_N h a ≤ i.toNatClampNeg) then some (sv_AJ h a i.toNatClampNeg) else none
def sv_lZ (h : sv_H) (a : Nat) (i : Int32) : Option Int32 := if sv_K h a = 903 ∧ ¬ (i < 0 ∨ sv_N h a ≤ i.toNatClampNeg) then some (sv_AI h a i.toNatClampNeg) else none
def sv_lB (h : sv_H) (a : Nat) (i : Int32) : Option Int32 := if sv_K h a = 904 ∧ ¬ (i < 0 ∨ sv_N h a ≤ i.toNatClampNeg) then some (sv_AI h a i.toNatClampNeg) else none
def sv_lP (c : Nat) (h : sv_H) (a : Nat) (i : Int32) : Option Nat := if sv_K h a = c ∧ ¬ (i < 0 ∨ sv_N h a ≤ i.toNatClampNeg) ∧ sv_AP h a i.toNatClampNeg ≠ 0 then some (sv_AP h a i.toNatClampNeg) else none
def sv_sI (h : sv_H) (a : Nat) (i v : Int32) : Option sv_H := if sv_K h a = 901 ∧ ¬ (i < 0 ∨ sv_N h a ≤ i.toNatClampNeg) then some (sv_wI h a i.toNatClampNeg v) else none
def sv_sJ (h : sv_H) (a : Nat) (i : Int32) (v : Int64) : Option sv_H := if sv_K h a = 902 ∧ ¬ (i < 0 ∨ sv_N h a ≤ i.toNatClampNeg) then some (sv_wJ h a i.toNatClampNeg v) else none
def sv_sZ (h : sv_H) (a : Nat) (i v : Int32) : Option sv_H := if sv_K h a = 903 ∧ ¬ (i < 0 ∨ sv_N h a ≤ i.toNatClampNeg) then some (sv_wI h a i.toNatClampNeg (vp_nar .boolean v)) else none
def sv_sB (h : sv_H) (a : Nat) (i v : Int32) : Option sv_H := if sv_K h a = 904 ∧ ¬ (i < 0 ∨ sv_N h a ≤ i.toNatClampNeg) then some (sv_wI h a i.toNatClampNeg (vp_nar .byte v)) else none
/-- a reference into an array of references of kind c = 910 + the class's number -/
def sv_sP (c : Nat) (h : sv_H) (a : Nat) (i : Int32) (v : Nat) : Option sv_H := if sv_K h a = c ∧ ¬ (i < 0 ∨ sv_N h a ≤ i.toNatClampNeg) ∧ sv_K h v + 910 = c ∧ v ≠ 0 then some (sv_wP h a i.toNatClampNeg v) else none
def sv_len (h : sv_H) (c a : Nat) : Option Int32 := if sv_K h a = c then some (Int32.ofNat (sv_N h a)) else none
def sv_new {α : Type} (h : sv_H) (c n : Nat) (k : Nat → sv_H → Option α) : Option α := k (sv_sz h) (sv_mk h c n)
def sv_na {α : Type} (h : sv_H) (c : Nat) (n : Int32) (k : Nat → sv_H → Option α) : Option α := if ¬ n < 0 ∧ n ≤ 1048576 then k (sv_sz h) (sv_ma h c n.toNatClampNeg) else none
/-- System.arraycopy of ints (kind 901) or longs (902) -/
def sv_cp (h : sv_H) (c src sp dst dp n : Nat) : sv_H := if c = 902 then (sv_sz h, sv_sl h, sv_K h, sv_N h, sv_FI h, sv_FJ h, sv_FP h, sv_AI h, fun a j => if a = dst then va_cpy (sv_AJ h src) (sv_AJ h dst) sp dp n j else sv_AJ h a j, sv_AP h)
  else (sv_sz h, sv_sl h, sv_K h, sv_N h, sv_FI h, sv_FJ h, sv_FP h, fun a j => if a = dst then va_cpy (sv_AI h src) (sv_AI h dst) sp dp n j else sv_AI h a j, sv_AJ h, sv_AP h)
def sv_copy (h : sv_H) (c src : Nat) (sp : Int32) (dst : Nat) (dp n : Int32) : Option sv_H := if sv_K h src = c ∧ sv_K h dst = c ∧ ¬ sp < 0 ∧ ¬ dp < 0 ∧ ¬ n < 0 ∧ sp.toNatClampNeg + n.toNatClampNeg ≤ sv_N h src ∧ dp.toNatClampNeg + n.toNatClampNeg ≤ sv_N h dst then some (sv_cp h c src sp.toNatClampNeg dst dp.toNatClampNeg n.toNatClampNeg) else none
def sv_b {α β : Type} (x : Option (α × sv_H)) (k : α → sv_H → Option β) : Option β := match x with
  | none => none
  | some q => k q.1 q.2
def sv_let {α β : Type} (x : α) (k : α → β) : β := k x
def sv_fuel : Nat := 1000000000
theorem sv_b_some {α β : Type} {x : Option (α × sv_H)} {k : α → sv_H → Option β} {r : β} (h : sv_b x k = some r) : ∃ (a : α) (h2 : sv_H), x = some (a, h2) ∧ k a h2 = some r := by
  cases x with
  | none => cases h
  | some q => exact ⟨q.1, q.2, rfl, h⟩
theorem sv_nz {α : Type} {c : Prop} [Decidable c] {x : Option α} {r : α} (h : (if c then none else x) = some r) : ¬ c ∧ x = some r := by
  by_cases hc : c
  · rw [if_pos hc] at h; cases h
  · rw [if_neg hc] at h; exact ⟨hc, h⟩
theorem sv_if {α : Type} {c : Prop} [Decidable c] {x : α} {r : α} (h : (if c then some x else none) = some r) : c ∧ x = r := by
  by_cases hc : c
  · rw [if_pos hc] at h; exact ⟨hc, Option.some.inj h⟩
  · rw [if_neg hc] at h; cases h
theorem sv_go {α : Type} {c : Prop} [Decidable c] {x : Option α} {r : α} (h : (if c then x else none) = some r) : c ∧ x = some r := by
  by_cases hc : c
  · rw [if_pos hc] at h; exact ⟨hc, h⟩
  · rw [if_neg hc] at h; cases h
def sv_quarter : List Int32 := [256, 255, 251, 245, 237, 226, 213, 198, 181, 162, 142, 121, 98, 74, 50, 25, 0]
def sv_sQ (i : Int32) : Option Int32 := if ¬ (i < 0 ∨ 17 ≤ i.toNatClampNeg) then some (sv_quarter.getD i.toNatClampNeg 0) else none
abbrev sv_kd {α : Type} (h : sv_H) (c a : Nat) (x : Option α) : Option α := if sv_K h a = c then x else none
def sv_rz (v : Int32) (h : sv_H) : Option (Int32 × sv_H) := if v = 0 ∨ v = 1 then some (v, h) else none
def sv_max (x y : Int32) : Int32 := if x < y then y else x
def sv_min (x y : Int32) : Int32 := if y < x then y else x
def sv_abs (x : Int32) : Int32 := if 0 ≤ x then x else 0 - x
def sv_maxl (x y : Int64) : Int64 := if y < x then x else y
def sv_minl (x y : Int64) : Int64 := if y < x then y else x
def sv_absl (x : Int64) : Int64 := if 0 < x then x else -x
