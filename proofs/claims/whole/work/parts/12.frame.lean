/-- nothing was made: sizes, kinds and lengths are as they were -/
def sv_same (h h1 : sv_H) : Prop := sv_sz h1 = sv_sz h ∧ sv_sl h1 = sv_sl h ∧ sv_K h1 = sv_K h ∧ sv_N h1 = sv_N h
/-- cells may have come; those that were keep their kinds and lengths -/
def sv_le (h h1 : sv_H) : Prop := sv_sz h ≤ sv_sz h1 ∧ sv_sl h ≤ sv_sl h1 ∧ ∀ a, a < sv_sz h → sv_K h1 a = sv_K h a ∧ sv_N h1 a = sv_N h a
theorem sv_same.refl (h : sv_H) : sv_same h h := ⟨rfl, rfl, rfl, rfl⟩
theorem sv_same.trans {a b c : sv_H} (h : sv_same a b) (g : sv_same b c) : sv_same a c := ⟨g.1.trans h.1, g.2.1.trans h.2.1, g.2.2.1.trans h.2.2.1, g.2.2.2.trans h.2.2.2⟩
theorem sv_le.refl (h : sv_H) : sv_le h h := ⟨Nat.le_refl _, Nat.le_refl _, fun _ _ => ⟨rfl, rfl⟩⟩
theorem sv_le.trans {a b c : sv_H} (h : sv_le a b) (g : sv_le b c) : sv_le a c := ⟨Nat.le_trans h.1 g.1, Nat.le_trans h.2.1 g.2.1, fun q hq => ⟨((g.2.2 q (Nat.lt_of_lt_of_le hq h.1)).1).trans (h.2.2 q hq).1, ((g.2.2 q (Nat.lt_of_lt_of_le hq h.1)).2).trans (h.2.2 q hq).2⟩⟩
theorem sv_same.le {h h1 : sv_H} (s : sv_same h h1) : sv_le h h1 := ⟨Nat.le_of_eq s.1.symm, Nat.le_of_eq s.2.1.symm, fun a _ => ⟨congrFun s.2.2.1 a, congrFun s.2.2.2 a⟩⟩
theorem sv_mk_le (h : sv_H) (c n : Nat) : sv_le h (sv_mk h c n) := ⟨Nat.le_succ _, Nat.le_add_right _ _, fun a ha => ⟨va_up_ne _ _ (Nat.ne_of_lt ha), rfl⟩⟩
theorem sv_ma_le (h : sv_H) (c n : Nat) : sv_le h (sv_ma h c n) := ⟨Nat.le_succ _, Nat.le_add_right _ _, fun a ha => ⟨va_up_ne _ _ (Nat.ne_of_lt ha), va_up_ne _ _ (Nat.ne_of_lt ha)⟩⟩
def sv_fr {α : Type} (ρ : sv_H → sv_H → Prop) (h0 : sv_H) (x : Option (α × sv_H)) : Prop := ∀ (r : α) (hE : sv_H), x = some (r, hE) → ρ h0 hE
section FR
variable {ρ : sv_H → sv_H → Prop} {h0 h : sv_H} {α β : Type}
theorem fr_bd {o : Option β} {k : β → Option (α × sv_H)} (kk : ∀ v, sv_fr ρ h0 (k v)) : sv_fr ρ h0 (o.bind k) := by
  intro r hE e
  cases o with
  | none => cases e
  | some v => exact kk v r hE e
theorem fr_st {o : Option sv_H} {k : sv_H → Option (α × sv_H)} (ho : ∀ h2, o = some h2 → ρ h0 h2) (kk : ∀ h2, ρ h0 h2 → sv_fr ρ h0 (k h2)) : sv_fr ρ h0 (o.bind k) := by
  intro r hE e
  cases o with
  | none => cases e
  | some v => exact kk v (ho v rfl) r hE e
theorem fr_cl {x : Option (β × sv_H)} {k : β → sv_H → Option (α × sv_H)} (hx : ∀ r h2, x = some (r, h2) → ρ h0 h2) (kk : ∀ r h2, ρ h0 h2 → sv_fr ρ h0 (k r h2)) : sv_fr ρ h0 (sv_b x k) := by
  intro r hE e
  cases x with
  | none => cases e
  | some q => exact kk q.1 q.2 (hx q.1 q.2 rfl) r hE e
theorem fr_if {c : Prop} [Decidable c] {x y : Option (α × sv_H)} (hx : sv_fr ρ h0 x) (hy : sv_fr ρ h0 y) : sv_fr ρ h0 (if c then x else y) := by
  intro r hE e
  by_cases hc : c
  · rw [if_pos hc] at e; exact hx r hE e
  · rw [if_neg hc] at e; exact hy r hE e
theorem fr_no : sv_fr ρ h0 (none : Option (α × sv_H)) := fun _ _ e => by cases e
theorem fr_let {x : β} {k : β → Option (α × sv_H)} (kk : ∀ v, sv_fr ρ h0 (k v)) : sv_fr ρ h0 (sv_let x k) := kk x
theorem fr_rt {x : α} (hs : ρ h0 h) : sv_fr ρ h0 (some (x, h)) := fun _ _ e => by cases e; exact hs
theorem fr_rz {v : Int32} (hs : ρ h0 h) : sv_fr ρ h0 (sv_rz v h) := by
  intro r hE e
  unfold sv_rz at e
  exact fr_if (fr_rt hs) fr_no r hE e
theorem fr_new {c n : Nat} {k : Nat → sv_H → Option (α × sv_H)} (hs : sv_le h0 h) (kk : sv_le h0 (sv_mk h c n) → sv_fr sv_le h0 (k (sv_sz h) (sv_mk h c n))) : sv_fr sv_le h0 (sv_new h c n k) := kk (hs.trans (sv_mk_le h c n))
theorem fr_na {c : Nat} {n : Int32} {k : Nat → sv_H → Option (α × sv_H)} (hs : sv_le h0 h) (kk : sv_le h0 (sv_ma h c n.toNatClampNeg) → sv_fr sv_le h0 (k (sv_sz h) (sv_ma h c n.toNatClampNeg))) : sv_fr sv_le h0 (sv_na h c n k) := by
  unfold sv_na
  exact fr_if (kk (hs.trans (sv_ma_le h c _))) fr_no
end FR
theorem sv_ifs {c : Prop} [Decidable c] {h h1 h2 : sv_H} (e : (if c then some h1 else none) = some h2) (s : sv_same h h1) : sv_same h h2 := by
  obtain ⟨-, rfl⟩ := sv_if e
  exact s
theorem st_pI {h h2 : sv_H} {c f a : Nat} {v : Int32} (e : sv_pI h c f a v = some h2) : sv_same h h2 := sv_ifs e ⟨rfl, rfl, rfl, rfl⟩
theorem st_pZ {h h2 : sv_H} {c f a : Nat} {v : Int32} (e : sv_pZ h c f a v = some h2) : sv_same h h2 := sv_ifs e ⟨rfl, rfl, rfl, rfl⟩
theorem st_pJ {h h2 : sv_H} {c f a : Nat} {v : Int64} (e : sv_pJ h c f a v = some h2) : sv_same h h2 := sv_ifs e ⟨rfl, rfl, rfl, rfl⟩
theorem st_pP {h h2 : sv_H} {c f a v : Nat} (e : sv_pP h c f a v = some h2) : sv_same h h2 := sv_ifs e ⟨rfl, rfl, rfl, rfl⟩
theorem st_sI {h h2 : sv_H} {a : Nat} {i v : Int32} (e : sv_sI h a i v = some h2) : sv_same h h2 := sv_ifs e ⟨rfl, rfl, rfl, rfl⟩
theorem st_sJ {h h2 : sv_H} {a : Nat} {i : Int32} {v : Int64} (e : sv_sJ h a i v = some h2) : sv_same h h2 := sv_ifs e ⟨rfl, rfl, rfl, rfl⟩
theorem st_sZ {h h2 : sv_H} {a : Nat} {i v : Int32} (e : sv_sZ h a i v = some h2) : sv_same h h2 := sv_ifs e ⟨rfl, rfl, rfl, rfl⟩
theorem st_sB {h h2 : sv_H} {a : Nat} {i v : Int32} (e : sv_sB h a i v = some h2) : sv_same h h2 := sv_ifs e ⟨rfl, rfl, rfl, rfl⟩
theorem st_sP {c : Nat} {h h2 : sv_H} {a : Nat} {i : Int32} {v : Nat} (e : sv_sP c h a i v = some h2) : sv_same h h2 := sv_ifs e ⟨rfl, rfl, rfl, rfl⟩
theorem st_copy {h h2 : sv_H} {c src dst : Nat} {sp dp n : Int32} (e : sv_copy h c src sp dst dp n = some h2) : sv_same h h2 := by
  refine sv_ifs e ?_
  unfold sv_cp
  by_cases hc : c = 902
  · rw [if_pos hc]; exact ⟨rfl, rfl, rfl, rfl⟩
  · rw [if_neg hc]; exact ⟨rfl, rfl, rfl, rfl⟩
theorem sv_same.mono {h h2 hE : sv_H} (s : sv_same h h2) (m : sv_le h hE) : sv_le h2 hE := ⟨by rw [s.1]; exact m.1, by rw [s.2.1]; exact m.2.1, fun a ha => by rw [s.2.2.1, s.2.2.2]; exact m.2.2 a (by rw [← s.1]; exact ha)⟩
