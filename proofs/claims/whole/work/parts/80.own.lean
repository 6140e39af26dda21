/-- pointers out of O stay in O -/
def sv_cl (O : Nat → Prop) (h : sv_H) : Prop := (∀ f a, O a → sv_FP h f a ≠ 0 → O (sv_FP h f a)) ∧ (∀ a j, O a → sv_AP h a j ≠ 0 → O (sv_AP h a j))
/-- v is the array that field f of one of O holds -/
def sv_rl (f : Nat) (O : Nat → Prop) (h : sv_H) (v : Nat) : Prop := ∃ a, O a ∧ sv_FP h f a = v
/-- nothing is made, no pointer changes; of the numbers only fields of ws, of objects in O, and arrays that the fields rs of objects in O hold -/
def sv_ow (ws rs : List Nat) (O : Nat → Prop) (h h1 : sv_H) : Prop :=
  sv_same h h1 ∧ (sv_FP h1 = sv_FP h ∧ sv_AP h1 = sv_AP h) ∧ (∀ f a, (f ∉ ws ∨ ¬ O a) → sv_FI h1 f a = sv_FI h f a ∧ sv_FJ h1 f a = sv_FJ h f a) ∧ (∀ b, (∀ f ∈ rs, ∀ a, O a → sv_FP h f a ≠ b) → sv_AI h1 b = sv_AI h b ∧ sv_AJ h1 b = sv_AJ h b)
section OW
variable {ws rs : List Nat} {O : Nat → Prop} {h0 h h1 h2 : sv_H}
theorem sv_ow.refl (h : sv_H) : sv_ow ws rs O h h := ⟨sv_same.refl h, ⟨rfl, rfl⟩, fun _ _ _ => ⟨rfl, rfl⟩, fun _ _ => ⟨rfl, rfl⟩⟩
theorem sv_ow.trans (a : sv_ow ws rs O h h1) (b : sv_ow ws rs O h1 h2) : sv_ow ws rs O h h2 := by
  refine ⟨a.1.trans b.1, ⟨b.2.1.1.trans a.2.1.1, b.2.1.2.trans a.2.1.2⟩, fun f q hq => ⟨(b.2.2.1 f q hq).1.trans (a.2.2.1 f q hq).1, (b.2.2.1 f q hq).2.trans (a.2.2.1 f q hq).2⟩, fun q hq => ?_⟩
  have h3 := b.2.2.2 q (by rw [a.2.1.1]; exact hq)
  have h4 := a.2.2.2 q hq
  exact ⟨h3.1.trans h4.1, h3.2.trans h4.2⟩
theorem sv_ow.weak {ws' rs' : List Nat} (a : sv_ow ws' rs' O h h1) (hw : ∀ f ∈ ws', f ∈ ws) (hr : ∀ f ∈ rs', f ∈ rs) : sv_ow ws rs O h h1 :=
  ⟨a.1, a.2.1, fun f q hq => a.2.2.1 f q (hq.elim (fun z => Or.inl (fun y => z (hw f y))) Or.inr), fun b hb => a.2.2.2 b (fun f hf => hb f (hr f hf))⟩
theorem sv_cl.of (c : sv_cl O h0) (s : sv_ow ws rs O h0 h) : sv_cl O h := ⟨by rw [s.2.1.1]; exact c.1, by rw [s.2.1.2]; exact c.2⟩
theorem sv_rl.of {f v : Nat} (c : sv_rl f O h0 v) (s : sv_ow ws rs O h0 h) : sv_rl f O h v := by
  obtain ⟨a, h1, h2⟩ := c
  exact ⟨a, h1, by rw [s.2.1.1]; exact h2⟩
theorem ow_pI {c f a : Nat} {v : Int32} (hs : sv_ow ws rs O h0 h) (hf : f ∈ ws) (oa : O a) (e : sv_pI h c f a v = some h2) : sv_ow ws rs O h0 h2 := by
  refine hs.trans ?_
  have s := st_pI e
  obtain ⟨-, rfl⟩ := sv_if e
  refine ⟨s, ⟨rfl, rfl⟩, fun g b hg => ⟨?_, rfl⟩, fun _ _ => ⟨rfl, rfl⟩⟩
  show (if g = f ∧ b = a then v else sv_FI h g b) = _
  rw [if_neg]
  rintro ⟨rfl, rfl⟩
  exact hg.elim (fun z => z hf) (fun z => z oa)
theorem ow_pZ {c f a : Nat} {v : Int32} (hs : sv_ow ws rs O h0 h) (hf : f ∈ ws) (oa : O a) (e : sv_pZ h c f a v = some h2) : sv_ow ws rs O h0 h2 := by
  refine hs.trans ?_
  have s := st_pZ e
  obtain ⟨-, rfl⟩ := sv_if e
  refine ⟨s, ⟨rfl, rfl⟩, fun g b hg => ⟨?_, rfl⟩, fun _ _ => ⟨rfl, rfl⟩⟩
  show (if g = f ∧ b = a then v else sv_FI h g b) = _
  rw [if_neg]
  rintro ⟨rfl, rfl⟩
  exact hg.elim (fun z => z hf) (fun z => z oa)
theorem ow_pJ {c f a : Nat} {v : Int64} (hs : sv_ow ws rs O h0 h) (hf : f ∈ ws) (oa : O a) (e : sv_pJ h c f a v = some h2) : sv_ow ws rs O h0 h2 := by
  refine hs.trans ?_
  have s := st_pJ e
  obtain ⟨-, rfl⟩ := sv_if e
  refine ⟨s, ⟨rfl, rfl⟩, fun g b hg => ⟨rfl, ?_⟩, fun _ _ => ⟨rfl, rfl⟩⟩
  show (if g = f ∧ b = a then v else sv_FJ h g b) = _
  rw [if_neg]
  rintro ⟨rfl, rfl⟩
  exact hg.elim (fun z => z hf) (fun z => z oa)
theorem ow_wI {f a j : Nat} {v : Int32} (hs : sv_ow ws rs O h0 h) (hr : sv_rl f O h0 a) (hf : f ∈ rs) : sv_ow ws rs O h0 (sv_wI h a j v) := by
  refine hs.trans ⟨⟨rfl, rfl, rfl, rfl⟩, ⟨rfl, rfl⟩, fun _ _ _ => ⟨rfl, rfl⟩, fun b hb => ⟨?_, rfl⟩⟩
  obtain ⟨q, oq, e⟩ := hr
  funext i
  show (if b = a ∧ i = j then v else sv_AI h b i) = _
  rw [if_neg]
  rintro ⟨rfl, -⟩
  exact hb f hf q oq (by rw [hs.2.1.1]; exact e)
theorem ow_wJ {f a j : Nat} {v : Int64} (hs : sv_ow ws rs O h0 h) (hr : sv_rl f O h0 a) (hf : f ∈ rs) : sv_ow ws rs O h0 (sv_wJ h a j v) := by
  refine hs.trans ⟨⟨rfl, rfl, rfl, rfl⟩, ⟨rfl, rfl⟩, fun _ _ _ => ⟨rfl, rfl⟩, fun b hb => ⟨rfl, ?_⟩⟩
  obtain ⟨q, oq, e⟩ := hr
  funext i
  show (if b = a ∧ i = j then v else sv_AJ h b i) = _
  rw [if_neg]
  rintro ⟨rfl, -⟩
  exact hb f hf q oq (by rw [hs.2.1.1]; exact e)
theorem ow_sI {f a : Nat} {i v : Int32} (hs : sv_ow ws rs O h0 h) (hr : sv_rl f O h0 a) (hf : f ∈ rs) (e : sv_sI h a i v = some h2) : sv_ow ws rs O h0 h2 := by
  obtain ⟨-, rfl⟩ := sv_if e
  exact ow_wI hs hr hf
theorem ow_sZ {f a : Nat} {i v : Int32} (hs : sv_ow ws rs O h0 h) (hr : sv_rl f O h0 a) (hf : f ∈ rs) (e : sv_sZ h a i v = some h2) : sv_ow ws rs O h0 h2 := by
  obtain ⟨-, rfl⟩ := sv_if e
  exact ow_wI hs hr hf
theorem ow_sB {f a : Nat} {i v : Int32} (hs : sv_ow ws rs O h0 h) (hr : sv_rl f O h0 a) (hf : f ∈ rs) (e : sv_sB h a i v = some h2) : sv_ow ws rs O h0 h2 := by
  obtain ⟨-, rfl⟩ := sv_if e
  exact ow_wI hs hr hf
theorem ow_sJ {f a : Nat} {i : Int32} {v : Int64} (hs : sv_ow ws rs O h0 h) (hr : sv_rl f O h0 a) (hf : f ∈ rs) (e : sv_sJ h a i v = some h2) : sv_ow ws rs O h0 h2 := by
  obtain ⟨-, rfl⟩ := sv_if e
  exact ow_wJ hs hr hf
theorem ow_gO {c f a v : Nat} (oc : sv_cl O h0) (hs : sv_ow ws rs O h0 h) (oa : O a) (e : sv_gP h c f a = some v) : O v := by
  obtain ⟨g1, rfl⟩ := sv_if e
  exact (oc.of hs).1 f a oa g1.2
theorem ow_gR {c f a v : Nat} (hs : sv_ow ws rs O h0 h) (oa : O a) (e : sv_gP h c f a = some v) : sv_rl f O h0 v := by
  obtain ⟨-, rfl⟩ := sv_if e
  exact ⟨a, oa, by rw [hs.2.1.1]⟩
theorem ow_lO {c a v : Nat} {i : Int32} (oc : sv_cl O h0) (hs : sv_ow ws rs O h0 h) (oa : O a) (e : sv_lP c h a i = some v) : O v := by
  obtain ⟨g1, rfl⟩ := sv_if e
  exact (oc.of hs).2 a _ oa g1.2.2
end OW
theorem fr_be {ρ : sv_H → sv_H → Prop} {h0 : sv_H} {α β : Type} {o : Option β} {k : β → Option (α × sv_H)} (kk : ∀ v, o = some v → sv_fr ρ h0 (k v)) : sv_fr ρ h0 (o.bind k) := by
  intro r hE e
  cases o with
  | none => cases e
  | some v => exact kk v rfl r hE e
