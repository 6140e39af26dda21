section RW
variable (s : vt_S) (f a i w : Nat) (v : Int32) (u : Int64) (G : Nat → Int32)
theorem q_z_I : vt_z (vu_I s f a v) = vt_z s := rfl
theorem q_l_I : vt_l (vu_I s f a v) = vt_l s := rfl
theorem q_I_I : vt_I (vu_I s f a v) = vur (vt_I s) f a v := rfl
theorem q_J_I : vt_J (vu_I s f a v) = vt_J s := rfl
theorem q_P_I : vt_P (vu_I s f a v) = vt_P s := rfl
theorem q_E_I : vt_E (vu_I s f a v) = vt_E s := rfl
theorem q_L_I : vt_L (vu_I s f a v) = vt_L s := rfl
theorem q_A_I : vt_A (vu_I s f a v) = vt_A s := rfl
theorem q_B_I : vt_B (vu_I s f a v) = vt_B s := rfl
theorem q_z_J : vt_z (vu_J s f a u) = vt_z s := rfl
theorem q_l_J : vt_l (vu_J s f a u) = vt_l s := rfl
theorem q_I_J : vt_I (vu_J s f a u) = vt_I s := rfl
theorem q_J_J : vt_J (vu_J s f a u) = vur (vt_J s) f a u := rfl
theorem q_P_J : vt_P (vu_J s f a u) = vt_P s := rfl
theorem q_E_J : vt_E (vu_J s f a u) = vt_E s := rfl
theorem q_L_J : vt_L (vu_J s f a u) = vt_L s := rfl
theorem q_A_J : vt_A (vu_J s f a u) = vt_A s := rfl
theorem q_B_J : vt_B (vu_J s f a u) = vt_B s := rfl
theorem q_z_P : vt_z (vu_P s f a w) = vt_z s := rfl
theorem q_l_P : vt_l (vu_P s f a w) = vt_l s := rfl
theorem q_I_P : vt_I (vu_P s f a w) = vt_I s := rfl
theorem q_J_P : vt_J (vu_P s f a w) = vt_J s := rfl
theorem q_P_P : vt_P (vu_P s f a w) = vur (vt_P s) f a w := rfl
theorem q_E_P : vt_E (vu_P s f a w) = vt_E s := rfl
theorem q_L_P : vt_L (vu_P s f a w) = vt_L s := rfl
theorem q_A_P : vt_A (vu_P s f a w) = vt_A s := rfl
theorem q_B_P : vt_B (vu_P s f a w) = vt_B s := rfl
theorem q_z_A : vt_z (vu_A s f a i v) = vt_z s := rfl
theorem q_l_A : vt_l (vu_A s f a i v) = vt_l s := rfl
theorem q_I_A : vt_I (vu_A s f a i v) = vt_I s := rfl
theorem q_J_A : vt_J (vu_A s f a i v) = vt_J s := rfl
theorem q_P_A : vt_P (vu_A s f a i v) = vt_P s := rfl
theorem q_E_A : vt_E (vu_A s f a i v) = vt_E s := rfl
theorem q_L_A : vt_L (vu_A s f a i v) = vt_L s := rfl
theorem q_A_A : vt_A (vu_A s f a i v) = vu3 (vt_A s) f a i v := rfl
theorem q_B_A : vt_B (vu_A s f a i v) = vt_B s := rfl
theorem q_z_B : vt_z (vu_B s f a i u) = vt_z s := rfl
theorem q_l_B : vt_l (vu_B s f a i u) = vt_l s := rfl
theorem q_I_B : vt_I (vu_B s f a i u) = vt_I s := rfl
theorem q_J_B : vt_J (vu_B s f a i u) = vt_J s := rfl
theorem q_P_B : vt_P (vu_B s f a i u) = vt_P s := rfl
theorem q_E_B : vt_E (vu_B s f a i u) = vt_E s := rfl
theorem q_L_B : vt_L (vu_B s f a i u) = vt_L s := rfl
theorem q_A_B : vt_A (vu_B s f a i u) = vt_A s := rfl
theorem q_B_B : vt_B (vu_B s f a i u) = vu3 (vt_B s) f a i u := rfl
theorem q_z_W : vt_z (vu_W s f a G) = vt_z s := rfl
theorem q_l_W : vt_l (vu_W s f a G) = vt_l s := rfl
theorem q_I_W : vt_I (vu_W s f a G) = vt_I s := rfl
theorem q_J_W : vt_J (vu_W s f a G) = vt_J s := rfl
theorem q_P_W : vt_P (vu_W s f a G) = vt_P s := rfl
theorem q_E_W : vt_E (vu_W s f a G) = vt_E s := rfl
theorem q_L_W : vt_L (vu_W s f a G) = vt_L s := rfl
theorem q_A_W : vt_A (vu_W s f a G) = vur (vt_A s) f a G := rfl
theorem q_B_W : vt_B (vu_W s f a G) = vt_B s := rfl
end RW
theorem vur_ap {α : Type} (F : Nat → Nat → α) (f a : Nat) (v : α) (g b : Nat) : vur F f a v g b = if g = f ∧ b = a then v else F g b := rfl
theorem vu3_ap {α : Type} (F : Nat → Nat → Nat → α) (f a i : Nat) (v : α) (g b j : Nat) : vu3 F f a i v g b j = if g = f ∧ b = a ∧ j = i then v else F g b j := rfl
theorem vur_at {α : Type} (F : Nat → Nat → α) (f a : Nat) (v : α) : vur F f a v f a = v := if_pos ⟨rfl, rfl⟩
theorem vur_ne {α : Type} (F : Nat → Nat → α) {f a g b : Nat} (v : α) (h : ¬ (g = f ∧ b = a)) : vur F f a v g b = F g b := if_neg h
theorem vur_self {α : Type} (F : Nat → Nat → α) (f a : Nat) : vur F f a (F f a) = F := by
  funext g b
  rw [vur_ap]
  by_cases h : g = f ∧ b = a
  · rw [if_pos h, h.1, h.2]
  · rw [if_neg h]
theorem vur_vur {α : Type} (F : Nat → Nat → α) (f a : Nat) (v w : α) : vur (vur F f a v) f a w = vur F f a w := by
  funext g b
  simp only [vur_ap]
  by_cases h : g = f ∧ b = a
  · rw [if_pos h, if_pos h]
  · rw [if_neg h, if_neg h, if_neg h]
theorem vu3_vur {α : Type} (F : Nat → Nat → Nat → α) (f a i : Nat) (v : α) : vu3 F f a i v = vur F f a (fun j => if j = i then v else F f a j) := by
  funext g b j
  rw [vu3_ap, vur_ap]
  by_cases h : g = f ∧ b = a
  · rw [if_pos h]
    by_cases e : j = i
    · rw [if_pos ⟨h.1, h.2, e⟩, if_pos e]
    · rw [if_neg (fun z => e z.2.2), if_neg e, h.1, h.2]
  · rw [if_neg h, if_neg (fun z => h ⟨z.1, z.2.1⟩)]
section OKV
variable {s : vt_S} {f a i : Nat}
theorem vl_I_ok (h : i < vt_L s f a) (hL : vt_L s f a < 2 ^ 31) : vl_I s f a (nI i) = some (vt_A s f a i) := by
  rw [vl_I, if_pos (nI_in h hL), nI_clamp (by omega)]
theorem vl_J_ok (h : i < vt_L s f a) (hL : vt_L s f a < 2 ^ 31) : vl_J s f a (nI i) = some (vt_B s f a i) := by
  rw [vl_J, if_pos (nI_in h hL), nI_clamp (by omega)]
theorem vl_P_ok (h : i < vt_L s f a) (hL : vt_L s f a < 2 ^ 31) : vl_P s f a (nI i) = some (vt_E s f a i) := by
  rw [vl_P, if_pos (nI_in h hL), nI_clamp (by omega)]
theorem vs_I_ok {v : Int32} (h : i < vt_L s f a) (hL : vt_L s f a < 2 ^ 31) : vs_I s f a (nI i) v = some (vu_A s f a i v) := by
  rw [vs_I, if_pos (nI_in h hL), nI_clamp (by omega)]
theorem vs_J_ok {v : Int64} (h : i < vt_L s f a) (hL : vt_L s f a < 2 ^ 31) : vs_J s f a (nI i) v = some (vu_B s f a i v) := by
  rw [vs_J, if_pos (nI_in h hL), nI_clamp (by omega)]
end OKV
/-- all but a set of fields and arrays, by field and owner, is as it was; of the arrays' lengths all but a set -/
def agr (D G : Nat → Nat → Prop) (s s1 : vt_S) : Prop := vt_E s1 = vt_E s ∧ (∀ f a, ¬ D f a → vt_I s1 f a = vt_I s f a ∧ vt_J s1 f a = vt_J s f a ∧ vt_P s1 f a = vt_P s f a ∧ vt_A s1 f a = vt_A s f a ∧ vt_B s1 f a = vt_B s f a) ∧ ∀ f a, ¬ G f a → vt_L s1 f a = vt_L s f a
theorem agr.refl {D G : Nat → Nat → Prop} (s : vt_S) : agr D G s s := ⟨rfl, fun _ _ _ => ⟨rfl, rfl, rfl, rfl, rfl⟩, fun _ _ _ => rfl⟩
theorem agr.trans {D G : Nat → Nat → Prop} {s s1 s2 : vt_S} (h : agr D G s s1) (g : agr D G s1 s2) : agr D G s s2 := ⟨g.1.trans h.1, fun f a hf => by
  obtain ⟨a1, a2, a3, a4, a5⟩ := h.2.1 f a hf
  obtain ⟨b1, b2, b3, b4, b5⟩ := g.2.1 f a hf
  exact ⟨b1.trans a1, b2.trans a2, b3.trans a3, b4.trans a4, b5.trans a5⟩, fun f a hf => (g.2.2 f a hf).trans (h.2.2 f a hf)⟩
theorem agr.mono {D G D2 G2 : Nat → Nat → Prop} {s s1 : vt_S} (h : agr D G s s1) (hd : ∀ f a, D f a → D2 f a) (hg : ∀ f a, G f a → G2 f a) : agr D2 G2 s s1 := ⟨h.1, fun f a hf => h.2.1 f a (fun z => hf (hd f a z)), fun f a hf => h.2.2 f a (fun z => hf (hg f a z))⟩
theorem vk.agr {ws rs gs : List Nat} {O : Nat → Prop} {s s1 : vt_S} (h : vk ws rs gs O s s1) : agr (fun f a => (f ∈ ws ∨ f ∈ rs) ∧ O a) (fun f a => f ∈ gs ∧ O a) s s1 := ⟨h.1, fun f a hf => by
  have h1 : f ∉ ws ∨ ¬ O a := (Classical.em (O a)).elim (fun o => Or.inl (fun z => hf ⟨Or.inl z, o⟩)) Or.inr
  have h2 : f ∉ rs ∨ ¬ O a := (Classical.em (O a)).elim (fun o => Or.inl (fun z => hf ⟨Or.inr z, o⟩)) Or.inr
  obtain ⟨a1, a2, a3⟩ := h.2.1 f a h1
  obtain ⟨b1, b2⟩ := h.2.2.1 f a h2
  exact ⟨a1, a2, a3, b1, b2⟩, fun f a hf => h.2.2.2.1 f a ((Classical.em (O a)).elim (fun o => Or.inl (fun z => hf ⟨z, o⟩)) Or.inr)⟩
theorem vclT {s : vt_S} : vcl (fun _ => True) s := ⟨fun _ _ _ => trivial, fun _ _ _ _ => trivial⟩
theorem fuel_ge {n : Nat} (h : n ≤ 900000000) : n < sv_fuel := Nat.lt_of_le_of_lt h (by decide)
