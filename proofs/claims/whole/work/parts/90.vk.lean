-- what a function on values may change
def vcl (O : Nat → Prop) (s : vt_S) : Prop := (∀ f a, O a → O (vt_P s f a)) ∧ (∀ f a j, O a → O (vt_E s f a j))
def vk (ws rs gs : List Nat) (O : Nat → Prop) (s s1 : vt_S) : Prop :=
  vt_E s1 = vt_E s ∧ (∀ f a, (f ∉ ws ∨ ¬ O a) → vt_I s1 f a = vt_I s f a ∧ vt_J s1 f a = vt_J s f a ∧ vt_P s1 f a = vt_P s f a) ∧ (∀ f a, (f ∉ rs ∨ ¬ O a) → vt_A s1 f a = vt_A s f a ∧ vt_B s1 f a = vt_B s f a) ∧ (∀ f a, (f ∉ gs ∨ ¬ O a) → vt_L s1 f a = vt_L s f a) ∧ (gs = [] → vt_z s1 = vt_z s ∧ vt_l s1 = vt_l s)
def vw (ws rs gs : List Nat) (O : Nat → Prop) (s s1 : vt_S) : Prop := vk ws rs gs O s s1 ∧ vcl O s1
def vfr {α : Type} (ρ : vt_S → vt_S → Prop) (s0 : vt_S) (x : Option (α × vt_S)) : Prop := ∀ r s, x = some (r, s) → ρ s0 s
def veq (s s1 : vt_S) : Prop := s1 = s
section VK
variable {α β : Type} {ρ : vt_S → vt_S → Prop} {ws rs gs : List Nat} {O : Nat → Prop} {s0 s s1 s2 : vt_S}
theorem vk.refl (s : vt_S) : vk ws rs gs O s s := ⟨rfl, fun _ _ _ => ⟨rfl, rfl, rfl⟩, fun _ _ _ => ⟨rfl, rfl⟩, fun _ _ _ => rfl, fun _ => ⟨rfl, rfl⟩⟩
theorem vk.trans (a : vk ws rs gs O s s1) (b : vk ws rs gs O s1 s2) : vk ws rs gs O s s2 :=
  ⟨b.1.trans a.1, fun f q h => ⟨(b.2.1 f q h).1.trans (a.2.1 f q h).1, (b.2.1 f q h).2.1.trans (a.2.1 f q h).2.1, (b.2.1 f q h).2.2.trans (a.2.1 f q h).2.2⟩, fun f q h => ⟨(b.2.2.1 f q h).1.trans (a.2.2.1 f q h).1, (b.2.2.1 f q h).2.trans (a.2.2.1 f q h).2⟩, fun f q h => (b.2.2.2.1 f q h).trans (a.2.2.2.1 f q h), fun e => ⟨(b.2.2.2.2 e).1.trans (a.2.2.2.2 e).1, (b.2.2.2.2 e).2.trans (a.2.2.2.2 e).2⟩⟩
theorem vk.weak {ws' rs' gs' : List Nat} (a : vk ws' rs' gs' O s s1) (hw : ∀ f ∈ ws', f ∈ ws) (hr : ∀ f ∈ rs', f ∈ rs) (hg : ∀ f ∈ gs', f ∈ gs) : vk ws rs gs O s s1 :=
  ⟨a.1, fun f q h => a.2.1 f q (h.elim (fun z => Or.inl (fun y => z (hw f y))) Or.inr), fun f q h => a.2.2.1 f q (h.elim (fun z => Or.inl (fun y => z (hr f y))) Or.inr), fun f q h => a.2.2.2.1 f q (h.elim (fun z => Or.inl (fun y => z (hg f y))) Or.inr), fun e => a.2.2.2.2 (by subst e; exact List.eq_nil_iff_forall_not_mem.mpr (fun f y => by have := hg f y; cases this))⟩
theorem vr_no : vfr ρ s0 (none : Option (α × vt_S)) := fun _ _ e => by cases e
theorem vr_rt {r : α} (h : ρ s0 s) : vfr ρ s0 (some (r, s)) := fun _ _ e => by cases e; exact h
theorem vr_if {c : Prop} [Decidable c] {x y : Option (α × vt_S)} (hx : vfr ρ s0 x) (hy : vfr ρ s0 y) : vfr ρ s0 (if c then x else y) := by
  by_cases hc : c
  · rw [if_pos hc]; exact hx
  · rw [if_neg hc]; exact hy
theorem vr_rz {v : Int32} (h : ρ s0 s) : vfr ρ s0 (vt_rz v s) := vr_if (vr_rt h) vr_no
theorem vr_let {x : β} {k : β → Option (α × vt_S)} (kk : ∀ v, vfr ρ s0 (k v)) : vfr ρ s0 (sv_let x k) := kk x
theorem vr_bd {x : Option β} {k : β → Option (α × vt_S)} (kk : ∀ v, vfr ρ s0 (k v)) : vfr ρ s0 (x.bind k) := by
  cases x with
  | none => exact vr_no
  | some v => exact kk v
theorem vr_cl {x : Option (β × vt_S)} {k : β → vt_S → Option (α × vt_S)} (hx : ∀ r s2, x = some (r, s2) → ρ s0 s2) (kk : ∀ r s2, ρ s0 s2 → vfr ρ s0 (k r s2)) : vfr ρ s0 (vt_b x k) := by
  cases x with
  | none => exact vr_no
  | some q => exact kk q.1 q.2 (hx q.1 q.2 rfl)
theorem vr_gP {f a : Nat} {k : Nat → Option (α × vt_S)} (hs : vw ws rs gs O s0 s) (oa : O a) (kk : ∀ v, O v → vfr (vw ws rs gs O) s0 (k v)) : vfr (vw ws rs gs O) s0 (sv_let (vt_P s f a) k) := kk _ (hs.2.1 f a oa)
theorem vr_lP {f a : Nat} {i : Int32} {k : Nat → Option (α × vt_S)} (hs : vw ws rs gs O s0 s) (oa : O a) (kk : ∀ v, O v → vfr (vw ws rs gs O) s0 (k v)) : vfr (vw ws rs gs O) s0 ((vl_P s f a i).bind k) := by
  unfold vl_P
  by_cases c : i < 0 ∨ vt_L s f a ≤ i.toNatClampNeg
  · rw [if_neg (fun z => z c)]; exact vr_no
  · rw [if_pos c]; exact kk _ (hs.2.2 f a _ oa)
theorem vw_I {f a : Nat} {v : Int32} (hs : vw ws rs gs O s0 s) (hf : f ∈ ws) (oa : O a) : vw ws rs gs O s0 (vu_I s f a v) := by
  refine ⟨hs.1.trans ⟨rfl, fun g b h => ⟨?_, rfl, rfl⟩, fun _ _ _ => ⟨rfl, rfl⟩, fun _ _ _ => rfl, fun _ => ⟨rfl, rfl⟩⟩, hs.2⟩
  show (if g = f ∧ b = a then v else vt_I s g b) = _
  rw [if_neg]
  rintro ⟨rfl, rfl⟩
  exact h.elim (fun z => z hf) (fun z => z oa)
theorem vw_J {f a : Nat} {v : Int64} (hs : vw ws rs gs O s0 s) (hf : f ∈ ws) (oa : O a) : vw ws rs gs O s0 (vu_J s f a v) := by
  refine ⟨hs.1.trans ⟨rfl, fun g b h => ⟨rfl, ?_, rfl⟩, fun _ _ _ => ⟨rfl, rfl⟩, fun _ _ _ => rfl, fun _ => ⟨rfl, rfl⟩⟩, hs.2⟩
  show (if g = f ∧ b = a then v else vt_J s g b) = _
  rw [if_neg]
  rintro ⟨rfl, rfl⟩
  exact h.elim (fun z => z hf) (fun z => z oa)
theorem vw_P {f a v : Nat} (hs : vw ws rs gs O s0 s) (hf : f ∈ ws) (oa : O a) (ov : O v) : vw ws rs gs O s0 (vu_P s f a v) := by
  refine ⟨hs.1.trans ⟨rfl, fun g b h => ⟨rfl, rfl, ?_⟩, fun _ _ _ => ⟨rfl, rfl⟩, fun _ _ _ => rfl, fun _ => ⟨rfl, rfl⟩⟩, fun g b ob => ?_, hs.2.2⟩
  · show (if g = f ∧ b = a then v else vt_P s g b) = _
    rw [if_neg]
    rintro ⟨rfl, rfl⟩
    exact h.elim (fun z => z hf) (fun z => z oa)
  · show O (if g = f ∧ b = a then v else vt_P s g b)
    by_cases c : g = f ∧ b = a
    · rw [if_pos c]; exact ov
    · rw [if_neg c]; exact hs.2.1 g b ob
theorem vw_A {f a i : Nat} {v : Int32} (hs : vw ws rs gs O s0 s) (hf : f ∈ rs) (oa : O a) : vw ws rs gs O s0 (vu_A s f a i v) := by
  refine ⟨hs.1.trans ⟨rfl, fun _ _ _ => ⟨rfl, rfl, rfl⟩, fun g b h => ⟨?_, rfl⟩, fun _ _ _ => rfl, fun _ => ⟨rfl, rfl⟩⟩, hs.2⟩
  funext j
  show (if g = f ∧ b = a ∧ j = i then v else vt_A s g b j) = _
  rw [if_neg]
  rintro ⟨rfl, rfl, -⟩
  exact h.elim (fun z => z hf) (fun z => z oa)
theorem vw_B {f a i : Nat} {v : Int64} (hs : vw ws rs gs O s0 s) (hf : f ∈ rs) (oa : O a) : vw ws rs gs O s0 (vu_B s f a i v) := by
  refine ⟨hs.1.trans ⟨rfl, fun _ _ _ => ⟨rfl, rfl, rfl⟩, fun g b h => ⟨rfl, ?_⟩, fun _ _ _ => rfl, fun _ => ⟨rfl, rfl⟩⟩, hs.2⟩
  funext j
  show (if g = f ∧ b = a ∧ j = i then v else vt_B s g b j) = _
  rw [if_neg]
  rintro ⟨rfl, rfl, -⟩
  exact h.elim (fun z => z hf) (fun z => z oa)
theorem vw_W {f a : Nat} {G : Nat → Int32} (hs : vw ws rs gs O s0 s) (hf : f ∈ rs) (oa : O a) : vw ws rs gs O s0 (vu_W s f a G) := by
  refine ⟨hs.1.trans ⟨rfl, fun _ _ _ => ⟨rfl, rfl, rfl⟩, fun g b h => ⟨?_, rfl⟩, fun _ _ _ => rfl, fun _ => ⟨rfl, rfl⟩⟩, hs.2⟩
  show (if g = f ∧ b = a then G else vt_A s g b) = _
  rw [if_neg]
  rintro ⟨rfl, rfl⟩
  exact h.elim (fun z => z hf) (fun z => z oa)
theorem vr_I {f a : Nat} {v : Int32} {k : vt_S → Option (α × vt_S)} (hs : vw ws rs gs O s0 s) (hf : f ∈ ws) (oa : O a) (kk : ∀ s2, vw ws rs gs O s0 s2 → vfr (vw ws rs gs O) s0 (k s2)) : vfr (vw ws rs gs O) s0 (sv_let (vu_I s f a v) k) := kk _ (vw_I hs hf oa)
theorem vr_J {f a : Nat} {v : Int64} {k : vt_S → Option (α × vt_S)} (hs : vw ws rs gs O s0 s) (hf : f ∈ ws) (oa : O a) (kk : ∀ s2, vw ws rs gs O s0 s2 → vfr (vw ws rs gs O) s0 (k s2)) : vfr (vw ws rs gs O) s0 (sv_let (vu_J s f a v) k) := kk _ (vw_J hs hf oa)
theorem vr_P {f a v : Nat} {k : vt_S → Option (α × vt_S)} (hs : vw ws rs gs O s0 s) (hf : f ∈ ws) (oa : O a) (ov : O v) (kk : ∀ s2, vw ws rs gs O s0 s2 → vfr (vw ws rs gs O) s0 (k s2)) : vfr (vw ws rs gs O) s0 (sv_let (vu_P s f a v) k) := kk _ (vw_P hs hf oa ov)
theorem vr_Z {f a : Nat} {v : Int32} {k : vt_S → Option (α × vt_S)} (hs : vw ws rs gs O s0 s) (hf : f ∈ ws) (oa : O a) (kk : ∀ s2, vw ws rs gs O s0 s2 → vfr (vw ws rs gs O) s0 (k s2)) : vfr (vw ws rs gs O) s0 ((vq_Z s f a v).bind k) := by
  unfold vq_Z
  by_cases c : v = 0 ∨ v = 1
  · rw [if_pos c]; exact kk _ (vw_I hs hf oa)
  · rw [if_neg c]; exact vr_no
theorem vr_sI {f a : Nat} {i v : Int32} {k : vt_S → Option (α × vt_S)} (hs : vw ws rs gs O s0 s) (hf : f ∈ rs) (oa : O a) (kk : ∀ s2, vw ws rs gs O s0 s2 → vfr (vw ws rs gs O) s0 (k s2)) : vfr (vw ws rs gs O) s0 ((vs_I s f a i v).bind k) := by
  unfold vs_I
  by_cases c : i < 0 ∨ vt_L s f a ≤ i.toNatClampNeg
  · rw [if_neg (fun z => z c)]; exact vr_no
  · rw [if_pos c]; exact kk _ (vw_A hs hf oa)
theorem vr_sJ {f a : Nat} {i : Int32} {v : Int64} {k : vt_S → Option (α × vt_S)} (hs : vw ws rs gs O s0 s) (hf : f ∈ rs) (oa : O a) (kk : ∀ s2, vw ws rs gs O s0 s2 → vfr (vw ws rs gs O) s0 (k s2)) : vfr (vw ws rs gs O) s0 ((vs_J s f a i v).bind k) := by
  unfold vs_J
  by_cases c : i < 0 ∨ vt_L s f a ≤ i.toNatClampNeg
  · rw [if_neg (fun z => z c)]; exact vr_no
  · rw [if_pos c]; exact kk _ (vw_B hs hf oa)
theorem vr_cp {f a g b : Nat} {sp dp n : Int32} {k : vt_S → Option (α × vt_S)} (hs : vw ws rs gs O s0 s) (hf : g ∈ rs) (oa : O b) (kk : ∀ s2, vw ws rs gs O s0 s2 → vfr (vw ws rs gs O) s0 (k s2)) : vfr (vw ws rs gs O) s0 ((vc_I s f a sp g b dp n).bind k) := by
  unfold vc_I
  by_cases c : ¬ sp < 0 ∧ ¬ dp < 0 ∧ ¬ n < 0 ∧ sp.toNatClampNeg + n.toNatClampNeg ≤ vt_L s f a ∧ dp.toNatClampNeg + n.toNatClampNeg ≤ vt_L s g b
  · rw [if_pos c]; exact kk _ (vw_W hs hf oa)
  · rw [if_neg c]; exact vr_no
theorem vr_fl {f a : Nat} {v : Int32} {k : vt_S → Option (α × vt_S)} (hs : vw ws rs gs O s0 s) (hf : f ∈ rs) (oa : O a) (kk : ∀ s2, vw ws rs gs O s0 s2 → vfr (vw ws rs gs O) s0 (k s2)) : vfr (vw ws rs gs O) s0 (sv_let (vf_I s f a v) k) := kk _ (vw_W hs hf oa)
theorem vr_gI {f a : Nat} {n : Int32} {k : vt_S → Option (α × vt_S)} (hs : vw ws rs gs O s0 s) (hf : f ∈ rs) (hg : f ∈ gs) (oa : O a) (kk : ∀ s2, vw ws rs gs O s0 s2 → vfr (vw ws rs gs O) s0 (k s2)) : vfr (vw ws rs gs O) s0 ((vg_I s f a n).bind k) := by
  unfold vg_I
  by_cases c : n = Int32.ofNat (vt_L s f a)
  · rw [if_pos c]; exact vr_no
  · rw [if_neg c]
    by_cases c : ¬ n < 0 ∧ n ≤ 1048576
    · rw [if_pos c]
      refine kk _ ⟨hs.1.trans ⟨rfl, fun _ _ _ => ⟨rfl, rfl, rfl⟩, fun g b h => ?_, fun g b h => ?_, fun e => by rw [e] at hg; cases hg⟩, hs.2⟩
      · have ne : ¬ (g = f ∧ b = a) := by
          rintro ⟨rfl, rfl⟩
          exact h.elim (fun z => z hf) (fun z => z oa)
        exact ⟨if_neg ne, rfl⟩
      · exact if_neg (by
          rintro ⟨rfl, rfl⟩
          exact h.elim (fun z => z hg) (fun z => z oa))
    · rw [if_neg c]; exact vr_no
theorem vr_gJ {f a : Nat} {n : Int32} {k : vt_S → Option (α × vt_S)} (hs : vw ws rs gs O s0 s) (hf : f ∈ rs) (hg : f ∈ gs) (oa : O a) (kk : ∀ s2, vw ws rs gs O s0 s2 → vfr (vw ws rs gs O) s0 (k s2)) : vfr (vw ws rs gs O) s0 ((vg_J s f a n).bind k) := by
  unfold vg_J
  by_cases c : n = Int32.ofNat (vt_L s f a)
  · rw [if_pos c]; exact vr_no
  · rw [if_neg c]
    by_cases c : ¬ n < 0 ∧ n ≤ 1048576
    · rw [if_pos c]
      refine kk _ ⟨hs.1.trans ⟨rfl, fun _ _ _ => ⟨rfl, rfl, rfl⟩, fun g b h => ?_, fun g b h => ?_, fun e => by rw [e] at hg; cases hg⟩, hs.2⟩
      · have ne : ¬ (g = f ∧ b = a) := by
          rintro ⟨rfl, rfl⟩
          exact h.elim (fun z => z hf) (fun z => z oa)
        exact ⟨rfl, if_neg ne⟩
      · exact if_neg (by
          rintro ⟨rfl, rfl⟩
          exact h.elim (fun z => z hg) (fun z => z oa))
    · rw [if_neg c]; exact vr_no
end VK
