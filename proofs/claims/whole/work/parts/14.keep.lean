/-- nothing at all changed -/
def sv_eq (h h1 : sv_H) : Prop := h1 = h
/-- what a function leaves alone: fields that aren't in ws, and arrays of a kind that it doesn't write (of all that was there) -/
def sv_kp (ws : List Nat) (aI aJ aP : Bool) (h h1 : sv_H) : Prop :=
  sv_le h h1 ∧ (∀ f, f ∉ ws → ∀ a, a < sv_sz h → sv_FI h1 f a = sv_FI h f a ∧ sv_FJ h1 f a = sv_FJ h f a ∧ sv_FP h1 f a = sv_FP h f a) ∧ (aI = false → ∀ a, a < sv_sz h → sv_AI h1 a = sv_AI h a) ∧ (aJ = false → ∀ a, a < sv_sz h → sv_AJ h1 a = sv_AJ h a) ∧ (aP = false → ∀ a, a < sv_sz h → sv_AP h1 a = sv_AP h a)
section KP
variable {ws : List Nat} {aI aJ aP : Bool} {h h1 h2 : sv_H}
theorem sv_kp.refl (h : sv_H) : sv_kp ws aI aJ aP h h := ⟨sv_le.refl h, fun _ _ _ _ => ⟨rfl, rfl, rfl⟩, fun _ _ _ => rfl, fun _ _ _ => rfl, fun _ _ _ => rfl⟩
theorem sv_kp.trans (a : sv_kp ws aI aJ aP h h1) (b : sv_kp ws aI aJ aP h1 h2) : sv_kp ws aI aJ aP h h2 :=
  ⟨a.1.trans b.1, fun f hf q hq => ⟨((b.2.1 f hf q (Nat.lt_of_lt_of_le hq a.1.1)).1).trans (a.2.1 f hf q hq).1, ((b.2.1 f hf q (Nat.lt_of_lt_of_le hq a.1.1)).2.1).trans (a.2.1 f hf q hq).2.1, ((b.2.1 f hf q (Nat.lt_of_lt_of_le hq a.1.1)).2.2).trans (a.2.1 f hf q hq).2.2⟩,
    fun e q hq => (b.2.2.1 e q (Nat.lt_of_lt_of_le hq a.1.1)).trans (a.2.2.1 e q hq), fun e q hq => (b.2.2.2.1 e q (Nat.lt_of_lt_of_le hq a.1.1)).trans (a.2.2.2.1 e q hq), fun e q hq => (b.2.2.2.2 e q (Nat.lt_of_lt_of_le hq a.1.1)).trans (a.2.2.2.2 e q hq)⟩
theorem sv_kp.weak {ws' : List Nat} {bI bJ bP : Bool} (a : sv_kp ws' bI bJ bP h h1) (hw : ∀ f ∈ ws', f ∈ ws) (hI : aI = false → bI = false) (hJ : aJ = false → bJ = false) (hP : aP = false → bP = false) : sv_kp ws aI aJ aP h h1 :=
  ⟨a.1, fun f hf => a.2.1 f (fun q => hf (hw f q)), fun e => a.2.2.1 (hI e), fun e => a.2.2.2.1 (hJ e), fun e => a.2.2.2.2 (hP e)⟩
theorem kp_pI {c f a : Nat} {v : Int32} (hf : f ∈ ws) (e : sv_pI h c f a v = some h1) : sv_kp ws aI aJ aP h h1 := by
  have s := (st_pI e).le
  obtain ⟨-, rfl⟩ := sv_if e
  have ne : ∀ g, g ∉ ws → g ≠ f := fun g hg z => hg (z ▸ hf)
  exact ⟨s, fun g hg q _ => ⟨(by simp [sv_uI, sv_FI, sv_up, ne g hg]), rfl, rfl⟩, fun _ _ _ => rfl, fun _ _ _ => rfl, fun _ _ _ => rfl⟩
theorem kp_pZ {c f a : Nat} {v : Int32} (hf : f ∈ ws) (e : sv_pZ h c f a v = some h1) : sv_kp ws aI aJ aP h h1 := by
  have s := (st_pZ e).le
  obtain ⟨-, rfl⟩ := sv_if e
  have ne : ∀ g, g ∉ ws → g ≠ f := fun g hg z => hg (z ▸ hf)
  exact ⟨s, fun g hg q _ => ⟨(by simp [sv_uI, sv_FI, sv_up, ne g hg]), rfl, rfl⟩, fun _ _ _ => rfl, fun _ _ _ => rfl, fun _ _ _ => rfl⟩
theorem kp_pJ {c f a : Nat} {v : Int64} (hf : f ∈ ws) (e : sv_pJ h c f a v = some h1) : sv_kp ws aI aJ aP h h1 := by
  have s := (st_pJ e).le
  obtain ⟨-, rfl⟩ := sv_if e
  have ne : ∀ g, g ∉ ws → g ≠ f := fun g hg z => hg (z ▸ hf)
  exact ⟨s, fun g hg q _ => ⟨rfl, (by simp [sv_uJ, sv_FJ, sv_up, ne g hg]), rfl⟩, fun _ _ _ => rfl, fun _ _ _ => rfl, fun _ _ _ => rfl⟩
theorem kp_pP {c f a v : Nat} (hf : f ∈ ws) (e : sv_pP h c f a v = some h1) : sv_kp ws aI aJ aP h h1 := by
  have s := (st_pP e).le
  obtain ⟨-, rfl⟩ := sv_if e
  have ne : ∀ g, g ∉ ws → g ≠ f := fun g hg z => hg (z ▸ hf)
  exact ⟨s, fun g hg q _ => ⟨rfl, rfl, (by simp [sv_uP, sv_FP, sv_up, ne g hg])⟩, fun _ _ _ => rfl, fun _ _ _ => rfl, fun _ _ _ => rfl⟩
theorem kp_sI {a : Nat} {i v : Int32} (e : sv_sI h a i v = some h1) : sv_kp ws true aJ aP h h1 := by
  have s := (st_sI e).le
  obtain ⟨-, rfl⟩ := sv_if e
  exact ⟨s, fun _ _ _ _ => ⟨rfl, rfl, rfl⟩, fun e => (by cases e), fun _ _ _ => rfl, fun _ _ _ => rfl⟩
theorem kp_sZ {a : Nat} {i v : Int32} (e : sv_sZ h a i v = some h1) : sv_kp ws true aJ aP h h1 := by
  have s := (st_sZ e).le
  obtain ⟨-, rfl⟩ := sv_if e
  exact ⟨s, fun _ _ _ _ => ⟨rfl, rfl, rfl⟩, fun e => (by cases e), fun _ _ _ => rfl, fun _ _ _ => rfl⟩
theorem kp_sB {a : Nat} {i v : Int32} (e : sv_sB h a i v = some h1) : sv_kp ws true aJ aP h h1 := by
  have s := (st_sB e).le
  obtain ⟨-, rfl⟩ := sv_if e
  exact ⟨s, fun _ _ _ _ => ⟨rfl, rfl, rfl⟩, fun e => (by cases e), fun _ _ _ => rfl, fun _ _ _ => rfl⟩
theorem kp_sJ {a : Nat} {i : Int32} {v : Int64} (e : sv_sJ h a i v = some h1) : sv_kp ws aI true aP h h1 := by
  have s := (st_sJ e).le
  obtain ⟨-, rfl⟩ := sv_if e
  exact ⟨s, fun _ _ _ _ => ⟨rfl, rfl, rfl⟩, fun _ _ _ => rfl, fun e => (by cases e), fun _ _ _ => rfl⟩
theorem kp_sP {c a : Nat} {i : Int32} {v : Nat} (e : sv_sP c h a i v = some h1) : sv_kp ws aI aJ true h h1 := by
  have s := (st_sP e).le
  obtain ⟨-, rfl⟩ := sv_if e
  exact ⟨s, fun _ _ _ _ => ⟨rfl, rfl, rfl⟩, fun _ _ _ => rfl, fun _ _ _ => rfl, fun e => (by cases e)⟩
theorem kp_copyI {src dst : Nat} {sp dp n : Int32} (e : sv_copy h 901 src sp dst dp n = some h1) : sv_kp ws true aJ aP h h1 := by
  have s := (st_copy e).le
  obtain ⟨-, rfl⟩ := sv_if e
  exact ⟨s, fun _ _ _ _ => ⟨rfl, rfl, rfl⟩, fun e => (by cases e), fun _ _ _ => rfl, fun _ _ _ => rfl⟩
theorem kp_copyJ {src dst : Nat} {sp dp n : Int32} (e : sv_copy h 902 src sp dst dp n = some h1) : sv_kp ws aI true aP h h1 := by
  have s := (st_copy e).le
  obtain ⟨-, rfl⟩ := sv_if e
  exact ⟨s, fun _ _ _ _ => ⟨rfl, rfl, rfl⟩, fun _ _ _ => rfl, fun e => (by cases e), fun _ _ _ => rfl⟩
theorem kp_mk (h : sv_H) (c n : Nat) : sv_kp ws aI aJ aP h (sv_mk h c n) := by
  have q : ∀ a, a < sv_sz h → a ≠ sv_sz h := fun a ha => Nat.ne_of_lt ha
  exact ⟨sv_mk_le h c n, fun f _ a ha => ⟨(by simp [sv_mk, sv_FI, q a ha]), (by simp [sv_mk, sv_FJ, q a ha]), (by simp [sv_mk, sv_FP, q a ha])⟩, fun _ _ _ => rfl, fun _ _ _ => rfl, fun _ _ _ => rfl⟩
theorem kp_ma (h : sv_H) (c n : Nat) : sv_kp ws aI aJ aP h (sv_ma h c n) := by
  have q : ∀ a, a < sv_sz h → a ≠ sv_sz h := fun a ha => Nat.ne_of_lt ha
  refine ⟨sv_ma_le h c n, fun _ _ _ _ => ⟨rfl, rfl, rfl⟩, fun _ a ha => ?_, fun _ a ha => ?_, fun _ a ha => ?_⟩
  · funext j; simp [sv_ma, sv_AI, q a ha]
  · funext j; simp [sv_ma, sv_AJ, q a ha]
  · funext j; simp [sv_ma, sv_AP, q a ha]
theorem fk_new {α : Type} {h0 : sv_H} {c n : Nat} {k : Nat → sv_H → Option (α × sv_H)} (hs : sv_kp ws aI aJ aP h0 h) (kk : sv_kp ws aI aJ aP h0 (sv_mk h c n) → sv_fr (sv_kp ws aI aJ aP) h0 (k (sv_sz h) (sv_mk h c n))) : sv_fr (sv_kp ws aI aJ aP) h0 (sv_new h c n k) := kk (hs.trans (kp_mk h c n))
theorem fk_na {α : Type} {h0 : sv_H} {c : Nat} {n : Int32} {k : Nat → sv_H → Option (α × sv_H)} (hs : sv_kp ws aI aJ aP h0 h) (kk : sv_kp ws aI aJ aP h0 (sv_ma h c n.toNatClampNeg) → sv_fr (sv_kp ws aI aJ aP) h0 (k (sv_sz h) (sv_ma h c n.toNatClampNeg))) : sv_fr (sv_kp ws aI aJ aP) h0 (sv_na h c n k) := by
  unfold sv_na
  exact fr_if (kk (hs.trans (kp_ma h c _))) fr_no
end KP
