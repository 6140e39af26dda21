-- TREE, the class: a chain is split
section SP
variable {B p W : Nat} {g : Nat → Nat}
theorem ly_cut {v : Nat} {P : PCE} (h : pcOk P) (h2 : lyP g v P = 2) : ∃ left : Bool, lyP g v (cutF g v P) = (if left then 1 else -1) ∧ lyP g v (cutT g v P) = (if !left then 1 else -1) ∧ ptS g v (if left then 1 else -1) P = cutF g v P ∧ ptS g v (if !left then 1 else -1) P = cutT g v P := by
  have k := cut_facts h h2
  have e1 : lyP g v (cutF g v P) = lieZ (sgZ (fT (sdA g v P.1) (sdB g v P.1) P.2.1 P.2.2.1)) (sgZ (fT (sdA g v P.1) (sdB g v P.1) ((sdA g v P.1).natAbs : Int) ((sdA g v P.1 - sdB g v P.1).natAbs : Int))) := rfl
  have e2 : lyP g v (cutT g v P) = lieZ (sgZ (fT (sdA g v P.1) (sdB g v P.1) ((sdA g v P.1).natAbs : Int) ((sdA g v P.1 - sdB g v P.1).natAbs : Int))) (sgZ (fT (sdA g v P.1) (sdB g v P.1) P.2.2.2.1 P.2.2.2.2)) := rfl
  have e0 : sgZ (fT (sdA g v P.1) (sdB g v P.1) ((sdA g v P.1).natAbs : Int) ((sdA g v P.1 - sdB g v P.1).natAbs : Int)) = 0 := by rw [k.1.2.2.2.2]; rfl
  rw [e0] at e1 e2
  rcases ptS_pair h h2 with ⟨x, y, z⟩ | ⟨x, y, z⟩
  · refine ⟨true, ?_, ?_, y, z⟩
    · rw [e1, x]; rfl
    · have : sgZ (fT (sdA g v P.1) (sdB g v P.1) P.2.2.2.1 P.2.2.2.2) = -1 := by
        rcases sgZ_cases (fT (sdA g v P.1) (sdB g v P.1) P.2.1 P.2.2.1) with ⟨a, q⟩ | ⟨a, q⟩ | ⟨a, q⟩
        · omega
        · omega
        · rcases sgZ_cases (fT (sdA g v P.1) (sdB g v P.1) P.2.2.2.1 P.2.2.2.2) with ⟨b, r⟩ | ⟨b, r⟩ | ⟨b, r⟩
          · exact r
          · omega
          · omega
      rw [e2, this]; rfl
  · refine ⟨false, ?_, ?_, y, z⟩
    · rw [e1, x]; rfl
    · have : sgZ (fT (sdA g v P.1) (sdB g v P.1) P.2.2.2.1 P.2.2.2.2) = 1 := by
        rcases sgZ_cases (fT (sdA g v P.1) (sdB g v P.1) P.2.1 P.2.2.1) with ⟨a, q⟩ | ⟨a, q⟩ | ⟨a, q⟩
        · rcases sgZ_cases (fT (sdA g v P.1) (sdB g v P.1) P.2.2.2.1 P.2.2.2.2) with ⟨b, r⟩ | ⟨b, r⟩ | ⟨b, r⟩
          · omega
          · omega
          · exact r
        · omega
        · omega
      rw [e2, this]; rfl
/-- lists that share nothing -/
def djL (is : List Nat) (X : Bool → List Nat) : Prop := is.Nodup ∧ (∀ b, (X b).Nodup) ∧ (∀ b i, i ∈ is → i ∉ X b) ∧ ∀ b i, i ∈ X b → i ∉ X (!b)
def inX (cnt : Nat) (is : List Nat) (X : Bool → List Nat) : Prop := (∀ i, i ∈ is → i < cnt) ∧ ∀ b i, i ∈ X b → i < cnt
def apX {α : Type} (X : Bool → List α) (left : Bool) (x : α) : Bool → List α := fun b => if b = left then X b ++ [x] else X b
theorem apX_mem {X : Bool → List Nat} {left b : Bool} {x i : Nat} : i ∈ apX X left x b ↔ i ∈ X b ∨ (b = left ∧ i = x) := by
  unfold apX
  by_cases c : b = left
  · rw [if_pos c]; simp [c]
  · rw [if_neg c]; simp [c]
theorem djL_app {i : Nat} {is : List Nat} {X : Bool → List Nat} {left : Bool} (h : djL is X) (h1 : i ∉ is) (h2 : ∀ b, i ∉ X b) : djL is (apX X left i) := by
  obtain ⟨a1, a2, a3, a4⟩ := h
  refine ⟨a1, fun b => ?_, fun b j hj hx => ?_, fun b j hj hx => ?_⟩
  · unfold apX
    by_cases c : b = left
    · rw [if_pos c]; exact nd_snoc (a2 b) (h2 b)
    · rw [if_neg c]; exact a2 b
  · rcases apX_mem.mp hx with z | ⟨-, z⟩
    · exact a3 b j hj z
    · rw [z] at hj; exact h1 hj
  · rcases apX_mem.mp hj with z | ⟨z1, z2⟩
    · rcases apX_mem.mp hx with y | ⟨-, y⟩
      · exact a4 b j z y
      · rw [y] at z; exact h2 b z
    · rcases apX_mem.mp hx with y | ⟨y, -⟩
      · rw [z2] at y; exact h2 _ y
      · rw [z1] at y; cases left <;> cases y
def acs (B : Nat) (s : vt_S) (X : Bool → List Nat) (Y : Bool → List PCE) : Prop := ∀ b, acC B s (lrF b) (lrG b) (X b) (Y b)
def nxC (B : Nat) (s s1 : vt_S) (i : Nat) : Prop := vlC B s s1 i ∧ vt_A s1 201 (B + 7) i = vt_A s 201 (B + 7) i
theorem nxC.trans {s s1 s2 : vt_S} {i : Nat} (h : nxC B s s1 i) (k : nxC B s1 s2 i) : nxC B s s2 i := ⟨h.1.trans k.1, k.2.trans h.2⟩
theorem bool3 : ∀ b left : Bool, b = left ∨ b = !left := by decide
theorem not_ne : ∀ b left : Bool, b ≠ left → b = !left := by decide
/-- what stays as pieces are dealt with -/
def pcQ (B p : Nat) (g : Nat → Nat) (W : Nat) (s : vt_S) (K cnt : Nat) : Prop := cTw B p g W s ∧ pcL B s K ∧ (∃ e, K = 128 * 2 ^ e) ∧ cnt ≤ K ∧ vt_I s 206 (B + 7) = nI cnt
def ndQ (B : Nat) (s : vt_S) (KN node o ons : Nat) : Prop := vt_L s 904 (B + 6) = KN ∧ vt_A s 904 (B + 6) node = nI o ∧ vt_I s 913 (B + 6) = nI ons
theorem pcQ.vk {s s1 : vt_S} {K cnt : Nat} {ws rs : List Nat} (h : pcQ B p g W s K cnt) (k : vk ws rs [] (fun _ => True) s s1) (hk : cTw B p g W s1) (h6 : 206 ∉ ws) : pcQ B p g W s1 K cnt := by
  obtain ⟨h1, h2, h3, h4, h5⟩ := h
  refine ⟨hk, ?_, h3, h4, by rw [k.eI h6]; exact h5⟩
  have eL : ∀ f, vt_L s1 f (B + 7) = vt_L s f (B + 7) := fun f => k.2.2.2.1 f _ (Or.inl (by intro z; cases z))
  unfold pcL
  rw [eL, eL, eL, eL, eL, eL]
  exact h2
theorem c_app1 {s : vt_S} {K cnt i KN node o ons : Nat} {left : Bool} {is : List Nat} {X : Bool → List Nat} {Y : Bool → List PCE} {P : PCE} (hQ : pcQ B p g W s K cnt) (hN : ndQ B s KN node o ons) (hi : i < cnt) (hn : djL is X) (hni : i ∉ is) (hnX : ∀ b, i ∉ X b) (hb : inX cnt is X) (hp : pvC B s i P) (hac : acs B s X Y) : ∃ s1, ab_X8_append (B + 6) (nI i) (zI (if left then 1 else -1)) s = some ((), s1) ∧ pcQ B p g W s1 K cnt ∧ ndQ B s1 KN node o ons ∧ djL is (apX X left i) ∧ inX cnt is (apX X left i) ∧ acs B s1 (apX X left i) (apX Y left P) ∧ (∀ j, vlC B s s1 j) ∧ (∀ j, j ≠ i → (∀ b, j ∉ X b) → nxC B s s1 j) ∧ (∀ j, vt_A s1 904 (B + 6) j = vt_A s 904 (B + 6) j) ∧ vt_z s1 = vt_z s ∧ vt_l s1 = vt_l s := by
  have hQ' := hQ
  obtain ⟨q1, q2, q3, q4, q5⟩ := hQ'
  obtain ⟨s1, a1, a2, a3, a4, a5, a6, a7⟩ := c_append (left := left) q1.2.2 q2 (by omega) (hn.2.1 left) (hnX left) (fun j hj => by have := hb.2 left j hj; omega) hp (hac left)
  have eL : ∀ f a, vt_L s1 f a = vt_L s f a := fun f a => a7.2.2.2.1 f a (Or.inl (by intro z; cases z))
  refine ⟨s1, a1, hQ.vk a7 (a7.keep0 (P := cTw B p g W) q1) (by decide), ⟨by rw [eL]; exact hN.1, by rw [a7.aA (by decide)]; exact hN.2.1, by rw [a7.eI (by decide)]; exact hN.2.2⟩, djL_app hn hni hnX, ⟨hb.1, fun b j hj => ?_⟩, fun b => ?_, a3, fun j h1 h2 => ⟨a3 j, a4 j h1 (h2 left)⟩, fun j => by rw [a7.aA (by decide)], (a7.2.2.2.2 rfl).1, (a7.2.2.2.2 rfl).2⟩
  · rcases apX_mem.mp hj with z | ⟨-, z⟩
    · exact hb.2 b j z
    · omega
  · by_cases c : b = left
    · subst c
      have e1 : apX X b i b = X b ++ [i] := if_pos rfl
      have e2 : apX Y b P b = Y b ++ [P] := if_pos rfl
      rw [e1, e2]
      exact a2
    · have e1 : apX X left i b = X b := if_neg c
      have e2 : apX Y left P b = Y b := if_neg c
      rw [e1, e2]
      have c' := not_ne b left c
      refine acC_cg (hac b) (by rw [c']; exact a5) (by rw [c']; exact a6) (fun j hj => ⟨a3 j, a4 j (fun z => hnX b (by rw [← z]; exact hj)) (fun z => ?_)⟩)
      rw [c'] at hj
      exact hn.2.2.2 left j z hj
end SP
