-- TREE: sizes, depths and pointers of what is built
def atL {α : Type} (N : Nat → α) : Nat → List α → Prop
  | _, [] => True
  | k, x :: l => N k = x ∧ atL N (k + 1) l
theorem atL_app {α : Type} {N : Nat → α} : ∀ (a b : List α) (k : Nat), atL N k (a ++ b) → atL N k a ∧ atL N (k + a.length) b
  | [], b, k, h => ⟨trivial, h⟩
  | x :: a, b, k, h => by
    obtain ⟨h1, h2⟩ := atL_app a b (k + 1) h.2
    refine ⟨⟨h.1, h1⟩, ?_⟩
    rw [List.length_cons, show k + (a.length + 1) = k + 1 + a.length by omega]
    exact h2
theorem atL_cg {α : Type} {N M : Nat → α} : ∀ (a : List α) (k : Nat), (∀ j, k ≤ j → j < k + a.length → M j = N j) → atL N k a → atL M k a
  | [], _, _, _ => trivial
  | x :: a, k, h, h1 => by
    rw [List.length_cons] at h
    exact ⟨(h k (by omega) (by omega)).trans h1.1, atL_cg a (k + 1) (fun j x y => h j (by omega) (by omega)) h1.2⟩
theorem atL_get {α : Type} (d : α) : ∀ (a : List α) (k : Nat), atL (fun j => a.getD (j - k) d) k a
  | [], _ => trivial
  | x :: a, k => by
    refine ⟨?_, ?_⟩
    · show (x :: a).getD (k - k) d = x
      rw [Nat.sub_self]; rfl
    · refine atL_cg a (k + 1) (fun j h1 h2 => ?_) (atL_get d a (k + 1))
      show (x :: a).getD (j - k) d = a.getD (j - (k + 1)) d
      rw [show j - k = (j - (k + 1)) + 1 by omega]; rfl
def bsz (g : Nat → Nat) : Nat → List PCE → List Nat
  | 0, _ => []
  | _ + 1, [] => []
  | m + 1, P :: r => (1 + (bsz g m (spS g (bst g (P :: r)) 1 (P :: r))).length + (bsz g m (spS g (bst g (P :: r)) (-1) (P :: r))).length) :: (bsz g m (spS g (bst g (P :: r)) 1 (P :: r)) ++ bsz g m (spS g (bst g (P :: r)) (-1) (P :: r)))
section SZ
variable {g : Nat → Nat} {W : Nat}
set_option maxRecDepth 4000 in
theorem bsz_cons (m : Nat) (P : PCE) (r : List PCE) (v : Nat) (L R : List PCE) (A C : List Nat) (hv : v = bst g (P :: r)) (hL : L = spS g v 1 (P :: r)) (hR : R = spS g v (-1) (P :: r)) (hA : A = bsz g m L) (hC : C = bsz g m R) : bsz g (m + 1) (P :: r) = (1 + A.length + C.length) :: (A ++ C) := by
  rw [hC, hA, hL, hR, hv]
  rw [bsz]
theorem bsz_len : ∀ (m : Nat) (l : List PCE) (dep base leaf : Nat), (bsz g m l).length = (bld g m l dep base leaf).1.length
  | 0, l, _, _, _ => rfl
  | m + 1, [], _, _, _ => rfl
  | m + 1, P :: r, dep, base, leaf => by
    obtain ⟨v, hv⟩ : ∃ v, v = bst g (P :: r) := ⟨_, rfl⟩
    obtain ⟨L, hL⟩ : ∃ L, L = spS g v 1 (P :: r) := ⟨_, rfl⟩
    obtain ⟨R, hR⟩ : ∃ R, R = spS g v (-1) (P :: r) := ⟨_, rfl⟩
    obtain ⟨A, hA⟩ : ∃ A, A = bld g m L (dep + 1) (base + 1) leaf := ⟨_, rfl⟩
    obtain ⟨C, hC⟩ : ∃ C, C = bld g m R (dep + 1) (base + 1 + A.1.length) (leaf + A.2) := ⟨_, rfl⟩
    obtain ⟨eb, -⟩ := bld_cons m P r dep base leaf v L R A C hv hL hR hA hC
    have i1 := bsz_len m L (dep + 1) (base + 1) leaf
    have i2 := bsz_len m R (dep + 1) (base + 1 + A.1.length) (leaf + A.2)
    rw [← hA] at i1
    rw [← hC] at i2
    rw [bsz_cons m P r v L R _ _ hv hL hR rfl rfl, eb]
    dsimp only
    rw [List.length_cons, List.length_cons, List.length_append, List.length_append, i1, i2]
/-- what holds within a part of the tree -/
def ndF (N : Nat → ND) (Z : Nat → Nat) (i e : Nat) : Prop := 1 ≤ Z i ∧ i + Z i ≤ e ∧ (∀ j, i < j → j < i + Z i → (N i).2.2.1 < (N j).2.2.1) ∧ (i + Z i < e → (N (i + Z i)).2.2.1 ≤ (N i).2.2.1) ∧ ∃ a b, Z i = 1 + a + b ∧ ((a = 0 ∧ (N i).2.2.2.1 < 0) ∨ (0 < a ∧ (N i).2.2.2.1 = ((i + 1 : Nat) : Int) ∧ Z (i + 1) = a)) ∧ ((b = 0 ∧ (N i).2.2.2.2 < 0) ∨ (0 < b ∧ (N i).2.2.2.2 = ((i + 1 + a : Nat) : Int) ∧ Z (i + 1 + a) = b))
def sgF (N : Nat → ND) (Z : Nat → Nat) (lo n d : Nat) : Prop := (∀ i, lo ≤ i → i < lo + n → d ≤ (N i).2.2.1 ∧ ndF N Z i (lo + n)) ∧ (0 < n → (N lo).2.2.1 = d ∧ Z lo = n)
theorem ptr_cs {m : Nat} {l : List PCE} (dep base leaf : Nat) (hm : l.length ≤ m) (b f : Nat) : ((bld g m l dep base leaf).1.length = 0 ∧ ptrT l b f < 0) ∨ (0 < (bld g m l dep base leaf).1.length ∧ ptrT l b f = (b : Int)) := by
  cases l with
  | nil =>
    refine Or.inl ⟨by cases m <;> rfl, ?_⟩
    show -1 - (f : Int) < 0
    omega
  | cons P r =>
    refine Or.inr ⟨?_, rfl⟩
    cases m with
    | zero => rw [List.length_cons] at hm; omega
    | succ m =>
      rw [bld]
      exact Nat.succ_pos _
theorem seg_facts {N : Nat → ND} {Z : Nat → Nat} : ∀ (m : Nat) (l : List PCE) (dep base leaf : Nat), pcs W l → l.length ≤ m → l.length ≤ 128 → atL N base (bld g m l dep base leaf).1 → atL Z base (bsz g m l) → sgF N Z base (bld g m l dep base leaf).1.length dep := by
  intro m
  induction m with
  | zero =>
    intro l dep base leaf _ _ _ _ _
    have e : (bld g 0 l dep base leaf).1.length = 0 := rfl
    rw [e]
    exact ⟨fun i h1 h2 => by omega, fun h => by omega⟩
  | succ m ih =>
    intro l dep base leaf hp hm h8 hN hZ
    cases l with
    | nil =>
      have e : (bld g (m + 1) [] dep base leaf).1.length = 0 := rfl
      rw [e]
      exact ⟨fun i h1 h2 => by omega, fun h => by omega⟩
    | cons P r =>
      obtain ⟨-, -, ⟨sp3, sp4⟩, ⟨sp5, sp6⟩, -⟩ := sp_step (g := g) hp h8
      obtain ⟨v, hv⟩ : ∃ v, v = bst g (P :: r) := ⟨_, rfl⟩
      rw [← hv] at sp3 sp4 sp5 sp6
      obtain ⟨L, hL⟩ : ∃ L, L = spS g v 1 (P :: r) := ⟨_, rfl⟩
      obtain ⟨R, hR⟩ : ∃ R, R = spS g v (-1) (P :: r) := ⟨_, rfl⟩
      rw [← hL] at sp3 sp4
      rw [← hR] at sp5 sp6
      obtain ⟨A, hA⟩ : ∃ A, A = bld g m L (dep + 1) (base + 1) leaf := ⟨_, rfl⟩
      obtain ⟨C, hC⟩ : ∃ C, C = bld g m R (dep + 1) (base + 1 + A.1.length) (leaf + A.2) := ⟨_, rfl⟩
      obtain ⟨eb, -⟩ := bld_cons m P r dep base leaf v L R A C hv hL hR hA hC
      have zA := bsz_len (g := g) m L (dep + 1) (base + 1) leaf
      have zC := bsz_len (g := g) m R (dep + 1) (base + 1 + A.1.length) (leaf + A.2)
      rw [← hA] at zA
      rw [← hC] at zC
      have pA := ptr_cs (g := g) (m := m) (l := L) (dep + 1) (base + 1) leaf (by rw [List.length_cons] at hm; omega) (base + 1) leaf
      have pC := ptr_cs (g := g) (m := m) (l := R) (dep + 1) (base + 1 + A.1.length) (leaf + A.2) (by rw [List.length_cons] at hm; omega) (base + 1 + A.1.length) (leaf + A.2)
      rw [← hA] at pA
      rw [← hC] at pC
      rw [bsz_cons m P r v L R _ _ hv hL hR rfl rfl, zA, zC] at hZ
      rw [eb] at hN ⊢
      dsimp only at hN ⊢
      rw [List.length_cons, List.length_append]
      rw [List.length_cons] at hm h8
      obtain ⟨hN0, hN1⟩ := hN
      obtain ⟨hZ0, hZ1⟩ := hZ
      obtain ⟨nA, nC⟩ := atL_app _ _ _ hN1
      obtain ⟨xA, xC⟩ := atL_app _ _ _ hZ1
      rw [zA] at xC
      have FA := ih L (dep + 1) (base + 1) leaf sp3 (by omega) (by omega) (by rw [← hA]; exact nA) xA
      have FC := ih R (dep + 1) (base + 1 + A.1.length) (leaf + A.2) sp5 (by omega) (by omega) (by rw [← hC]; exact nC) xC
      rw [← hA] at FA
      rw [← hC] at FC
      obtain ⟨a, ha⟩ : ∃ a, a = A.1.length := ⟨_, rfl⟩
      obtain ⟨c, hc⟩ : ∃ c, c = C.1.length := ⟨_, rfl⟩
      rw [← ha] at FA FC pA pC hZ0 hN0 ⊢
      rw [← hc] at FC pC hZ0 ⊢
      obtain ⟨f1, f2⟩ := FA
      obtain ⟨k1, k2⟩ := FC
      have d0 : (N base).2.2.1 = dep := by rw [hN0]
      have l0 : (N base).2.2.2.1 = ptrT L (base + 1) leaf := by rw [hN0]
      have r0 : (N base).2.2.2.2 = ptrT R (base + 1 + a) (leaf + A.2) := by rw [hN0]
      refine ⟨fun i h1 h2 => ?_, fun _ => ⟨d0, by omega⟩⟩
      by_cases e0 : i = base
      · subst e0
        refine ⟨by omega, by omega, by omega, fun j h3 h4 => ?_, fun h => absurd h (by omega), a, c, hZ0, ?_, ?_⟩
        · rw [d0]
          by_cases q : j < i + 1 + a
          · have := (f1 j (by omega) q).1
            omega
          · have := (k1 j (by omega) (by omega)).1
            omega
        · rw [l0]
          rcases pA with ⟨z1, z2⟩ | ⟨z1, z2⟩
          · exact Or.inl ⟨z1, z2⟩
          · exact Or.inr ⟨z1, z2, (f2 z1).2⟩
        · rw [r0]
          rcases pC with ⟨z1, z2⟩ | ⟨z1, z2⟩
          · exact Or.inl ⟨z1, z2⟩
          · exact Or.inr ⟨z1, z2, (k2 z1).2⟩
      · by_cases q : i < base + 1 + a
        · obtain ⟨w1, w2, w3, w4, w5, w6⟩ := f1 i (by omega) q
          refine ⟨by omega, w2, by omega, w4, fun h => ?_, w6⟩
          by_cases y : i + Z i < base + 1 + a
          · exact w5 y
          · have y2 : i + Z i = base + 1 + a := by omega
            rw [y2, (k2 (by omega)).1]
            exact w1
        · obtain ⟨w1, w2, w3, w4, w5, w6⟩ := k1 i (by omega) (by omega)
          exact ⟨by omega, w2, by omega, w4, fun h => w5 (by omega), w6⟩
def trD (g : Nat → Nat) (W k : Nat) : ND := (trN g W).getD k (0, 0, 0, 0, 0)
def trZ (g : Nat → Nat) (W k : Nat) : Nat := (bsz g 128 (l00 W)).getD k 0
theorem tr_facts (hB : phB g W) : sgF (trD g W) (trZ g W) 0 (trN g W).length 0 := by
  obtain ⟨p1, p2⟩ := l00_pcs W
  have hW := hB.1
  exact seg_facts (W := W) 128 (l00 W) 0 0 0 p1 (by omega) (by omega) (atL_get _ _ 0) (atL_get _ _ 0)
theorem tr_nd (hB : phB g W) {i : Nat} (hi : i < (trN g W).length) : ndF (trD g W) (trZ g W) i (trN g W).length := by
  have h := ((tr_facts hB).1 i (by omega) (by omega)).2
  rw [Nat.zero_add] at h
  exact h
theorem ndsC_at {B : Nat} {s : vt_S} : ∀ (a : List ND) (k : Nat), ndsC B s k a → ∀ j, k ≤ j → j < k + a.length → ndC B s j (a.getD (j - k) (0, 0, 0, 0, 0))
  | [], k, _, j, h1, h2 => by rw [List.length_nil] at h2; omega
  | N :: a, k, h, j, h1, h2 => by
    rw [List.length_cons] at h2
    by_cases c : j = k
    · rw [c, Nat.sub_self]; exact h.1
    · have := ndsC_at a (k + 1) h.2 j (by omega) (by omega)
      rw [show j - k = (j - (k + 1)) + 1 by omega]
      exact this
theorem ndsR_at {B : Nat} {s : vt_S} : ∀ (a : List ND) (k : Nat), ndsR B s k a → ∀ j, k ≤ j → j < k + a.length → ndR B s j (a.getD (j - k) (0, 0, 0, 0, 0))
  | [], k, _, j, h1, h2 => by rw [List.length_nil] at h2; omega
  | N :: a, k, h, j, h1, h2 => by
    rw [List.length_cons] at h2
    by_cases c : j = k
    · rw [c, Nat.sub_self]; exact h.1
    · have := ndsR_at a (k + 1) h.2 j (by omega) (by omega)
      rw [show j - k = (j - (k + 1)) + 1 by omega]
      exact this
end SZ
