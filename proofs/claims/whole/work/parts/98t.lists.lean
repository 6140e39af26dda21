-- ROWS as lists
def lf (l : List Nat) (i : Nat) : Nat := l.getD i 0
def rowL (s : vt_S) (a : Nat) (l : List Nat) : Prop := rowC s a (lf l) l.length
def rowP (B : Nat) (s : vt_S) (l : List Nat) : Prop := vt_I s 1607 (B + 643) = nI l.length ∧ vt_L s 1606 (B + 643) = 4200 ∧ ∀ i, i < l.length → vt_A s 1606 (B + 643) i = nI (lf l i) ∧ lf l i < 256
theorem lf_app (l : List Nat) (b i : Nat) (h : i < l.length + 1) : lf (l ++ [b]) i = if i = l.length then b else lf l i := by
  unfold lf
  by_cases c : i = l.length
  · rw [if_pos c, c, List.getD_eq_getElem?_getD, List.getElem?_append_right (Nat.le_refl _), Nat.sub_self]; rfl
  · rw [if_neg c, List.getD_eq_getElem?_getD, List.getD_eq_getElem?_getD, List.getElem?_append_left (by omega)]
section LI
variable {s : vt_S} {a B : Nat} {l : List Nat}
theorem c_putL (b : Int32) (h : rowL s a l) (hn : l.length < 8192) : ∃ s1, ab_X0_put a b s = some ((), s1) ∧ rwk a s s1 ∧ rowL s1 a (l ++ [by8 b]) := by
  obtain ⟨s1, h1, h2, h3⟩ := row_put b h hn
  refine ⟨s1, h1, h2, ?_⟩
  unfold rowL
  rw [List.length_append]
  exact h3.congr (fun i hi => (lf_app l (by8 b) i hi).symm)
theorem and_by8 (b : Int32) : b &&& 255 = nI (by8 b) := by
  obtain ⟨v, e, -, -⟩ := zI_ex b
  rw [e, zI_and255, nI_z, by8_z]
theorem r_putL (b : Int32) (h : rowP B s l) (hn : l.length < 4200) : ∃ s1, ab_X15_put (B + 643) b s = some ((), s1) ∧ vk [1607] [1606] [] (fun _ => True) s s1 ∧ rowP B s1 (l ++ [by8 b]) := by
  obtain ⟨h1, h2, h3⟩ := h
  refine ⟨vu_I (vu_A s 1606 (B + 643) l.length (nI (by8 b))) 1607 (B + 643) (nI (l.length + 1)), ?_, vk.pI (vk.pA (vk.refl s) (by decide)) (by decide), ?_⟩
  · unfold ab_X15_put
    rw [slet, h1, and_by8, vs_I_ok (by omega) (by omega), obs, slet, slet, I_A, h1, nI_1]
  · refine ⟨?_, h2, fun i hi => ?_⟩
    · rw [I_at, List.length_append]; rfl
    · rw [List.length_append] at hi
      rw [A_I, A_at, lf_app l _ i hi]
      by_cases c : i = l.length
      · rw [if_pos c, if_pos c]; exact ⟨rfl, by8_lt b⟩
      · rw [if_neg c, if_neg c]
        exact h3 i (by have : i < l.length + 1 := hi; omega)
end LI
-- GROUPS of inputs
def whl (i : IN) : Bool := decide (i.2.1 ≠ 0 ∨ i.2.2.1 ≠ 0)
def grp (i : IN) (t : Nat) : List Nat := [t + (if i.2.2.2 then 64 else 0) + (if whl i then 128 else 0), (i.1 + 64).toNat] ++ if whl i then [(i.2.1 + 64).toNat, (i.2.2.1 + 16).toNat] else []
def rl (I : Nat → IN) (m i : Nat) : Nat → Nat → Nat
  | 0, t => t
  | d + 1, t => if 63 ≤ t then t else if m ≤ i + t then t else if I (i + t) = I i then rl I m i d (t + 1) else t
def cl (I : Nat → IN) (m : Nat) : Nat → Nat → Nat → List Nat
  | 0, _, _ => []
  | d + 1, t, i => if t + 1 = 63 ∨ i + 1 = m ∨ I (i + 1) ≠ I i then grp (I i) (t + 1) ++ cl I m d 0 (i + 1) else cl I m d (t + 1) (i + 1)
theorem rl_le (I : Nat → IN) (m i : Nat) : ∀ d t, t ≤ 63 → i + t ≤ m → t ≤ rl I m i d t ∧ rl I m i d t ≤ 63 ∧ i + rl I m i d t ≤ m := by
  intro d
  induction d with
  | zero => intro t h1 h2; exact ⟨Nat.le_refl _, h1, h2⟩
  | succ d ih =>
    intro t h1 h2
    unfold rl
    split
    · exact ⟨Nat.le_refl _, h1, h2⟩
    · split
      · exact ⟨Nat.le_refl _, h1, h2⟩
      · split
        · have := ih (t + 1) (by omega) (by omega)
          omega
        · exact ⟨Nat.le_refl _, h1, h2⟩
theorem cl_rl (I : Nat → IN) (m i : Nat) : ∀ d t e, t < 63 → i + t < m → 63 ≤ t + 1 + e → d = m - (i + t) → (∀ j, j ≤ t → I (i + j) = I i) → cl I m d t (i + t) = grp (I i) (rl I m i e (t + 1)) ++ cl I m (m - (i + rl I m i e (t + 1))) 0 (i + rl I m i e (t + 1)) := by
  intro d
  induction d with
  | zero => intro t e h1 h2 h3 h4 h5; omega
  | succ d ih =>
    intro t e h1 h2 h3 h4 h5
    have fin : ∀ z, z = t + 1 → grp (I (i + t)) (t + 1) ++ cl I m d 0 (i + t + 1) = grp (I i) z ++ cl I m (m - (i + z)) 0 (i + z) := by
      intro z hz
      rw [hz, h5 t (Nat.le_refl _), show m - (i + (t + 1)) = d by omega, Nat.add_assoc]
    show (if t + 1 = 63 ∨ i + t + 1 = m ∨ I (i + t + 1) ≠ I (i + t) then grp (I (i + t)) (t + 1) ++ cl I m d 0 (i + t + 1) else cl I m d (t + 1) (i + t + 1)) = _
    by_cases c1 : t + 1 = 63
    · rw [if_pos (Or.inl c1)]
      refine fin _ ?_
      cases e with
      | zero => rfl
      | succ e => show (if 63 ≤ t + 1 then _ else _) = _; rw [if_pos (by omega)]
    · obtain ⟨e, rfl⟩ : ∃ q, e = q + 1 := ⟨e - 1, by omega⟩
      have er : rl I m i (e + 1) (t + 1) = if m ≤ i + (t + 1) then t + 1 else if I (i + (t + 1)) = I i then rl I m i e (t + 1 + 1) else t + 1 := by
        show (if 63 ≤ t + 1 then _ else _) = _
        rw [if_neg (by omega)]
      by_cases c2 : i + t + 1 = m
      · rw [if_pos (Or.inr (Or.inl c2))]
        refine fin _ ?_
        rw [er, if_pos (by omega)]
      · by_cases c3 : I (i + t + 1) = I (i + t)
        · rw [if_neg (by intro z; rcases z with z | z | z <;> contradiction)]
          have e3 : I (i + (t + 1)) = I i := by rw [← Nat.add_assoc, c3]; exact h5 t (Nat.le_refl _)
          rw [er, if_neg (by omega), if_pos e3, Nat.add_assoc i t 1]
          exact ih (t + 1) e (by omega) (by omega) (by omega) (by omega) (fun j hj => by
            by_cases z : j = t + 1
            · rw [z]; exact e3
            · exact h5 j (by omega))
        · rw [if_pos (Or.inr (Or.inr c3))]
          refine fin _ ?_
          rw [er, if_neg (by omega), if_neg (by rw [← h5 t (Nat.le_refl _), ← Nat.add_assoc]; exact c3)]
