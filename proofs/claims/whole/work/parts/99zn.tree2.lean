-- TREE: lists of pieces, and bounds
def cntB (f : Nat → Bool) : Nat → Nat
  | 0 => 0
  | n + 1 => cntB f n + if f n then 1 else 0
theorem cntB_add2 {f1 f2 f : Nat → Bool} {v : Nat} (h : ∀ u, (if f1 u then 1 else 0) + (if f2 u then 1 else 0) ≤ if f u then 1 else 0) (h1 : f1 v = false) (h2 : f2 v = false) (hv : f v = true) : ∀ n, cntB f1 n + cntB f2 n + (if v < n then 1 else 0) ≤ cntB f n
  | 0 => by
    rw [if_neg (by omega)]
    exact Nat.le_refl _
  | n + 1 => by
    have ih := cntB_add2 h h1 h2 hv n
    have hn := h n
    unfold cntB
    by_cases c : v = n
    · rw [if_neg (show ¬ v < n by omega)] at ih
      rw [if_pos (show v < n + 1 by omega), ← c, h1, h2, hv, if_pos rfl, if_neg (show ¬ false = true by decide)]
      rw [← c] at ih
      omega
    · by_cases d : v < n
      · rw [if_pos d] at ih
        rw [if_pos (show v < n + 1 by omega)]
        omega
      · rw [if_neg d] at ih
        rw [if_neg (show ¬ v < n + 1 by omega)]
        omega
def strN (g : Nat → Nat) (W : Nat) (P : PCE) : Nat := cntB (fun v => decide (lyP g v P = 2)) W
def phL (g : Nat → Nat) (W : Nat) : List PCE → Nat
  | [] => 0
  | P :: l => strN g W P + phL g W l
def ptS (g : Nat → Nat) (v : Nat) (side : Int) (P : PCE) : PCE := if sgZ (fT (sdA g v P.1) (sdB g v P.1) P.2.1 P.2.2.1) = side then cutF g v P else cutT g v P
def spS (g : Nat → Nat) (v : Nat) (side : Int) : List PCE → List PCE
  | [] => []
  | P :: l => if lyP g v P = 2 then ptS g v side P :: spS g v side l else if lyP g v P = side then P :: spS g v side l else spS g v side l
def onN (g : Nat → Nat) (v : Nat) : List PCE → Nat
  | [] => 0
  | P :: l => (if lyP g v P = 0 then 1 else 0) + onN g v l
def cutN (g : Nat → Nat) (v : Nat) : List PCE → Nat
  | [] => 0
  | P :: l => (if lyP g v P = 2 then 1 else 0) + cutN g v l
def blZ (g : Nat → Nat) (v : Nat) : List PCE → Int
  | [] => 0
  | P :: l => (if lyP g v P = 2 then 0 else lyP g v P) + blZ g v l
def pcs (W : Nat) (l : List PCE) : Prop := ∀ P, P ∈ l → pcOk P ∧ P.1 < W
section TS
variable {g : Nat → Nat} {W v : Nat}
theorem cut_facts {P : PCE} (h : pcOk P) (h2 : lyP g v P = 2) : (0 < ((sdA g v P.1).natAbs : Int) ∧ ((sdA g v P.1).natAbs : Int) < ((sdA g v P.1 - sdB g v P.1).natAbs : Int) ∧ P.2.1 * ((sdA g v P.1 - sdB g v P.1).natAbs : Int) < ((sdA g v P.1).natAbs : Int) * P.2.2.1 ∧ ((sdA g v P.1).natAbs : Int) * P.2.2.2.2 < P.2.2.2.1 * ((sdA g v P.1 - sdB g v P.1).natAbs : Int) ∧ fT (sdA g v P.1) (sdB g v P.1) ((sdA g v P.1).natAbs : Int) ((sdA g v P.1 - sdB g v P.1).natAbs : Int) = 0) ∧ ((sdB g v P.1 < 0 ∧ 0 < sdA g v P.1 ∧ 0 < fT (sdA g v P.1) (sdB g v P.1) P.2.1 P.2.2.1 ∧ fT (sdA g v P.1) (sdB g v P.1) P.2.2.2.1 P.2.2.2.2 < 0) ∨ (sdA g v P.1 < 0 ∧ 0 < sdB g v P.1 ∧ fT (sdA g v P.1) (sdB g v P.1) P.2.1 P.2.2.1 < 0 ∧ 0 < fT (sdA g v P.1) (sdB g v P.1) P.2.2.2.1 P.2.2.2.2)) := by
  obtain ⟨⟨a1, a2, a3, a4⟩, ⟨b1, b2, b3, b4⟩, c⟩ := h
  have k := cut_ab a1 a2 b1 b2 c a3 b3 (lieZ_two.mp h2)
  exact ⟨cut_in k, k⟩
theorem cutF_ok {P : PCE} (h : pcOk P) (h2 : lyP g v P = 2) : pcOk (cutF g v P) ∧ pcOk (cutT g v P) := by
  obtain ⟨⟨f1, f2, f3, f4, -⟩, -⟩ := cut_facts h h2
  obtain ⟨p1, p2, p3⟩ := h
  have r1 := sdA_rng g v P.1
  have r2 := sdB_rng g v P.1
  exact ⟨⟨p1, ⟨by show 0 ≤ ((sdA g v P.1).natAbs : Int); omega, by show ((sdA g v P.1).natAbs : Int) ≤ ((sdA g v P.1 - sdB g v P.1).natAbs : Int); omega, by show 0 < ((sdA g v P.1 - sdB g v P.1).natAbs : Int); omega, by show ((sdA g v P.1 - sdB g v P.1).natAbs : Int) ≤ 20000000000; omega⟩, f3⟩, ⟨⟨by show 0 ≤ ((sdA g v P.1).natAbs : Int); omega, by show ((sdA g v P.1).natAbs : Int) ≤ ((sdA g v P.1 - sdB g v P.1).natAbs : Int); omega, by show 0 < ((sdA g v P.1 - sdB g v P.1).natAbs : Int); omega, by show ((sdA g v P.1 - sdB g v P.1).natAbs : Int) ≤ 20000000000; omega⟩, p2, f4⟩⟩
theorem str_cut {P : PCE} (h : pcOk P) (h2 : lyP g v P = 2) (hv : v < W) : strN g W (cutF g v P) + strN g W (cutT g v P) + 1 ≤ strN g W P := by
  obtain ⟨⟨f1, f2, f3, f4, f5⟩, -⟩ := cut_facts h h2
  have hD := h.2.2
  have key := cntB_add2 (f1 := fun u => decide (lyP g u (cutF g v P) = 2)) (f2 := fun u => decide (lyP g u (cutT g v P) = 2)) (f := fun u => decide (lyP g u P = 2)) (v := v) ?_ ?_ ?_ (decide_eq_true h2) W
  · rw [if_pos hv] at key
    exact key
  · intro u
    have L := cut_lin (a := sdA g u P.1) (b := sdB g u P.1) f3 f4 hD
    have e1 : lyP g u (cutF g v P) = 2 ↔ _ := lieZ_two
    have e2 : lyP g u (cutT g v P) = 2 ↔ _ := lieZ_two
    have e3 : lyP g u P = 2 ↔ _ := lieZ_two
    have e1 : lyP g u (cutF g v P) = 2 ↔ (fT (sdA g u P.1) (sdB g u P.1) P.2.1 P.2.2.1 < 0 ∧ 0 < fT (sdA g u P.1) (sdB g u P.1) ((sdA g v P.1).natAbs : Int) ((sdA g v P.1 - sdB g v P.1).natAbs : Int)) ∨ (0 < fT (sdA g u P.1) (sdB g u P.1) P.2.1 P.2.2.1 ∧ fT (sdA g u P.1) (sdB g u P.1) ((sdA g v P.1).natAbs : Int) ((sdA g v P.1 - sdB g v P.1).natAbs : Int) < 0) := e1
    have e2 : lyP g u (cutT g v P) = 2 ↔ (fT (sdA g u P.1) (sdB g u P.1) ((sdA g v P.1).natAbs : Int) ((sdA g v P.1 - sdB g v P.1).natAbs : Int) < 0 ∧ 0 < fT (sdA g u P.1) (sdB g u P.1) P.2.2.2.1 P.2.2.2.2) ∨ (0 < fT (sdA g u P.1) (sdB g u P.1) ((sdA g v P.1).natAbs : Int) ((sdA g v P.1 - sdB g v P.1).natAbs : Int) ∧ fT (sdA g u P.1) (sdB g u P.1) P.2.2.2.1 P.2.2.2.2 < 0) := e2
    generalize fT (sdA g u P.1) (sdB g u P.1) P.2.1 P.2.2.1 = F1 at *
    generalize fT (sdA g u P.1) (sdB g u P.1) P.2.2.2.1 P.2.2.2.2 = F2 at *
    generalize fT (sdA g u P.1) (sdB g u P.1) ((sdA g v P.1).natAbs : Int) ((sdA g v P.1 - sdB g v P.1).natAbs : Int) = F at *
    obtain ⟨⟨L1, L2⟩, L3, L4⟩ := L
    by_cases c1 : lyP g u (cutF g v P) = 2
    · have n2 : ¬ lyP g u (cutT g v P) = 2 := by
        rw [e2]
        rcases e1.mp c1 with q | q
        · have := L1 q
          omega
        · have := L2 q
          omega
      have n3 : lyP g u P = 2 := by
        rw [e3]
        rcases e1.mp c1 with q | q
        · exact Or.inl ⟨q.1, L1 q⟩
        · exact Or.inr ⟨q.1, L2 q⟩
      rw [decide_eq_true c1, decide_eq_false n2, decide_eq_true n3]
      decide
    · by_cases c2 : lyP g u (cutT g v P) = 2
      · have n3 : lyP g u P = 2 := by
          rw [e3]
          rcases e2.mp c2 with q | q
          · exact Or.inl ⟨L3 q, q.2⟩
          · exact Or.inr ⟨L4 q, q.2⟩
        rw [decide_eq_false c1, decide_eq_true c2, decide_eq_true n3]
        decide
      · rw [decide_eq_false c1, decide_eq_false c2]
        exact Nat.zero_le _
  · refine decide_eq_false (fun z => ?_)
    have e1 : _ := lieZ_two.mp z
    have e1 : (fT (sdA g v P.1) (sdB g v P.1) P.2.1 P.2.2.1 < 0 ∧ 0 < fT (sdA g v P.1) (sdB g v P.1) ((sdA g v P.1).natAbs : Int) ((sdA g v P.1 - sdB g v P.1).natAbs : Int)) ∨ (0 < fT (sdA g v P.1) (sdB g v P.1) P.2.1 P.2.2.1 ∧ fT (sdA g v P.1) (sdB g v P.1) ((sdA g v P.1).natAbs : Int) ((sdA g v P.1 - sdB g v P.1).natAbs : Int) < 0) := e1
    rw [f5] at e1
    omega
  · refine decide_eq_false (fun z => ?_)
    have e1 : _ := lieZ_two.mp z
    have e1 : (fT (sdA g v P.1) (sdB g v P.1) ((sdA g v P.1).natAbs : Int) ((sdA g v P.1 - sdB g v P.1).natAbs : Int) < 0 ∧ 0 < fT (sdA g v P.1) (sdB g v P.1) P.2.2.2.1 P.2.2.2.2) ∨ (0 < fT (sdA g v P.1) (sdB g v P.1) ((sdA g v P.1).natAbs : Int) ((sdA g v P.1 - sdB g v P.1).natAbs : Int) ∧ fT (sdA g v P.1) (sdB g v P.1) P.2.2.2.1 P.2.2.2.2 < 0) := e1
    rw [f5] at e1
    omega
/-- the side of the first part -/
theorem ptS_pair {P : PCE} (h : pcOk P) (h2 : lyP g v P = 2) : (sgZ (fT (sdA g v P.1) (sdB g v P.1) P.2.1 P.2.2.1) = 1 ∧ ptS g v 1 P = cutF g v P ∧ ptS g v (-1) P = cutT g v P) ∨ (sgZ (fT (sdA g v P.1) (sdB g v P.1) P.2.1 P.2.2.1) = -1 ∧ ptS g v (-1) P = cutF g v P ∧ ptS g v 1 P = cutT g v P) := by
  obtain ⟨-, k⟩ := cut_facts h h2
  unfold ptS
  rcases sgZ_cases (fT (sdA g v P.1) (sdB g v P.1) P.2.1 P.2.2.1) with ⟨a, e⟩ | ⟨a, e⟩ | ⟨a, e⟩
  · rw [e]; exact Or.inr ⟨rfl, if_pos rfl, if_neg (by decide)⟩
  · omega
  · rw [e]; exact Or.inl ⟨rfl, if_pos rfl, if_neg (by decide)⟩
theorem spS_mem {side : Int} : ∀ {l : List PCE}, pcs W l → (side = 1 ∨ side = -1) → pcs W (spS g v side l)
  | [], _, _ => fun P hP => by cases hP
  | Q :: l, h, hs => by
    have hl : pcs W (spS g v side l) := spS_mem (fun P hP => h P (List.mem_cons_of_mem _ hP)) hs
    have hQ := h Q List.mem_cons_self
    unfold spS
    by_cases c : lyP g v Q = 2
    · rw [if_pos c]
      intro P hP
      rcases List.mem_cons.mp hP with z | z
      · rw [z]
        obtain ⟨k1, k2⟩ := cutF_ok hQ.1 c
        unfold ptS
        split
        · exact ⟨k1, hQ.2⟩
        · exact ⟨k2, hQ.2⟩
      · exact hl P z
    · rw [if_neg c]
      split
      · intro P hP
        rcases List.mem_cons.mp hP with z | z
        · rw [z]; exact hQ
        · exact hl P z
      · exact hl
theorem sp_count : ∀ {l : List PCE}, pcs W l → v < W → (spS g v 1 l).length + onN g v l ≤ l.length ∧ (spS g v (-1) l).length + onN g v l ≤ l.length ∧ (spS g v 1 l).length + (spS g v (-1) l).length + onN g v l = l.length + cutN g v l ∧ phL g W (spS g v 1 l) + phL g W (spS g v (-1) l) + cutN g v l ≤ phL g W l
  | [], _, _ => ⟨Nat.le_refl _, Nat.le_refl _, rfl, Nat.le_refl _⟩
  | Q :: l, h, hv => by
    obtain ⟨i1, i2, i3, i4⟩ := sp_count (l := l) (fun P hP => h P (List.mem_cons_of_mem _ hP)) hv
    have hQ := (h Q List.mem_cons_self).1
    have eS : ∀ side : Int, spS g v side (Q :: l) = if lyP g v Q = 2 then ptS g v side Q :: spS g v side l else if lyP g v Q = side then Q :: spS g v side l else spS g v side l := fun _ => rfl
    have eO : onN g v (Q :: l) = (if lyP g v Q = 0 then 1 else 0) + onN g v l := rfl
    have eC : cutN g v (Q :: l) = (if lyP g v Q = 2 then 1 else 0) + cutN g v l := rfl
    have eP : ∀ (R : PCE) (m : List PCE), phL g W (R :: m) = strN g W R + phL g W m := fun _ _ => rfl
    rw [eS, eS, eO, eC, eP, List.length_cons]
    rcases lyP_rng g v Q with c | c | c | c
    · have sc := str_cut hQ c hv
      rw [if_pos c, if_pos c, if_pos c, if_neg (by rw [c]; decide), List.length_cons, List.length_cons, eP, eP]
      rcases ptS_pair hQ c with ⟨-, e1, e2⟩ | ⟨-, e1, e2⟩
      · rw [e1, e2]; omega
      · rw [e1, e2]; omega
    · rw [c, if_neg (by decide), if_pos rfl, if_neg (by decide), if_neg (by decide), if_neg (by decide), if_neg (by decide), List.length_cons, eP]
      omega
    · rw [c, if_neg (show ¬ (0 : Int) = 2 by decide), if_neg (show ¬ (0 : Int) = 1 by decide), if_pos (show (0 : Int) = 0 from rfl), if_neg (show ¬ (0 : Int) = 2 by decide), if_neg (show ¬ (0 : Int) = -1 by decide), if_neg (show ¬ (0 : Int) = 2 by decide)]
      omega
    · rw [c, if_neg (by decide), if_neg (by decide), if_neg (by decide), if_pos rfl, if_neg (by decide), if_neg (by decide), List.length_cons, eP]
      omega
theorem onN_pos : ∀ {l : List PCE} {P : PCE}, P ∈ l → P.1 = v → 1 ≤ onN g v l
  | Q :: l, P, hP, hv => by
    unfold onN
    rcases List.mem_cons.mp hP with z | z
    · rw [← z, ← hv, lyP_self, if_pos rfl]; omega
    · have := onN_pos z hv
      omega
end TS
