-- TREE: costs, the best line, the tree that is built
def csZ (g : Nat → Nat) (v : Nat) (l : List PCE) : Int := 4 * (cutN g v l : Int) + ((blZ g v l).natAbs : Int)
def bsG (g : Nat → Nat) (full : List PCE) : Nat → List PCE → Nat → Int → Nat
  | 0, _, b, _ => b
  | _ + 1, [], b, _ => b
  | k + 1, P :: r, b, m => if csZ g P.1 full < m then bsG g full k r P.1 (csZ g P.1 full) else bsG g full k r b m
def bst (g : Nat → Nat) (l : List PCE) : Nat := bsG g l 16 l 0 1073741824
abbrev ND : Type := Nat × Nat × Nat × Int × Int
def ptrT : List PCE → Nat → Nat → Int
  | [], _, f => -1 - (f : Int)
  | _ :: _, b, _ => (b : Int)
def bld (g : Nat → Nat) : Nat → List PCE → Nat → Nat → Nat → List ND × Nat
  | 0, _, _, _, _ => ([], 1)
  | _ + 1, [], _, _, _ => ([], 1)
  | m + 1, P :: r, dep, base, leaf => ((bst g (P :: r), onN g (bst g (P :: r)) (P :: r), dep, ptrT (spS g (bst g (P :: r)) 1 (P :: r)) (base + 1) leaf, ptrT (spS g (bst g (P :: r)) (-1) (P :: r)) (base + 1 + (bld g m (spS g (bst g (P :: r)) 1 (P :: r)) (dep + 1) (base + 1) leaf).1.length) (leaf + (bld g m (spS g (bst g (P :: r)) 1 (P :: r)) (dep + 1) (base + 1) leaf).2)) :: ((bld g m (spS g (bst g (P :: r)) 1 (P :: r)) (dep + 1) (base + 1) leaf).1 ++ (bld g m (spS g (bst g (P :: r)) (-1) (P :: r)) (dep + 1) (base + 1 + (bld g m (spS g (bst g (P :: r)) 1 (P :: r)) (dep + 1) (base + 1) leaf).1.length) (leaf + (bld g m (spS g (bst g (P :: r)) 1 (P :: r)) (dep + 1) (base + 1) leaf).2)).1), (bld g m (spS g (bst g (P :: r)) 1 (P :: r)) (dep + 1) (base + 1) leaf).2 + (bld g m (spS g (bst g (P :: r)) (-1) (P :: r)) (dep + 1) (base + 1 + (bld g m (spS g (bst g (P :: r)) 1 (P :: r)) (dep + 1) (base + 1) leaf).1.length) (leaf + (bld g m (spS g (bst g (P :: r)) 1 (P :: r)) (dep + 1) (base + 1) leaf).2)).2)
def bcut (g : Nat → Nat) : Nat → List PCE → Nat
  | 0, _ => 0
  | _ + 1, [] => 0
  | m + 1, P :: r => cutN g (bst g (P :: r)) (P :: r) + bcut g m (spS g (bst g (P :: r)) 1 (P :: r)) + bcut g m (spS g (bst g (P :: r)) (-1) (P :: r))
section TB
variable {g : Nat → Nat} {W : Nat}
theorem cs_bnd {v : Nat} : ∀ l : List PCE, cutN g v l ≤ l.length ∧ (blZ g v l).natAbs ≤ l.length
  | [] => ⟨Nat.le_refl _, Nat.le_refl _⟩
  | P :: l => by
    obtain ⟨i1, i2⟩ := cs_bnd (v := v) l
    have e1 : cutN g v (P :: l) = (if lyP g v P = 2 then 1 else 0) + cutN g v l := rfl
    have e2 : blZ g v (P :: l) = (if lyP g v P = 2 then 0 else lyP g v P) + blZ g v l := rfl
    rw [e1, e2, List.length_cons]
    rcases lyP_rng g v P with c | c | c | c
    · rw [if_pos c, if_pos c]; omega
    · rw [c, if_neg (by decide), if_neg (by decide)]; omega
    · rw [c, if_neg (by decide), if_neg (by decide)]; omega
    · rw [c, if_neg (by decide), if_neg (by decide)]; omega
theorem cs_rng {v : Nat} {l : List PCE} (h : l.length ≤ 128) : 0 ≤ csZ g v l ∧ csZ g v l ≤ 640 := by
  obtain ⟨i1, i2⟩ := cs_bnd (g := g) (v := v) l
  unfold csZ
  omega
theorem bst_c {P : PCE} {r : List PCE} (h : (P :: r).length ≤ 128) : bsG g (P :: r) 16 (P :: r) P.1 81920 = bst g (P :: r) := by
  have c := cs_rng (g := g) (v := P.1) h
  have e : ∀ (b : Nat) (m : Int), 640 < m → bsG g (P :: r) 16 (P :: r) b m = bsG g (P :: r) 15 r P.1 (csZ g P.1 (P :: r)) := by
    intro b m hm
    show (if csZ g P.1 (P :: r) < m then _ else _) = _
    rw [if_pos (by omega)]
  unfold bst
  rw [e _ _ (by omega), e _ _ (by omega)]
theorem bsG_mem {full : List PCE} : ∀ (k : Nat) (l : List PCE) (b : Nat) (m : Int), (∃ P, P ∈ full ∧ P.1 = b) → (∀ P, P ∈ l → P ∈ full) → ∃ P, P ∈ full ∧ P.1 = bsG g full k l b m
  | 0, _, _, _, h, _ => h
  | _ + 1, [], _, _, h, _ => h
  | k + 1, Q :: r, b, m, h, hl => by
    show ∃ P, P ∈ full ∧ P.1 = if csZ g Q.1 full < m then bsG g full k r Q.1 (csZ g Q.1 full) else bsG g full k r b m
    have hr : ∀ P, P ∈ r → P ∈ full := fun P hP => hl P (List.mem_cons_of_mem _ hP)
    split
    · exact bsG_mem k r _ _ ⟨Q, hl Q List.mem_cons_self, rfl⟩ hr
    · exact bsG_mem k r _ _ h hr
theorem bst_mem {P : PCE} {r : List PCE} (h : (P :: r).length ≤ 128) : ∃ Q, Q ∈ P :: r ∧ Q.1 = bst g (P :: r) := by
  rw [← bst_c h]
  exact bsG_mem _ _ _ _ ⟨P, List.mem_cons_self, rfl⟩ (fun Q hQ => hQ)
/-- what a step leaves -/
theorem sp_step {P : PCE} {r : List PCE} (h : pcs W (P :: r)) (h8 : (P :: r).length ≤ 128) : bst g (P :: r) < W ∧ 1 ≤ onN g (bst g (P :: r)) (P :: r) ∧ (pcs W (spS g (bst g (P :: r)) 1 (P :: r)) ∧ (spS g (bst g (P :: r)) 1 (P :: r)).length ≤ r.length) ∧ (pcs W (spS g (bst g (P :: r)) (-1) (P :: r)) ∧ (spS g (bst g (P :: r)) (-1) (P :: r)).length ≤ r.length) ∧ (spS g (bst g (P :: r)) 1 (P :: r)).length + (spS g (bst g (P :: r)) (-1) (P :: r)).length + onN g (bst g (P :: r)) (P :: r) = (P :: r).length + cutN g (bst g (P :: r)) (P :: r) ∧ phL g W (spS g (bst g (P :: r)) 1 (P :: r)) + phL g W (spS g (bst g (P :: r)) (-1) (P :: r)) + cutN g (bst g (P :: r)) (P :: r) ≤ phL g W (P :: r) := by
  obtain ⟨Q, hQ, e⟩ := bst_mem (g := g) h8
  have hv : bst g (P :: r) < W := by rw [← e]; exact (h Q hQ).2
  have o := onN_pos (g := g) (v := bst g (P :: r)) hQ e
  obtain ⟨c1, c2, c3, c4⟩ := sp_count (g := g) (v := bst g (P :: r)) h hv
  rw [List.length_cons] at c1 c2
  exact ⟨hv, o, ⟨spS_mem h (Or.inl rfl), by omega⟩, ⟨spS_mem h (Or.inr rfl), by omega⟩, c3, c4⟩
theorem bld_bnd : ∀ (m : Nat) (l : List PCE) (dep base leaf : Nat), pcs W l → l.length ≤ m → l.length ≤ 128 → (bld g m l dep base leaf).2 = (bld g m l dep base leaf).1.length + 1 ∧ (bld g m l dep base leaf).1.length ≤ l.length + bcut g m l ∧ bcut g m l ≤ phL g W l
  | 0, l, _, _, _, _, _, _ => ⟨rfl, Nat.zero_le _, Nat.zero_le _⟩
  | m + 1, [], _, _, _, _, _, _ => ⟨rfl, Nat.zero_le _, Nat.zero_le _⟩
  | m + 1, P :: r, dep, base, leaf, h, hm, h8 => by
    obtain ⟨s1, s2, ⟨s3, s4⟩, ⟨s5, s6⟩, s7, s8⟩ := sp_step (g := g) h h8
    rw [List.length_cons] at hm h8 s7
    obtain ⟨a1, a2, a3⟩ := bld_bnd m (spS g (bst g (P :: r)) 1 (P :: r)) (dep + 1) (base + 1) leaf s3 (by omega) (by omega)
    obtain ⟨b1, b2, b3⟩ := bld_bnd m (spS g (bst g (P :: r)) (-1) (P :: r)) (dep + 1) (base + 1 + (bld g m (spS g (bst g (P :: r)) 1 (P :: r)) (dep + 1) (base + 1) leaf).1.length) (leaf + (bld g m (spS g (bst g (P :: r)) 1 (P :: r)) (dep + 1) (base + 1) leaf).2) s5 (by omega) (by omega)
    have eC : bcut g (m + 1) (P :: r) = cutN g (bst g (P :: r)) (P :: r) + bcut g m (spS g (bst g (P :: r)) 1 (P :: r)) + bcut g m (spS g (bst g (P :: r)) (-1) (P :: r)) := rfl
    rw [eC]
    unfold bld
    dsimp only
    rw [List.length_cons, List.length_append, List.length_cons]
    omega
/-- at the beginning -/
def pc0 (w : Nat) : PCE := (w, 0, 1, 1, 1)
def l00 (W : Nat) : List PCE := (List.range W).map pc0
theorem phL_app : ∀ (a b : List PCE), phL g W (a ++ b) = phL g W a + phL g W b
  | [], b => (Nat.zero_add _).symm
  | P :: a, b => by
    show strN g W P + phL g W (a ++ b) = strN g W P + phL g W a + phL g W b
    rw [phL_app a b]; omega
def sm2 (S : Nat → Nat → Bool) (m : Nat) : Nat → Nat
  | 0 => 0
  | n + 1 => sm2 S m n + cntB (S n) m
theorem sm2_bnd {S : Nat → Nat → Bool} {N : Nat} (h : ∀ u w, u < N → w < N → S u w = true → S w u = false) : ∀ n, n ≤ N → 2 * sm2 S n n + n ≤ n * n
  | 0, _ => Nat.le_refl _
  | n + 1, hn => by
    have ih := sm2_bnd h n (by omega)
    have col : ∀ k, sm2 S (n + 1) k = sm2 S n k + cntB (fun w => S w n) k := by
      intro k
      induction k with
      | zero => rfl
      | succ k ik =>
        show sm2 S (n + 1) k + (cntB (S k) n + if S k n then 1 else 0) = sm2 S n k + cntB (S k) n + (cntB (fun w => S w n) k + if S k n then 1 else 0)
        rw [ik]; omega
    have both : ∀ k, k ≤ n → cntB (fun w => S w n) k + cntB (S n) k ≤ k := by
      intro k
      induction k with
      | zero => intro _; exact Nat.le_refl _
      | succ k ik =>
        intro hk
        have i := ik (by omega)
        show cntB (fun w => S w n) k + (if S k n then 1 else 0) + (cntB (S n) k + if S n k then 1 else 0) ≤ k + 1
        cases e1 : S k n with
        | true =>
          rw [h k n (by omega) (by omega) e1, if_pos rfl, if_neg (by decide)]; omega
        | false =>
          rw [if_neg (by decide)]
          split <;> omega
    have nn : S n n = false := by
      cases e : S n n with
      | true => have := h n n (by omega) (by omega) e; rw [e] at this; cases this
      | false => rfl
    have b := both n (Nat.le_refl _)
    have c := col n
    show 2 * (sm2 S (n + 1) n + (cntB (S n) n + if S n n then 1 else 0)) + (n + 1) ≤ (n + 1) * (n + 1)
    have sq : (n + 1) * (n + 1) = n * n + 2 * n + 1 := by rw [Nat.add_mul, Nat.mul_add, Nat.one_mul]; omega
    rw [nn, if_neg (by decide), c, sq]
    omega
theorem ly0 {u w : Nat} : lyP g u (pc0 w) = 2 ↔ (sdA g u w < 0 ∧ 0 < sdB g u w) ∨ (0 < sdA g u w ∧ sdB g u w < 0) := by
  have e : lyP g u (pc0 w) = lieZ (sgZ (fT (sdA g u w) (sdB g u w) 0 1)) (sgZ (fT (sdA g u w) (sdB g u w) 1 1)) := rfl
  rw [e, lieZ_two]
  have e1 : fT (sdA g u w) (sdB g u w) 0 1 = sdA g u w := by unfold fT; omega
  have e2 : fT (sdA g u w) (sdB g u w) 1 1 = sdB g u w := by unfold fT; omega
  rw [e1, e2]
theorem no_cross {n : Nat} (h : mapV g n) {u w : Nat} (hu : u < g 6) (hw : w < g 6) (h1 : lyP g u (pc0 w) = 2) : ¬ lyP g w (pc0 u) = 2 := by
  have key : ∀ a b, a < g 6 → b < a → lyP g b (pc0 a) = 2 → lyP g a (pc0 b) = 2 → False := by
    intro a b ha hb k1 k2
    have o := h.2.2.2.2 a b ha hb
    unfold ovR tchV at o
    simp only [Bool.or_eq_false_iff, decide_eq_false_iff_not] at o
    obtain ⟨⟨⟨⟨⟨-, o⟩, -⟩, -⟩, -⟩, -⟩ := o
    have ew : ∀ j, wlp g 0 + 14 * j = wlp g j := fun j => by unfold wlp; omega
    rw [ew, ew] at o
    refine o ⟨?_, ?_⟩
    · have x1 : sdV g (g (wlp g b)) (g (wlp g b + 1)) (g (wlp g a)) = sdA g b a := rfl
      have x2 : sdV g (g (wlp g b)) (g (wlp g b + 1)) (g (wlp g a + 1)) = sdB g b a := rfl
      rw [x1, x2]
      unfold sgn
      rcases ly0.mp k1 with ⟨p, q⟩ | ⟨p, q⟩
      · rw [if_pos p, if_neg (by omega), if_neg (by omega)]; decide
      · rw [if_neg (by omega), if_neg (by omega), if_pos q]; decide
    · have x1 : sdV g (g (wlp g a)) (g (wlp g a + 1)) (g (wlp g b)) = sdA g a b := rfl
      have x2 : sdV g (g (wlp g a)) (g (wlp g a + 1)) (g (wlp g b + 1)) = sdB g a b := rfl
      rw [x1, x2]
      unfold sgn
      rcases ly0.mp k2 with ⟨p, q⟩ | ⟨p, q⟩
      · rw [if_pos p, if_neg (by omega), if_neg (by omega)]; decide
      · rw [if_neg (by omega), if_neg (by omega), if_pos q]; decide
  intro h2
  by_cases c : u < w
  · exact key w u hw c h1 h2
  · by_cases d : w < u
    · exact key u w hu d h2 h1
    · have e : u = w := by omega
      rw [e] at h1
      have := ly0.mp h1
      rw [(sd_self g w).1, (sd_self g w).2] at this
      omega
theorem l00_ph {n : Nat} (h : mapV g n) : 2 * phL g (g 6) (l00 (g 6)) + g 6 ≤ g 6 * g 6 := by
  have e : ∀ k, phL g (g 6) (l00 k) = sm2 (fun w u => decide (lyP g u (pc0 w) = 2)) (g 6) k := by
    intro k
    induction k with
    | zero => rfl
    | succ k ih =>
      have : l00 (k + 1) = l00 k ++ [pc0 k] := by
        unfold l00
        rw [List.range_succ, List.map_append]; rfl
      rw [this, phL_app, ih]
      rfl
  rw [e]
  refine sm2_bnd (N := g 6) (fun u w hu hw k => ?_) (g 6) (Nat.le_refl _)
  exact decide_eq_false (no_cross h hw hu (of_decide_eq_true k))
theorem l00_pcs (W : Nat) : pcs W (l00 W) ∧ (l00 W).length = W := by
  unfold l00
  refine ⟨fun P hP => ?_, by rw [List.length_map, List.length_range]⟩
  obtain ⟨w, hw, e⟩ := List.mem_map.mp hP
  rw [← e]
  exact ⟨⟨⟨Int.le_refl 0, (by decide : (0 : Int) ≤ 1), (by decide : (0 : Int) < 1), (by decide : (1 : Int) ≤ 20000000000)⟩, ⟨(by decide : (0 : Int) ≤ 1), Int.le_refl 1, (by decide : (0 : Int) < 1), (by decide : (1 : Int) ≤ 20000000000)⟩, (by decide : (0 : Int) * 1 < 1 * 1)⟩, List.mem_range.mp hw⟩
end TB
