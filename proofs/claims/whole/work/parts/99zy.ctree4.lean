-- TREE, the class: a piece is appended to a chain
theorem nd_snoc {a : List Nat} {x : Nat} (h : a.Nodup) (hx : x ∉ a) : (a ++ [x]).Nodup := by
  rw [List.nodup_append]
  refine ⟨h, by simp, fun y hy z hz => ?_⟩
  have : z = x := by simpa using hz
  rw [this]
  exact fun e => hx (by rw [← e]; exact hy)
section AP
variable {B p W : Nat} {g : Nat → Nat}
def acC (B : Nat) (s : vt_S) (f1 f2 : Nat) (is : List Nat) (l : List PCE) : Prop := chC B s (vt_I s f1 (B + 6)) is l ∧ ∀ a z, is = a ++ [z] → vt_I s f2 (B + 6) = nI z
def lrF (left : Bool) : Nat := if left then 914 else 916
def lrG (left : Bool) : Nat := if left then 915 else 917
theorem acC_cg {s s1 : vt_S} {f1 f2 : Nat} {is : List Nat} {l : List PCE} (h : acC B s f1 f2 is l) (h1 : vt_I s1 f1 (B + 6) = vt_I s f1 (B + 6)) (h2 : vt_I s1 f2 (B + 6) = vt_I s f2 (B + 6)) (hk : ∀ i, i ∈ is → vlC B s s1 i ∧ vt_A s1 201 (B + 7) i = vt_A s 201 (B + 7) i) : acC B s1 f1 f2 is l := ⟨by rw [h1]; exact chC_cg is l _ hk h.1, fun a z e => by rw [h2]; exact h.2 a z e⟩
theorem chC_ne {s : vt_S} {c : Int32} {a : List Nat} {z : Nat} {l : List PCE} (h : chC B s c (a ++ [z]) l) (hb : ∀ j, j ∈ a ++ [z] → j < 100000) : ¬ c = -1 := by
  cases a with
  | nil =>
    cases l with
    | nil => exact h.elim
    | cons Q l => rw [h.1]; exact nI_m1 (hb z (by simp))
  | cons q a =>
    cases l with
    | nil => exact h.elim
    | cons Q l => rw [h.1]; exact nI_m1 (hb q (by simp))
theorem c_append {s : vt_S} {K i : Nat} {left : Bool} {is : List Nat} {l : List PCE} {P : PCE} (h9 : vt_P s 900 (B + 6) = B + 7) (hL : pcL B s K) (hi : i < K) (hn : is.Nodup) (hni : i ∉ is) (hb : ∀ j, j ∈ is → j < K) (hp : pvC B s i P) (hac : acC B s (lrF left) (lrG left) is l) : ∃ s1, ab_X8_append (B + 6) (nI i) (zI (if left then 1 else -1)) s = some ((), s1) ∧ acC B s1 (lrF left) (lrG left) (is ++ [i]) (l ++ [P]) ∧ (∀ j, vlC B s s1 j) ∧ (∀ j, j ≠ i → j ∉ is → vt_A s1 201 (B + 7) j = vt_A s 201 (B + 7) j) ∧ vt_I s1 (lrF (!left)) (B + 6) = vt_I s (lrF (!left)) (B + 6) ∧ vt_I s1 (lrG (!left)) (B + 6) = vt_I s (lrG (!left)) (B + 6) ∧ vk [914, 915, 916, 917] [201] [] (fun _ => True) s s1 := by
  have hL' := hL
  obtain ⟨⟨-, l1, -⟩, l6, l7⟩ := hL'
  obtain ⟨t, ht⟩ : ∃ u, u = vu_A s 201 (B + 7) i (-1) := ⟨_, rfl⟩
  have tL : vt_L t = vt_L s := by rw [ht, sL_A]
  have tI : vt_I t = vt_I s := by rw [ht, sI_A]
  have tP : vt_P t 900 (B + 6) = B + 7 := by rw [ht]; exact h9
  have tvl : ∀ j, vlC B s t j := fun j => by rw [ht]; exact ⟨by rw [A_nf (by decide)], by rw [sB_A], by rw [sB_A], by rw [sB_A], by rw [sB_A]⟩
  have tn : ∀ j, vt_A t 201 (B + 7) j = if j = i then -1 else vt_A s 201 (B + 7) j := fun j => by rw [ht, A_at]
  have kt : vk [914, 915, 916, 917] [201] [] (fun _ => True) s t := by rw [ht]; exact vk.pA (vk.refl s) (by decide)
  have fne : lrF left ≠ lrG left ∧ lrF left ≠ lrF (!left) ∧ lrF left ≠ lrG (!left) ∧ lrG left ≠ lrF (!left) ∧ lrG left ≠ lrG (!left) := by cases left <;> decide
  have fin : ∀ x : Int32, lrF left ∈ [914, 915, 916, 917] ∧ lrG left ∈ [914, 915, 916, 917] := fun _ => by cases left <;> decide
  rcases List.eq_nil_or_concat is with e | ⟨a, z, e⟩
  · subst e
    have hl : l = [] := by
      cases l with
      | nil => rfl
      | cons Q l => exact hac.1.elim
    subst hl
    have c0 : vt_I s (lrF left) (B + 6) = -1 := hac.1
    obtain ⟨u, hu⟩ : ∃ u, u = vu_I (vu_I t (lrF left) (B + 6) (nI i)) (lrG left) (B + 6) (nI i) := ⟨_, rfl⟩
    have uA : vt_A u = vt_A t := by rw [hu, sA_I, sA_I]
    have uB : vt_B u = vt_B t := by rw [hu, sB_I, sB_I]
    have uvl : ∀ j, vlC B t u j := fun j => ⟨by rw [uA], by rw [uB], by rw [uB], by rw [uB], by rw [uB]⟩
    have uI : ∀ f, f ≠ lrF left → f ≠ lrG left → vt_I u f (B + 6) = vt_I s f (B + 6) := fun f h1 h2 => by rw [hu, I_ne (fun q => h2 q.1), I_ne (fun q => h1 q.1), tI]
    refine ⟨u, ?_, ⟨⟨?_, ?_, ?_⟩, fun b y hb2 => ?_⟩, fun j => (tvl j).trans (uvl j), fun j hj _ => ?_, uI _ (fun q => fne.2.1 q.symm) (fun q => fne.2.2.2.1 q.symm), uI _ (fun q => fne.2.2.1 q.symm) (fun q => fne.2.2.2.2 q.symm), ?_⟩
    · have c1 : vt_I t (lrF left) (B + 6) = -1 := by rw [tI]; exact c0
      unfold ab_X8_append ab_X8_append_44 ab_X8_append_81 ab_X8_append_86
      rw [slet, h9, vs_I_ok (by omega) (by omega), obs, ← ht]
      cases left with
      | true =>
        rw [if_pos (show zI (if true = true then 1 else -1) = 1 from rfl), slet, show vt_I t 914 (B + 6) = -1 from c1, if_pos rfl, slet, slet, hu]; rfl
      | false =>
        rw [if_neg (show ¬ zI (if false = true then 1 else -1) = 1 by decide), slet, show vt_I t 916 (B + 6) = -1 from c1, if_pos rfl, slet, slet, hu]; rfl
    · rw [hu, I_ne (fun q => fne.1 q.1), I_at]
    · exact ((tvl i).trans (uvl i)).pv hp
    · rw [uA, tn i, if_pos rfl]; rfl
    · have : y = i := by
        have := List.append_inj_right' hb2 rfl
        simpa using this.symm
      rw [this, hu, I_at]
    · rw [uA, tn j, if_neg hj]
    · rw [hu]
      exact vk.pI (vk.pI kt (fin 0).1) (fin 0).2
  · have e : is = a ++ [z] := by rw [e, List.concat_eq_append]
    subst e
    have zi : z ≠ i := fun q => hni (by rw [← q]; simp)
    have zK := hb z (by simp)
    have c0 := chC_ne hac.1 (fun j hj => by have := hb j hj; omega)
    have c2 := hac.2 a z rfl
    obtain ⟨u, hu⟩ : ∃ u, u = vu_A t 201 (B + 7) z (nI i) := ⟨_, rfl⟩
    have uA : ∀ j, vt_A u 201 (B + 7) j = if j = z then nI i else vt_A t 201 (B + 7) j := fun j => by rw [hu, A_at]
    have uI : vt_I u = vt_I t := by rw [hu, sI_A]
    have uvl : ∀ j, vlC B t u j := fun j => by rw [hu]; exact ⟨by rw [A_nf (by decide)], by rw [sB_A], by rw [sB_A], by rw [sB_A], by rw [sB_A]⟩
    obtain ⟨y, hy⟩ : ∃ y, y = vu_I u (lrG left) (B + 6) (nI i) := ⟨_, rfl⟩
    have yA : vt_A y = vt_A u := by rw [hy, sA_I]
    have yB : vt_B y = vt_B u := by rw [hy, sB_I]
    have yvl : ∀ j, vlC B u y j := fun j => ⟨by rw [yA], by rw [yB], by rw [yB], by rw [yB], by rw [yB]⟩
    have yI : ∀ f, f ≠ lrG left → vt_I y f (B + 6) = vt_I s f (B + 6) := fun f h2 => by rw [hy, I_ne (fun q => h2 q.1), uI, tI]
    have all : ∀ j, vlC B s y j := fun j => ((tvl j).trans (uvl j)).trans (yvl j)
    have yn : ∀ j, vt_A y 201 (B + 7) j = if j = z then nI i else if j = i then -1 else vt_A s 201 (B + 7) j := fun j => by rw [yA, uA, tn]
    refine ⟨y, ?_, ⟨?_, fun b x hb2 => ?_⟩, all, fun j hj hjn => ?_, yI _ (fun q => fne.2.2.2.1 q.symm), yI _ (fun q => fne.2.2.2.2 q.symm), ?_⟩
    · have c1 : ¬ vt_I t (lrF left) (B + 6) = -1 := by rw [tI]; exact c0
      have c3 : vt_I t (lrG left) (B + 6) = nI z := by rw [tI]; exact c2
      have tL1 : vt_L t 201 (B + 7) = K := by rw [tL]; exact l1
      unfold ab_X8_append ab_X8_append_44 ab_X8_append_81 ab_X8_append_86
      rw [slet, h9, vs_I_ok (by omega) (by omega), obs, ← ht]
      cases left with
      | true =>
        rw [if_pos (show zI (if true = true then 1 else -1) = 1 from rfl), slet, if_neg (show ¬ vt_I t 914 (B + 6) = -1 from c1), slet, tP, slet, show vt_I t 915 (B + 6) = nI z from c3, vs_I_ok (by omega) (by omega), obs, ← hu, slet, hy]; rfl
      | false =>
        rw [if_neg (show ¬ zI (if false = true then 1 else -1) = 1 by decide), slet, if_neg (show ¬ vt_I t 916 (B + 6) = -1 from c1), slet, tP, slet, show vt_I t 917 (B + 6) = nI z from c3, vs_I_ok (by omega) (by omega), obs, ← hu, slet, hy]; rfl
    · rw [yI _ fne.1]
      refine chC_snoc (s := s) a l _ z hn hni (fun j _ => all j) (fun j hj => ?_) (by rw [yn, if_pos rfl]) (by rw [yn, if_neg (fun q => zi q.symm), if_pos rfl]) ((all i).pv hp) hac.1
      have jz : j ≠ z := by
        intro q
        rw [List.nodup_append] at hn
        exact hn.2.2 j hj z (by simp) q
      have ji : j ≠ i := fun q => hni (by rw [← q]; simp [hj])
      rw [yn, if_neg jz, if_neg ji]
    · have : x = i := by
        have := List.append_inj_right' hb2 rfl
        simpa using this.symm
      rw [this, hy, I_at]
    · rw [yn, if_neg (fun q => hjn (by rw [q]; simp)), if_neg hj]
    · rw [hy]
      refine vk.pI ?_ (fin 0).2
      rw [hu]
      exact vk.pA kt (by decide)
end AP
