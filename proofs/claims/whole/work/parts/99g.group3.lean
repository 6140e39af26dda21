-- THE TAPE: a whole group
section T6
variable {B n : Nat} {g : Nat → Nat} {F : Nat → IN}
def grpW : List Nat := [1615, 1616, 1617, 1618, 1619, 1620]
theorem t_133 {s : vt_S} {i : IN} {c tp a t q : Nat} (hi : inOk i) (ht : t ≤ 63) (htp : tp < 64) (hz : tp = 0 ↔ c = 0) (hc : c + t ≤ 1024) (hS : TpS B g n (.ok q) s) (h15 : vt_I s 1615 (B + 643) = nI c) (hT : runT B s F c) : ∃ s1, ab_X15_readGroup_133 (B + 643) (nI tp) (nI a) (nI t) (zI i.1) (zI i.2.1) (zI i.2.2.1) (bI i.2.2.2) s = some ((), s1) ∧ vk grpW [1611, 1612, 1613, 1614] [] (fun _ => True) s s1 ∧ TpS B g n (if 0 < c ∧ tp < 63 ∧ F (c - 1) = i then .error (4, a) else .ok q) s1 ∧ (¬ (0 < c ∧ tp < 63 ∧ F (c - 1) = i) → vt_I s1 1615 (B + 643) = nI (c + t) ∧ runT B s1 (fun j => if j < c then F j else i) (c + t)) := by
  have h7 : vt_I s 1617 (B + 643) = 0 := hS.2.2.1
  obtain ⟨t1, ⟨l1, l2, l3, l4⟩, t3⟩ := hT
  have hT' : runT B s (fun j => if j < c then F j else i) c := ⟨t1, ⟨l1, l2, l3, l4⟩, fun j hj => by dsimp only; rw [if_pos hj]; exact t3 j hj⟩
  have good : ∃ s1, ab_X15_readGroup_212 (B + 643) (nI a) (nI t) (zI i.1) (zI i.2.1) (zI i.2.2.1) (bI i.2.2.2) s = some ((), s1) ∧ vk [1615] [1611, 1612, 1613, 1614] [] (fun _ => True) s s1 ∧ vt_I s1 1615 (B + 643) = nI (c + t) ∧ runT B s1 (fun j => if j < c then F j else i) (c + t) := by
    obtain ⟨s1, a1, a2, a3, a4⟩ := t_add_loop (B := B) (F := fun j => if j < c then F j else i) hi ht t 0 sv_fuel s c (by omega) (fuel_ge (by omega)) h7 h15 hc (fun j hj => by rw [if_neg (by omega)]) hT'
    refine ⟨s1, ?_, a2, a3, a4⟩
    unfold ab_X15_readGroup_212 ab_X15_readGroup_213 ab_X15_readGroup_226
    rw [if_pos rfl]
    exact a1
  have ok1 : ¬ (0 < c ∧ tp < 63 ∧ F (c - 1) = i) → ab_X15_readGroup_133 (B + 643) (nI tp) (nI a) (nI t) (zI i.1) (zI i.2.1) (zI i.2.2.1) (bI i.2.2.2) s = ab_X15_readGroup_212 (B + 643) (nI a) (nI t) (zI i.1) (zI i.2.1) (zI i.2.2.1) (bI i.2.2.2) s → ∃ s1, ab_X15_readGroup_133 (B + 643) (nI tp) (nI a) (nI t) (zI i.1) (zI i.2.1) (zI i.2.2.1) (bI i.2.2.2) s = some ((), s1) ∧ vk grpW [1611, 1612, 1613, 1614] [] (fun _ => True) s s1 ∧ TpS B g n (if 0 < c ∧ tp < 63 ∧ F (c - 1) = i then .error (4, a) else .ok q) s1 ∧ (¬ (0 < c ∧ tp < 63 ∧ F (c - 1) = i) → vt_I s1 1615 (B + 643) = nI (c + t) ∧ runT B s1 (fun j => if j < c then F j else i) (c + t)) := by
    intro nc e
    obtain ⟨s1, a1, a2, a3, a4⟩ := good
    refine ⟨s1, e.trans a1, a2.weak (by decide) (by decide) (by decide), ?_, fun _ => ⟨a3, a4⟩⟩
    rw [if_neg nc]
    exact a2.keep0 (P := TpS B g n (.ok q)) hS
  by_cases c1 : tp = 0
  · refine ok1 (fun z => by omega) ?_
    unfold ab_X15_readGroup_133
    rw [slet, slet, h7, if_pos rfl, if_pos (show nI tp ≤ 0 by rw [c1]; decide)]
  by_cases c2 : 63 ≤ tp
  · refine ok1 (fun z => by omega) ?_
    unfold ab_X15_readGroup_133
    rw [slet, slet, h7, if_pos rfl, if_neg (show ¬ nI tp ≤ 0 from nI_ge (b := tp) (a := 0) (by omega) (by omega)), show (63 : Int32) = nI 63 from rfl, if_pos (nI_le (by omega) (by omega))]
  have cp : 0 < c := by omega
  obtain ⟨⟨x1, x2, x3, x4⟩, x5⟩ := t3 (c - 1) (by omega)
  have x2 : vt_A s 1612 (B + 643) (c - 1) = zI (F (c - 1)).2.1 := x2
  have x3 : vt_A s 1613 (B + 643) (c - 1) = zI (F (c - 1)).2.2.1 := x3
  have x4 : vt_A s 1614 (B + 643) (c - 1) = bI (F (c - 1)).2.2.2 := x4
  have ec : nI c - 1 = nI (c - 1) := by
    have := (z_down (c - 1)).1
    rwa [show c - 1 + 1 = c by omega] at this
  unfold inOk at x5
  have io := hi
  unfold inOk at io
  have z1 : (zI (F (c - 1)).1 = zI i.1) = ((F (c - 1)).1 = i.1) := zI_eq (by omega) (by omega) (by omega) (by omega)
  have z2 : (zI (F (c - 1)).2.1 = zI i.2.1) = ((F (c - 1)).2.1 = i.2.1) := zI_eq (by omega) (by omega) (by omega) (by omega)
  have z3 : (zI (F (c - 1)).2.2.1 = zI i.2.2.1) = ((F (c - 1)).2.2.1 = i.2.2.1) := zI_eq (by omega) (by omega) (by omega) (by omega)
  have z4 : (bI (F (c - 1)).2.2.2 = bI i.2.2.2) = ((F (c - 1)).2.2.2 = i.2.2.2) := by cases (F (c - 1)).2.2.2 <;> cases i.2.2.2 <;> decide
  have e0 : ab_X15_readGroup_133 (B + 643) (nI tp) (nI a) (nI t) (zI i.1) (zI i.2.1) (zI i.2.2.1) (bI i.2.2.2) s = if F (c - 1) = i then ab_X15_readGroup_213 (B + 643) (nI a) (nI t) (zI i.1) (zI i.2.1) (zI i.2.2.1) (bI i.2.2.2) 1 s else ab_X15_readGroup_212 (B + 643) (nI a) (nI t) (zI i.1) (zI i.2.1) (zI i.2.2.1) (bI i.2.2.2) s := by
    unfold ab_X15_readGroup_133
    rw [slet, h15, slet, h7, if_pos rfl, if_neg (show ¬ nI tp ≤ 0 from nI_ge (b := tp) (a := 0) (by omega) (by omega)), show (63 : Int32) = nI 63 from rfl, if_neg (nI_ge (by omega) (by omega)), ec, vl_I_ok (by omega) (by omega), obs, x1, ifc z1]
    by_cases q1 : (F (c - 1)).1 = i.1
    · rw [if_pos q1, vl_I_ok (by omega) (by omega), obs, x2, ifc z2]
      by_cases q2 : (F (c - 1)).2.1 = i.2.1
      · rw [if_pos q2, vl_I_ok (by omega) (by omega), obs, x3, ifc z3]
        by_cases q3 : (F (c - 1)).2.2.1 = i.2.2.1
        · rw [if_pos q3, vl_I_ok (by omega) (by omega), obs, x4, ifc z4]
          by_cases q4 : (F (c - 1)).2.2.2 = i.2.2.2
          · rw [if_pos q4, if_pos (Prod.ext q1 (Prod.ext q2 (Prod.ext q3 q4)))]
          · rw [if_neg q4, if_neg (fun z => q4 (by rw [z]))]
        · rw [if_neg q3, if_neg (fun z => q3 (by rw [z]))]
      · rw [if_neg q2, if_neg (fun z => q2 (by rw [z]))]
    · rw [if_neg q1, if_neg (fun z => q1 (by rw [z]))]
  by_cases c3 : F (c - 1) = i
  · obtain ⟨s1, w1, w2, w3⟩ := t_wrong (f := 4) (q := a) (by decide) (by decide) hS
    have cc : 0 < c ∧ tp < 63 ∧ F (c - 1) = i := ⟨cp, by omega, c3⟩
    have w3 : TpS B g n (.error (4, a)) s1 := w3
    refine ⟨s1, ?_, w2.weak (by decide) (by decide) (by decide), by rw [if_pos cc]; exact w3, fun z => absurd cc z⟩
    rw [e0, if_pos c3]
    unfold ab_X15_readGroup_213 ab_X15_readGroup_226
    obtain ⟨u, hu⟩ : ∃ u, sv_fuel = u + 1 := ⟨sv_fuel - 1, by have : 5 < sv_fuel := fuel_ge (by omega); omega⟩
    rw [if_neg (by decide), show (4 : Int32) = nI 4 from rfl, w1, vbs, hu]
    exact t_add_bad (k := 0) w3.bad
  · exact ok1 (fun z => c3 z.2.2) (by rw [e0, if_neg c3])
end T6
