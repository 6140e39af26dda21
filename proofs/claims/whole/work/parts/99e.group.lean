-- THE TAPE: a group
def inG (g : Nat → Nat) (h q : Nat) : IN := if h < 128 then ((g q : Int) - 64, 0, 0, decide (h / 64 % 2 = 1)) else ((g q : Int) - 64, (g (q + 1) : Int) - 64, (g (q + 2) : Int) - 16, decide (h / 64 % 2 = 1))
def pHd (h c p : Nat) : PE := if h % 64 = 0 then .error (3, p - 1) else if 1024 < c + h % 64 then .error (5, p - 1) else .ok p
def pWhl (g : Nat → Nat) (n h : Nat) (st : PE) : PE := if h < 128 then pbd st (pIn g n 0 128) else pbd (pbd (pbd (pbd st (pIn g n 0 128)) (pIn g n 0 128)) (pIn g n 0 32)) (fun q => if g (q - 2) = 64 ∧ g (q - 1) = 16 then .error (3, q - 1) else .ok q)
def pSame (F : Nat → IN) (c tp p : Nat) (i : IN) (st : PE) : PE := pbd st (fun q => if 0 < c ∧ tp < 63 ∧ F (c - 1) = i then .error (4, p - 1) else .ok q)
def pGrp (g : Nat → Nat) (n : Nat) (F : Nat → IN) (h c tp p : Nat) : PE := pSame F c tp p (inG g h p) (pWhl g n h (pHd h c p))
section T4
variable {B n : Nat} {g : Nat → Nat} {F : Nat → IN} {s : vt_S}
theorem t_grpHd {h c p : Nat} (hh : h < 256) (hp : 1 ≤ p) (hS : TpS B g n (.ok p) s) (h15 : vt_I s 1615 (B + 643) = nI c) (hc : c ≤ 1024) : ∃ s1, vk [1617, 1618] [] [] (fun _ => True) s s1 ∧ TpS B g n (pHd h c p) s1 ∧ ∀ tp, ab_X15_readGroup (B + 643) (nI h) tp s = ab_X15_readGroup_46 (B + 643) (nI h) tp (nI (p - 1)) (nI (h % 64)) s1 := by
  have z6 : vt_I s 1616 (B + 643) = nI p := hS.2.2.2.2.1
  have e64 : nI h - nI h / 64 * 64 = nI (h % 64) := by
    rw [nI_z, z_64, zI_divP (by omega) (by omega) (by omega) (by omega), zI_mul, zI_sub, nI_z]
    refine congrArg zI ?_
    omega
  have ep : nI p - 1 = nI (p - 1) := by
    have := (z_down (p - 1)).1
    rwa [show p - 1 + 1 = p by omega] at this
  by_cases c1 : h % 64 = 0
  · obtain ⟨s1, w1, w2, w3⟩ := t_wrong (f := 3) (q := p - 1) (by decide) (by decide) hS
    refine ⟨s1, w2, by unfold pHd; rw [if_pos c1]; exact w3, fun tp => ?_⟩
    unfold ab_X15_readGroup
    rw [slet, z6, e64, if_pos (show nI (h % 64) = 0 by rw [c1]; rfl), ep, show (3 : Int32) = nI 3 from rfl, w1, vbs]
  · have n1 : ¬ nI (h % 64) = 0 := fun z => c1 (by rwa [show (0 : Int32) = nI 0 from rfl, nI_eq (by omega) (by omega)] at z)
    by_cases c2 : 1024 < c + h % 64
    · obtain ⟨s1, w1, w2, w3⟩ := t_wrong (f := 5) (q := p - 1) (by decide) (by decide) hS
      refine ⟨s1, w2, by unfold pHd; rw [if_neg c1, if_pos c2]; exact w3, fun tp => ?_⟩
      unfold ab_X15_readGroup
      rw [slet, z6, e64, if_neg n1, slet, h15, nI_add, show (1024 : Int32) = nI 1024 from rfl, if_neg (nI_ge (by omega) (by omega)), ep, show (5 : Int32) = nI 5 from rfl, w1, vbs]
    · refine ⟨s, vk.refl s, by unfold pHd; rw [if_neg c1, if_neg c2]; exact hS, fun tp => ?_⟩
      unfold ab_X15_readGroup
      rw [slet, z6, e64, if_neg n1, slet, h15, nI_add, show (1024 : Int32) = nI 1024 from rfl, if_pos (nI_le (by omega) (by omega)), ep]
end T4
