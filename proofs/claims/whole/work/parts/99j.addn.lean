-- THE CLASS adds an input so often
section CA
variable {B n R : Nat} {g : Nat → Nat} {F : Nat → IN}
theorem runC.congr {s : vt_S} {I J : Nat → IN} {m : Nat} (h : runC s R I m) (e : ∀ j, j < m → I j = J j) : runC s R J m := by
  obtain ⟨r1, r2, r3, r4, r5⟩ := h
  exact ⟨r1, r2, r3, r4, fun j hj => by rw [← e j hj]; exact r5 j hj⟩
def grw (B R : Nat) (s s1 : vt_S) : Prop := vt_z s1 + vt_L s 601 R ≤ vt_z s + vt_L s1 601 R ∧ vt_l s1 + 2 * vt_L s 601 R ≤ vt_l s + 2 * vt_L s1 601 R ∧ vt_L s 601 R ≤ vt_L s1 601 R ∧ ong (fun a => a = R ∨ a = B + 5) s s1
theorem grw.refl {s : vt_S} : grw B R s s := ⟨Nat.le_refl _, Nat.le_refl _, Nat.le_refl _, ong.refl⟩
theorem grw.trans {s s1 s2 : vt_S} (h : grw B R s s1) (k : grw B R s1 s2) : grw B R s s2 := by
  obtain ⟨h1, h2, h3, h4⟩ := h
  obtain ⟨k1, k2, k3, k4⟩ := k
  exact ⟨by omega, by omega, by omega, h4.trans k4⟩
theorem onl.grw {s s1 : vt_S} (k : onl (· = B + 5) s s1) : grw B R s s1 := by
  have eL : vt_L s1 = vt_L s := k.L
  refine ⟨?_, ?_, ?_, k.ong.mono (fun a h => Or.inr h)⟩
  · rw [eL, k.1]; omega
  · rw [eL, k.2.1]; omega
  · rw [eL]; omega
theorem c_addN {i : IN} {t q : Nat} (hi : inOk i) (ht : t ≤ 63) : ∀ (d k fu : Nat) (s : vt_S) (c : Nat), k + d = t → d < fu → RdS B g n (.ok q) s → c + d ≤ 1024 → (∀ j, c ≤ j → F j = i) → runC s R F c → ∃ s1, ab_X5_readGroup_127 fu R (B + 5) (nI t) (zI (inN i)) (nI k) s = some (nI t, s1) ∧ vk [602] [601] [601] (fun _ => True) s s1 ∧ RdS B g n (.ok q) s1 ∧ runC s1 R F (c + d) ∧ grw B R s s1 := by
  intro d
  induction d with
  | zero =>
    intro k fu s c hk hf hS hc hF hr
    obtain ⟨fu, rfl⟩ : ∃ q, fu = q + 1 := ⟨fu - 1, by omega⟩
    refine ⟨s, ?_, vk.refl s, hS, hr, grw.refl⟩
    show ab_X5_readGroup_127b _ R (B + 5) (nI t) (zI (inN i)) (nI k) s = _
    unfold ab_X5_readGroup_127b ab_X5_readGroup_153 ab_X5_readGroup_166
    rw [if_pos (nI_le (by omega) (by omega)), rd_well hS, vbs, if_neg pWell_ok]
  | succ d ih =>
    intro k fu s c hk hf hS hc hF hr
    obtain ⟨fu, rfl⟩ : ∃ q, fu = q + 1 := ⟨fu - 1, by omega⟩
    obtain ⟨s1, a1, a2, a3⟩ := c_add hr (by omega) hi
    have k1 := (vk_X5_add vclT trivial a1).1
    have hS1 : RdS B g n (.ok q) s1 := k1.keep (P := RdS B g n (.ok q)) hS
    have hr1 : runC s1 R F (c + 1) := a2.congr (fun j hj => by
      by_cases z : j = c
      · rw [if_pos z, z, hF c (Nat.le_refl _)]
      · rw [if_neg z])
    obtain ⟨s2, b1, b2, b3, b4, b5⟩ := ih (k + 1) fu s1 (c + 1) (by omega) (by omega) hS1 (by omega) (fun j hj => hF j (by omega)) hr1
    refine ⟨s2, ?_, k1.trans b2, b3, by rw [show c + (d + 1) = c + 1 + d by omega]; exact b4, grw.trans ⟨a3.1, a3.2.1, a3.2.2.1, a3.2.2.2.mono (fun a h => Or.inl h)⟩ b5⟩
    show ab_X5_readGroup_127b _ R (B + 5) (nI t) (zI (inN i)) (nI k) s = _
    unfold ab_X5_readGroup_127b
    rw [if_neg (nI_ge (by omega) (by omega)), rd_well hS, vbs, if_neg pWell_ok, a1, vbs, nI_1]
    exact b1
theorem c_addBad {s : vt_S} {e : Nat × Nat} {t x : Int32} {k fu : Nat} (hS : RdS B g n (.error e) s) : ab_X5_readGroup_127 (fu + 1) R (B + 5) t x (nI k) s = some (0, s) := by
  show ab_X5_readGroup_127b _ R (B + 5) t x (nI k) s = _
  unfold ab_X5_readGroup_127b ab_X5_readGroup_153 ab_X5_readGroup_166
  have w : ab_X4_well (B + 5) s = some (0, s) := rd_well hS
  split
  · rw [w, vbs, if_pos rfl]
  · rw [w, vbs, if_pos rfl, w, vbs, if_pos rfl]
end CA
