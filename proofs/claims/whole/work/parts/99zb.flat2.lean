-- VIEW: ceilings and floors of the reference; walls, what both need
section FK
variable {B p n : Nat} {g : Nat → Nat} {D : Nat → SD} {y : RY}
theorem r_flat_go {a b t j sec : Nat} {kd z eye tk : Int32} {sky : Bool} {s : vt_S} (hy : ryOk y) (hv : ∀ j, j < g 5 → sdOk (D j)) (hj : j < g 5) (ht : t < g 4 ∨ t = 255) (ha : a ≤ 48) (hb : b ≤ 48) (hk : rVy B g n y D sec tk s) : ∃ s1, ab_X17_flat_80 sv_fuel (B + 639) (nI b) kd (nI j) (nI t) (bI sky) (Int32.toInt64 (z - eye)) (nI a) s = some ((), s1) ∧ vt_A s1 1825 (B + 639) = upR (vt_A s 1825 (B + 639)) a b (skB sky (plP y g t (litS g D tk j) (Int32.toInt64 (z - eye)))) ∧ vt_A s1 1824 (B + 639) = upR (vt_A s 1824 (B + 639)) a b (fun _ => 256 * (if sky then 6 else kd) + nI j) ∧ vk [] [1824, 1825] [] (fun _ => True) s s1 := by
  by_cases c : a ≤ b
  · obtain ⟨s1, a1, a2, a3, a4⟩ := r_flat_loop (B := B) (n := n) (kd := kd) (z := z) (eye := eye) (sky := sky) (t := t) hy hv hj ht hb (b - a) a sv_fuel s (by omega) (fuel_ge (by omega)) hk
    exact ⟨s1, a1, funext a2, funext a3, a4⟩
  · refine ⟨s, ?_, funext fun r => ?_, funext fun r => ?_, vk.refl s⟩
    · obtain ⟨fu, hf⟩ : ∃ fu, sv_fuel = fu + 1 := ⟨sv_fuel - 1, by have : 5 < sv_fuel := fuel_ge (by omega); omega⟩
      rw [hf]
      show ab_X17_flat_80b _ (B + 639) (nI b) kd _ _ _ _ (nI a) s = _
      unfold ab_X17_flat_80b
      rw [if_pos (nI_le (by omega) (by omega))]
    · unfold upR
      rw [if_neg (by omega)]
    · unfold upR
      rw [if_neg (by omega)]
theorem r_ceil {a b j sec : Nat} {tk : Int32} {s : vt_S} (hy : ryOk y) (hv : ∀ j, j < g 5 → sdOk (D j)) (hsec : sec < g 5) (hj : j < g 5) (ha : a ≤ 48) (hb : b ≤ 48) (hk : rVy B g n y D sec tk s) : ∃ s1, ab_X17_flat (B + 639) (nI a) (nI b) 1 (nI j) s = some ((), s1) ∧ vt_A s1 1825 (B + 639) = upR (vt_A s 1825 (B + 639)) a b (ceP y g D (litS g D tk j) (eyS D sec) j) ∧ vt_A s1 1824 (B + 639) = upR (vt_A s 1824 (B + 639)) a b (fun _ => ceM g j) ∧ vk [] [1824, 1825] [] (fun _ => True) s s1 := by
  obtain ⟨hW, hA, hD, hs, htk, l4, l5, l2⟩ := id hk
  have hc := hW.C
  have g5 := hc.S.1
  have g4 : g 4 ≤ 16 := hc.1.1.1.2.1
  have tv := (hc.tV hj).2
  have c3 := rm_sec hW.1 hj (k := 3) (by omega) (by omega)
  rw [show scp g j + 2 + 3 = scp g j + 5 by omega] at c3
  have z9 : vt_A s 1409 (B + 656) j = (D j).2.1 := (hD j hj).2.1
  have L9 := hW.2.1.2.1.2.1
  have ey := r_eye (k := (0, 0, sec)) hW.2.2.2.2.1 hW.2.1 hD hs hsec
  have e39 : ∀ x : Int32, ab_X17_flat_39 (B + 639) (nI a) (nI b) 1 (nI j) (nI (g (scp g j + 5))) x s = ab_X17_flat_80 sv_fuel (B + 639) (nI b) 1 (nI j) (nI (g (scp g j + 5))) x (Int32.toInt64 ((D j).2.1 - eyS D sec)) (nI a) s := by
    intro x
    unfold ab_X17_flat_39 ab_X17_flat_69
    rw [if_pos rfl, slet, hW.2.2.2.2.1, vl_I_ok (by omega) (by omega), obs, z9, ey, vbs]
  by_cases c : g (scp g j + 5) = 255
  · obtain ⟨s1, a1, a2, a3, a4⟩ := r_flat_go (sky := true) (kd := 1) (z := (D j).2.1) (eye := eyS D sec) hy hv hj tv ha hb hk
    refine ⟨s1, ?_, ?_, ?_, a4⟩
    · unfold ab_X17_flat ab_X17_flat_16
      rw [slet, if_pos rfl, hW.2.2.2.1, show (3 : Int32) = nI 3 from rfl, c3, vbs, if_pos rfl, if_pos (show nI (g (scp g j + 5)) = 255 by rw [c]; rfl), e39]
      exact a1
    · rw [a2]
      have : skB true (plP y g (g (scp g j + 5)) (litS g D tk j) (Int32.toInt64 ((D j).2.1 - eyS D sec))) = ceP y g D (litS g D tk j) (eyS D sec) j := funext fun r => (if_pos c).symm
      rw [this]
    · rw [a3]
      unfold ceM
      rw [if_pos c]
      rfl
  · obtain ⟨s1, a1, a2, a3, a4⟩ := r_flat_go (sky := false) (kd := 1) (z := (D j).2.1) (eye := eyS D sec) hy hv hj tv ha hb hk
    refine ⟨s1, ?_, ?_, ?_, a4⟩
    · unfold ab_X17_flat ab_X17_flat_16 ab_X17_flat_38
      rw [slet, if_pos rfl, hW.2.2.2.1, show (3 : Int32) = nI 3 from rfl, c3, vbs, if_pos rfl, if_neg (show ¬ nI (g (scp g j + 5)) = 255 from fun z => c (by rwa [show (255 : Int32) = nI 255 from rfl, nI_eq (by omega) (by omega)] at z)), e39]
      exact a1
    · rw [a2]
      have : skB false (plP y g (g (scp g j + 5)) (litS g D tk j) (Int32.toInt64 ((D j).2.1 - eyS D sec))) = ceP y g D (litS g D tk j) (eyS D sec) j := funext fun r => (if_neg c).symm
      rw [this]
    · rw [a3]
      unfold ceM
      rw [if_neg c]
      rfl
theorem r_floor {a b j sec : Nat} {tk : Int32} {s : vt_S} (hy : ryOk y) (hv : ∀ j, j < g 5 → sdOk (D j)) (hsec : sec < g 5) (hj : j < g 5) (ha : a ≤ 48) (hb : b ≤ 48) (hk : rVy B g n y D sec tk s) : ∃ s1, ab_X17_flat (B + 639) (nI a) (nI b) 2 (nI j) s = some ((), s1) ∧ vt_A s1 1825 (B + 639) = upR (vt_A s 1825 (B + 639)) a b (flP y g D (litS g D tk j) (eyS D sec) j) ∧ vt_A s1 1824 (B + 639) = upR (vt_A s 1824 (B + 639)) a b (fun _ => 512 + nI j) ∧ vk [] [1824, 1825] [] (fun _ => True) s s1 := by
  obtain ⟨hW, hA, hD, hs, htk, l4, l5, l2⟩ := id hk
  have hc := hW.C
  have g5 := hc.S.1
  have g4 : g 4 ≤ 16 := hc.1.1.1.2.1
  have tv := (hc.tV hj).1
  have c3 := rm_sec hW.1 hj (k := 2) (by omega) (by omega)
  rw [show scp g j + 2 + 2 = scp g j + 4 by omega] at c3
  have z9 : vt_A s 1408 (B + 656) j = (D j).1 := (hD j hj).1
  have L9 := hW.2.1.2.1.1
  have ey := r_eye (k := (0, 0, sec)) hW.2.2.2.2.1 hW.2.1 hD hs hsec
  obtain ⟨s1, a1, a2, a3, a4⟩ := r_flat_go (sky := false) (kd := 2) (z := (D j).1) (eye := eyS D sec) hy hv hj (Or.inl tv) ha hb hk
  refine ⟨s1, ?_, a2, a3, a4⟩
  unfold ab_X17_flat ab_X17_flat_16 ab_X17_flat_38 ab_X17_flat_39 ab_X17_flat_69
  rw [slet, if_neg (by decide), hW.2.2.2.1, show (2 : Int32) = nI 2 from rfl, c3, vbs, if_neg (by decide), if_neg (by decide), slet, hW.2.2.2.2.1, vl_I_ok (by omega) (by omega), obs, z9, ey, vbs]
  exact a1
theorem met_fr {w : Nat} (h : rmet y g w) : (rfr y g w = true → 0 ≤ r1 y g w ∧ r2 y g w < 0 ∧ run y g w = r1 y g w - r2 y g w) ∧ (rfr y g w = false → r1 y g w < 0 ∧ 0 ≤ r2 y g w ∧ run y g w = r2 y g w - r1 y g w) := by
  obtain ⟨h1, h2⟩ := h
  unfold rov at h2
  unfold rfr run
  rw [decide_eq_true_eq, decide_eq_false_iff_not]
  rcases h1 with ⟨a, b⟩ | ⟨a, b⟩
  · rw [if_pos (by omega)] at h2
    exact ⟨fun z => by omega, fun z => by omega⟩
  · rw [if_neg (by omega)] at h2
    exact ⟨fun z => by omega, fun z => by omega⟩
theorem flD_pos {a b : Int} (h1 : 0 ≤ a) (h2 : a ≤ 9223372036854775807) (h3 : 0 < b) (h4 : b ≤ 9223372036854775807) : flD (zL a) (zL b) = zL (a / b) := by
  unfold flD
  have e : zL a / zL b = zL (a / b) := zL_divP h1 h2 (by omega) h4
  rw [e, if_pos (Or.inl ?_)]
  rw [show (0 : Int64) = zL 0 from rfl, zL_lt (by omega) (by omega) (by omega) (by omega), zL_lt (by omega) (by omega) (by omega) (by omega)]
  exact ⟨fun z => by omega, fun z => by omega⟩
/-- a wall's length -/
def lnW (g : Nat → Nat) (w : Nat) : Int := max ((bX g (wlp g w) - aX g (wlp g w)).natAbs : Int) ((bY g (wlp g w) - aY g (wlp g w)).natAbs : Int)
theorem lnW_rng (g : Nat → Nat) (w : Nat) : 0 ≤ lnW g w ∧ lnW g w ≤ 65535 := by
  have a1 := pr_rng g (7 + 4 * g (wlp g w))
  have a2 := pr_rng g (9 + 4 * g (wlp g w))
  have a3 := pr_rng g (7 + 4 * g (wlp g w + 1))
  have a4 := pr_rng g (9 + 4 * g (wlp g w + 1))
  unfold lnW aX aY bX bY
  omega
def sdW (y : RY) (g : Nat → Nat) (w : Nat) : Int := if rfr y g w then r1 y g w else -r1 y g w + run y g w
def uW (y : RY) (g : Nat → Nat) (w : Nat) : Int := lnW g w * (if rfr y g w then r1 y g w else r2 y g w) / run y g w + (g (wlp g w + 10) / 16 : Nat)
def ptN (kd : Nat) : Nat := if kd = 4 then 0 else if kd = 3 then 1 else 2
def tW (y : RY) (g : Nat → Nat) (kd w : Nat) : Nat := g (wlp g w + 4 + (ptN kd + if rfr y g w then 0 else 3))
def hW (g : Nat → Nat) (t : Nat) : Nat := if t = 255 then 0 else 2 ^ g (txp g t + 1)
def anW (g : Nat → Nat) (D : Nat → SD) (kd w : Nat) (fr : Bool) (h : Nat) : Int32 :=
  if kd = 4 then (if nI (g (wlp g w + 11)) &&& 1 = 0 then (D (sdOn g w (!fr))).2.1 + nI h else (D (sdOn g w fr)).2.1)
  else if kd = 3 then (if nI (g (wlp g w + 11)) &&& 2 = 0 then (D (sdOn g w fr)).2.1 else (D (sdOn g w fr)).1 + nI h)
  else (if nI (g (wlp g w + 11)) &&& 2 = 0 then (D (sdOn g w (!fr))).1 else (D (sdOn g w fr)).2.1)
def zW (y : RY) (g : Nat → Nat) (w : Nat) (eye : Int32) (r : Nat) : Int64 := Int32.toInt64 eye + flD (zL (lowZ r) * zL (rov y g w)) (zL (run y g w))
def wlP (y : RY) (g : Nat → Nat) (D : Nat → SD) (kd w : Nat) (lt eye : Int32) (r : Nat) : Int32 := 16 * nI (txS g (tW y g kd w) (zL (uW y g w)) (Int32.toInt64 (anW g D kd w (rfr y g w) (hW g (tW y g kd w)) - 1) - zW y g w eye r + zL (g (wlp g w + 10) % 16 : Nat))) + shS lt (flD (64 * zL (rov y g w)) (zL (run y g w)))
theorem cMap.xV (h : cMap g n) {w kd : Nat} (hw : w < g 6) : tW y g kd w < g 4 ∨ tW y g kd w = 255 := by
  have := (h.1.1.2.2.2.2.2 w hw).1.2.2.2.2.2.1
  unfold tW
  refine this _ ?_
  unfold ptN
  split <;> split <;> (try split) <;> omega
end FK
