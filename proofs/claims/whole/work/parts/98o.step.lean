-- A STEP, both sides
def wkOk (g : Nat → Nat) (k : WK) (a : Nat) : Prop := (-40000 ≤ k.1 ∧ k.1 ≤ 40000) ∧ (-40000 ≤ k.2.1 ∧ k.2.1 ≤ 40000) ∧ k.2.2 < g 5 ∧ a < 64
def tnA (a : Nat) (t : Int) : Nat := (((a : Int) + t) % 64).toNat
theorem tnA_lt (a : Nat) (t : Int) : tnA a t < 64 := by unfold tnA; omega
def mvX (a : Nat) (i : IN) : Int := fdZ (cosT a * i.1 + sinT a * i.2.1) 256
def mvY (a : Nat) (i : IN) : Int := fdZ (sinT a * i.1 - cosT a * i.2.1) 256
def movS (g : Nat → Nat) (i : IN) (k : WK) (a : Nat) (D : Nat → SD) (r : Nat) (F : Nat → SD) (k1 : WK) : Prop :=
  ((mvX a i = 0 ∧ mvY a i = 0) ∧ r = 0 ∧ F = D ∧ k1 = k) ∨ (¬ (mvX a i = 0 ∧ mvY a i = 0) ∧ ∃ b, goS g (k.1, k.2.1, mvX a i, mvY a i) k.2.2 D b F k1 ∧ r = if b then 1 else 2)
def stS (g : Nat → Nat) (i : IN) (k : WK) (a : Nat) (D : Nat → SD) (r : Nat) (k1 : WK) (E : Nat → SD) : Prop :=
  ∃ F G, movS g i k (tnA a i.2.2.1) D r F k1 ∧ (if i.2.2.2 = true then useS g (k1.1, k1.2.1, cosT (tnA a i.2.2.1), sinT (tnA a i.2.2.1)) F G else G = F) ∧ E = fun j => tickS (decide (j = k1.2.2)) (G j)
theorem movS.uniq {g : Nat → Nat} {i : IN} {k : WK} {a : Nat} {D F F2 : Nat → SD} {r r2 : Nat} {k1 k2 : WK} (h : movS g i k a D r F k1) (h2 : movS g i k a D r2 F2 k2) : r2 = r ∧ F2 = F ∧ k2 = k1 := by
  rcases h with ⟨c, a1, a2, a3⟩ | ⟨c, b, a1, a2⟩ <;> rcases h2 with ⟨c2, b1, b2, b3⟩ | ⟨c2, b', b1, b2⟩
  · exact ⟨b1.trans a1.symm, b2.trans a2.symm, b3.trans a3.symm⟩
  · exact absurd c c2
  · exact absurd c2 c
  · obtain ⟨e1, e2, e3⟩ := a1.uniq b1
    exact ⟨by rw [b2, a2, e1], e2, e3⟩
theorem stS.uniq {g : Nat → Nat} {i : IN} {k : WK} {a : Nat} {D E E2 : Nat → SD} {r r2 : Nat} {k1 k2 : WK} (h : stS g i k a D r k1 E) (h2 : stS g i k a D r2 k2 E2) : r2 = r ∧ k2 = k1 ∧ E2 = E := by
  obtain ⟨F, G, a1, a2, a3⟩ := h
  obtain ⟨F2, G2, b1, b2, b3⟩ := h2
  obtain ⟨e1, e2, e3⟩ := a1.uniq b1
  subst e1 e2 e3
  have : G2 = G := by
    by_cases c : i.2.2.2 = true
    · rw [if_pos c] at a2 b2; exact b2.uniq a2
    · rw [if_neg c] at a2 b2; rw [a2, b2]
  exact ⟨rfl, rfl, by rw [a3, b3, this]⟩
theorem goS_ok {g : Nat → Nat} {n a : Nat} {y : RY} {sec : Nat} {D E : Nat → SD} {r : Bool} {k : WK} (hc : cMap g n) (h : goS g y sec D r E k) (ok : wkOk g (y.1, y.2.1, sec) a) : wkOk g k a := by
  rcases h with ⟨-, -, -, e⟩ | ⟨-, nf, ns, -, e⟩
  · rw [e]; exact ok
  · rw [e]
    obtain ⟨o1, o2, o3, o4⟩ := ok
    unfold farB at nf
    have q0 := qcl_in (g := g) (y := y) (share := 1)
    refine ⟨?_, ?_, ?_, o4⟩
    · show -40000 ≤ y.1 + y.2.2.1 ∧ y.1 + y.2.2.1 ≤ 40000
      omega
    · show -40000 ≤ y.2.1 + y.2.2.2 ∧ y.2.1 + y.2.2.2 ≤ 40000
      omega
    · show secA g y (qcl y g 1).1 sec (qcl y g 1).2 < g 5
      unfold secA
      by_cases c : (qcl y g 1).2 = 0
      · rw [if_pos c]; exact o3
      · rw [if_neg c]
        exact sdOn_lt hc (q0.2 _ (by omega)).2 (stB_back (fun z => ns ⟨_, by omega, z⟩))
theorem mov_rng {a : Nat} {i : IN} (ha : a < 64) (hi : inOk i) : ((-32768 ≤ cosT a * i.1 + sinT a * i.2.1 ∧ cosT a * i.1 + sinT a * i.2.1 ≤ 32768) ∧ (-32768 ≤ sinT a * i.1 - cosT a * i.2.1 ∧ sinT a * i.1 - cosT a * i.2.1 ≤ 32768)) ∧ (-32769 ≤ mvX a i ∧ mvX a i ≤ 32768) ∧ (-32769 ≤ mvY a i ∧ mvY a i ≤ 32768) := by
  have c := cosT_rng a ha
  have s := sinT_rng a ha
  obtain ⟨h1, h2, -⟩ := hi
  have m1 := mulb (a := cosT a) (b := i.1) (A := 256) (C := 64) c.1 c.2 h1.1 h1.2
  have m2 := mulb (a := sinT a) (b := i.2.1) (A := 256) (C := 64) s.1 s.2 h2.1 h2.2
  have m3 := mulb (a := sinT a) (b := i.1) (A := 256) (C := 64) s.1 s.2 h1.1 h1.2
  have m4 := mulb (a := cosT a) (b := i.2.1) (A := 256) (C := 64) c.1 c.2 h2.1 h2.2
  have q : ((-32768 ≤ cosT a * i.1 + sinT a * i.2.1 ∧ cosT a * i.1 + sinT a * i.2.1 ≤ 32768) ∧ (-32768 ≤ sinT a * i.1 - cosT a * i.2.1 ∧ sinT a * i.1 - cosT a * i.2.1 ≤ 32768)) := by
    generalize cosT a * i.1 = u1 at *
    generalize sinT a * i.2.1 = u2 at *
    generalize sinT a * i.1 = u3 at *
    generalize cosT a * i.2.1 = u4 at *
    clear c s h1 h2
    omega
  exact ⟨q, fdZ_rng q.1.1 q.1.2, fdZ_rng q.2.1 q.2.2⟩
section STEP
variable {B p n : Nat} {g : Nat → Nat} {D : Nat → SD} {s : vt_S} {i : IN} {k : WK} {a : Nat}
def stpW : List Nat := [406, 407, 408, 409, 410, 707, 708, 709, 710, 711, 712, 713, 1102, 1103, 1104, 1105, 1106]
theorem c_tail {k1 : WK} {a1 : Nat} {r : Nat} {F : Nat → SD} (hi : inOk i) (ok : wkOk g k1 a1) (hk : cWk B p g n s) (hD : secsC s p (g 5) F) (hv : ∀ j, j < g 5 → sdOk (F j)) (hw : wkC B s k1) : ∃ s1 G, ab_X10_step_111 (B + 628) (zI (inN i)) (zI (cosT a1)) (zI (sinT a1)) (nI r) s = some (nI r, s1) ∧ secsC s1 p (g 5) (fun j => tickS (decide (j = k1.2.2)) (G j)) ∧ (∀ j, j < g 5 → sdOk (tickS (decide (j = k1.2.2)) (G j))) ∧ wkC B s1 k1 ∧ vt_I s1 1104 (B + 628) = vt_I s 1104 (B + 628) ∧ vt_I s1 1106 (B + 628) = vt_I s 1106 (B + 628) + 1 ∧ (if i.2.2.2 = true then useS g (k1.1, k1.2.1, cosT a1, sinT a1) F G else G = F) := by
  obtain ⟨o1, o2, o3, o4⟩ := ok
  have cr := cosT_rng a1 o4
  have sr := sinT_rng a1 o4
  have hS := hk.2.2.2.2.2.2.S
  have tick : ∀ (s : vt_S) (G : Nat → SD), cWk B p g n s → secsC s p (g 5) G → (∀ j, j < g 5 → sdOk (G j)) → wkC B s k1 → ∃ s1, ab_X10_step_124 (B + 628) (nI r) s = some (nI r, s1) ∧ secsC s1 p (g 5) (fun j => tickS (decide (j = k1.2.2)) (G j)) ∧ wkC B s1 k1 ∧ vt_I s1 1104 (B + 628) = vt_I s 1104 (B + 628) ∧ vt_I s1 1106 (B + 628) = vt_I s 1106 (B + 628) + 1 := by
    intro s G hk hD hv hw
    have k0 : vk [1106] [] [] (fun _ => True) s (vu_I s 1106 (B + 628) (vt_I s 1106 (B + 628) + 1)) := vk.pI (vk.refl s) (by decide)
    have hk1 : cWk B p g n (vu_I s 1106 (B + 628) (vt_I s 1106 (B + 628) + 1)) := k0.keep0 (P := cWk B p g n) hk
    have hD1 : secsC (vu_I s 1106 (B + 628) (vt_I s 1106 (B + 628) + 1)) p (g 5) G := hD
    have w5 : vt_I (vu_I s 1106 (B + 628) (vt_I s 1106 (B + 628) + 1)) 1105 (B + 628) = nI k1.2.2 := hw.2.2
    obtain ⟨s1, b1, b2, b3⟩ := c_tickAll (w := k1.2.2) hS.1 (by omega) hk1.2.2.2.2.1 hk1.2.2.2.2.2.1.1.2.2.1 hD1 hv
    have km := b2.1
    have hp := hk.1
    refine ⟨s1, ?_, b3, ⟨?_, ?_, ?_⟩, ?_, ?_⟩
    · unfold ab_X10_step_124
      rw [slet, slet, slet, slet, hk1.2.1, w5, b1, vbs]
    · rw [km.I (by omega)]; exact hw.1
    · rw [km.I (by omega)]; exact hw.2.1
    · rw [km.I (by omega)]; exact w5
    · rw [km.I (by omega), I_ne (by omega)]
    · rw [km.I (by omega), I_at]
  unfold ab_X10_step_111
  rw [c_usesOf hi, vbs]
  by_cases cu : i.2.2.2 = true
  · rw [cu, if_neg (show ¬ bI true = 0 by decide)]
    obtain ⟨s1, G, a1', a2, a3, a4⟩ := c_use (y := (k1.1, k1.2.1, cosT a1, sinT a1)) ⟨⟨by dsimp only; omega, by dsimp only; omega⟩, ⟨by dsimp only; omega, by dsimp only; omega⟩, ⟨by dsimp only; omega, by dsimp only; omega⟩, by dsimp only; omega, by dsimp only; omega⟩ hk hD hv hw.1 hw.2.1
    have k1' := (vk_X10_use vclT trivial a1').1
    have hw1 : wkC B s1 k1 := k1'.keep0 (P := fun t => wkC B t k1) hw
    obtain ⟨s2, b1, b2, b3, b4, b5⟩ := tick s1 G (k1'.keep0 (P := cWk B p g n) hk) a2 a3 hw1
    refine ⟨s2, G, ?_, b2, fun j hj => tickS_ok (a3 j hj), b3, ?_, ?_, ?_⟩
    · rw [a1', vbs]; exact b1
    · rw [b4, k1'.eI (by decide)]
    · rw [b5, k1'.eI (by decide)]
    · rw [if_pos rfl]; exact a4
  · rw [Bool.not_eq_true] at cu
    rw [cu, if_pos (show bI false = 0 from rfl)]
    obtain ⟨s2, b1, b2, b3, b4, b5⟩ := tick s F hk hD hv hw
    exact ⟨s2, F, b1, b2, fun j hj => tickS_ok (hv j hj), b3, b4, b5, by rw [if_neg (by decide)]⟩
theorem c_step (hi : inOk i) (hk : cWk B p g n s) (hD : secsC s p (g 5) D) (hv : ∀ j, j < g 5 → sdOk (D j)) (hw : wkC B s k) (ha : vt_I s 1104 (B + 628) = nI a) (ok : wkOk g k a) : ∃ r s1 E k1, ab_X10_step (B + 628) (zI (inN i)) s = some (nI r, s1) ∧ cWk B p g n s1 ∧ secsC s1 p (g 5) E ∧ (∀ j, j < g 5 → sdOk (E j)) ∧ wkC B s1 k1 ∧ vt_I s1 1104 (B + 628) = nI (tnA a i.2.2.1) ∧ vt_I s1 1106 (B + 628) = vt_I s 1106 (B + 628) + 1 ∧ wkOk g k1 (tnA a i.2.2.1) ∧ stS g i k a D r k1 E := by
  obtain ⟨o1, o2, o3, o4⟩ := ok
  have al := tnA_lt a i.2.2.1
  have mr := mov_rng al hi
  have k0 : vk [1104] [] [] (fun _ => True) s (vu_I s 1104 (B + 628) (nI (tnA a i.2.2.1))) := vk.pI (vk.refl s) (by decide)
  have hk0 : cWk B p g n (vu_I s 1104 (B + 628) (nI (tnA a i.2.2.1))) := k0.keep0 (P := cWk B p g n) hk
  have hD0 : secsC (vu_I s 1104 (B + 628) (nI (tnA a i.2.2.1))) p (g 5) D := hD
  have hw0 : wkC B (vu_I s 1104 (B + 628) (nI (tnA a i.2.2.1))) (k.1, k.2.1, k.2.2) := hw
  have ix : (zI (mvX (tnA a i.2.2.1) i) = 0) = (mvX (tnA a i.2.2.1) i = 0) := by
    rw [show (0 : Int32) = zI 0 from rfl, zI_eq (by omega) (by omega) (by omega) (by omega)]
  have iy : (zI (mvY (tnA a i.2.2.1) i) = 0) = (mvY (tnA a i.2.2.1) i = 0) := by
    rw [show (0 : Int32) = zI 0 from rfl, zI_eq (by omega) (by omega) (by omega) (by omega)]
  have f1 := fun t => c_fdiv (a := cosT (tnA a i.2.2.1) * i.1 + sinT (tnA a i.2.2.1) * i.2.1) (b := 256) (by omega) (by omega) (by omega) (by omega) (by omega) t
  have f2 := fun t => c_fdiv (a := sinT (tnA a i.2.2.1) * i.1 - cosT (tnA a i.2.2.1) * i.2.1) (b := 256) (by omega) (by omega) (by omega) (by omega) (by omega) t
  have e0 : ab_X10_step (B + 628) (zI (inN i)) s = if mvX (tnA a i.2.2.1) i = 0 ∧ mvY (tnA a i.2.2.1) i = 0 then ab_X10_step_111 (B + 628) (zI (inN i)) (zI (cosT (tnA a i.2.2.1))) (zI (sinT (tnA a i.2.2.1))) 0 (vu_I s 1104 (B + 628) (nI (tnA a i.2.2.1))) else ab_X10_step_93 (B + 628) (zI (inN i)) (zI (cosT (tnA a i.2.2.1))) (zI (sinT (tnA a i.2.2.1))) (zI (mvX (tnA a i.2.2.1) i)) (zI (mvY (tnA a i.2.2.1) i)) (vu_I s 1104 (B + 628) (nI (tnA a i.2.2.1))) := by
    have ht : ab_J9_floorMod_7cf53 (zI ((a : Int) + i.2.2.1)) 64 s = some (nI (tnA a i.2.2.1), s) := c_turn64 (by have := hi.2.2; omega) (by have := hi.2.2; omega) s
    unfold ab_X10_step
    rw [slet, ha, c_turnOf hi, vbs, nI_z a, zI_add, ht, vbs, slet, slet, I_at, c_cos _ _ al, vbs, slet, I_at, c_sin _ _ al, vbs, c_aheadOf hi, vbs, c_asideOf hi, vbs, zI_mul, zI_mul, zI_add, z_256, f1, vbs, zI_mul, zI_mul, zI_sub, f2, vbs]
    show (if zI (mvX (tnA a i.2.2.1) i) = 0 then if zI (mvY (tnA a i.2.2.1) i) = 0 then _ else _ else _) = _
    rw [ifc ix, ifc iy]
    by_cases c1 : mvX (tnA a i.2.2.1) i = 0
    · rw [if_pos c1]
      by_cases c2 : mvY (tnA a i.2.2.1) i = 0
      · rw [if_pos c2, if_pos ⟨c1, c2⟩]
      · rw [if_neg c2, if_neg (fun z => c2 z.2)]; rfl
    · rw [if_neg c1, if_neg (fun z => c1 z.1)]; rfl
  rw [e0]
  by_cases c : mvX (tnA a i.2.2.1) i = 0 ∧ mvY (tnA a i.2.2.1) i = 0
  · rw [if_pos c]
    obtain ⟨s1, G, b1, b2, b3, b4, b5, b6, b7⟩ := c_tail (r := 0) (i := i) (k1 := k) (a1 := tnA a i.2.2.1) hi ⟨o1, o2, o3, al⟩ hk0 hD0 hv hw
    have kk : vk stpW [400, 401, 402, 403, 404, 405] [] (fun _ => True) s s1 := (vk_X10_step (r := nI 0) (s := s1) vclT trivial (by rw [e0, if_pos c]; exact b1)).1
    exact ⟨0, s1, _, k, b1, kk.keep0 (P := cWk B p g n) hk, b2, b3, b4, by rw [b5, I_at], by rw [b6, I_ne (by omega)], ⟨o1, o2, o3, al⟩, D, G, Or.inl ⟨c, rfl, rfl, rfl⟩, b7, rfl⟩
  · rw [if_neg c]
    obtain ⟨r, s1, E, k1, a1, a2, a3, a4, a5, a6⟩ := c_go (y := (k.1, k.2.1, mvX (tnA a i.2.2.1) i, mvY (tnA a i.2.2.1) i)) (sec := k.2.2) ⟨⟨by dsimp only; omega, by dsimp only; omega⟩, ⟨by dsimp only; omega, by dsimp only; omega⟩, ⟨by dsimp only; omega, by dsimp only; omega⟩, by dsimp only; omega, by dsimp only; omega⟩ hk0 hD0 hv hw0
    have ok1 : wkOk g k1 (tnA a i.2.2.1) := goS_ok hk.2.2.2.2.2.2 a6 ⟨o1, o2, o3, al⟩
    have hk1 : cWk B p g n s1 := a2.keep0 (P := cWk B p g n) hk0
    obtain ⟨s2, G, b1, b2, b3, b4, b5, b6, b7⟩ := c_tail (r := if r then 1 else 2) (i := i) hi ok1 hk1 a3 a4 a5
    have e1 : ab_X10_step_93 (B + 628) (zI (inN i)) (zI (cosT (tnA a i.2.2.1))) (zI (sinT (tnA a i.2.2.1))) (zI (mvX (tnA a i.2.2.1) i)) (zI (mvY (tnA a i.2.2.1) i)) (vu_I s 1104 (B + 628) (nI (tnA a i.2.2.1))) = some (nI (if r then 1 else 2), s2) := by
      unfold ab_X10_step_93 ab_X10_step_109
      have a1' : ab_X10_go (B + 628) (zI (mvX (tnA a i.2.2.1) i)) (zI (mvY (tnA a i.2.2.1) i)) (vu_I s 1104 (B + 628) (nI (tnA a i.2.2.1))) = some (bI r, s1) := a1
      rw [a1', vbs]
      cases r
      · rw [if_pos (show bI false = 0 from rfl)]; exact b1
      · rw [if_neg (show ¬ bI true = 0 by decide)]; exact b1
    have kk : vk stpW [400, 401, 402, 403, 404, 405] [] (fun _ => True) s s2 := (vk_X10_step (r := nI (if r then 1 else 2)) (s := s2) vclT trivial (by rw [e0, if_neg c]; exact e1)).1
    exact ⟨if r then 1 else 2, s2, _, k1, e1, kk.keep0 (P := cWk B p g n) hk, b2, b3, b4, by rw [b5, a2.eI (by decide), I_at], by rw [b6, a2.eI (by decide), I_ne (by omega)], ok1, E, G, Or.inr ⟨c, r, a6, rfl⟩, b7, rfl⟩
end STEP
