-- MOVERS: floor, ceiling, mover, heading, ticks to wait, goal, home
abbrev SD : Type := Int32 × Int32 × Int32 × Int32 × Int32 × Int32 × Int32
theorem I_nf {s : vt_S} {f g a b : Nat} {v : Int32} (h : g ≠ f) : vt_I (vu_I s f a v) g b = vt_I s g b := I_ne (fun z => h z.1)
theorem A_nf {s : vt_S} {f g a b i : Nat} {v : Int32} (h : g ≠ f) : vt_A (vu_A s f a i v) g b = vt_A s g b := A_ne (fun z => h z.1)
theorem I_A {s : vt_S} {f a i : Nat} {v : Int32} : vt_I (vu_A s f a i v) = vt_I s := Eq.trans rfl rfl
theorem A_I {s : vt_S} {f a : Nat} {v : Int32} : vt_A (vu_I s f a v) = vt_A s := Eq.trans rfl rfl
theorem L_I {s : vt_S} {f a : Nat} {v : Int32} : vt_L (vu_I s f a v) = vt_L s := Eq.trans rfl rfl
theorem L_A {s : vt_S} {f a i : Nat} {v : Int32} : vt_L (vu_A s f a i v) = vt_L s := Eq.trans rfl rfl
def secC (s : vt_S) (x : Nat) (d : SD) : Prop := vt_I s 707 x = d.1 ∧ vt_I s 708 x = d.2.1 ∧ vt_I s 709 x = d.2.2.1 ∧ vt_I s 710 x = d.2.2.2.1 ∧ (d.2.2.1 ≠ -1 → (d.2.2.2.1 = 0 → vt_I s 711 x = d.2.2.2.2.1) ∧ vt_I s 712 x = d.2.2.2.2.2.1 ∧ vt_I s 713 x = d.2.2.2.2.2.2)
def secR (s : vt_S) (H j : Nat) (d : SD) : Prop := vt_A s 1408 H j = d.1 ∧ vt_A s 1409 H j = d.2.1 ∧ vt_A s 1410 H j = d.2.2.1 ∧ vt_A s 1411 H j = d.2.2.2.1 ∧ (d.2.2.1 ≠ -1 → vt_A s 1412 H j = d.2.2.2.2.1 ∧ vt_A s 1413 H j = d.2.2.2.2.2.1 ∧ vt_A s 1414 H j = d.2.2.2.2.2.2)
def sdOk (d : SD) : Prop := (d.2.2.1 = -1 ∧ d.2.2.2.1 = 0) ∨ ((d.2.2.1 = 0 ∨ d.2.2.1 = 1 ∨ d.2.2.1 = 2) ∧ (d.2.2.2.1 = -1 ∨ d.2.2.2.1 = 0 ∨ d.2.2.2.1 = 1) ∧ (d.2.2.1 = 2 → d.2.2.2.1 = 1) ∧ (d.2.2.2.1 = 0 → 0 < d.2.2.2.2.1) ∧ (d.2.2.2.1 ≠ 0 → d.2.2.2.2.1 = 0))
def raiseS (w : Bool) (way top : Int32) (d : SD) : SD :=
  if w = true ∧ d.2.1 - sv_min (d.1 + way) top < 56 then d else
  if sv_min (d.1 + way) top = top then (top, d.2.1, -1, 0, 0, 0, 0) else (sv_min (d.1 + way) top, d.2)
/-- one tick -/
def tickS (w : Bool) (d : SD) : SD :=
  if d.2.2.1 = -1 then d else
  if d.2.2.2.1 = 0 then (if 0 < d.2.2.2.2.1 - 1 then (d.1, d.2.1, d.2.2.1, 0, d.2.2.2.2.1 - 1, d.2.2.2.2.2) else (d.1, d.2.1, d.2.2.1, (if d.2.2.1 = 0 then -1 else 1), 0, d.2.2.2.2.2)) else
  if d.2.2.1 = 0 then (
    if 0 < d.2.2.2.1 then (if sv_min (d.2.1 + 8) d.2.2.2.2.2.1 = d.2.2.2.2.2.1 then (d.1, d.2.2.2.2.2.1, 0, 0, 20, d.2.2.2.2.2) else (d.1, sv_min (d.2.1 + 8) d.2.2.2.2.2.1, d.2.2)) else
    if w = true ∧ sv_max (d.2.1 - 8) d.1 - d.1 < 56 then (d.1, d.2.1, 0, 1, 0, d.2.2.2.2.2) else
    if sv_max (d.2.1 - 8) d.1 = d.1 then (d.1, d.1, -1, 0, 0, 0, 0) else (d.1, sv_max (d.2.1 - 8) d.1, d.2.2)) else
  if d.2.2.2.1 < 0 then (if sv_max (d.1 - 4) d.2.2.2.2.2.1 = d.2.2.2.2.2.1 then (d.2.2.2.2.2.1, d.2.1, d.2.2.1, 0, 30, d.2.2.2.2.2) else (sv_max (d.1 - 4) d.2.2.2.2.2.1, d.2)) else
  if d.2.2.1 = 1 then raiseS w 4 d.2.2.2.2.2.2 d else raiseS w 2 d.2.2.2.2.2.1 d
/-- of an object, only the numbers from 707 on were changed -/
def mvd (x : Nat) (s s1 : vt_S) : Prop := onl (· = x) s s1 ∧ (∀ f, f < 707 → vt_I s1 f x = vt_I s f x) ∧ ∀ f, vt_A s1 f x = vt_A s f x
theorem mvd.refl {x : Nat} {s : vt_S} : mvd x s s := ⟨onl.refl, fun _ _ => rfl, fun _ => rfl⟩
theorem mvd.put {x f : Nat} {s s1 : vt_S} {v : Int32} (h : mvd x s s1) (hf : 707 ≤ f) : mvd x s (vu_I s1 f x v) := ⟨h.1.pI, fun g hg => by rw [I_nf (by omega)]; exact h.2.1 g hg, fun g => h.2.2 g⟩
section MV
variable {s : vt_S} {x : Nat}
theorem c_end (s : vt_S) (x : Nat) : ∃ s1, ab_X6_endMover x s = some ((), s1) ∧ mvd x s s1 ∧ vt_I s1 707 x = vt_I s 707 x ∧ vt_I s1 708 x = vt_I s 708 x ∧ vt_I s1 709 x = -1 ∧ vt_I s1 710 x = 0 := by
  refine ⟨vu_I (vu_I (vu_I s 709 x (-1)) 710 x 0) 711 x 0, ?_, ((mvd.refl.put (by omega)).put (by omega)).put (by omega), ?_, ?_, ?_, ?_⟩
  · unfold ab_X6_endMover; simp only [slet]
  · simp (disch := decide) only [I_at, I_nf]
  · simp (disch := decide) only [I_at, I_nf]
  · simp (disch := decide) only [I_at, I_nf]
  · simp (disch := decide) only [I_at, I_nf]
theorem c_raise {way top : Int32} (w : Bool) {d : SD} (h : secC s x d) (hm : d.2.2.1 ≠ -1) : ∃ s1, ab_X6_raiseFloor x way top (bI w) s = some ((), s1) ∧ secC s1 x (raiseS w way top d) ∧ mvd x s s1 := by
  obtain ⟨h1, h2, h3, h4, h5⟩ := id h
  have e29 : ∃ s1, ab_X6_raiseFloor_29 x top (sv_min (d.1 + way) top) s = some ((), s1) ∧ secC s1 x (if sv_min (d.1 + way) top = top then (top, d.2.1, -1, 0, 0, 0, 0) else (sv_min (d.1 + way) top, d.2)) ∧ mvd x s s1 := by
    unfold ab_X6_raiseFloor_29
    simp only [slet, I_at]
    by_cases c : sv_min (d.1 + way) top = top
    · rw [if_pos c, if_pos c]
      obtain ⟨s1, a1, a2, a3, a4, a5, a6⟩ := c_end (vu_I s 707 x (sv_min (d.1 + way) top)) x
      rw [a1, vbs]
      refine ⟨s1, rfl, ⟨by rw [a3, I_at]; exact c, by rw [a4, I_nf (by decide)]; exact h2, a5, a6, fun z => absurd rfl z⟩, ?_⟩
      exact ⟨(mvd.refl.put (s := s) (by omega)).1.trans a2.1, fun f hf => by rw [a2.2.1 f hf, I_nf (by omega)], fun f => by rw [a2.2.2]; rfl⟩
    · rw [if_neg c, if_neg c]
      refine ⟨_, rfl, ⟨I_at, by rw [I_nf (by decide)]; exact h2, by rw [I_nf (by decide)]; exact h3, by rw [I_nf (by decide)]; exact h4, fun z => ?_⟩, mvd.refl.put (by omega)⟩
      rw [I_nf (by decide), I_nf (by decide), I_nf (by decide)]; exact h5 z
  unfold ab_X6_raiseFloor raiseS
  simp only [slet, h1, h2]
  cases w with
  | false =>
    rw [if_pos (show bI false = 0 from rfl), if_neg (fun z => by cases z.1)]
    exact e29
  | true =>
    rw [if_neg (show ¬ bI true = 0 by decide)]
    by_cases c : 56 ≤ d.2.1 - sv_min (d.1 + way) top
    · rw [if_pos c, if_neg (fun z => Int32.not_lt.mpr c z.2)]
      exact e29
    · rw [if_neg c, if_pos ⟨rfl, Int32.not_le.mp c⟩]
      exact ⟨s, rfl, h, mvd.refl⟩
theorem c_tick (w : Bool) {d : SD} (h : secC s x d) (hv : sdOk d) : ∃ s1, ab_X6_tick x (bI w) s = some ((), s1) ∧ secC s1 x (tickS w d) ∧ mvd x s s1 := by
  obtain ⟨h1, h2, h3, h4, h5⟩ := id h
  obtain ⟨fl, ce, mv, hd, wt, gl, hm⟩ := d
  dsimp only at h1 h2 h3 h4 h5
  unfold ab_X6_tick tickS
  dsimp only
  simp only [slet, h3, h4]
  by_cases c1 : mv = -1
  · rw [if_pos c1, if_pos c1]; exact ⟨s, rfl, h, mvd.refl⟩
  rw [if_neg c1, if_neg c1]
  obtain ⟨k1, k2, k3⟩ := h5 c1
  by_cases c2 : hd = 0
  · rw [if_pos c2, if_pos c2]
    unfold ab_X6_waitOn ab_X6_waitOn_30 ab_X6_waitOn_33 ab_X6_tick_104
    simp only [slet, k1 c2, I_at]
    rw [I_nf (show 709 ≠ 711 by decide), h3]
    by_cases c3 : 0 < wt - 1
    · rw [if_pos c3, if_pos c3, vbs]
      refine ⟨_, rfl, ⟨by rw [I_nf (by decide)]; exact h1, by rw [I_nf (by decide)]; exact h2, by rw [I_nf (by decide)]; exact h3, by rw [I_nf (by decide), h4]; exact c2, fun _ => ⟨fun _ => I_at, by rw [I_nf (by decide)]; exact k2, by rw [I_nf (by decide)]; exact k3⟩⟩, mvd.refl.put (by omega)⟩
    · rw [if_neg c3, if_neg c3]
      by_cases c4 : mv = 0
      · rw [if_pos c4, if_pos c4, vbs]
        refine ⟨_, rfl, ⟨?_, ?_, ?_, I_at, fun _ => ⟨fun z => absurd z (show ¬ (-1 : Int32) = 0 by decide), ?_, ?_⟩⟩, (mvd.refl.put (by omega)).put (by omega)⟩ <;> rw [I_nf (by decide), I_nf (by decide)] <;> assumption
      · rw [if_neg c4, if_neg c4, vbs]
        refine ⟨_, rfl, ⟨?_, ?_, ?_, I_at, fun _ => ⟨fun z => absurd z (show ¬ (1 : Int32) = 0 by decide), ?_, ?_⟩⟩, (mvd.refl.put (by omega)).put (by omega)⟩ <;> rw [I_nf (by decide), I_nf (by decide)] <;> assumption
  rw [if_neg c2, if_neg c2]
  by_cases c3 : mv = 0
  · rw [if_pos c3, if_pos c3]
    by_cases c4 : 0 < hd
    · rw [if_neg (Int32.not_le.mpr c4), if_pos c4]
      unfold ab_X6_openDoor ab_X6_openDoor_35 ab_X6_waitFor ab_X6_tick_104
      simp only [slet, h2, k2, I_at]
      rw [I_nf (show 712 ≠ 708 by decide), k2]
      by_cases c5 : sv_min (ce + 8) gl = gl
      · rw [if_pos c5, if_pos c5, vbs, vbs]
        refine ⟨_, rfl, ⟨?_, ?_, ?_, ?_, fun _ => ⟨fun _ => I_at, ?_, ?_⟩⟩, ((mvd.refl.put (by omega)).put (by omega)).put (by omega)⟩
        · simp (disch := decide) only [I_nf]; exact h1
        · simp (disch := decide) only [I_nf, I_at]; exact c5
        · simp (disch := decide) only [I_nf]; exact h3.trans c3
        · simp (disch := decide) only [I_nf, I_at]
        · simp (disch := decide) only [I_nf]; exact k2
        · simp (disch := decide) only [I_nf]; exact k3
      · rw [if_neg c5, if_neg c5, vbs]
        refine ⟨_, rfl, ⟨by rw [I_nf (by decide)]; exact h1, I_at, by rw [I_nf (by decide)]; exact h3, by rw [I_nf (by decide)]; exact h4, fun _ => ⟨fun z => absurd z c2, by rw [I_nf (by decide)]; exact k2, by rw [I_nf (by decide)]; exact k3⟩⟩, mvd.refl.put (by omega)⟩
    · rw [if_pos (Int32.not_lt.mp c4), if_neg c4]
      unfold ab_X6_tick_44 ab_X6_closeDoor ab_X6_tick_104
      simp only [slet, h1, h2, h3]
      rw [if_pos c3]
      have e36 : ∃ s1, ab_X6_closeDoor_36 x (sv_max (ce - 8) fl) s = some ((), s1) ∧ secC s1 x (if sv_max (ce - 8) fl = fl then (fl, fl, -1, 0, 0, 0, 0) else (fl, sv_max (ce - 8) fl, mv, hd, wt, gl, hm)) ∧ mvd x s s1 := by
        unfold ab_X6_closeDoor_36 ab_X6_closeDoor_56
        simp only [slet, I_at]
        rw [I_nf (show 707 ≠ 708 by decide), h1]
        by_cases c5 : sv_max (ce - 8) fl = fl
        · rw [if_pos c5, if_pos c5]
          obtain ⟨s1, a1, a2, a3, a4, a5, a6⟩ := c_end (vu_I s 708 x (sv_max (ce - 8) fl)) x
          rw [a1, vbs]
          refine ⟨s1, rfl, ⟨by rw [a3, I_nf (by decide)]; exact h1, by rw [a4, I_at]; exact c5, a5, a6, fun z => absurd rfl z⟩, ?_⟩
          exact ⟨(mvd.refl.put (s := s) (by omega)).1.trans a2.1, fun f hf => by rw [a2.2.1 f hf, I_nf (by omega)], fun f => by rw [a2.2.2]; rfl⟩
        · rw [if_neg c5, if_neg c5]
          refine ⟨_, rfl, ⟨by rw [I_nf (by decide)]; exact h1, I_at, by rw [I_nf (by decide)]; exact h3, by rw [I_nf (by decide)]; exact h4, fun _ => ⟨fun z => absurd z c2, by rw [I_nf (by decide)]; exact k2, by rw [I_nf (by decide)]; exact k3⟩⟩, mvd.refl.put (by omega)⟩
      obtain ⟨s1, b1, b2, b3⟩ := e36
      cases w with
      | false =>
        rw [if_pos (show bI false = 0 from rfl), if_neg (fun z => by cases z.1), b1, vbs]
        exact ⟨s1, rfl, b2, b3⟩
      | true =>
        rw [if_neg (show ¬ bI true = 0 by decide)]
        by_cases c6 : 56 ≤ sv_max (ce - 8) fl - fl
        · rw [if_pos c6, if_neg (fun z => Int32.not_lt.mpr c6 z.2), b1, vbs]
          exact ⟨s1, rfl, b2, b3⟩
        · rw [if_neg c6, if_pos ⟨rfl, Int32.not_le.mp c6⟩, vbs]
          refine ⟨_, rfl, ⟨by rw [I_nf (by decide)]; exact h1, by rw [I_nf (by decide)]; exact h2, by rw [I_nf (by decide)]; exact h3.trans c3, I_at, fun _ => ⟨fun z => absurd z (show ¬ (1 : Int32) = 0 by decide), by rw [I_nf (by decide)]; exact k2, by rw [I_nf (by decide)]; exact k3⟩⟩, mvd.refl.put (by omega)⟩
  · rw [if_neg c3, if_neg c3]
    unfold ab_X6_tick_44 ab_X6_tick_104
    simp only [slet, h3, h4]
    rw [if_neg c3]
    by_cases c4 : hd < 0
    · rw [if_neg (Int32.not_le.mpr c4), if_pos c4]
      unfold ab_X6_sinkLift ab_X6_sinkLift_34 ab_X6_waitFor
      simp only [slet, h1, k2, I_at]
      rw [I_nf (show 712 ≠ 707 by decide), k2]
      by_cases c5 : sv_max (fl - 4) gl = gl
      · rw [if_pos c5, if_pos c5, vbs, vbs]
        refine ⟨_, rfl, ⟨?_, ?_, ?_, ?_, fun _ => ⟨fun _ => I_at, ?_, ?_⟩⟩, ((mvd.refl.put (by omega)).put (by omega)).put (by omega)⟩
        · simp (disch := decide) only [I_nf, I_at]; exact c5
        · simp (disch := decide) only [I_nf]; exact h2
        · simp (disch := decide) only [I_nf]; exact h3
        · simp (disch := decide) only [I_nf, I_at]
        · simp (disch := decide) only [I_nf]; exact k2
        · simp (disch := decide) only [I_nf]; exact k3
      · rw [if_neg c5, if_neg c5, vbs]
        refine ⟨_, rfl, ⟨I_at, by rw [I_nf (by decide)]; exact h2, by rw [I_nf (by decide)]; exact h3, by rw [I_nf (by decide)]; exact h4, fun _ => ⟨fun z => absurd z c2, by rw [I_nf (by decide)]; exact k2, by rw [I_nf (by decide)]; exact k3⟩⟩, mvd.refl.put (by omega)⟩
    · rw [if_pos (Int32.not_lt.mp c4), if_neg c4]
      by_cases c5 : mv = 1
      · obtain ⟨s1, b1, b2, b3⟩ := c_raise (way := 4) (top := hm) w h c1
        rw [if_pos c5, if_pos c5, k3, b1, vbs]
        exact ⟨s1, rfl, b2, b3⟩
      · obtain ⟨s1, b1, b2, b3⟩ := c_raise (way := 2) (top := gl) w h c1
        rw [if_neg c5, if_neg c5, k2, b1, vbs]
        exact ⟨s1, rfl, b2, b3⟩
end MV
