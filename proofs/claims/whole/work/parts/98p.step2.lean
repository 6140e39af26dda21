-- A STEP, the reference
section STEP
variable {B n : Nat} {g : Nat → Nat} {D : Nat → SD} {s : vt_S} {i : IN} {k : WK} {a : Nat}
def hTk (B : Nat) (s : vt_S) : Int32 := vt_I s 1415 (B + 656)
theorem r_tail {k1 : WK} {a1 : Nat} {r : Nat} {F : Nat → SD} (ok : wkOk g k1 a1) (hk : rWk B g n s) (hD : secsR s (B + 656) (g 5) F) (hv : ∀ j, j < g 5 → sdOk (F j)) (hw : wkR B s k1) (ha : vt_I s 1813 (B + 639) = nI a1) (u : Bool) : ∃ s1 G, ab_X17_go_110 (B + 639) (bI u) (nI r) s = some (nI r, s1) ∧ secsR s1 (B + 656) (g 5) (fun j => tickS (decide (j = k1.2.2)) (G j)) ∧ (∀ j, j < g 5 → sdOk (tickS (decide (j = k1.2.2)) (G j))) ∧ wkR B s1 k1 ∧ vt_I s1 1813 (B + 639) = nI a1 ∧ hTk B s1 = hTk B s + 1 ∧ (if u = true then useS g (k1.1, k1.2.1, cosT a1, sinT a1) F G else G = F) := by
  obtain ⟨o1, o2, o3, o4⟩ := ok
  have cr := cosT_rng a1 o4
  have sr := sinT_rng a1 o4
  have hS := hk.C.S
  have tick : ∀ (s : vt_S) (G : Nat → SD), rWk B g n s → secsR s (B + 656) (g 5) G → (∀ j, j < g 5 → sdOk (G j)) → wkR B s k1 → vt_I s 1813 (B + 639) = nI a1 → ∃ s1, ab_X17_go_121 (B + 639) (nI r) s = some (nI r, s1) ∧ secsR s1 (B + 656) (g 5) (fun j => tickS (decide (j = k1.2.2)) (G j)) ∧ wkR B s1 k1 ∧ vt_I s1 1813 (B + 639) = nI a1 ∧ hTk B s1 = hTk B s + 1 := by
    intro s G hk hD hv hw ha
    have k0 : vk [1416] [] [] (fun _ => True) s (vu_I s 1416 (B + 656) (nI k1.2.2)) := vk.pI (vk.refl s) (by decide)
    have hk1 : rWk B g n (vu_I s 1416 (B + 656) (nI k1.2.2)) := k0.keep0 (P := rWk B g n) hk
    have hD1 : secsR (vu_I s 1416 (B + 656) (nI k1.2.2)) (B + 656) (g 5) G := hD
    have P3 : vt_P (vu_I s 1416 (B + 656) (nI k1.2.2)) 1803 (B + 639) = B + 656 := hk1.2.2.2.2.1
    obtain ⟨o, s1, b1, b2, b3, b4⟩ := r_ticks (w := k1.2.2) hS.1 (by omega) hk1.2.1.2.1 hk1.2.1.1.1 I_at hD1 hv
    have hw1 : wkR B s1 k1 := by
      refine ⟨?_, ?_, ?_⟩
      · rw [b2.I (by omega), I_ne (by omega)]; exact hw.1
      · rw [b2.I (by omega), I_ne (by omega)]; exact hw.2.1
      · rw [b2.I (by omega), I_ne (by omega)]; exact hw.2.2
    refine ⟨s1, ?_, b4, hw1, ?_, ?_⟩
    · unfold ab_X17_go_121
      rw [slet, slet, slet, slet, hk.2.2.2.2.1, hw.2.2, P3, b1, vbs]
    · rw [b2.I (by omega), I_ne (by omega)]; exact ha
    · unfold hTk
      rw [b3, I_ne (by omega)]
  unfold ab_X17_go_110
  by_cases cu : u = true
  · rw [cu, if_neg (show ¬ bI true = 0 by decide)]
    obtain ⟨s1, G, a1', a2, a3, a4⟩ := r_use (y := (k1.1, k1.2.1, cosT a1, sinT a1)) o4 ⟨⟨by dsimp only; omega, by dsimp only; omega⟩, ⟨by dsimp only; omega, by dsimp only; omega⟩, ⟨by dsimp only; omega, by dsimp only; omega⟩, by dsimp only; omega, by dsimp only; omega⟩ rfl rfl hk hD hv hw.1 hw.2.1 ha
    have k1' := (vk_X17_use vclT trivial a1').1
    have hw1 : wkR B s1 k1 := k1'.keep0 (P := fun t => wkR B t k1) hw
    obtain ⟨s2, b1, b2, b3, b4, b5⟩ := tick s1 G (k1'.keep0 (P := rWk B g n) hk) a2 a3 hw1 (by rw [k1'.eI (by decide)]; exact ha)
    refine ⟨s2, G, ?_, b2, fun j hj => tickS_ok (a3 j hj), b3, b4, ?_, ?_⟩
    · rw [a1', vbs]; exact b1
    · rw [b5]; unfold hTk; rw [k1'.eI (by decide)]
    · rw [if_pos rfl]; exact a4
  · rw [Bool.not_eq_true] at cu
    rw [cu, if_pos (show bI false = 0 from rfl)]
    obtain ⟨s2, b1, b2, b3, b4, b5⟩ := tick s F hk hD hv hw ha
    exact ⟨s2, F, b1, b2, fun j hj => tickS_ok (hv j hj), b3, b4, b5, by rw [if_neg (by decide)]⟩
theorem r_goS (hi : inOk i) (hk : rWk B g n s) (hD : secsR s (B + 656) (g 5) D) (hv : ∀ j, j < g 5 → sdOk (D j)) (hw : wkR B s k) (ha : vt_I s 1813 (B + 639) = nI a) (ok : wkOk g k a) : ∃ r s1 E k1, ab_X17_go (B + 639) (zI i.1) (zI i.2.1) (zI i.2.2.1) (bI i.2.2.2) s = some (nI r, s1) ∧ rWk B g n s1 ∧ secsR s1 (B + 656) (g 5) E ∧ (∀ j, j < g 5 → sdOk (E j)) ∧ wkR B s1 k1 ∧ vt_I s1 1813 (B + 639) = nI (tnA a i.2.2.1) ∧ hTk B s1 = hTk B s + 1 ∧ wkOk g k1 (tnA a i.2.2.1) ∧ stS g i k a D r k1 E := by
  obtain ⟨o1, o2, o3, o4⟩ := ok
  have al := tnA_lt a i.2.2.1
  have mr := mov_rng al hi
  have cr := cosT_rng _ al
  have sr := sinT_rng _ al
  have i1 := hi.1
  have i2 := hi.2.1
  have k0 : vk [1813] [] [] (fun _ => True) s (vu_I s 1813 (B + 639) (nI (tnA a i.2.2.1))) := vk.pI (vk.refl s) (by decide)
  have hk0 : rWk B g n (vu_I s 1813 (B + 639) (nI (tnA a i.2.2.1))) := k0.keep0 (P := rWk B g n) hk
  have hD0 : secsR (vu_I s 1813 (B + 639) (nI (tnA a i.2.2.1))) (B + 656) (g 5) D := hD
  have hw0 : wkR B (vu_I s 1813 (B + 639) (nI (tnA a i.2.2.1))) (k.1, k.2.1, k.2.2) := hw
  have ix : (zI (mvX (tnA a i.2.2.1) i) = 0) = (mvX (tnA a i.2.2.1) i = 0) := by
    rw [show (0 : Int32) = zI 0 from rfl, zI_eq (by omega) (by omega) (by omega) (by omega)]
  have iy : (zI (mvY (tnA a i.2.2.1) i) = 0) = (mvY (tnA a i.2.2.1) i = 0) := by
    rw [show (0 : Int32) = zI 0 from rfl, zI_eq (by omega) (by omega) (by omega) (by omega)]
  have f1 : ∀ t, ab_X17_down (zL (cosT (tnA a i.2.2.1) * i.1 + sinT (tnA a i.2.2.1) * i.2.1)) (zL 256) t = some (zL (mvX (tnA a i.2.2.1) i), t) := fun t => r_down (by omega) (by omega) (by omega) (by omega) (by omega) t
  have f2 : ∀ t, ab_X17_down (zL (sinT (tnA a i.2.2.1) * i.1 - cosT (tnA a i.2.2.1) * i.2.1)) (zL 256) t = some (zL (mvY (tnA a i.2.2.1) i), t) := fun t => r_down (by omega) (by omega) (by omega) (by omega) (by omega) t
  have e0 : ab_X17_go (B + 639) (zI i.1) (zI i.2.1) (zI i.2.2.1) (bI i.2.2.2) s = if mvX (tnA a i.2.2.1) i = 0 ∧ mvY (tnA a i.2.2.1) i = 0 then ab_X17_go_110 (B + 639) (bI i.2.2.2) 0 (vu_I s 1813 (B + 639) (nI (tnA a i.2.2.1))) else ab_X17_go_94 (B + 639) (bI i.2.2.2) (zI (mvX (tnA a i.2.2.1) i)) (zI (mvY (tnA a i.2.2.1) i)) (vu_I s 1813 (B + 639) (nI (tnA a i.2.2.1))) := by
    have ht : (zI ((a : Int) + i.2.2.1) + 64) - (zI ((a : Int) + i.2.2.1) + 64) / 64 * 64 = nI (tnA a i.2.2.1) := r_turn64 (by have := hi.2.2; omega) (by have := hi.2.2; omega)
    unfold ab_X17_go
    rw [slet, ha, nI_z a, zI_add, ht, slet, slet, I_at, r_cos _ _ al, vbs, slet, I_at, r_sin _ _ al, vbs, zI_wide (by omega) (by omega), zI_wide (by omega) (by omega), zI_wide (by omega) (by omega), zI_wide (by omega) (by omega), zL_mul, zL_mul, zL_add, y_256, f1, vbs, slet, I_at, r_sin _ _ al, vbs, slet, I_at, r_cos _ _ al, vbs, zI_wide (by omega) (by omega), zI_wide (by omega) (by omega), zL_mul, zL_mul, zL_sub, f2, vbs, zL_nar, zL_nar, ifc ix, ifc iy]
    by_cases c1 : mvX (tnA a i.2.2.1) i = 0
    · rw [if_pos c1]
      by_cases c2 : mvY (tnA a i.2.2.1) i = 0
      · rw [if_pos c2, if_pos ⟨c1, c2⟩]
      · rw [if_neg c2, if_neg (fun z => c2 z.2)]
    · rw [if_neg c1, if_neg (fun z => c1 z.1)]
  rw [e0]
  by_cases c : mvX (tnA a i.2.2.1) i = 0 ∧ mvY (tnA a i.2.2.1) i = 0
  · rw [if_pos c]
    obtain ⟨s1, G, b1, b2, b3, b4, b5, b6, b7⟩ := r_tail (r := 0) (k1 := k) (a1 := tnA a i.2.2.1) ⟨o1, o2, o3, al⟩ hk0 hD0 hv hw0 I_at i.2.2.2
    have kk := (vk_X17_go (x0 := B + 639) (x1 := zI i.1) (x2 := zI i.2.1) (x3 := zI i.2.2.1) (x4 := bI i.2.2.2) (h := s) (r := nI 0) (s := s1) vclT trivial (by rw [e0, if_pos c]; exact b1)).1
    exact ⟨0, s1, _, k, b1, kk.keep0 (P := rWk B g n) hk, b2, b3, b4, b5, by rw [b6]; unfold hTk; rw [I_ne (by omega)], ⟨o1, o2, o3, al⟩, D, G, Or.inl ⟨c, rfl, rfl, rfl⟩, b7, rfl⟩
  · rw [if_neg c]
    obtain ⟨r, s1, E, k1, a1, a3, a4, a5, a6⟩ := r_walks (y := (k.1, k.2.1, mvX (tnA a i.2.2.1) i, mvY (tnA a i.2.2.1) i)) (sec := k.2.2) ⟨⟨by dsimp only; omega, by dsimp only; omega⟩, ⟨by dsimp only; omega, by dsimp only; omega⟩, ⟨by dsimp only; omega, by dsimp only; omega⟩, by dsimp only; omega, by dsimp only; omega⟩ hk0 hD0 hv hw0
    have a1' : ab_X17_walks (B + 639) (zI (mvX (tnA a i.2.2.1) i)) (zI (mvY (tnA a i.2.2.1) i)) (vu_I s 1813 (B + 639) (nI (tnA a i.2.2.1))) = some (bI r, s1) := a1
    have a2 := (vk_X17_walks vclT trivial a1').1
    have ok1 : wkOk g k1 (tnA a i.2.2.1) := goS_ok hk.C a6 ⟨o1, o2, o3, al⟩
    have hk1 : rWk B g n s1 := a2.keep0 (P := rWk B g n) hk0
    obtain ⟨s2, G, b1, b2, b3, b4, b5, b6, b7⟩ := r_tail (r := if r then 1 else 2) ok1 hk1 a3 a4 a5 (by rw [a2.eI (by decide), I_at]) i.2.2.2
    have e1 : ab_X17_go_94 (B + 639) (bI i.2.2.2) (zI (mvX (tnA a i.2.2.1) i)) (zI (mvY (tnA a i.2.2.1) i)) (vu_I s 1813 (B + 639) (nI (tnA a i.2.2.1))) = some (nI (if r then 1 else 2), s2) := by
      unfold ab_X17_go_94
      rw [a1', vbs]
      cases r
      · rw [if_pos (show bI false = 0 from rfl)]; exact b1
      · rw [if_neg (show ¬ bI true = 0 by decide)]; exact b1
    have kk := (vk_X17_go (x0 := B + 639) (x1 := zI i.1) (x2 := zI i.2.1) (x3 := zI i.2.2.1) (x4 := bI i.2.2.2) (h := s) (r := nI (if r then 1 else 2)) (s := s2) vclT trivial (by rw [e0, if_neg c]; exact e1)).1
    exact ⟨if r then 1 else 2, s2, _, k1, e1, kk.keep0 (P := rWk B g n) hk, b2, b3, b4, b5, by rw [b6]; unfold hTk; rw [a2.eI (by decide), I_ne (by omega)], ok1, E, G, Or.inr ⟨c, r, a6, rfl⟩, b7, rfl⟩
end STEP
