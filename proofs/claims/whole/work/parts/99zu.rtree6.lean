-- TREE, the reference: it is made and known
section RY2
variable {B W : Nat} {g : Nat → Nat}
def trN (g : Nat → Nat) (W : Nat) : List ND := (bld g 128 (l00 W) 0 0 0).1
def trR (B : Nat) (g : Nat → Nat) (W : Nat) (s : vt_S) : Prop := vt_I s 1725 (B + 670) = nI (trN g W).length ∧ vt_I s 1727 (B + 670) = nI (W + bcut g 128 (l00 W)) ∧ ndsR B s 0 (trN g W)
def trH (B W : Nat) (s : vt_S) : Prop := ∀ w, w < 128 → vt_A s 1700 (B + 670) w = bI (decide (w < W))
def phB (g : Nat → Nat) (W : Nat) : Prop := W ≤ 128 ∧ 2 * phL g W (l00 W) + W ≤ W * W
theorem trN_bnd (h : phB g W) : (trN g W).length ≤ 8256 ∧ bcut g 128 (l00 W) ≤ 8128 ∧ (bld g 128 (l00 W) 0 0 0).2 = (trN g W).length + 1 := by
  obtain ⟨p1, p2⟩ := l00_pcs W
  obtain ⟨h1, h2⟩ := h
  obtain ⟨b1, b2, b3⟩ := bld_bnd (g := g) 128 (l00 W) 0 0 0 p1 (by omega) (by omega)
  have : W * W ≤ 128 * W := Nat.mul_le_mul_right W h1
  rw [p2] at b2
  refine ⟨?_, by omega, b1⟩
  unfold trN
  omega
theorem seg_rg {s : vt_S} {c : Nat} : ∀ (n f : Nat), f + n ≤ c → (∀ j, f ≤ j → j < f + n → vt_A s 1712 (B + 670) j = nI j ∧ pvR B s j (pc0 j)) → segR B s c f ((List.range' f n).map pc0)
  | 0, _, _, _ => trivial
  | n + 1, f, hc, h => by
    obtain ⟨h1, h2⟩ := h f (Nat.le_refl _) (by omega)
    exact ⟨⟨f, by omega, h1, h2⟩, seg_rg n (f + 1) (by omega) (fun j x y => h j (by omega) (by omega))⟩
theorem rT_first (hW : W ≤ 128) : ∀ (d w fu : Nat) (s : vt_S), w + d = 128 → d < fu → rTw B g W s → trH B W s → vt_I s 1711 (B + 670) = nI (min w W) → (∀ j, j < min w W → vt_A s 1712 (B + 670) j = nI j ∧ pvR B s j (pc0 j)) → ∃ s1, ab_X16_make_29 fu (B + 670) (nI (min w W)) (nI w) s = vt_b (ab_X16_push (B + 670) 0 (nI W) (-1) 0 s1) (fun _ h1 => ab_X16_make_77 sv_fuel (B + 670) h1) ∧ vk [1711] clW [] (fun _ => True) s s1 ∧ vt_I s1 1711 (B + 670) = nI W ∧ (∀ j, j < W → vt_A s1 1712 (B + 670) j = nI j ∧ pvR B s1 j (pc0 j)) := by
  intro d
  induction d with
  | zero =>
    intro w fu s hd hf hT hH h11 hA
    obtain ⟨fu, rfl⟩ : ∃ q, fu = q + 1 := ⟨fu - 1, by omega⟩
    rw [show min w W = W by omega] at *
    refine ⟨s, ?_, vk.refl s, h11, hA⟩
    show ab_X16_make_29b _ (B + 670) (nI W) (nI w) s = _
    unfold ab_X16_make_29b
    rw [if_pos (show (128 : Int32) ≤ nI w from nI_le (a := 128) (by omega) (by omega))]
  | succ d ih =>
    intro w fu s hd hf hT hH h11 hA
    obtain ⟨fu, rfl⟩ : ∃ q, fu = q + 1 := ⟨fu - 1, by omega⟩
    have L0 := hT.2.L1700
    have e0 : ab_X16_make_29 (fu + 1) (B + 670) (nI (min w W)) (nI w) s = if bI (decide (w < W)) = 0 then ab_X16_make_29 fu (B + 670) (nI (min w W)) (nI (w + 1)) s else vt_b (ab_X16_piece (B + 670) (nI w) 0 1 1 1 s) fun r5 h6 => (vs_I h6 1712 (B + 670) (nI (min w W)) r5).bind fun h7 => ab_X16_make_29 fu (B + 670) (nI (min w W + 1)) (nI (w + 1)) h7 := by
      show ab_X16_make_29b _ (B + 670) (nI (min w W)) (nI w) s = _
      unfold ab_X16_make_29b ab_X16_make_63
      rw [if_neg (show ¬ (128 : Int32) ≤ nI w from nI_ge (b := 128) (by omega) (by omega)), vl_I_ok (by omega) (by omega), obs, hH w (by omega), nI_1, nI_1]
    rw [e0]
    by_cases c : w < W
    · rw [decide_eq_true c, if_neg (show ¬ bI true = 0 by decide)]
      rw [show min w W = w by omega] at h11 hA ⊢
      obtain ⟨s1, a1, a2, a3, a4, a5⟩ := rT_piece (w := w) (a := 0) (b := 1) (c := 1) (d := 1) hT.2 h11 (by omega)
      have T1 : rTw B g W s1 := a2.keep0 (P := rTw B g W) hT
      have L12 := T1.2.L1712
      obtain ⟨u, hu⟩ : ∃ u, u = vu_A s1 1712 (B + 670) w (nI w) := ⟨_, rfl⟩
      have ku : vk [1711] clW [] (fun _ => True) s1 u := by rw [hu]; exact vk.pA (vk.refl s1) (by decide)
      have pu : pkR B (w + 1) s1 u := by
        intro z hz
        rw [hu]
        exact ⟨by rw [A_nf (by decide)], rfl, rfl, rfl, rfl⟩
      obtain ⟨s2, b1, b2, b3, b4⟩ := ih (w + 1) fu u (by omega) (by omega) (ku.keep0 (P := rTw B g W) T1) (ku.keep0 (P := trH B W) (a2.keep0 (P := trH B W) hH)) (by rw [show min (w + 1) W = w + 1 by omega, hu]; exact a3) (fun j hj => by
        rw [hu, A_at]
        by_cases z : j = w
        · rw [if_pos z, z]
          refine ⟨rfl, ?_⟩
          have := pu.pv w (by omega) (pc0 w) a5
          rw [hu] at this; exact this
        · rw [if_neg z, a2.aA (show 1712 ∉ pcW by decide)]
          have hj' : j < w := by omega
          refine ⟨(hA j hj').1, ?_⟩
          have := pu.pv j (by omega) (pc0 j) (a4.pv j hj' (pc0 j) (hA j hj').2)
          rw [hu] at this; exact this)
      rw [show min (w + 1) W = w + 1 by omega] at b1
      refine ⟨s2, ?_, ((a2.weak (by decide) (by decide) (by decide)).trans ku).trans b2, b3, b4⟩
      rw [a1, vbs, vs_I_ok (by omega) (by omega), obs, ← hu]
      exact b1
    · rw [decide_eq_false c, if_pos (show bI false = 0 from rfl)]
      have e : min (w + 1) W = min w W := by omega
      have := ih (w + 1) fu s (by omega) (by omega) hT hH (by rw [e]; exact h11) (by rw [e]; exact hA)
      rw [e] at this
      exact this
theorem rT_make {s : vt_S} (hB : phB g W) (hT : rTw B g W s) (hH : trH B W s) : ∃ s1, ab_X16_make (B + 670) s = some ((), s1) ∧ trR B g W s1 := by
  obtain ⟨n1, n2, n3⟩ := trN_bnd hB
  obtain ⟨hW, -⟩ := hB
  obtain ⟨p1, p2⟩ := l00_pcs W
  obtain ⟨u, hu⟩ : ∃ u, u = vu_I (vu_I (vu_I (vu_I (vu_I s 1711 (B + 670) 0) 1725 (B + 670) 0) 1726 (B + 670) 0) 1727 (B + 670) 0) 1717 (B + 670) 0 := ⟨_, rfl⟩
  have ku : vk [1711, 1717, 1725, 1726, 1727] [] [] (fun _ => True) s u := by rw [hu]; exact vk.pI (vk.pI (vk.pI (vk.pI (vk.pI (vk.refl s) (by decide)) (by decide)) (by decide)) (by decide)) (by decide)
  have Tu : rTw B g W u := ku.keep0 (P := rTw B g W) hT
  have z0 : min 0 W = 0 := by omega
  obtain ⟨s1, a1, a2, a3, a4⟩ := rT_first (B := B) (g := g) hW 128 0 sv_fuel u (by omega) (fuel_ge (by omega)) Tu (ku.keep0 (P := trH B W) hH) (by rw [z0, hu, I_ne (by omega), I_ne (by omega), I_ne (by omega), I_ne (by omega), I_at]; rfl) (fun j hj => absurd hj (by omega))
  rw [z0] at a1
  have T1 : rTw B g W s1 := a2.keep0 (P := rTw B g W) Tu
  have i17 : vt_I s1 1717 (B + 670) = nI 0 := by rw [a2.eI (by decide), hu, I_at]; rfl
  have i25 : vt_I s1 1725 (B + 670) = nI 0 := by rw [a2.eI (by decide), hu, I_ne (by omega), I_ne (by omega), I_ne (by omega), I_at]; rfl
  have i26 : vt_I s1 1726 (B + 670) = nI 0 := by rw [a2.eI (by decide), hu, I_ne (by omega), I_ne (by omega), I_at]; rfl
  have i27 : vt_I s1 1727 (B + 670) = nI 0 := by rw [a2.eI (by decide), hu, I_ne (by omega), I_at]; rfl
  obtain ⟨s2, b1, b2, b3, b4, b5⟩ := rT_push (from_ := 0) (n := W) (par := none) (sd := false) T1.2 i17 (by omega)
  have b1 : ab_X16_push (B + 670) 0 (nI W) (-1) 0 s1 = some ((), s2) := b1
  have T2 : rTw B g W s2 := b2.keep0 (P := rTw B g W) T1
  have sg1 : segR B s1 W 0 (l00 W) := by
    unfold l00
    rw [List.range_eq_range']
    exact seg_rg W 0 (by omega) (fun j _ h => a4 j (by omega))
  have sg2 : segR B s2 W 0 (l00 W) := segR_cg (s := s1) (s1 := s2) (fun z hz Q hQ => b2.keep0 (P := fun t => pvR B t z Q) hQ) (l00 W) 0 (fun j _ _ => by rw [b2.aA (by decide)]) sg1
  have sqW : W * W ≤ 16384 := Nat.mul_le_mul hW hW
  obtain ⟨s3, k, c1, c2, c3, c4, c5, -, -⟩ := rT_run (B := B) (W := W) (g := g) 128 (l00 W) 0 0 0 W 0 0 0 none false s2 p1 (by omega) (by omega) ⟨T2, by rw [b2.eI (by decide)]; exact a3, by rw [b2.eI (by decide)]; exact i25, by rw [b2.eI (by decide)]; exact i26, by rw [b2.eI (by decide)]; exact i27⟩ b3 (by rw [p2]; exact b5) sg2 rfl (by omega) (by unfold trN at n1; omega) (by omega) (by omega) (by omega) (by rw [p2]; omega)
  refine ⟨s3, ?_, ?_⟩
  · have hf : k + 1 < sv_fuel := Nat.lt_of_lt_of_le (show k + 1 < 20000 by unfold trN at n1; omega) (Nat.le_of_lt (fuel_ge (by omega)))
    obtain ⟨q, hq⟩ : ∃ q, sv_fuel = (q + 1) + k := ⟨sv_fuel - k - 1, by omega⟩
    unfold ab_X16_make
    rw [slet, slet, slet, slet, slet, ← hu]
    have a1 : ab_X16_make_29 sv_fuel (B + 670) 0 0 u = _ := a1
    rw [a1, b1, vbs, hq, c2]
    show ab_X16_make_77b _ (B + 670) s3 = _
    unfold ab_X16_make_77b
    rw [slet, c4, if_pos (show nI 0 ≤ 0 by decide)]
  · obtain ⟨-, -, o3, -, o5⟩ := c3
    refine ⟨by rw [o3, Nat.zero_add]; rfl, by rw [o5, p2, Nat.zero_add], c5⟩
def trK (B : Nat) (g : Nat → Nat) (W : Nat) (s : vt_S) : Prop := phB g W ∧ rTw B g W s ∧ trH B W s ∧ (vt_I s 1705 (B + 670) = 0 ∨ (vt_I s 1705 (B + 670) = 1 ∧ trR B g W s))
theorem ndsR_keep {s s1 : vt_S} (h : ∀ f, f ∈ [1718, 1719, 1720, 1721, 1723] → vt_A s1 f (B + 670) = vt_A s f (B + 670)) (l : List ND) (k : Nat) (hn : ndsR B s k l) : ndsR B s1 k l := ndsR_cg l k (fun j _ _ N hN => by
  unfold ndR
  rw [h 1718 (by decide), h 1719 (by decide), h 1720 (by decide), h 1721 (by decide), h 1723 (by decide)]
  exact hN) hn
theorem r_know {s : vt_S} (h : trK B g W s) : ∃ s1, ab_X16_know (B + 670) s = some ((), s1) ∧ trK B g W s1 ∧ vt_I s1 1705 (B + 670) = 1 ∧ trR B g W s1 ∧ vk (1705 :: rnI) rnA [] (fun _ => True) s s1 := by
  obtain ⟨h1, h2, h3, h4⟩ := id h
  unfold ab_X16_know ab_X16_know_16
  rw [slet]
  rcases h4 with h5 | ⟨h5, h6⟩
  · obtain ⟨s1, a1, a2⟩ := rT_make h1 h2 h3
    have k1 := (vk_X16_make vclT trivial a1).1
    obtain ⟨u, hu⟩ : ∃ u, u = vu_I s1 1705 (B + 670) 1 := ⟨_, rfl⟩
    have ku : vk [1705] [] [] (fun _ => True) s1 u := by rw [hu]; exact vk.pI (vk.refl s1) (by decide)
    have k2 : vk (1705 :: rnI) rnA [] (fun _ => True) s u := (k1.weak (by decide) (by decide) (by decide)).trans (ku.weak (by decide) (by decide) (by decide))
    have r2 : trR B g W u := ⟨by rw [ku.eI (by decide)]; exact a2.1, by rw [ku.eI (by decide)]; exact a2.2.1, ndsR_keep (fun f _ => ku.aA (by intro z; cases z)) _ _ a2.2.2⟩
    have i5 : vt_I u 1705 (B + 670) = 1 := by rw [hu, I_at]
    refine ⟨u, ?_, ⟨h1, k2.keep0 (P := rTw B g W) h2, k2.keep0 (P := trH B W) h3, Or.inr ⟨i5, r2⟩⟩, i5, r2, k2⟩
    rw [h5, if_pos rfl, a1, vbs]
    unfold vq_Z
    rw [if_pos (Or.inr rfl), obs, ← hu]
  · rw [h5, if_neg (by decide)]
    exact ⟨s, rfl, h, h5, h6, vk.refl s⟩
end RY2
