-- TREE, the reference: pieces are made, lists collected
section RU
variable {B W : Nat} {g : Nat → Nat}
theorem vk.pB {ws rs gs : List Nat} {s0 s : vt_S} {f a i : Nat} {v : Int64} (h : vk ws rs gs (fun _ => True) s0 s) (hf : f ∈ rs) : vk ws rs gs (fun _ => True) s0 (vu_B s f a i v) := (vw_B ⟨h, vclT⟩ hf trivial).1
def pkR (B cnt : Nat) (s s1 : vt_S) : Prop := ∀ i, i < cnt → vt_A s1 1706 (B + 670) i = vt_A s 1706 (B + 670) i ∧ vt_B s1 1707 (B + 670) i = vt_B s 1707 (B + 670) i ∧ vt_B s1 1708 (B + 670) i = vt_B s 1708 (B + 670) i ∧ vt_B s1 1709 (B + 670) i = vt_B s 1709 (B + 670) i ∧ vt_B s1 1710 (B + 670) i = vt_B s 1710 (B + 670) i
theorem pkR.refl {cnt : Nat} {s : vt_S} : pkR B cnt s s := fun _ _ => ⟨rfl, rfl, rfl, rfl, rfl⟩
theorem pkR.trans {c1 c2 : Nat} {s s1 s2 : vt_S} (h : pkR B c1 s s1) (k : pkR B c2 s1 s2) (hc : c1 ≤ c2) : pkR B c1 s s2 := fun i hi => by
  obtain ⟨a1, a2, a3, a4, a5⟩ := h i hi
  obtain ⟨b1, b2, b3, b4, b5⟩ := k i (by omega)
  exact ⟨b1.trans a1, b2.trans a2, b3.trans a3, b4.trans a4, b5.trans a5⟩
theorem pkR.pv {cnt : Nat} {s s1 : vt_S} (h : pkR B cnt s s1) : ∀ i, i < cnt → ∀ P, pvR B s i P → pvR B s1 i P := fun i hi P hP => by
  obtain ⟨a1, a2, a3, a4, a5⟩ := h i hi
  obtain ⟨p1, p2, p3, p4, p5⟩ := hP
  exact ⟨a1.trans p1, a2.trans p2, a3.trans p3, a4.trans p4, a5.trans p5⟩
def pcW : List Nat := [1706, 1707, 1708, 1709, 1710]
theorem rT_piece {s : vt_S} {cnt w : Nat} {a b c d : Int64} (hS : rS B s) (h11 : vt_I s 1711 (B + 670) = nI cnt) (hc : cnt < 16600) : ∃ s1, ab_X16_piece (B + 670) (nI w) a b c d s = some (nI cnt, s1) ∧ vk [1711] pcW [] (fun _ => True) s s1 ∧ vt_I s1 1711 (B + 670) = nI (cnt + 1) ∧ pkR B cnt s s1 ∧ (vt_A s1 1706 (B + 670) cnt = nI w ∧ vt_B s1 1707 (B + 670) cnt = a ∧ vt_B s1 1708 (B + 670) cnt = b ∧ vt_B s1 1709 (B + 670) cnt = c ∧ vt_B s1 1710 (B + 670) cnt = d) := by
  have L6 := hS.L1706
  have L7 := hS.L1707
  have L8 := hS.L1708
  have L9 := hS.L1709
  have L10 := hS.L1710
  obtain ⟨t, ht⟩ : ∃ u, u = vu_B (vu_B (vu_B (vu_B (vu_A s 1706 (B + 670) cnt (nI w)) 1707 (B + 670) cnt a) 1708 (B + 670) cnt b) 1709 (B + 670) cnt c) 1710 (B + 670) cnt d := ⟨_, rfl⟩
  have kt : vk [1711] pcW [] (fun _ => True) s t := by rw [ht]; exact vk.pB (vk.pB (vk.pB (vk.pB (vk.pA (vk.refl s) (by decide)) (by decide)) (by decide)) (by decide)) (by decide)
  have tI : vt_I t = vt_I s := by rw [ht]; exact Eq.trans rfl rfl
  have eA : ∀ f i v u, vt_L (vu_A u f (B + 670) i v) = vt_L u := fun _ _ _ _ => Eq.trans rfl rfl
  have eB : ∀ f i v u, vt_L (vu_B u f (B + 670) i v) = vt_L u := fun _ _ _ _ => Eq.trans rfl rfl
  have IA : ∀ f i v u, vt_I (vu_A u f (B + 670) i v) = vt_I u := fun _ _ _ _ => Eq.trans rfl rfl
  have IB : ∀ f i v u, vt_I (vu_B u f (B + 670) i v) = vt_I u := fun _ _ _ _ => Eq.trans rfl rfl
  have BA : ∀ f i v u, vt_A (vu_B u f (B + 670) i v) = vt_A u := fun _ _ _ _ => Eq.trans rfl rfl
  have AB : ∀ f i v u, vt_B (vu_A u f (B + 670) i v) = vt_B u := fun _ _ _ _ => Eq.trans rfl rfl
  have Bat : ∀ f i j v u, vt_B (vu_B u f (B + 670) i v) f (B + 670) j = if j = i then v else vt_B u f (B + 670) j := by
    intro f i j v u
    show (if f = f ∧ B + 670 = B + 670 ∧ j = i then v else vt_B u f (B + 670) j) = _
    by_cases z : j = i
    · rw [if_pos ⟨rfl, rfl, z⟩, if_pos z]
    · rw [if_neg (fun q => z q.2.2), if_neg z]
  have Bnf : ∀ f f' i v u, f' ≠ f → vt_B (vu_B u f (B + 670) i v) f' (B + 670) = vt_B u f' (B + 670) := fun f f' i v u h => B_ne (fun q => h q.1)
  refine ⟨vu_I t 1711 (B + 670) (nI (cnt + 1)), ?_, vk.pI kt (by decide), I_at, fun i hi => ?_, ?_⟩
  · unfold ab_X16_piece
    rw [slet, h11, vs_I_ok (by omega) (by omega), obs, slet, IA, h11, vs_J_ok (by rw [eA]; omega) (by rw [eA]; omega), obs, slet, IB, IA, h11, vs_J_ok (by rw [eB, eA]; omega) (by rw [eB, eA]; omega), obs, slet, IB, IB, IA, h11, vs_J_ok (by rw [eB, eB, eA]; omega) (by rw [eB, eB, eA]; omega), obs, slet, IB, IB, IB, IA, h11, vs_J_ok (by rw [eB, eB, eB, eA]; omega) (by rw [eB, eB, eB, eA]; omega), obs, ← ht, slet, tI, h11, nI_1, slet, slet, I_at, (z_down cnt).1]
  · have tA : vt_A (vu_I t 1711 (B + 670) (nI (cnt + 1))) = vt_A t := rfl
    have tB : vt_B (vu_I t 1711 (B + 670) (nI (cnt + 1))) = vt_B t := rfl
    rw [tA, tB, ht, BA, BA, BA, BA, A_at, if_neg (by omega), Bnf _ _ _ _ _ (show 1707 ≠ 1710 by decide), Bnf _ _ _ _ _ (show 1707 ≠ 1709 by decide), Bnf _ _ _ _ _ (show 1707 ≠ 1708 by decide), Bat, if_neg (by omega), AB, Bnf _ _ _ _ _ (show 1708 ≠ 1710 by decide), Bnf _ _ _ _ _ (show 1708 ≠ 1709 by decide), Bat, if_neg (by omega), Bnf _ _ _ _ _ (show 1708 ≠ 1707 by decide), AB, Bnf _ _ _ _ _ (show 1709 ≠ 1710 by decide), Bat, if_neg (by omega), Bnf _ _ _ _ _ (show 1709 ≠ 1708 by decide), Bnf _ _ _ _ _ (show 1709 ≠ 1707 by decide), AB, Bat, if_neg (by omega), Bnf _ _ _ _ _ (show 1710 ≠ 1709 by decide), Bnf _ _ _ _ _ (show 1710 ≠ 1708 by decide), Bnf _ _ _ _ _ (show 1710 ≠ 1707 by decide), AB]
    exact ⟨rfl, rfl, rfl, rfl, rfl⟩
  · have tA : vt_A (vu_I t 1711 (B + 670) (nI (cnt + 1))) = vt_A t := rfl
    have tB : vt_B (vu_I t 1711 (B + 670) (nI (cnt + 1))) = vt_B t := rfl
    rw [tA, tB, ht, BA, BA, BA, BA, A_at, if_pos rfl, Bnf _ _ _ _ _ (show 1707 ≠ 1710 by decide), Bnf _ _ _ _ _ (show 1707 ≠ 1709 by decide), Bnf _ _ _ _ _ (show 1707 ≠ 1708 by decide), Bat, if_pos rfl, Bnf _ _ _ _ _ (show 1708 ≠ 1710 by decide), Bnf _ _ _ _ _ (show 1708 ≠ 1709 by decide), Bat, if_pos rfl, Bnf _ _ _ _ _ (show 1709 ≠ 1710 by decide), Bat, if_pos rfl, Bat, if_pos rfl]
    exact ⟨rfl, rfl, rfl, rfl, rfl⟩
theorem abs_sel {a b : Int} (ha : -8590000000 ≤ a ∧ a ≤ 8590000000) (hb : -8590000000 ≤ b ∧ b ≤ 8590000000) (h : (b < 0 ∧ 0 < a) ∨ (a < 0 ∧ 0 < b)) {α : Type} {X : Int64 → Int64 → α} : (if 0 ≤ lg_cmp (zL a - zL b) 0 then X (zL a) (zL a - zL b) else X (-zL a) (-(zL a - zL b))) = X (zL (a.natAbs : Int)) (zL ((a - b).natAbs : Int)) := by
  rw [zL_sub, zL_neg, zL_neg, show (0 : Int64) = zL 0 from rfl, show (0 : Int32) = zI 0 from rfl, ifc (lg_ge (by omega) (by omega) (by omega) (by omega))]
  rcases h with ⟨h1, h2⟩ | ⟨h1, h2⟩
  · rw [if_pos (by omega), show (a.natAbs : Int) = a by omega, show ((a - b).natAbs : Int) = a - b by omega]
  · rw [if_neg (by omega), show (a.natAbs : Int) = -a by omega, show ((a - b).natAbs : Int) = -(a - b) by omega]
theorem rT_part {s : vt_S} {cnt v i : Nat} {side : Int} {P : PCE} (hT : rTw B g W s) (h11 : vt_I s 1711 (B + 670) = nI cnt) (hc : cnt < 16600) (hv : v < W) (hi : i < cnt) (hp : pvR B s i P) (ok : pcOk P) (hw : P.1 < W) (h2 : lyP g v P = 2) (hs : side = 1 ∨ side = -1) : ∃ s1, ab_X16_part (B + 670) (nI i) (nI v) (zI side) s = some (nI cnt, s1) ∧ vk [1711] pcW [] (fun _ => True) s s1 ∧ vt_I s1 1711 (B + 670) = nI (cnt + 1) ∧ pkR B cnt s s1 ∧ pvR B s1 cnt (ptS g v side P) := by
  obtain ⟨h1, hS⟩ := id hT
  obtain ⟨-, cf⟩ := cut_facts ok h2
  obtain ⟨p0, p1, p2, p3, p4⟩ := hp
  obtain ⟨⟨o1, o2, o3, o4⟩, ⟨o5, o6, o7, o8⟩, -⟩ := id ok
  have L6 := hS.L1706
  have L7 := hS.L1707
  have L8 := hS.L1708
  have L9 := hS.L1709
  have L10 := hS.L1710
  obtain ⟨tP, tW, ⟨t1, t2, t3, t4⟩, tA⟩ := id h1
  obtain ⟨wa, wb, wc, wd⟩ := tA P.1 hw
  obtain ⟨a1, a2, a3, a4⟩ := xy_rng g P.1
  have b1 : P.1 < vt_L s 1701 (B + 670) := by rw [t1]; exact Nat.lt_of_lt_of_le hw tW
  have b2 : P.1 < vt_L s 1702 (B + 670) := by rw [t2]; exact Nat.lt_of_lt_of_le hw tW
  have b3 : P.1 < vt_L s 1703 (B + 670) := by rw [t3]; exact Nat.lt_of_lt_of_le hw tW
  have b4 : P.1 < vt_L s 1704 (B + 670) := by rw [t4]; exact Nat.lt_of_lt_of_le hw tW
  have q1 : ab_X16_sideOf (B + 670) (nI v) (zL (aX g (wlp g P.1))) (zL (aY g (wlp g P.1))) s = some (zL (sdA g v P.1), s) := rT_side h1 hv
  have q2 : ab_X16_sideOf (B + 670) (nI v) (zL (bX g (wlp g P.1))) (zL (bY g (wlp g P.1))) s = some (zL (sdB g v P.1), s) := rT_side h1 hv
  have rA := sdA_rng g v P.1
  have rB := sdB_rng g v P.1
  have e74 : ab_X16_part (B + 670) (nI i) (nI v) (zI side) s = ab_X16_part_74 (B + 670) (nI i) (nI v) (zI side) (nI P.1) (zL ((sdA g v P.1).natAbs : Int)) (zL ((sdA g v P.1 - sdB g v P.1).natAbs : Int)) s := by
    unfold ab_X16_part
    rw [vl_I_ok (by omega) (by omega), obs, p0, vl_I_ok b1 (by rw [t1]; decide), obs, vl_I_ok b2 (by rw [t2]; decide), obs, wa, wb, wide32 a1, wide32 a2, q1, vbs, vl_I_ok b3 (by rw [t3]; decide), obs, vl_I_ok b4 (by rw [t4]; decide), obs, wc, wd, wide32 a3, wide32 a4, q2, vbs]
    refine abs_sel (X := fun x y => ab_X16_part_74 (B + 670) (nI i) (nI v) (zI side) (nI P.1) x y s) rA rB ?_
    rcases cf with ⟨z1, z2, -⟩ | ⟨z1, z2, -⟩
    · exact Or.inl ⟨z1, z2⟩
    · exact Or.inr ⟨z1, z2⟩
  have e3 := sgZ_3 (fT (sdA g v P.1) (sdB g v P.1) P.2.1 P.2.2.1)
  have esg : (zI (sgZ (fT (sdA g v P.1) (sdB g v P.1) P.2.1 P.2.2.1)) = zI side) = (sgZ (fT (sdA g v P.1) (sdB g v P.1) P.2.1 P.2.2.1) = side) := by
    generalize sgZ (fT (sdA g v P.1) (sdB g v P.1) P.2.1 P.2.2.1) = q at *
    exact zI_eq (by omega) (by omega) (by omega) (by omega)
  rw [e74]
  unfold ab_X16_part_74 ab_X16_part_102 ab_X16_part_156
  rw [vl_J_ok (by omega) (by omega), obs, vl_J_ok (by omega) (by omega), obs, p1, p2, rT_at h1 hv hw o1 o2 o4, vbs, ifc esg]
  unfold ptS
  by_cases c : sgZ (fT (sdA g v P.1) (sdB g v P.1) P.2.1 P.2.2.1) = side
  · obtain ⟨s1, r1, r2, r3, r4, r5⟩ := rT_piece (w := P.1) (a := zL P.2.1) (b := zL P.2.2.1) (c := zL ((sdA g v P.1).natAbs : Int)) (d := zL ((sdA g v P.1 - sdB g v P.1).natAbs : Int)) hS h11 hc
    rw [if_pos c, if_pos c, if_neg (by decide), vl_J_ok (by omega) (by omega), obs, vl_J_ok (by omega) (by omega), obs, p1, p2, r1, vbs]
    exact ⟨s1, rfl, r2, r3, r4, r5⟩
  · obtain ⟨s1, r1, r2, r3, r4, r5⟩ := rT_piece (w := P.1) (a := zL ((sdA g v P.1).natAbs : Int)) (b := zL ((sdA g v P.1 - sdB g v P.1).natAbs : Int)) (c := zL P.2.2.2.1) (d := zL P.2.2.2.2) hS h11 hc
    rw [if_neg c, if_neg c, if_pos rfl, vl_J_ok (by omega) (by omega), obs, vl_J_ok (by omega) (by omega), obs, p3, p4, r1, vbs]
    exact ⟨s1, rfl, r2, r3, r4, r5⟩
end RU
