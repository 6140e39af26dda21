-- TREE, the class: a piece is cut, a piece is appended
section CC2
variable {B p W : Nat} {g : Nat → Nat}
def vlC (B : Nat) (s s1 : vt_S) (i : Nat) : Prop := vt_A s1 200 (B + 7) i = vt_A s 200 (B + 7) i ∧ vt_B s1 202 (B + 7) i = vt_B s 202 (B + 7) i ∧ vt_B s1 203 (B + 7) i = vt_B s 203 (B + 7) i ∧ vt_B s1 204 (B + 7) i = vt_B s 204 (B + 7) i ∧ vt_B s1 205 (B + 7) i = vt_B s 205 (B + 7) i
theorem vlC.pv {s s1 : vt_S} {i : Nat} {P : PCE} (h : vlC B s s1 i) (hp : pvC B s i P) : pvC B s1 i P := by
  obtain ⟨a1, a2, a3, a4, a5⟩ := h
  obtain ⟨p1, p2, p3, p4, p5⟩ := hp
  exact ⟨a1.trans p1, a2.trans p2, a3.trans p3, a4.trans p4, a5.trans p5⟩
theorem pkC.vl {cnt : Nat} {s s1 : vt_S} (h : pkC B cnt s s1) {i : Nat} (hi : i < cnt) : vlC B s s1 i := by
  obtain ⟨a1, a2, a3, a4, a5, -⟩ := h i hi
  exact ⟨a1, a2, a3, a4, a5⟩
theorem vlC.trans {s s1 s2 : vt_S} {i : Nat} (h : vlC B s s1 i) (k : vlC B s1 s2 i) : vlC B s s2 i := by
  obtain ⟨a1, a2, a3, a4, a5⟩ := h
  obtain ⟨p1, p2, p3, p4, p5⟩ := k
  exact ⟨p1.trans a1, p2.trans a2, p3.trans a3, p4.trans a4, p5.trans a5⟩
theorem c_pcCut {s : vt_S} {K cnt v i : Nat} {P : PCE} (hT : cTw B p g W s) (hL : pcL B s K) (hc : vt_I s 206 (B + 7) = nI cnt) (hcK : cnt ≤ K) (hc8 : cnt < 16384) (hp2 : ∃ e, K = 128 * 2 ^ e) (hv : v < W) (hi : i < cnt) (hp : pvC B s i P) (ok : pcOk P) (hw : P.1 < W) : ∃ s1 K1, ab_X1_cut (B + 7) p (nI i) (p + 43 + 2 * v) s = some (nI cnt, s1) ∧ pcL B s1 K1 ∧ (∃ e, K1 = 128 * 2 ^ e) ∧ cnt < K1 ∧ rmP K K1 s s1 ∧ vt_I s1 206 (B + 7) = nI (cnt + 1) ∧ (∀ j, j < cnt → j ≠ i → vlC B s s1 j) ∧ (∀ j, j < cnt → vt_A s1 201 (B + 7) j = vt_A s 201 (B + 7) j) ∧ pvC B s1 i (cutF g v P) ∧ pvC B s1 cnt (cutT g v P) ∧ vt_A s1 201 (B + 7) cnt = -1 := by
  obtain ⟨h1, ⟨h2, h3, h4⟩, h5⟩ := id hT
  have Fv := h4 v hv
  have Fw := h4 P.1 hw
  obtain ⟨x1, x2, x3, x4⟩ := xy_rng g P.1
  obtain ⟨f0, f1, f2, f3, -⟩ := id Fw
  have f0 : vt_I s 1200 (p + 43 + 2 * P.1) = zI (aX g (wlp g P.1)) := f0
  have f1 : vt_I s 1201 (p + 43 + 2 * P.1) = zI (aY g (wlp g P.1)) := f1
  have f2 : vt_I s 1202 (p + 43 + 2 * P.1) = zI (bX g (wlp g P.1)) := f2
  have f3 : vt_I s 1203 (p + 43 + 2 * P.1) = zI (bY g (wlp g P.1)) := f3
  have q1 : ab_X11_sideOf (p + 43 + 2 * v) (zI (aX g (wlp g P.1))) (zI (aY g (wlp g P.1))) s = some (zL (sdA g v P.1), s) := cT_side Fv x1 x2
  have q2 : ab_X11_sideOf (p + 43 + 2 * v) (zI (bX g (wlp g P.1))) (zI (bY g (wlp g P.1))) s = some (zL (sdB g v P.1), s) := cT_side Fv x3 x4
  clear x1 x2 x3 x4
  have L8 := h1.L308
  obtain ⟨t, K1, a1, a2, a3, a4, a5, a6, a7, a8, a9⟩ := c_pcAdd (w := P.1) hL hc hcK hc8 hp2
  have rA := sdA_rng g v P.1
  have rB := sdB_rng g v P.1
  obtain ⟨a, ha⟩ : ∃ a, a = sdA g v P.1 := ⟨_, rfl⟩
  obtain ⟨b, hb⟩ : ∃ b, b = sdB g v P.1 := ⟨_, rfl⟩
  have eF : cutF g v P = (P.1, P.2.1, P.2.2.1, (a.natAbs : Int), ((a - b).natAbs : Int)) := by rw [ha, hb]; rfl
  have eT : cutT g v P = (P.1, (a.natAbs : Int), ((a - b).natAbs : Int), P.2.2.2.1, P.2.2.2.2) := by rw [ha, hb]; rfl
  rw [← ha] at q1 rA
  rw [← hb] at q2 rB
  rw [eF, eT]
  obtain ⟨p0, p1, p2, p3, p4⟩ := (a7.vl hi).pv hp
  obtain ⟨c0, -⟩ := a8
  have c0 : vt_A t 200 (B + 7) cnt = nI P.1 := c0
  have p0s : vt_A s 200 (B + 7) i = nI P.1 := hp.1
  obtain ⟨⟨l0, l1, l2, l3, l4, l5⟩, l6, l7⟩ := id a2
  have ls0 := hL.1.1
  have lsK := hL.2.2
  have eL : ∀ f j w x, vt_L (vu_B x f (B + 7) j w) = vt_L x := fun _ _ _ _ => Eq.trans rfl rfl
  have BA : ∀ f j w x, vt_A (vu_B x f (B + 7) j w) = vt_A x := fun _ _ _ _ => Eq.trans rfl rfl
  have Bnf : ∀ f f' j w x, f' ≠ f → vt_B (vu_B x f (B + 7) j w) f' (B + 7) = vt_B x f' (B + 7) := fun f f' j w x h => B_ne (fun q => h q.1)
  obtain ⟨u, hu⟩ : ∃ u, u = vu_B (vu_B (vu_B (vu_B (vu_B (vu_B t 202 (B + 7) cnt (zL (a.natAbs : Int))) 203 (B + 7) cnt (zL ((a - b).natAbs : Int))) 204 (B + 7) cnt (zL P.2.2.2.1)) 205 (B + 7) cnt (zL P.2.2.2.2)) 204 (B + 7) i (zL (a.natAbs : Int))) 205 (B + 7) i (zL ((a - b).natAbs : Int)) := ⟨_, rfl⟩
  have uA : vt_A u = vt_A t := by rw [hu, sA_B, sA_B, sA_B, sA_B, sA_B, sA_B]
  have uL : vt_L u = vt_L t := by rw [hu, sL_B, sL_B, sL_B, sL_B, sL_B, sL_B]
  have uI : vt_I u = vt_I t := by rw [hu, sI_B, sI_B, sI_B, sI_B, sI_B, sI_B]
  have uz : vt_z u = vt_z t ∧ vt_l u = vt_l t := by rw [hu, (sz_B _ _ _ _ _).1, (sz_B _ _ _ _ _).1, (sz_B _ _ _ _ _).1, (sz_B _ _ _ _ _).1, (sz_B _ _ _ _ _).1, (sz_B _ _ _ _ _).1, (sz_B _ _ _ _ _).2, (sz_B _ _ _ _ _).2, (sz_B _ _ _ _ _).2, (sz_B _ _ _ _ _).2, (sz_B _ _ _ _ _).2, (sz_B _ _ _ _ _).2]; exact ⟨rfl, rfl⟩
  have uB : ∀ j, vt_B u 202 (B + 7) j = (if j = cnt then zL (a.natAbs : Int) else vt_B t 202 (B + 7) j) ∧ vt_B u 203 (B + 7) j = (if j = cnt then zL ((a - b).natAbs : Int) else vt_B t 203 (B + 7) j) ∧ vt_B u 204 (B + 7) j = (if j = i then zL (a.natAbs : Int) else if j = cnt then zL P.2.2.2.1 else vt_B t 204 (B + 7) j) ∧ vt_B u 205 (B + 7) j = (if j = i then zL ((a - b).natAbs : Int) else if j = cnt then zL P.2.2.2.2 else vt_B t 205 (B + 7) j) := by
    intro j
    rw [hu, Bnf _ _ _ _ _ (show 202 ≠ 205 by decide), Bnf _ _ _ _ _ (show 202 ≠ 204 by decide), Bnf _ _ _ _ _ (show 202 ≠ 205 by decide), Bnf _ _ _ _ _ (show 202 ≠ 204 by decide), Bnf _ _ _ _ _ (show 202 ≠ 203 by decide), B_at, Bnf _ _ _ _ _ (show 203 ≠ 205 by decide), Bnf _ _ _ _ _ (show 203 ≠ 204 by decide), Bnf _ _ _ _ _ (show 203 ≠ 205 by decide), Bnf _ _ _ _ _ (show 203 ≠ 204 by decide), B_at, Bnf _ _ _ _ _ (show 203 ≠ 202 by decide), Bnf _ _ _ _ _ (show 204 ≠ 205 by decide), B_at, Bnf _ _ _ _ _ (show 204 ≠ 205 by decide), B_at, Bnf _ _ _ _ _ (show 204 ≠ 203 by decide), Bnf _ _ _ _ _ (show 204 ≠ 202 by decide), B_at, Bnf _ _ _ _ _ (show 205 ≠ 204 by decide), B_at, Bnf _ _ _ _ _ (show 205 ≠ 204 by decide), Bnf _ _ _ _ _ (show 205 ≠ 203 by decide), Bnf _ _ _ _ _ (show 205 ≠ 202 by decide)]
    exact ⟨rfl, rfl, rfl, rfl⟩
  have nic : i ≠ cnt := by omega
  refine ⟨u, K1, ?_, by unfold pcL; rw [uL]; exact a2, a3, a4, ⟨a5.1, by rw [uz.1]; exact a5.2.1, by rw [uz.2]; exact a5.2.2⟩, by rw [uI]; exact a6, fun j hj hji => ?_, fun j hj => ?_, ?_, ?_, by rw [uA]; exact a9⟩
  · unfold ab_X1_cut
    rw [vl_I_ok (by omega) (by omega), obs, p0s, vl_P_ok (by omega) (by omega), obs, h1.E308 _ (by omega), slet, slet, f0, f1, q1, vbs, slet, slet, f2, f3, q2, vbs, vl_I_ok (by omega) (by omega), obs, p0s, a1, vbs, slet, zL_abs (by omega) (by omega), vs_J_ok (by omega) (by omega), obs, slet, zL_sub, zL_abs (by omega) (by omega), vs_J_ok (by rw [eL]; omega) (by rw [eL]; omega), obs]
    rw [vl_J_ok (by rw [eL, eL]; omega) (by rw [eL, eL]; omega), obs, Bnf _ _ _ _ _ (show 204 ≠ 203 by decide), Bnf _ _ _ _ _ (show 204 ≠ 202 by decide), p3, vs_J_ok (by rw [eL, eL]; omega) (by rw [eL, eL]; omega), obs]
    rw [vl_J_ok (by rw [eL, eL, eL]; omega) (by rw [eL, eL, eL]; omega), obs, Bnf _ _ _ _ _ (show 205 ≠ 204 by decide), Bnf _ _ _ _ _ (show 205 ≠ 203 by decide), Bnf _ _ _ _ _ (show 205 ≠ 202 by decide), p4, vs_J_ok (by rw [eL, eL, eL]; omega) (by rw [eL, eL, eL]; omega), obs]
    rw [vl_J_ok (by rw [eL, eL, eL, eL]; omega) (by rw [eL, eL, eL, eL]; omega), obs, Bnf _ _ _ _ _ (show 202 ≠ 205 by decide), Bnf _ _ _ _ _ (show 202 ≠ 204 by decide), Bnf _ _ _ _ _ (show 202 ≠ 203 by decide), B_at, if_pos rfl, vs_J_ok (by rw [eL, eL, eL, eL]; omega) (by rw [eL, eL, eL, eL]; omega), obs]
    rw [vl_J_ok (by rw [eL, eL, eL, eL, eL]; omega) (by rw [eL, eL, eL, eL, eL]; omega), obs, Bnf _ _ _ _ _ (show 203 ≠ 204 by decide), Bnf _ _ _ _ _ (show 203 ≠ 205 by decide), Bnf _ _ _ _ _ (show 203 ≠ 204 by decide), B_at, if_pos rfl, vs_J_ok (by rw [eL, eL, eL, eL, eL]; omega) (by rw [eL, eL, eL, eL, eL]; omega), obs, ← hu]
  · obtain ⟨y1, y2, y3, y4⟩ := uB j
    refine (a7.vl hj).trans ⟨by rw [uA], ?_, ?_, ?_, ?_⟩
    · rw [y1, if_neg (by omega)]
    · rw [y2, if_neg (by omega)]
    · rw [y3, if_neg hji, if_neg (by omega)]
    · rw [y4, if_neg hji, if_neg (by omega)]
  · rw [uA]; exact (a7 j hj).2.2.2.2.2
  · obtain ⟨y1, y2, y3, y4⟩ := uB i
    refine ⟨by rw [uA]; exact p0, ?_, ?_, ?_, ?_⟩
    · rw [y1, if_neg nic]; exact p1
    · rw [y2, if_neg nic]; exact p2
    · rw [y3, if_pos rfl]
    · rw [y4, if_pos rfl]
  · obtain ⟨y1, y2, y3, y4⟩ := uB cnt
    refine ⟨by rw [uA]; exact c0, ?_, ?_, ?_, ?_⟩
    · rw [y1, if_pos rfl]
    · rw [y2, if_pos rfl]
    · rw [y3, if_neg (fun z => nic z.symm), if_pos rfl]
    · rw [y4, if_neg (fun z => nic z.symm), if_pos rfl]
theorem chC_cg {s s1 : vt_S} : ∀ (is : List Nat) (l : List PCE) (c : Int32), (∀ i, i ∈ is → vlC B s s1 i ∧ vt_A s1 201 (B + 7) i = vt_A s 201 (B + 7) i) → chC B s c is l → chC B s1 c is l
  | [], [], _, _, h => h
  | i :: is, P :: l, c, hk, h => by
    obtain ⟨h1, h2, h3⟩ := h
    obtain ⟨k1, k2⟩ := hk i List.mem_cons_self
    refine ⟨h1, k1.pv h2, ?_⟩
    rw [k2]
    exact chC_cg is l _ (fun j hj => hk j (List.mem_cons_of_mem _ hj)) h3
  | [], _ :: _, _, _, h => h.elim
  | _ :: _, [], _, _, h => h.elim
/-- a chain with its last one -/
theorem chC_snoc {s s1 : vt_S} {i : Nat} {P : PCE} : ∀ (is : List Nat) (l : List PCE) (c : Int32) (z : Nat), (is ++ [z]).Nodup → i ∉ is ++ [z] → (∀ j, j ∈ is ++ [z] → vlC B s s1 j) → (∀ j, j ∈ is → vt_A s1 201 (B + 7) j = vt_A s 201 (B + 7) j) → vt_A s1 201 (B + 7) z = nI i → vt_A s1 201 (B + 7) i = -1 → pvC B s1 i P → chC B s c (is ++ [z]) l → chC B s1 c (is ++ [z] ++ [i]) (l ++ [P])
  | [], l, c, z, _, hi, hv, _, hz, h0, hp, h => by
    cases l with
    | nil => exact h.elim
    | cons Q l =>
      obtain ⟨h1, h2, h3⟩ := h
      cases l with
      | cons R l => exact h3.elim
      | nil =>
        refine ⟨h1, (hv z (by simp)).pv h2, ?_⟩
        rw [hz]
        refine ⟨rfl, hp, ?_⟩
        rw [h0]
        rfl
  | a :: is, l, c, z, hn, hi, hv, hk, hz, h0, hp, h => by
    cases l with
    | nil => exact h.elim
    | cons Q l =>
      obtain ⟨h1, h2, h3⟩ := h
      refine ⟨h1, (hv a (by simp)).pv h2, ?_⟩
      rw [hk a List.mem_cons_self]
      exact chC_snoc is l _ z (List.nodup_cons.mp hn).2 (fun q => hi (List.mem_cons_of_mem _ q)) (fun j hj => hv j (List.mem_cons_of_mem _ hj)) (fun j hj => hk j (List.mem_cons_of_mem _ hj)) hz h0 hp h3
end CC2
