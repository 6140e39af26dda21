-- TREE, the class: the first chain, and the tree that grows
section CG
variable {B p W : Nat} {g : Nat → Nat}
def nxW (W j : Nat) : Int32 := if W ≤ j + 1 then -1 else nI (j + 1)
theorem c_chain_loop (hW : W ≤ 128) : ∀ (d k fu K : Nat) (s : vt_S), k + d = W → d < fu → pcL B s K → (∃ e, K = 128 * 2 ^ e) → vt_I s 206 (B + 7) = nI k → k ≤ K → (∀ j, j < k → pvC B s j (pc0 j) ∧ vt_A s 201 (B + 7) j = nxW W j) → ∃ s1 K1, ab_X1_chainWhole_7 fu (B + 7) (nI W) (nI k) s = some ((if W = 0 then -1 else nI 0), s1) ∧ pcL B s1 K1 ∧ (∃ e, K1 = 128 * 2 ^ e) ∧ W ≤ K1 ∧ vt_I s1 206 (B + 7) = nI W ∧ rmP K K1 s s1 ∧ ∀ j, j < W → pvC B s1 j (pc0 j) ∧ vt_A s1 201 (B + 7) j = nxW W j := by
  intro d
  induction d with
  | zero =>
    intro k fu K s hd hf hL he h6 hk hj
    obtain ⟨fu, rfl⟩ : ∃ q, fu = q + 1 := ⟨fu - 1, by omega⟩
    have e : k = W := by omega
    subst e
    refine ⟨s, K, ?_, hL, he, hk, h6, rmP.same rfl rfl, hj⟩
    show ab_X1_chainWhole_7b _ (B + 7) (nI k) (nI k) s = _
    unfold ab_X1_chainWhole_7b ab_X1_chainWhole_53
    rw [if_pos (show nI k ≤ nI k from nI_le (by omega) (by omega))]
    by_cases c : k = 0
    · rw [if_pos c, c, if_pos (show nI 0 ≤ 0 by decide)]
    · rw [if_neg c, if_neg (show ¬ nI k ≤ 0 from nI_ge (a := 0) (b := k) (by omega) (by omega))]; rfl
  | succ d ih =>
    intro k fu K s hd hf hL he h6 hk hj
    obtain ⟨fu, rfl⟩ : ∃ q, fu = q + 1 := ⟨fu - 1, by omega⟩
    obtain ⟨t, K1, a1, a2, a3, a4, a5, a6, a7, a8, a9⟩ := c_pcAdd (w := k) hL h6 hk (by omega) he
    obtain ⟨u, hu⟩ : ∃ u, u = vu_A t 201 (B + 7) k (nxW W k) := ⟨_, rfl⟩
    have ku : vk [] [201] [] (fun _ => True) t u := by rw [hu]; exact vk.pA (vk.refl t) (by decide)
    have uA : ∀ j, vt_A u 201 (B + 7) j = if j = k then nxW W k else vt_A t 201 (B + 7) j := fun j => by rw [hu, A_at]
    have uv : ∀ j, vlC B t u j := fun j => ⟨by rw [ku.aA (by decide)], by rw [hu, sB_A], by rw [hu, sB_A], by rw [hu, sB_A], by rw [hu, sB_A]⟩
    have uz := ku.2.2.2.2 rfl
    have l1 := a2.1.2.1
    have l7 := a2.2.2
    obtain ⟨s1, K2, b1, b2, b3, b4, b5, b6, b7⟩ := ih (k + 1) fu K1 u (by omega) (by omega) (by
      have eL : vt_L u = vt_L t := by rw [hu, sL_A]
      unfold pcL
      rw [eL]; exact a2) a3 (by rw [ku.eI (by intro z; cases z)]; exact a6) (by omega) (fun j hjk => by
      by_cases c : j = k
      · rw [uA, if_pos c, c]
        exact ⟨(uv k).pv a8, rfl⟩
      · rw [uA, if_neg c, (a7 j (by omega)).2.2.2.2.2]
        exact ⟨((a7.vl (show j < k by omega)).trans (uv j)).pv (hj j (by omega)).1, (hj j (by omega)).2⟩)
    refine ⟨s1, K2, ?_, b2, b3, b4, b5, (a5.trans (rmP.same uz.1 uz.2)).trans b6, b7⟩
    show ab_X1_chainWhole_7b _ (B + 7) (nI W) (nI k) s = _
    unfold ab_X1_chainWhole_7b ab_X1_chainWhole_37
    rw [if_neg (show ¬ nI W ≤ nI k from nI_ge (by omega) (by omega)), a1, vbs, nI_1]
    by_cases c : W ≤ k + 1
    · have e : nxW W k = -1 := if_pos c
      rw [e] at hu
      rw [if_pos (show nI W ≤ nI (k + 1) from nI_le c (by omega)), vs_I_ok (by omega) (by omega), obs, ← hu]
      exact b1
    · have e : nxW W k = nI (k + 1) := if_neg c
      rw [e] at hu
      rw [if_neg (show ¬ nI W ≤ nI (k + 1) from nI_ge (by omega) (by omega)), vs_I_ok (by omega) (by omega), obs, ← hu]
      exact b1
theorem ch_rg {s : vt_S} (hW : W ≤ 128) : ∀ (n f : Nat), f + n = W → (∀ j, f ≤ j → j < W → pvC B s j (pc0 j) ∧ vt_A s 201 (B + 7) j = nxW W j) → chC B s (if n = 0 then -1 else nI f) (List.range' f n) ((List.range' f n).map pc0)
  | 0, _, _, _ => by rw [if_pos rfl]; rfl
  | n + 1, f, hf, h => by
    obtain ⟨h1, h2⟩ := h f (Nat.le_refl _) (by omega)
    rw [if_neg (by omega)]
    refine ⟨rfl, h1, ?_⟩
    have := ch_rg hW n (f + 1) (by omega) (fun j x y => h j (by omega) y)
    rw [h2]
    unfold nxW
    by_cases c : n = 0
    · rw [if_pos c] at this
      rw [if_pos (by omega)]; exact this
    · rw [if_neg c] at this
      rw [if_neg (by omega)]; exact this
theorem c_chain {s : vt_S} {K : Nat} (hT : cTw B p g W s) (hL : pcL B s K) (he : ∃ e, K = 128 * 2 ^ e) : ∃ s1 K1, ab_X1_chainWhole (B + 7) (nI W) s = some ((if W = 0 then -1 else nI 0), s1) ∧ pcQ B p g W s1 K1 W ∧ rmP K K1 s s1 ∧ chC B s1 (if W = 0 then -1 else nI 0) (List.range W) (l00 W) := by
  have hW := hT.2.1.2.1
  obtain ⟨u, hu⟩ : ∃ u, u = vu_I s 206 (B + 7) (nI 0) := ⟨_, rfl⟩
  have ku : vk [206] [] [] (fun _ => True) s u := by rw [hu]; exact vk.pI (vk.refl s) (by decide)
  have uz := ku.2.2.2.2 rfl
  obtain ⟨s1, K1, a1, a2, a3, a4, a5, a6, a7⟩ := c_chain_loop (B := B) hW W 0 sv_fuel K u (by omega) (fuel_ge (by omega)) (pcL_vk hL ku (by decide)) he (by rw [hu, I_at]) (by omega) (fun j hj => absurd hj (by omega))
  have e : ab_X1_chainWhole (B + 7) (nI W) s = some ((if W = 0 then -1 else nI 0), s1) := by
    unfold ab_X1_chainWhole
    rw [slet, show (0 : Int32) = nI 0 from rfl, ← hu]
    exact a1
  have k := (vk_X1_chainWhole (O := fun _ => True) vclT trivial e).1
  refine ⟨s1, K1, e, ⟨k.keep (P := cTw B p g W) hT, a2, a3, a4, a5⟩, (rmP.same uz.1 uz.2).trans a6, ?_⟩
  have := ch_rg (B := B) (s := s1) hW W 0 (by omega) (fun j _ h => a7 j h)
  unfold l00
  rw [List.range_eq_range']
  exact this
/-- what the tree holds once it has grown, sizes aside -/
def trC (B : Nat) (g : Nat → Nat) (W : Nat) (s : vt_S) : Prop := vt_I s 911 (B + 6) = nI (trN g W).length ∧ vt_I s 913 (B + 6) = nI (W + bcut g 128 (l00 W)) ∧ ndsC B s 0 (trN g W)
theorem c_grow0 {s : vt_S} {K KN : Nat} (hB : phB g W) (hT : cTw B p g W s) (hL : pcL B s K) (he : ∃ e, K = 128 * 2 ^ e) (hN : ndL B s KN) (hS : skL B s) : ∃ s1 K1 KN1, ab_X8_grow (B + 6) p s = vt_b (ab_X8_countSizes (B + 6) s1) (fun _ h1 => some ((), h1)) ∧ trC B g W s1 ∧ cTw B p g W s1 ∧ pcL B s1 K1 ∧ (∃ e, K1 = 128 * 2 ^ e) ∧ ndL B s1 KN1 ∧ (trN g W).length ≤ KN1 ∧ skL B s1 ∧ rmT K K1 KN KN1 s s1 := by
  obtain ⟨n1, n2, n3⟩ := trN_bnd hB
  have hW := hB.1
  obtain ⟨p1, p2⟩ := l00_pcs W
  obtain ⟨u, hu⟩ : ∃ u, u = vu_I (vu_I (vu_I (vu_I s 911 (B + 6) 0) 912 (B + 6) 0) 913 (B + 6) 0) 910 (B + 6) 0 := ⟨_, rfl⟩
  have ku : vk [910, 911, 912, 913] [] [] (fun _ => True) s u := by rw [hu]; exact vk.pI (vk.pI (vk.pI (vk.pI (vk.refl s) (by decide)) (by decide)) (by decide)) (by decide)
  have uz := ku.2.2.2.2 rfl
  have Tu : cTw B p g W u := ku.keep0 (P := cTw B p g W) hT
  obtain ⟨s1, K1, a1, a2, a3, a4⟩ := c_chain Tu (pcL_vk hL ku (by decide)) he
  have k1 := (vk_X1_chainWhole (O := fun _ => True) vclT trivial a1).1
  obtain ⟨c0, hc0⟩ : ∃ c : Int32, c = (if W = 0 then -1 else nI 0) := ⟨_, rfl⟩
  rw [← hc0] at a1 a4
  have i10 : vt_I s1 910 (B + 6) = nI 0 := by rw [k1.eI (by decide), hu, I_at]; rfl
  have S1 : skL B s1 := skL_vk (skL_vk hS ku (by decide)) k1 (by decide)
  have N1 : ndL B s1 KN := ndL_vk (ndL_vk hN ku (by decide)) k1 (by decide)
  obtain ⟨s2, b1, b2, b3, b4, -⟩ := c_open (par := none) (lf := true) (c := c0) S1 i10 (by omega)
  have b1 : ab_X8_open (B + 6) c0 (-1) 1 s1 = some ((), s2) := b1
  have i11 : vt_I s2 911 (B + 6) = nI 0 := by rw [b2.eI (by decide), k1.eI (by decide), hu, I_ne (by omega), I_ne (by omega), I_ne (by omega), I_at]; rfl
  have i12 : vt_I s2 912 (B + 6) = nI 0 := by rw [b2.eI (by decide), k1.eI (by decide), hu, I_ne (by omega), I_ne (by omega), I_at]; rfl
  have i13 : vt_I s2 913 (B + 6) = nI 0 := by rw [b2.eI (by decide), k1.eI (by decide), hu, I_ne (by omega), I_at]; rfl
  have Q2 : cQ B p g W s2 K1 KN W 0 0 0 := ⟨pcQ_vk a2 b2 (b2.keep0 (P := cTw B p g W) a2.1) (by decide) (by decide), ndL_vk N1 b2 (by decide), by omega, i11, i12, i13, skL_vk S1 b2 (by decide)⟩
  have c2 : chC B s2 c0 (List.range W) (l00 W) := chC_nx a4 (fun i _ => nx_vk b2 (by decide) i)
  obtain ⟨s3, K3, KN3, k, d1, d2, d3, d4, d5, -, d7, -⟩ := c_run (B := B) (p := p) (W := W) (g := g) 128 (l00 W) 0 0 0 W 0 0 K1 KN c0 (List.range W) none true s2 p1 (by omega) (by omega) Q2 b3 b4 c2 List.nodup_range (fun i hi => List.mem_range.mp hi) rfl (by omega) (by unfold trN at n1; omega) (by omega)
  have bz := b2.2.2.2.2 rfl
  obtain ⟨o1, o2, o3, o4, o5, o6, o7⟩ := d3
  rw [Nat.zero_add] at o3 o4
  have o3 : (trN g W).length ≤ KN3 := o3
  refine ⟨s3, K3, KN3, ?_, ⟨o4, by rw [o6, p2, Nat.zero_add], d5⟩, o1.1, o1.2.1, o1.2.2.1, o2, o3, o7, (rmT.same uz.1 uz.2).trans ((a3.pc.trans (rmT.same bz.1 bz.2)).trans d7)⟩
  have hk : k ≤ 16513 := by unfold trN at n1; omega
  have hf : k + 1 < sv_fuel := Nat.lt_of_lt_of_le (show k + 1 < 20000 by omega) (Nat.le_of_lt (fuel_ge (by omega)))
  obtain ⟨q, hq⟩ : ∃ q, sv_fuel = (q + 1) + k := ⟨sv_fuel - k - 1, by omega⟩
  unfold ab_X8_grow
  rw [slet, slet, slet, slet, ← hu, slet, Tu.2.2, slet, Tu.2.1.1, a1, vbs, b1, vbs, hq, show (0 : Int32) = nI 0 from rfl, d2 (q + 1) 0 (by omega)]
  show ab_X8_grow_39b _ (B + 6) p (nI (0 + k)) s3 = _
  unfold ab_X8_grow_39b ab_X8_grow_186
  rw [if_neg (nI_lt32 (by omega)), slet, d4, if_pos (show nI 0 ≤ 0 by decide)]
end CG
