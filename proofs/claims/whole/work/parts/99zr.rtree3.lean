-- TREE, the reference: a list is collected, the pieces on the line counted
section RV
variable {B W : Nat} {g : Nat → Nat}
def clW : List Nat := [1706, 1707, 1708, 1709, 1710, 1712]
theorem rT_collect {v n from_ to_ : Nat} {side : Int} (hv : v < W) (hs : side = 1 ∨ side = -1) (hft : from_ + n ≤ to_) (hto : to_ + n ≤ 34000) (hn : n ≤ 128) : ∀ (l : List PCE) (i k fu cnt : Nat) (s : vt_S), i + l.length = n → k ≤ i → l.length < fu → rTw B g W s → vt_I s 1711 (B + 670) = nI cnt → cnt + cutN g v l ≤ 16600 → segR B s cnt (from_ + i) l → pcs W l → ∃ s1, ab_X16_collect_6 fu (B + 670) (nI from_) (nI n) (nI v) (zI side) (nI to_) (nI k) (nI i) s = some (nI (k + (spS g v side l).length), s1) ∧ vk [1711] clW [] (fun _ => True) s s1 ∧ vt_I s1 1711 (B + 670) = nI (cnt + cutN g v l) ∧ pkR B cnt s s1 ∧ (∀ j, j < to_ + k → vt_A s1 1712 (B + 670) j = vt_A s 1712 (B + 670) j) ∧ segR B s1 (cnt + cutN g v l) (to_ + k) (spS g v side l) := by
  intro l
  induction l with
  | nil =>
    intro i k fu cnt s hi hk hf hT h11 hc hsg hp
    obtain ⟨fu, rfl⟩ : ∃ q, fu = q + 1 := ⟨fu - 1, by have : ([] : List PCE).length = 0 := rfl; omega⟩
    rw [List.length_nil] at hi
    refine ⟨s, ?_, vk.refl s, h11, pkR.refl, fun _ _ => rfl, trivial⟩
    show ab_X16_collect_6b _ (B + 670) (nI from_) (nI n) (nI v) (zI side) (nI to_) (nI k) (nI i) s = _
    unfold ab_X16_collect_6b
    rw [if_pos (nI_le (by omega) (by omega))]
    rfl
  | cons P l ih =>
    intro i k fu cnt s hi hk hf hT h11 hc hsg hp
    rw [List.length_cons] at hi hf
    obtain ⟨fu, rfl⟩ : ∃ q, fu = q + 1 := ⟨fu - 1, by omega⟩
    obtain ⟨⟨q, q1, q2, q3⟩, hs2⟩ := hsg
    have hP := hp P List.mem_cons_self
    have hp2 : pcs W l := fun Q hQ => hp Q (List.mem_cons_of_mem _ hQ)
    have L12 := hT.2.L1712
    have eC : cutN g v (P :: l) = (if lyP g v P = 2 then 1 else 0) + cutN g v l := rfl
    have eS : spS g v side (P :: l) = if lyP g v P = 2 then ptS g v side P :: spS g v side l else if lyP g v P = side then P :: spS g v side l else spS g v side l := rfl
    have hs2 : segR B s cnt (from_ + (i + 1)) l := by rw [show from_ + (i + 1) = from_ + i + 1 by omega]; exact hs2
    have lr : -1 ≤ lyP g v P ∧ lyP g v P ≤ 2 := by rcases lyP_rng g v P with z | z | z | z <;> rw [z] <;> decide
    have e0 : ab_X16_collect_6 (fu + 1) (B + 670) (nI from_) (nI n) (nI v) (zI side) (nI to_) (nI k) (nI i) s = if lyP g v P = side then ab_X16_collect_45 (ab_X16_collect_6 fu) (B + 670) (nI from_) (nI n) (nI v) (zI side) (nI to_) (nI k) (nI i) (nI q) (zI (lyP g v P)) s else if lyP g v P = 2 then ab_X16_collect_45 (ab_X16_collect_6 fu) (B + 670) (nI from_) (nI n) (nI v) (zI side) (nI to_) (nI k) (nI i) (nI q) (zI (lyP g v P)) s else ab_X16_collect_6 fu (B + 670) (nI from_) (nI n) (nI v) (zI side) (nI to_) (nI k) (nI (i + 1)) s := by
      show ab_X16_collect_6b _ (B + 670) (nI from_) (nI n) (nI v) (zI side) (nI to_) (nI k) (nI i) s = _
      unfold ab_X16_collect_6b ab_X16_collect_78
      rw [if_neg (nI_ge (by omega) (by omega)), nI_add, vl_I_ok (by omega) (by omega), obs, q2, rT_lie hT hv (by omega) q3 hP.1 hP.2, vbs, nI_1, ifc (ly_I side (by omega)), show (2 : Int32) = zI 2 from rfl, ifc (ly_I 2 (by omega))]
    rw [e0]
    by_cases c2 : lyP g v P = 2
    · have ns : ¬ lyP g v P = side := by omega
      rw [if_neg ns, if_pos c2]
      rw [eC, if_pos c2] at hc ⊢
      rw [eS, if_pos c2]
      obtain ⟨s1, a1, a2, a3, a4, a5⟩ := rT_part hT h11 (by omega) hv q1 q3 hP.1 hP.2 c2 hs
      have T1 : rTw B g W s1 := a2.keep0 (P := rTw B g W) hT
      have L12' := T1.2.L1712
      obtain ⟨t, ht⟩ : ∃ u, u = vu_A s1 1712 (B + 670) (to_ + k) (nI cnt) := ⟨_, rfl⟩
      have kt : vk [1711] clW [] (fun _ => True) s1 t := by rw [ht]; exact vk.pA (vk.refl s1) (by decide)
      have Tt : rTw B g W t := kt.keep0 (P := rTw B g W) T1
      have t11 : vt_I t 1711 (B + 670) = nI (cnt + 1) := by rw [ht]; exact a3
      have pt : pkR B (cnt + 1) s1 t := by
        intro z hz
        rw [ht]
        exact ⟨by rw [A_nf (by decide)], rfl, rfl, rfl, rfl⟩
      have row1 : ∀ j, vt_A s1 1712 (B + 670) j = vt_A s 1712 (B + 670) j := fun j => by rw [(a2.2.2.1 1712 (B + 670) (Or.inl (by decide))).1]
      have rowt : ∀ j, j ≠ to_ + k → vt_A t 1712 (B + 670) j = vt_A s 1712 (B + 670) j := fun j hj => by rw [ht, A_at, if_neg hj]; exact row1 j
      have sg : segR B t (cnt + 1) (from_ + (i + 1)) l := segR_mono (by omega) l _ (segR_cg (fun z hz Q hQ => pt.pv z (by omega) Q (a4.pv z hz Q hQ)) l _ (fun j h1 h2 => rowt j (by omega)) hs2)
      obtain ⟨s2, b1, b2, b3, b4, b5, b6⟩ := ih (i + 1) (k + 1) fu (cnt + 1) t (by omega) (by omega) (by omega) Tt t11 (by omega) sg hp2
      refine ⟨s2, ?_, ((a2.weak (by decide) (by decide) (by decide)).trans kt).trans b2, by rw [b3, show cnt + 1 + cutN g v l = cnt + (1 + cutN g v l) by omega], (a4.trans pt (by omega)).trans b4 (by omega), fun j hj => ?_, ⟨⟨cnt, by omega, ?_, ?_⟩, ?_⟩⟩
      · unfold ab_X16_collect_45 ab_X16_collect_74 ab_X16_collect_78
        rw [if_pos (show zI (lyP g v P) = 2 by rw [c2]; rfl), a1, vbs, nI_add, vs_I_ok (by omega) (by omega), obs, ← ht, nI_1, nI_1, b1, List.length_cons, show k + 1 + (spS g v side l).length = k + ((spS g v side l).length + 1) by omega]
      · rw [b5 j (by omega), rowt j (by omega)]
      · rw [b5 (to_ + k) (by omega), ht, A_at, if_pos rfl]
      · exact b4.pv cnt (by omega) _ (pt.pv cnt (by omega) _ a5)
      · rw [show to_ + k + 1 = to_ + (k + 1) by omega, show cnt + (1 + cutN g v l) = cnt + 1 + cutN g v l by omega]; exact b6
    · by_cases c1 : lyP g v P = side
      · rw [if_pos c1]
        rw [eC, if_neg c2, Nat.zero_add] at hc ⊢
        rw [eS, if_neg c2, if_pos c1]
        obtain ⟨t, ht⟩ : ∃ u, u = vu_A s 1712 (B + 670) (to_ + k) (nI q) := ⟨_, rfl⟩
        have kt : vk [1711] clW [] (fun _ => True) s t := by rw [ht]; exact vk.pA (vk.refl s) (by decide)
        have Tt : rTw B g W t := kt.keep0 (P := rTw B g W) hT
        have t11 : vt_I t 1711 (B + 670) = nI cnt := by rw [ht]; exact h11
        have pt : pkR B cnt s t := by
          intro z hz
          rw [ht]
          exact ⟨by rw [A_nf (by decide)], rfl, rfl, rfl, rfl⟩
        have rowt : ∀ j, j ≠ to_ + k → vt_A t 1712 (B + 670) j = vt_A s 1712 (B + 670) j := fun j hj => by rw [ht, A_at, if_neg hj]
        have sg : segR B t cnt (from_ + (i + 1)) l := segR_cg (fun z hz Q hQ => pt.pv z hz Q hQ) l _ (fun j h1 h2 => rowt j (by omega)) hs2
        obtain ⟨s2, b1, b2, b3, b4, b5, b6⟩ := ih (i + 1) (k + 1) fu cnt t (by omega) (by omega) (by omega) Tt t11 (by omega) sg hp2
        refine ⟨s2, ?_, kt.trans b2, b3, pt.trans b4 (Nat.le_refl _), fun j hj => ?_, ⟨⟨q, by omega, ?_, ?_⟩, ?_⟩⟩
        · unfold ab_X16_collect_45 ab_X16_collect_74 ab_X16_collect_78
          rw [if_neg (show ¬ zI (lyP g v P) = 2 by rw [show (2 : Int32) = zI 2 from rfl, ly_I 2 (by omega)]; exact c2), nI_add, vs_I_ok (by omega) (by omega), obs, ← ht, nI_1, nI_1, b1, List.length_cons, show k + 1 + (spS g v side l).length = k + ((spS g v side l).length + 1) by omega]
        · rw [b5 j (by omega), rowt j (by omega)]
        · rw [b5 (to_ + k) (by omega), ht, A_at, if_pos rfl]
        · exact b4.pv q q1 _ (pt.pv q q1 _ q3)
        · rw [show to_ + k + 1 = to_ + (k + 1) by omega]; exact b6
      · rw [if_neg c1, if_neg c2]
        rw [eC, if_neg c2, Nat.zero_add] at hc ⊢
        rw [eS, if_neg c2, if_neg c1]
        exact ih (i + 1) k fu cnt s (by omega) (by omega) (by omega) hT h11 hc hs2 hp2
/-- the pieces on the line -/
theorem rT_on {v n from_ cnt k : Nat} (hv : v < W) (hc : cnt ≤ 16600) (hf0 : from_ + n ≤ 34000) (hn : n ≤ 128) : ∀ (l : List PCE) (i fu o : Nat) (s : vt_S), i + l.length = n → l.length < fu → rTw B g W s → vt_I s 1727 (B + 670) = nI o → o + onN g v l ≤ 16600 → segR B s cnt (from_ + i) l → pcs W l → ∃ s1, ab_X16_divide_136 fu (B + 670) (nI from_) (nI n) (nI k) (nI v) (nI i) s = ab_X16_divide_136b (fun _ _ _ _ _ _ _ => none) (B + 670) (nI from_) (nI n) (nI k) (nI v) (nI n) s1 ∧ vk [1727] [1724] [] (fun _ => True) s s1 ∧ vt_I s1 1727 (B + 670) = nI (o + onN g v l) := by
  intro l
  induction l with
  | nil =>
    intro i fu o s hi hf hT h27 ho hsg hp
    obtain ⟨fu, rfl⟩ : ∃ q, fu = q + 1 := ⟨fu - 1, by have : ([] : List PCE).length = 0 := rfl; omega⟩
    rw [List.length_nil] at hi
    refine ⟨s, ?_, vk.refl s, h27⟩
    rw [show i = n by omega]
    show ab_X16_divide_136b _ (B + 670) (nI from_) (nI n) (nI k) (nI v) (nI n) s = _
    unfold ab_X16_divide_136b
    have c : nI n ≤ nI n := nI_le (Nat.le_refl _) (by omega)
    rw [if_pos c, if_pos c]
  | cons P l ih =>
    intro i fu o s hi hf hT h27 ho hsg hp
    rw [List.length_cons] at hi hf
    obtain ⟨fu, rfl⟩ : ∃ q, fu = q + 1 := ⟨fu - 1, by omega⟩
    obtain ⟨⟨q, q1, q2, q3⟩, hs2⟩ := hsg
    have hP := hp P List.mem_cons_self
    have hp2 : pcs W l := fun Q hQ => hp Q (List.mem_cons_of_mem _ hQ)
    have L12 := hT.2.L1712
    have L24 := hT.2.L1724
    have eO : onN g v (P :: l) = (if lyP g v P = 0 then 1 else 0) + onN g v l := rfl
    have hs2 : segR B s cnt (from_ + (i + 1)) l := by rw [show from_ + (i + 1) = from_ + i + 1 by omega]; exact hs2
    have e0 : ab_X16_divide_136 (fu + 1) (B + 670) (nI from_) (nI n) (nI k) (nI v) (nI i) s = if lyP g v P = 0 then (vs_I s 1724 (B + 670) (nI o) (nI q)).bind fun h20 => sv_let (vt_I h20 1727 (B + 670)) fun v21 => sv_let (vu_I h20 1727 (B + 670) (v21 + 1)) fun h22 => ab_X16_divide_188 (ab_X16_divide_136 fu) (B + 670) (nI from_) (nI n) (nI k) (nI v) (nI i) h22 else ab_X16_divide_136 fu (B + 670) (nI from_) (nI n) (nI k) (nI v) (nI (i + 1)) s := by
      show ab_X16_divide_136b _ (B + 670) (nI from_) (nI n) (nI k) (nI v) (nI i) s = _
      unfold ab_X16_divide_136b ab_X16_divide_188
      rw [if_neg (nI_ge (by omega) (by omega)), nI_add, vl_I_ok (by omega) (by omega), obs, q2, rT_lie hT hv (by omega) q3 hP.1 hP.2, vbs, show (0 : Int32) = zI 0 from rfl, ifc (ly_I 0 (by omega)), slet, h27, vl_I_ok (by omega) (by omega), obs, q2, nI_1]
    rw [e0]
    by_cases c : lyP g v P = 0
    · rw [if_pos c]
      rw [eO, if_pos c] at ho ⊢
      obtain ⟨t, ht⟩ : ∃ u, u = vu_I (vu_A s 1724 (B + 670) o (nI q)) 1727 (B + 670) (nI (o + 1)) := ⟨_, rfl⟩
      have kt : vk [1727] [1724] [] (fun _ => True) s t := by rw [ht]; exact vk.pI (vk.pA (vk.refl s) (by decide)) (by decide)
      have I7 : vt_I (vu_A s 1724 (B + 670) o (nI q)) 1727 (B + 670) = nI o := h27
      obtain ⟨s1, a1, a2, a3⟩ := ih (i + 1) fu (o + 1) t (by omega) (by omega) (kt.keep0 (P := rTw B g W) hT) (by rw [ht]; exact I_at) (by omega) (segR_cg (s := s) (s1 := t) (fun z hz Q hQ => kt.keep0 (P := fun t => pvR B t z Q) hQ) l _ (fun j h1 h2 => by rw [(kt.2.2.1 1712 (B + 670) (Or.inl (by decide))).1]) hs2) hp2
      refine ⟨s1, ?_, kt.trans a2, by rw [a3, show o + 1 + onN g v l = o + (1 + onN g v l) by omega]⟩
      rw [vs_I_ok (by omega) (by omega), obs, slet, I7, nI_1, slet, ← ht]
      unfold ab_X16_divide_188
      rw [nI_1]
      exact a1
    · rw [if_neg c]
      rw [eO, if_neg c, Nat.zero_add] at ho ⊢
      exact ih (i + 1) fu o s (by omega) (by omega) hT h27 ho hs2 hp2
end RV
