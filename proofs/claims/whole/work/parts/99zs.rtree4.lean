-- TREE, the reference: a list is divided
section RW2
variable {B W : Nat} {g : Nat → Nat}
def pI (par : Option Nat) : Int32 := match par with
  | none => -1
  | some k => nI k
def stE (B : Nat) (s : vt_S) (t from_ n : Nat) (par : Option Nat) (sd : Bool) : Prop := vt_A s 1713 (B + 670) t = nI from_ ∧ vt_A s 1714 (B + 670) t = nI n ∧ vt_A s 1715 (B + 670) t = pI par ∧ vt_A s 1716 (B + 670) t = bI sd
def rnI : List Nat := [1711, 1717, 1725, 1726, 1727]
def rnA : List Nat := [1706, 1707, 1708, 1709, 1710, 1712, 1713, 1714, 1715, 1716, 1718, 1719, 1720, 1721, 1722, 1723, 1724]
def stk4 (B t : Nat) (s s1 : vt_S) : Prop := ∀ j, j < t → vt_A s1 1713 (B + 670) j = vt_A s 1713 (B + 670) j ∧ vt_A s1 1714 (B + 670) j = vt_A s 1714 (B + 670) j ∧ vt_A s1 1715 (B + 670) j = vt_A s 1715 (B + 670) j ∧ vt_A s1 1716 (B + 670) j = vt_A s 1716 (B + 670) j
def nod3 (B base : Nat) (s s1 : vt_S) : Prop := ∀ k, k < base → vt_A s1 1718 (B + 670) k = vt_A s 1718 (B + 670) k ∧ vt_A s1 1721 (B + 670) k = vt_A s 1721 (B + 670) k ∧ vt_A s1 1723 (B + 670) k = vt_A s 1723 (B + 670) k
def ptrK (B base : Nat) (par : Option Nat) (sd : Bool) (s s1 : vt_S) : Prop := ∀ k, k < base → (¬ (sd = false ∧ par = some k) → vt_A s1 1719 (B + 670) k = vt_A s 1719 (B + 670) k) ∧ (¬ (sd = true ∧ par = some k) → vt_A s1 1720 (B + 670) k = vt_A s 1720 (B + 670) k)
def ptrS (B : Nat) (par : Option Nat) (sd : Bool) (s : vt_S) (v : Int) : Prop := ∀ k, par = some k → vt_A s (if sd then 1720 else 1719) (B + 670) k = zI v
def rFr (B cnt base t from_ : Nat) (par : Option Nat) (sd : Bool) (s s1 : vt_S) : Prop := vk rnI rnA [] (fun _ => True) s s1 ∧ pkR B cnt s s1 ∧ (∀ j, j < from_ → vt_A s1 1712 (B + 670) j = vt_A s 1712 (B + 670) j) ∧ stk4 B t s s1 ∧ nod3 B base s s1 ∧ ptrK B base par sd s s1
def rQ (B : Nat) (g : Nat → Nat) (W : Nat) (s : vt_S) (cnt base leaf ons : Nat) : Prop := rTw B g W s ∧ vt_I s 1711 (B + 670) = nI cnt ∧ vt_I s 1725 (B + 670) = nI base ∧ vt_I s 1726 (B + 670) = nI leaf ∧ vt_I s 1727 (B + 670) = nI ons
def dpR (B : Nat) (s : vt_S) (par : Option Nat) (dep base : Nat) : Prop := match par with
  | none => dep = 0
  | some k => k < base ∧ 1 ≤ dep ∧ vt_A s 1721 (B + 670) k = nI (dep - 1)
theorem rT_hang {s : vt_S} {from_ n base leaf : Nat} {par : Option Nat} {sd : Bool} (hS : rS B s) (h25 : vt_I s 1725 (B + 670) = nI base) (h26 : vt_I s 1726 (B + 670) = nI leaf) (hb : base ≤ 8400) (hp : ∀ k, par = some k → k < base) (hn : n ≤ 128) (hlf : leaf < 100000) : ∃ s1, ab_X16_divide (B + 670) (nI from_) (nI n) (pI par) (bI sd) s = ab_X16_divide_51 (B + 670) (nI from_) (nI n) (pI par) s1 ∧ vk [] [1719, 1720] [] (fun _ => True) s s1 ∧ (∀ k, (¬ (sd = false ∧ par = some k) → vt_A s1 1719 (B + 670) k = vt_A s 1719 (B + 670) k) ∧ (¬ (sd = true ∧ par = some k) → vt_A s1 1720 (B + 670) k = vt_A s 1720 (B + 670) k)) ∧ ptrS B par sd s1 (if n = 0 then -1 - (leaf : Int) else (base : Int)) := by
  have L19 := hS.L1719
  have L20 := hS.L1720
  obtain ⟨v, hv⟩ : ∃ v : Int, v = (if n = 0 then -1 - (leaf : Int) else (base : Int)) := ⟨_, rfl⟩
  have e0 : ab_X16_divide (B + 670) (nI from_) (nI n) (pI par) (bI sd) s = ab_X16_divide_17 (B + 670) (nI from_) (nI n) (pI par) (bI sd) (zI v) s := by
    unfold ab_X16_divide
    by_cases c : n = 0
    · rw [if_pos (show nI n = 0 by rw [c]; rfl), slet, h26, hv, if_pos c, nI_z leaf, show (-1 : Int32) = zI (-1) from rfl, zI_sub]
    · rw [if_neg (show ¬ nI n = 0 from fun z => c (by rwa [show (0 : Int32) = nI 0 from rfl, nI_eq (by omega) (by omega)] at z)), slet, h25, hv, if_neg c, nI_z base]
  rw [e0, ← hv]
  unfold ab_X16_divide_17 ab_X16_divide_39
  cases par with
  | none =>
    refine ⟨s, ?_, vk.refl s, fun k => ⟨fun _ => rfl, fun _ => rfl⟩, fun k hk => (by cases hk)⟩
    rw [if_pos (show pI none < 0 by decide), if_pos (show pI none < 0 by decide)]
  | some k =>
    have hk := hp k rfl
    have nk : ¬ pI (some k) < 0 := nI_pos (by omega)
    rw [if_neg nk, if_neg nk]
    cases sd with
    | false =>
      refine ⟨vu_A s 1719 (B + 670) k (zI v), ?_, vk.pA (vk.refl s) (by decide), fun j => ⟨fun h => ?_, fun _ => by rw [A_nf (by decide)]⟩, fun j hj => ?_⟩
      · rw [if_pos (show bI false = 0 from rfl)]
        show (vs_I s 1719 (B + 670) (nI k) (zI v)).bind _ = _
        rw [vs_I_ok (by omega) (by omega), obs]
      · rw [A_at, if_neg (fun z => h ⟨rfl, by rw [z]⟩)]
      · cases hj
        rw [if_neg (by decide), A_at, if_pos rfl]
    | true =>
      refine ⟨vu_A s 1720 (B + 670) k (zI v), ?_, vk.pA (vk.refl s) (by decide), fun j => ⟨fun _ => by rw [A_nf (by decide)], fun h => ?_⟩, fun j hj => ?_⟩
      · rw [if_neg (show ¬ bI true = 0 by decide)]
        show (vs_I s 1720 (B + 670) (nI k) (zI v)).bind _ = _
        rw [vs_I_ok (by omega) (by omega), obs]
      · rw [A_at, if_neg (fun z => h ⟨rfl, by rw [z]⟩)]
      · cases hj
        rw [if_pos rfl, A_at, if_pos rfl]
theorem rT_push {s : vt_S} {t from_ n : Nat} {par : Option Nat} {sd : Bool} (hS : rS B s) (h17 : vt_I s 1717 (B + 670) = nI t) (ht : t < 280) : ∃ s1, ab_X16_push (B + 670) (nI from_) (nI n) (pI par) (bI sd) s = some ((), s1) ∧ vk [1717] [1713, 1714, 1715, 1716] [] (fun _ => True) s s1 ∧ vt_I s1 1717 (B + 670) = nI (t + 1) ∧ stk4 B t s s1 ∧ stE B s1 t from_ n par sd := by
  have L13 := hS.L1713
  have L14 := hS.L1714
  have L15 := hS.L1715
  have L16 := hS.L1716
  obtain ⟨u, hu⟩ : ∃ u, u = vu_A (vu_A (vu_A (vu_A s 1713 (B + 670) t (nI from_)) 1714 (B + 670) t (nI n)) 1715 (B + 670) t (pI par)) 1716 (B + 670) t (bI sd) := ⟨_, rfl⟩
  have ku : vk [1717] [1713, 1714, 1715, 1716] [] (fun _ => True) s u := by rw [hu]; exact vk.pA (vk.pA (vk.pA (vk.pA (vk.refl s) (by decide)) (by decide)) (by decide)) (by decide)
  have uI : vt_I u = vt_I s := by rw [hu]; exact Eq.trans rfl rfl
  have eL : ∀ f i v w, vt_L (vu_A w f (B + 670) i v) = vt_L w := fun _ _ _ _ => Eq.trans rfl rfl
  have eA : vt_A (vu_I u 1717 (B + 670) (nI (t + 1))) = vt_A u := rfl
  refine ⟨vu_I u 1717 (B + 670) (nI (t + 1)), ?_, vk.pI ku (by decide), I_at, fun j hj => ?_, ?_⟩
  · unfold ab_X16_push
    rw [slet, h17, vs_I_ok (by omega) (by omega), obs, slet, I_A, h17, vs_I_ok (by rw [eL]; omega) (by rw [eL]; omega), obs, slet, I_A, I_A, h17, vs_I_ok (by rw [eL, eL]; omega) (by rw [eL, eL]; omega), obs, slet, I_A, I_A, I_A, h17, vs_I_ok (by rw [eL, eL, eL]; omega) (by rw [eL, eL, eL]; omega), obs, ← hu, slet, uI, h17, nI_1, slet]
  · rw [eA, hu, A_nf (show 1713 ≠ 1716 by decide), A_nf (show 1713 ≠ 1715 by decide), A_nf (show 1713 ≠ 1714 by decide), A_at, if_neg (by omega), A_nf (show 1714 ≠ 1716 by decide), A_nf (show 1714 ≠ 1715 by decide), A_at, if_neg (by omega), A_nf (show 1714 ≠ 1713 by decide), A_nf (show 1715 ≠ 1716 by decide), A_at, if_neg (by omega), A_nf (show 1715 ≠ 1714 by decide), A_nf (show 1715 ≠ 1713 by decide), A_at, if_neg (by omega), A_nf (show 1716 ≠ 1715 by decide), A_nf (show 1716 ≠ 1714 by decide), A_nf (show 1716 ≠ 1713 by decide)]
    exact ⟨rfl, rfl, rfl, rfl⟩
  · unfold stE
    rw [eA, hu, A_nf (show 1713 ≠ 1716 by decide), A_nf (show 1713 ≠ 1715 by decide), A_nf (show 1713 ≠ 1714 by decide), A_at, if_pos rfl, A_nf (show 1714 ≠ 1716 by decide), A_nf (show 1714 ≠ 1715 by decide), A_at, if_pos rfl, A_nf (show 1715 ≠ 1716 by decide), A_at, if_pos rfl, A_at, if_pos rfl]
    exact ⟨rfl, rfl, rfl, rfl⟩
theorem vk.aA {ws rs gs : List Nat} {s0 s : vt_S} {f a : Nat} (h : vk ws rs gs (fun _ => True) s0 s) (hf : f ∉ rs) : vt_A s f a = vt_A s0 f a := (h.2.2.1 f a (Or.inl hf)).1
theorem vk.aB {ws rs gs : List Nat} {s0 s : vt_S} {f a : Nat} (h : vk ws rs gs (fun _ => True) s0 s) (hf : f ∉ rs) : vt_B s f a = vt_B s0 f a := (h.2.2.1 f a (Or.inl hf)).2
theorem vk.pk {ws rs gs : List Nat} {s0 s : vt_S} {cnt : Nat} (h : vk ws rs gs (fun _ => True) s0 s) (hf : ∀ f, f ∈ pcW → f ∉ rs) : pkR B cnt s0 s := fun i _ => ⟨by rw [h.aA (hf 1706 (by decide))], by rw [h.aB (hf 1707 (by decide))], by rw [h.aB (hf 1708 (by decide))], by rw [h.aB (hf 1709 (by decide))], by rw [h.aB (hf 1710 (by decide))]⟩
set_option linter.constructorNameAsVariable false in
theorem rT_div {s : vt_S} {from_ cnt base leaf ons t dep : Nat} {par : Option Nat} {sd : Bool} {P : PCE} {r : List PCE} (hQ : rQ B g W s cnt base leaf ons) (h17 : vt_I s 1717 (B + 670) = nI t) (ht : t + 2 ≤ 280) (hsg : segR B s cnt from_ (P :: r)) (hp : pcs W (P :: r)) (h8 : (P :: r).length ≤ 128) (hf : from_ + 3 * (P :: r).length ≤ 34000) (hc : cnt + 2 * cutN g (bst g (P :: r)) (P :: r) ≤ 16600) (hb : base < 8400) (hlf : leaf < 100000) (ho : ons + onN g (bst g (P :: r)) (P :: r) ≤ 16600) (hd : dpR B s par dep base) : ∃ s1, ab_X16_divide (B + 670) (nI from_) (nI (P :: r).length) (pI par) (bI sd) s = some ((), s1) ∧ rQ B g W s1 (cnt + 2 * cutN g (bst g (P :: r)) (P :: r)) (base + 1) leaf (ons + onN g (bst g (P :: r)) (P :: r)) ∧ vt_I s1 1717 (B + 670) = nI (t + 2) ∧ stE B s1 t (from_ + (P :: r).length) (spS g (bst g (P :: r)) (-1) (P :: r)).length (some base) true ∧ stE B s1 (t + 1) (from_ + (P :: r).length + (spS g (bst g (P :: r)) (-1) (P :: r)).length) (spS g (bst g (P :: r)) 1 (P :: r)).length (some base) false ∧ segR B s1 (cnt + 2 * cutN g (bst g (P :: r)) (P :: r)) (from_ + (P :: r).length) (spS g (bst g (P :: r)) (-1) (P :: r)) ∧ segR B s1 (cnt + 2 * cutN g (bst g (P :: r)) (P :: r)) (from_ + (P :: r).length + (spS g (bst g (P :: r)) (-1) (P :: r)).length) (spS g (bst g (P :: r)) 1 (P :: r)) ∧ (vt_A s1 1718 (B + 670) base = nI (bst g (P :: r)) ∧ vt_A s1 1721 (B + 670) base = nI dep ∧ vt_A s1 1723 (B + 670) base = nI (onN g (bst g (P :: r)) (P :: r))) ∧ ptrS B par sd s1 (base : Int) ∧ rFr B cnt base t (from_ + (P :: r).length) par sd s s1 := by
  obtain ⟨sp1, sp2, ⟨sp3, sp4⟩, ⟨sp5, sp6⟩, sp7, -⟩ := sp_step (g := g) hp h8
  obtain ⟨n, hn⟩ : ∃ n, n = (P :: r).length := ⟨_, rfl⟩
  have n0 : n ≠ 0 := by rw [hn, List.length_cons]; omega
  have spR : (spS g (bst g (P :: r)) (-1) (P :: r)).length ≤ n := by rw [hn, List.length_cons]; omega
  rw [← hn] at h8 hf sp7 ⊢
  obtain ⟨v, hv⟩ : ∃ v, v = bst g (P :: r) := ⟨_, rfl⟩
  rw [← hv] at sp1 sp2 sp3 sp4 sp5 sp6 sp7 hc ho spR ⊢
  obtain ⟨RR, hRR⟩ : ∃ R, R = spS g v (-1) (P :: r) := ⟨_, rfl⟩
  obtain ⟨LL, hLL⟩ : ∃ R, R = spS g v 1 (P :: r) := ⟨_, rfl⟩
  rw [← hRR] at sp5 sp6 sp7 spR ⊢
  rw [← hLL] at sp3 sp4 sp7 ⊢
  obtain ⟨hT, q11, q25, q26, q27⟩ := hQ
  have hpar : ∀ k, par = some k → k < base := fun k hk => by rw [hk] at hd; exact hd.1
  obtain ⟨s1, a1, a2, a3, a4⟩ := rT_hang (from_ := from_) (n := n) (sd := sd) hT.2 q25 q26 (by omega) hpar h8 hlf
  rw [if_neg n0] at a4
  obtain ⟨s2, hs2⟩ : ∃ u, u = vu_I s1 1725 (B + 670) (nI (base + 1)) := ⟨_, rfl⟩
  have k2 : vk [1725] [1719, 1720] [] (fun _ => True) s s2 := by rw [hs2]; exact vk.pI (a2.weak (by decide) (by decide) (by decide)) (by decide)
  have T2 : rTw B g W s2 := k2.keep0 (P := rTw B g W) hT
  have g2 : segR B s2 cnt from_ (P :: r) := segR_cg (s := s) (s1 := s2) (fun z hz Q hQ => k2.keep0 (P := fun t => pvR B t z Q) hQ) _ _ (fun j _ _ => by rw [k2.aA (by decide)]) hsg
  have bt := rT_best (cnt := cnt) (full := P :: r) (n := n) (from_ := from_) T2 (by omega) hn.symm h8 (by omega) g2 hp (P :: r) 0 sv_fuel 0 1073741824 (by omega) (by omega) (fuel_ge (by omega)) g2 (fun Q hQ => hQ) (by decide) (by decide)
  have bt : ab_X16_bestOf (B + 670) (nI from_) (nI n) s2 = some (nI v, s2) := by rw [hv]; exact bt
  have L18 := T2.2.L1718
  have L21 := T2.2.L1721
  have L22 := T2.2.L1722
  have L23 := T2.2.L1723
  obtain ⟨s3, hs3⟩ : ∃ u, u = vu_A (vu_A (vu_A s2 1718 (B + 670) base (nI v)) 1721 (B + 670) base (nI dep)) 1722 (B + 670) base (nI ons) := ⟨_, rfl⟩
  have k3' : vk [] [1718, 1721, 1722] [] (fun _ => True) s2 s3 := by rw [hs3]; exact vk.pA (vk.pA (vk.pA (vk.refl s2) (by decide)) (by decide)) (by decide)
  have k3 : vk [1725] [1718, 1719, 1720, 1721, 1722] [] (fun _ => True) s s3 := (k2.weak (by decide) (by decide) (by decide)).trans (k3'.weak (by decide) (by decide) (by decide))
  have T3 : rTw B g W s3 := k3.keep0 (P := rTw B g W) hT
  have g3 : segR B s3 cnt from_ (P :: r) := segR_cg (s := s) (s1 := s3) (fun z hz Q hQ => k3.keep0 (P := fun t => pvR B t z Q) hQ) _ _ (fun j _ _ => by rw [k3.aA (by decide)]) hsg
  obtain ⟨s4, c1, c2, c3⟩ := rT_on (k := base) (n := n) (from_ := from_) sp1 (by omega) (by omega) h8 (P :: r) 0 sv_fuel ons s3 (by omega) (fuel_ge (by omega)) T3 (by rw [k3.eI (by decide)]; exact q27) ho g3 hp
  have c1 : ab_X16_divide_136 sv_fuel (B + 670) (nI from_) (nI n) (nI base) (nI v) 0 s3 = _ := c1
  obtain ⟨s5, hs5⟩ : ∃ u, u = vu_A s4 1723 (B + 670) base (nI (onN g v (P :: r))) := ⟨_, rfl⟩
  have k5 : vk [1725, 1727] [1718, 1719, 1720, 1721, 1722, 1723, 1724] [] (fun _ => True) s s5 := by rw [hs5]; exact vk.pA ((k3.weak (by decide) (by decide) (by decide)).trans (c2.weak (by decide) (by decide) (by decide))) (by decide)
  have T5 : rTw B g W s5 := k5.keep0 (P := rTw B g W) hT
  have g5 : segR B s5 cnt from_ (P :: r) := segR_cg (s := s) (s1 := s5) (fun z hz Q hQ => k5.keep0 (P := fun t => pvR B t z Q) hQ) _ _ (fun j _ _ => by rw [k5.aA (by decide)]) hsg
  obtain ⟨s6, d1, d2, d3, d4, d5, d6⟩ := rT_collect (side := -1) (n := n) (from_ := from_) (to_ := from_ + n) sp1 (Or.inr rfl) (Nat.le_refl _) (by omega) h8 (P :: r) 0 0 sv_fuel cnt s5 (by omega) (Nat.le_refl _) (fuel_ge (by omega)) T5 (by rw [k5.eI (by decide)]; exact q11) (by omega) g5 hp
  rw [← hRR] at d1 d6
  have d1 : ab_X16_collect (B + 670) (nI from_) (nI n) (nI v) (-1) (nI (from_ + n)) s5 = some (nI (0 + RR.length), s6) := d1
  rw [Nat.zero_add] at d1
  rw [Nat.add_zero] at d5 d6
  have T6 : rTw B g W s6 := d2.keep0 (P := rTw B g W) T5
  have g6 : segR B s6 (cnt + cutN g v (P :: r)) from_ (P :: r) := segR_mono (by omega) _ _ (segR_cg (s := s5) (s1 := s6) (fun z hz Q hQ => d4.pv z hz Q hQ) _ _ (fun j _ h2 => d5 j (by omega)) g5)
  obtain ⟨s7, e1, e2, e3, e4, e5, e6⟩ := rT_collect (side := 1) (n := n) (from_ := from_) (to_ := from_ + n + RR.length) sp1 (Or.inl rfl) (by omega) (by omega) h8 (P :: r) 0 0 sv_fuel (cnt + cutN g v (P :: r)) s6 (by omega) (Nat.le_refl _) (fuel_ge (by omega)) T6 d3 (by omega) g6 hp
  rw [← hLL] at e1 e6
  have e1 : ab_X16_collect (B + 670) (nI from_) (nI n) (nI v) 1 (nI (from_ + n + RR.length)) s6 = some (nI (0 + LL.length), s7) := e1
  rw [Nat.zero_add] at e1
  rw [Nat.add_zero] at e5 e6
  have e2c : cnt + cutN g v (P :: r) + cutN g v (P :: r) = cnt + 2 * cutN g v (P :: r) := by omega
  rw [e2c] at e3 e6
  have T7 : rTw B g W s7 := e2.keep0 (P := rTw B g W) T6
  have k7 : vk [1711, 1725, 1727] [1706, 1707, 1708, 1709, 1710, 1712, 1718, 1719, 1720, 1721, 1722, 1723, 1724] [] (fun _ => True) s s7 := ((k5.weak (by decide) (by decide) (by decide)).trans (d2.weak (by decide) (by decide) (by decide))).trans (e2.weak (by decide) (by decide) (by decide))
  have k57 : vk [1711] clW [] (fun _ => True) s5 s7 := d2.trans e2
  obtain ⟨s8, f1, f2, f3, f4, f5⟩ := rT_push (from_ := from_ + n) (n := RR.length) (par := some base) (sd := true) T7.2 (by rw [k7.eI (by decide)]; exact h17) (show t < 280 by omega)
  have T8 : rTw B g W s8 := f2.keep0 (P := rTw B g W) T7
  obtain ⟨s9, m1, m2, m3, m4, m5⟩ := rT_push (from_ := from_ + n + RR.length) (n := LL.length) (par := some base) (sd := false) T8.2 f3 (show t + 1 < 280 by omega)
  have k79 : vk [1717] [1713, 1714, 1715, 1716] [] (fun _ => True) s7 s9 := f2.trans m2
  have k9 : vk rnI rnA [] (fun _ => True) s s9 := (k7.weak (by decide) (by decide) (by decide)).trans (k79.weak (by decide) (by decide) (by decide))
  have k59 : vk [1711, 1717] [1706, 1707, 1708, 1709, 1710, 1712, 1713, 1714, 1715, 1716] [] (fun _ => True) s5 s9 := (k57.weak (by decide) (by decide) (by decide)).trans (k79.weak (by decide) (by decide) (by decide))
  have T9 : rTw B g W s9 := k79.keep0 (P := rTw B g W) T7
  have pk9 : pkR B cnt s s9 := ((k5.pk (by decide)).trans d4 (Nat.le_refl _)).trans (e4.trans (k79.pk (by decide) (cnt := cnt + cutN g v (P :: r))) (Nat.le_refl _)) (by omega)
  have sgm : ∀ {c f : Nat} {l : List PCE}, segR B s7 c f l → segR B s9 c f l := fun {c f l} h => segR_cg (s := s7) (s1 := s9) (fun z hz Q hQ => k79.keep0 (P := fun t => pvR B t z Q) hQ) l f (fun j _ _ => by rw [k79.aA (by decide)]) h
  have gR : segR B s7 (cnt + 2 * cutN g v (P :: r)) (from_ + n) (RR) := by
    have h1 : segR B s7 (cnt + cutN g v (P :: r)) (from_ + n) RR := segR_cg (s := s6) (s1 := s7) (fun z hz Q hQ => e4.pv z hz Q hQ) RR (from_ + n) (fun j _ h2 => e5 j (by omega)) d6
    exact segR_mono (by omega) RR (from_ + n) h1
  have gR9 : segR B s9 (cnt + 2 * cutN g v (P :: r)) (from_ + n) (RR) := by
    exact sgm gR
  have gL9 : segR B s9 (cnt + 2 * cutN g v (P :: r)) (from_ + n + RR.length) (LL) := by
    exact sgm e6
  have A5 : ∀ k, (vt_A s5 1718 (B + 670) k = if k = base then nI v else vt_A s 1718 (B + 670) k) ∧ (vt_A s5 1721 (B + 670) k = if k = base then nI dep else vt_A s 1721 (B + 670) k) ∧ (vt_A s5 1723 (B + 670) k = if k = base then nI (onN g v (P :: r)) else vt_A s 1723 (B + 670) k) := by
    intro k
    rw [hs5, A_nf (show 1718 ≠ 1723 by decide), A_nf (show 1721 ≠ 1723 by decide), A_at, c2.aA (show 1718 ∉ [1724] by decide), c2.aA (show 1721 ∉ [1724] by decide), c2.aA (show 1723 ∉ [1724] by decide), hs3, A_nf (show 1718 ≠ 1722 by decide), A_nf (show 1718 ≠ 1721 by decide), A_at, A_nf (show 1721 ≠ 1722 by decide), A_at, A_nf (show 1721 ≠ 1718 by decide), A_nf (show 1723 ≠ 1722 by decide), A_nf (show 1723 ≠ 1721 by decide), A_nf (show 1723 ≠ 1718 by decide), k2.aA (show 1718 ∉ [1719, 1720] by decide), k2.aA (show 1721 ∉ [1719, 1720] by decide), k2.aA (show 1723 ∉ [1719, 1720] by decide)]
    exact ⟨rfl, rfl, rfl⟩
  have A9 : ∀ f, f ∉ [1706, 1707, 1708, 1709, 1710, 1712, 1713, 1714, 1715, 1716] → vt_A s9 f (B + 670) = vt_A s5 f (B + 670) := fun f hf => k59.aA hf
  have P5 : ∀ f, f ∈ [1719, 1720] → vt_A s5 f (B + 670) = vt_A s1 f (B + 670) := by
    intro f hf
    have h1 : f ≠ 1723 ∧ f ∉ [1724] ∧ f ∉ [1718, 1721, 1722] := by
      simp only [List.mem_cons, List.not_mem_nil, or_false] at hf ⊢
      omega
    rw [hs5, A_nf h1.1, c2.aA h1.2.1, k3'.aA h1.2.2, hs2]
    rfl
  have I5 : vt_I s5 = vt_I s4 := by rw [hs5]; exact Eq.trans rfl rfl
  have I3 : vt_I s3 = vt_I s2 := by rw [hs3]; exact Eq.trans rfl rfl
  have m3' : vt_I s9 1717 (B + 670) = nI (t + 2) := m3
  refine ⟨s9, ?_, ⟨T9, ?_, ?_, ?_, ?_⟩, ?_, ?_, ?_, ?_, ?_, ⟨?_, ?_, ?_⟩, fun k hk => ?_, k9, pk9, fun j hj => ?_, fun j hj => ?_, fun k hk => ?_, fun k hk => ?_⟩
  · rw [a1]
    unfold ab_X16_divide_51
    rw [if_neg (show ¬ nI n = 0 from fun z => n0 (by rwa [show (0 : Int32) = nI 0 from rfl, nI_eq (by omega) (by omega)] at z))]
    have z25 : vt_I s1 1725 (B + 670) = nI base := by rw [a2.eI (by intro z; cases z)]; exact q25
    rw [slet, slet, z25, nI_1, slet, ← hs2, bt, vbs, vs_I_ok (by omega) (by omega), obs]
    have e121 : ab_X16_divide_121 (B + 670) (nI from_) (nI n) (nI base) (nI v) (B + 670) (nI base) (nI dep) (vu_A s2 1718 (B + 670) base (nI v)) = some ((), s9) := by
      have w27 : vt_I s2 1727 (B + 670) = nI ons := by rw [k2.eI (by decide)]; exact q27
      have L21' : vt_L (vu_A s2 1718 (B + 670) base (nI v)) 1721 (B + 670) = 8400 := L21
      have L22' : vt_L (vu_A (vu_A s2 1718 (B + 670) base (nI v)) 1721 (B + 670) base (nI dep)) 1722 (B + 670) = 8400 := L22
      unfold ab_X16_divide_121
      rw [vs_I_ok (by omega) (by omega), obs, slet, I_A, I_A, w27, vs_I_ok (by omega) (by omega), obs, ← hs3, c1]
      unfold ab_X16_divide_136b
      have z22 : vt_A s4 1722 (B + 670) base = nI ons := by rw [c2.aA (by decide), hs3, A_at, if_pos rfl]
      have L22'' : vt_L s4 1722 (B + 670) = 8400 := (c2.keep0 (P := rTw B g W) T3).2.L1722
      have L23'' : vt_L s4 1723 (B + 670) = 8400 := (c2.keep0 (P := rTw B g W) T3).2.L1723
      have esub : nI (ons + onN g v (P :: r)) - nI ons = nI (onN g v (P :: r)) := by rw [nI_sub (by omega), show ons + onN g v (P :: r) - ons = onN g v (P :: r) by omega]
      have f1 : ab_X16_push (B + 670) (nI (from_ + n)) (nI RR.length) (nI base) 1 s7 = some ((), s8) := f1
      have m1 : ab_X16_push (B + 670) (nI (from_ + n + RR.length)) (nI LL.length) (nI base) 0 s8 = some ((), s9) := m1
      rw [if_pos (nI_le (Nat.le_refl _) (by omega)), slet, c3, vl_I_ok (by omega) (by omega), obs, z22, esub, vs_I_ok (by omega) (by omega), obs, ← hs5, nI_add, d1, vbs, nI_add, e1, vbs, f1, vbs, m1, vbs]
    cases par with
    | none =>
      have hd0 : dep = 0 := hd
      rw [if_neg (show ¬ (0 : Int32) ≤ pI none by decide)]
      rw [hd0] at e121
      exact e121
    | some k =>
      obtain ⟨hd1, hd2, hd3⟩ : k < base ∧ 1 ≤ dep ∧ vt_A s 1721 (B + 670) k = nI (dep - 1) := hd
      have z21 : vt_A (vu_A s2 1718 (B + 670) base (nI v)) 1721 (B + 670) k = nI (dep - 1) := by rw [A_nf (by decide), k2.aA (by decide)]; exact hd3
      have L21' : vt_L (vu_A s2 1718 (B + 670) base (nI v)) 1721 (B + 670) = 8400 := L21
      rw [if_pos (show (0 : Int32) ≤ pI (some k) from nI_le (a := 0) (b := k) (Nat.zero_le _) (by omega))]
      show ((vl_I (vu_A s2 1718 (B + 670) base (nI v)) 1721 (B + 670) (nI k)).bind _) = _
      rw [vl_I_ok (by omega) (by omega), obs, z21, nI_1, show dep - 1 + 1 = dep by omega]
      exact e121
  · rw [k79.eI (by decide)]; exact e3
  · rw [k79.eI (by decide), k57.eI (by decide), I5, c2.eI (by decide), I3, hs2, I_at]
  · rw [k79.eI (by decide), k7.eI (by decide)]; exact q26
  · rw [k79.eI (by decide), k57.eI (by decide), I5]; exact c3
  · exact m3'
  · obtain ⟨x1, x2, x3, x4⟩ := m4 t (by omega)
    obtain ⟨y1, y2, y3, y4⟩ := f5
    exact ⟨x1.trans y1, x2.trans y2, x3.trans y3, x4.trans y4⟩
  · exact m5
  · exact gR9
  · exact gL9
  · rw [A9 1718 (by decide), (A5 base).1, if_pos rfl]
  · rw [A9 1721 (by decide), (A5 base).2.1, if_pos rfl]
  · rw [A9 1723 (by decide), (A5 base).2.2, if_pos rfl]
  · have := a4 k hk
    cases sd with
    | false =>
      rw [if_neg (by decide)] at this ⊢
      rw [A9 1719 (by decide), P5 1719 (by decide)]; exact this
    | true =>
      rw [if_pos rfl] at this ⊢
      rw [A9 1720 (by decide), P5 1720 (by decide)]; exact this
  · rw [k79.aA (by decide), e5 j (by omega), d5 j (by omega), k5.aA (by decide)]
  · obtain ⟨x1, x2, x3, x4⟩ := m4 j (by omega)
    obtain ⟨y1, y2, y3, y4⟩ := f4 j hj
    rw [k7.aA (show 1713 ∉ _ by decide)] at y1
    rw [k7.aA (show 1714 ∉ _ by decide)] at y2
    rw [k7.aA (show 1715 ∉ _ by decide)] at y3
    rw [k7.aA (show 1716 ∉ _ by decide)] at y4
    exact ⟨x1.trans y1, x2.trans y2, x3.trans y3, x4.trans y4⟩
  · rw [A9 1718 (by decide), A9 1721 (by decide), A9 1723 (by decide), (A5 k).1, (A5 k).2.1, (A5 k).2.2, if_neg (by omega), if_neg (by omega), if_neg (by omega)]
    exact ⟨rfl, rfl, rfl⟩
  · rw [A9 1719 (by decide), A9 1720 (by decide), P5 1719 (by decide), P5 1720 (by decide)]
    exact a3 k
end RW2
