-- the invariant of both sides
/-- fields of the class out of one state, those of the reference out of another -/
def vmx (s t : vt_S) : vt_S := (vt_z s, vt_l s, fun f a => if Nat.blt f 1400 then vt_I s f a else vt_I t f a, fun f a => if Nat.blt f 1400 then vt_J s f a else vt_J t f a, fun f a => if Nat.blt f 1400 then vt_P s f a else vt_P t f a, vt_E t, fun f a => if Nat.blt f 1400 then vt_L s f a else vt_L t f a, fun f a => if Nat.blt f 1400 then vt_A s f a else vt_A t f a, fun f a => if Nat.blt f 1400 then vt_B s f a else vt_B t f a)
def vmy (s t : vt_S) : vt_S := (vt_z s, vt_l s, fun f a => if Nat.blt f 1400 then vt_I s f a else vt_I t f a, fun f a => if Nat.blt f 1400 then vt_J s f a else vt_J t f a, fun f a => if Nat.blt f 1400 then vt_P s f a else vt_P t f a, vt_E s, fun f a => if Nat.blt f 1400 then vt_L s f a else vt_L t f a, fun f a => if Nat.blt f 1400 then vt_A s f a else vt_A t f a, fun f a => if Nat.blt f 1400 then vt_B s f a else vt_B t f a)
def sm6 (s s1 : vt_S) (f a : Nat) : Prop := vt_I s1 f a = vt_I s f a ∧ vt_J s1 f a = vt_J s f a ∧ vt_P s1 f a = vt_P s f a ∧ vt_L s1 f a = vt_L s f a ∧ vt_A s1 f a = vt_A s f a ∧ vt_B s1 f a = vt_B s f a
/-- only the class's fields were changed -/
def clO (s s1 : vt_S) : Prop := vt_E s1 = vt_E s ∧ ∀ f a, 1400 ≤ f → sm6 s s1 f a
/-- only the reference's fields were changed, and nothing was made -/
def rfO (s s1 : vt_S) : Prop := vt_E s1 = vt_E s ∧ (vt_z s1 = vt_z s ∧ vt_l s1 = vt_l s) ∧ ∀ f a, f < 1400 → sm6 s s1 f a
theorem blt_t {f : Nat} (h : Nat.blt f 1400 = true) : f < 1400 := Nat.le_of_ble_eq_true h
theorem blt_f {f : Nat} (h : ¬ Nat.blt f 1400 = true) : 1400 ≤ f := by
  have : ¬ f < 1400 := fun z => h (Nat.ble_eq_true_of_le z)
  omega
theorem clO.mix {s s1 : vt_S} (k : clO s s1) : s1 = vmx s1 s := by
  obtain ⟨e, k⟩ := k
  refine vt_S_ext rfl rfl ?_ ?_ ?_ e ?_ ?_ ?_
  · funext f a
    show _ = if Nat.blt f 1400 then vt_I s1 f a else vt_I s f a
    by_cases c : Nat.blt f 1400 = true
    · rw [if_pos c]
    · rw [if_neg c]; exact (k f a (blt_f c)).1
  · funext f a
    show _ = if Nat.blt f 1400 then vt_J s1 f a else vt_J s f a
    by_cases c : Nat.blt f 1400 = true
    · rw [if_pos c]
    · rw [if_neg c]; exact (k f a (blt_f c)).2.1
  · funext f a
    show _ = if Nat.blt f 1400 then vt_P s1 f a else vt_P s f a
    by_cases c : Nat.blt f 1400 = true
    · rw [if_pos c]
    · rw [if_neg c]; exact (k f a (blt_f c)).2.2.1
  · funext f a
    show _ = if Nat.blt f 1400 then vt_L s1 f a else vt_L s f a
    by_cases c : Nat.blt f 1400 = true
    · rw [if_pos c]
    · rw [if_neg c]; exact (k f a (blt_f c)).2.2.2.1
  · funext f a
    show _ = if Nat.blt f 1400 then vt_A s1 f a else vt_A s f a
    by_cases c : Nat.blt f 1400 = true
    · rw [if_pos c]
    · rw [if_neg c]; exact (k f a (blt_f c)).2.2.2.2.1
  · funext f a
    show _ = if Nat.blt f 1400 then vt_B s1 f a else vt_B s f a
    by_cases c : Nat.blt f 1400 = true
    · rw [if_pos c]
    · rw [if_neg c]; exact (k f a (blt_f c)).2.2.2.2.2
theorem rfO.mix {s s1 : vt_S} (k : rfO s s1) : s1 = vmy s s1 := by
  obtain ⟨e, ⟨z1, z2⟩, k⟩ := k
  refine vt_S_ext z1 z2 ?_ ?_ ?_ e ?_ ?_ ?_
  · funext f a
    show _ = if Nat.blt f 1400 then vt_I s f a else vt_I s1 f a
    by_cases c : Nat.blt f 1400 = true
    · rw [if_pos c]; exact (k f a (blt_t c)).1
    · rw [if_neg c]
  · funext f a
    show _ = if Nat.blt f 1400 then vt_J s f a else vt_J s1 f a
    by_cases c : Nat.blt f 1400 = true
    · rw [if_pos c]; exact (k f a (blt_t c)).2.1
    · rw [if_neg c]
  · funext f a
    show _ = if Nat.blt f 1400 then vt_P s f a else vt_P s1 f a
    by_cases c : Nat.blt f 1400 = true
    · rw [if_pos c]; exact (k f a (blt_t c)).2.2.1
    · rw [if_neg c]
  · funext f a
    show _ = if Nat.blt f 1400 then vt_L s f a else vt_L s1 f a
    by_cases c : Nat.blt f 1400 = true
    · rw [if_pos c]; exact (k f a (blt_t c)).2.2.2.1
    · rw [if_neg c]
  · funext f a
    show _ = if Nat.blt f 1400 then vt_A s f a else vt_A s1 f a
    by_cases c : Nat.blt f 1400 = true
    · rw [if_pos c]; exact (k f a (blt_t c)).2.2.2.2.1
    · rw [if_neg c]
  · funext f a
    show _ = if Nat.blt f 1400 then vt_B s f a else vt_B s1 f a
    by_cases c : Nat.blt f 1400 = true
    · rw [if_pos c]; exact (k f a (blt_t c)).2.2.2.2.2
    · rw [if_neg c]
theorem clO_vk {s s1 : vt_S} {ws rs gs : List Nat} (k : vk ws rs gs (fun _ => True) s s1) (h : ∀ f, f ∈ ws ++ rs ++ gs → f < 1400) : clO s s1 := by
  refine ⟨k.1, fun f a hf => ?_⟩
  have n : f ∉ ws ++ rs ++ gs := fun z => by have := h f z; omega
  simp only [List.mem_append, not_or] at n
  obtain ⟨⟨n1, n2⟩, n3⟩ := n
  obtain ⟨a1, a2, a3⟩ := k.2.1 f a (Or.inl n1)
  obtain ⟨b1, b2⟩ := k.2.2.1 f a (Or.inl n2)
  exact ⟨a1, a2, a3, k.2.2.2.1 f a (Or.inl n3), b1, b2⟩
theorem rfO_vk {s s1 : vt_S} {ws rs : List Nat} (k : vk ws rs [] (fun _ => True) s s1) (h : ∀ f, f ∈ ws ++ rs → 1400 ≤ f) : rfO s s1 := by
  refine ⟨k.1, k.2.2.2.2 rfl, fun f a hf => ?_⟩
  have n : f ∉ ws ++ rs := fun z => by have := h f z; omega
  simp only [List.mem_append, not_or] at n
  obtain ⟨n1, n2⟩ := n
  obtain ⟨a1, a2, a3⟩ := k.2.1 f a (Or.inl n1)
  obtain ⟨b1, b2⟩ := k.2.2.1 f a (Or.inl n2)
  exact ⟨a1, a2, a3, k.2.2.2.1 f a (Or.inl (by intro z; cases z)), b1, b2⟩
section IN2
variable {B : Nat}
def wallN (mp : Nat) (gm : Nat → Nat) : Nat := if 0 < mp then gm 6 else 0
/-- the class, where a map is -/
def cMp (B p R0 KN : Nat) (gm : Nat → Nat) (nm : Nat) (D : Nat → SD) (wk : WK) (a : Nat) (tk : Int32) (st : WS) (s : vt_S) : Prop := cWk B p gm nm s ∧ rowC s (p + 1) gm nm ∧ secsC s p (gm 5) D ∧ wkC B s wk ∧ vt_I s 1104 (B + 628) = nI a ∧ vt_I s 1106 (B + 628) = tk ∧ stC s (R0 + 1) st ∧ (vt_I s 911 (B + 6) = nI (trN gm (gm 6)).length ∧ vt_I s 913 (B + 6) = nI (gm 6 + bcut gm 128 (l00 (gm 6))) ∧ (∀ j, j < (trN gm (gm 6)).length → ndC B s j (trD gm (gm 6) j)) ∧ szC B gm (gm 6) s) ∧ (trN gm (gm 6)).length ≤ KN
def cIv (B p p' R0 R K KN : Nat) (gi : Nat → Nat) (ni : Nat) (go : Nat → Nat) (no : Nat) (fa pl : Int32) (mp : Nat) (I : Nat → IN) (m : Nat) (s : vt_S) : Prop := cS B s ∧ (pS p s ∧ pS p' s ∧ vt_P s 1306 B = p ∧ vt_P s 1307 B = p') ∧ (vt_P s 1308 B = R0 ∧ vt_P s 1309 B = R ∧ vt_P s 600 R0 = R0 + 1 ∧ vt_P s 600 R = R + 1) ∧ (rowC s (B + 1) gi ni ∧ rowC s (B + 3) go no ∧ (∃ q n, rowC s (p' + 1) q n) ∧ ∃ q n, rowC s (p + 1) q n) ∧ (vt_I s 502 (B + 5) = fa ∧ vt_I s 503 (B + 5) = pl ∧ vt_I s 1310 B = nI mp) ∧ (runC s R0 I m ∧ ∃ J n, runC s R J n) ∧ pcL B s K ∧ (∃ e, K = 128 * 2 ^ e) ∧ ndL B s KN
/-- the reference, where a map is -/
def rMp2 (B : Nat) (gm : Nat → Nat) (nm : Nat) (D : Nat → SD) (wk : WK) (a : Nat) (tk : Int32) (st : WS) (s : vt_S) : Prop := rWk B gm nm s ∧ secsR s (B + 656) (gm 5) D ∧ wkR B s wk ∧ vt_I s 1813 (B + 639) = nI a ∧ hTk B s = tk ∧ stR B s st
def rIv (B : Nat) (gi : Nat → Nat) (ni : Nat) (go : Nat → Nat) (no : Nat) (fa pl : Int32) (mp : Nat) (I : Nat → IN) (m : Nat) (s : vt_S) : Prop := rS B s ∧ (rIn B s gi ni ∧ rOut B s go no) ∧ (vt_I s 1807 (B + 639) = fa ∧ vt_I s 1808 (B + 639) = pl ∧ vt_I s 1810 (B + 639) = nI mp) ∧ runR B s I m ∧ (mp = 0 → vt_I s 1809 (B + 639) = 0 ∧ vt_I s 1400 (B + 656) = nI 0)
/-- the tree of the reference, without a list's recursion -/
def trQ (B : Nat) (g : Nat → Nat) (W : Nat) (s : vt_S) : Prop := phB g W ∧ rTw B g W s ∧ trH B W s ∧ (vt_I s 1705 (B + 670) = 0 ∨ (vt_I s 1705 (B + 670) = 1 ∧ vt_I s 1725 (B + 670) = nI (trN g W).length ∧ vt_I s 1727 (B + 670) = nI (W + bcut g 128 (l00 W)) ∧ ∀ j, j < (trN g W).length → ndR B s j (trD g W j)))
theorem ndsR_of {s : vt_S} : ∀ (a : List ND) (k : Nat), (∀ j, k ≤ j → j < k + a.length → ndR B s j (a.getD (j - k) (0, 0, 0, 0, 0))) → ndsR B s k a
  | [], _, _ => trivial
  | N :: a, k, h => by
    rw [List.length_cons] at h
    refine ⟨?_, ndsR_of a (k + 1) (fun j h1 h2 => ?_)⟩
    · have := h k (Nat.le_refl _) (by omega)
      rw [Nat.sub_self] at this
      exact this
    · have := h j (by omega) (by omega)
      rw [show j - k = (j - (k + 1)) + 1 by omega] at this
      exact this
theorem ndsC_of {s : vt_S} : ∀ (a : List ND) (k : Nat), (∀ j, k ≤ j → j < k + a.length → ndC B s j (a.getD (j - k) (0, 0, 0, 0, 0))) → ndsC B s k a
  | [], _, _ => trivial
  | N :: a, k, h => by
    rw [List.length_cons] at h
    refine ⟨?_, ndsC_of a (k + 1) (fun j h1 h2 => ?_)⟩
    · have := h k (Nat.le_refl _) (by omega)
      rw [Nat.sub_self] at this
      exact this
    · have := h j (by omega) (by omega)
      rw [show j - k = (j - (k + 1)) + 1 by omega] at this
      exact this
theorem trQ_K {g : Nat → Nat} {W : Nat} {s : vt_S} : trQ B g W s ↔ trK B g W s := by
  refine ⟨fun h => ⟨h.1, h.2.1, h.2.2.1, h.2.2.2.elim Or.inl (fun q => Or.inr ⟨q.1, q.2.1, q.2.2.1, ndsR_of _ _ (fun j _ h2 => q.2.2.2 j (by omega))⟩)⟩, fun h => ⟨h.1, h.2.1, h.2.2.1, h.2.2.2.elim Or.inl (fun q => Or.inr ⟨q.1, q.2.1, q.2.2.1, fun j hj => ndsR_at _ _ q.2.2.2 j (by omega) (by omega)⟩)⟩⟩
/-- the room -/
def rmI (B K KN : Nat) (s : vt_S) : Prop := vt_z s ≤ B + 699 + (vt_L s 100 (B + 1) + vt_L s 100 (B + 3) + vt_L s 100 (B + 24) + vt_L s 100 (B + 323) + vt_L s 601 (B + 633) + vt_L s 601 (B + 636) + 6 * K + 6 * KN) ∧ vt_l s ≤ 245722 + 2 * (vt_L s 100 (B + 1) + vt_L s 100 (B + 3) + vt_L s 100 (B + 24) + vt_L s 100 (B + 323) + vt_L s 601 (B + 633) + vt_L s 601 (B + 636) + 6 * K + 6 * KN)
def dOk (k mp : Nat) (gm : Nat → Nat) (nm : Nat) (D : Nat → SD) (wk : WK) (a : Nat) (m : Nat) (st : WS) : Prop := 5 * mp ≤ k ∧ (mp = 0 → m = 0) ∧ (0 < mp → cMap gm nm ∧ wkOk gm wk a ∧ (∀ j, j < gm 5 → sdOk (D j)) ∧ stOk st ∧ st.2.2.2 < gm 5)
def adr (B p p' R0 R : Nat) : Prop := ((p = B + 23 ∧ p' = B + 322) ∨ (p = B + 322 ∧ p' = B + 23)) ∧ ((R0 = B + 633 ∧ R = B + 636) ∨ (R0 = B + 636 ∧ R = B + 633))
def Inv (B k : Nat) (s : vt_S) : Prop := ∃ p p' R0 R K KN gi ni go no fa pl mp gm nm D wk a tk I m st, 0 ≤ k ∧ adr B p p' R0 R ∧ dOk k mp gm nm D wk a m st ∧ cIv B p p' R0 R K KN gi ni go no fa pl mp I m s ∧ (0 < mp → cMp B p R0 KN gm nm D wk a tk st s) ∧ rIv B gi ni go no fa pl mp I m s ∧ (0 < mp → rMp2 B gm nm D wk a tk st s) ∧ trQ B gm (wallN mp gm) s ∧ rmI B K KN s
theorem rIv.cl {gi : Nat → Nat} {ni : Nat} {go : Nat → Nat} {no : Nat} {fa pl : Int32} {mp : Nat} {I : Nat → IN} {m : Nat} {s s1 : vt_S} (k : clO s s1) (h : rIv B gi ni go no fa pl mp I m s) : rIv B gi ni go no fa pl mp I m s1 := by
  rw [k.mix]; exact h
theorem rMp2.cl {gm : Nat → Nat} {nm : Nat} {D : Nat → SD} {wk : WK} {a : Nat} {tk : Int32} {st : WS} {s s1 : vt_S} (k : clO s s1) (h : rMp2 B gm nm D wk a tk st s) : rMp2 B gm nm D wk a tk st s1 := by
  rw [k.mix]; exact h
theorem trQ.cl {g : Nat → Nat} {W : Nat} {s s1 : vt_S} (k : clO s s1) (h : trQ B g W s) : trQ B g W s1 := by
  rw [k.mix]; exact h
theorem cIv.rf {p p' R0 R K KN : Nat} {gi : Nat → Nat} {ni : Nat} {go : Nat → Nat} {no : Nat} {fa pl : Int32} {mp : Nat} {I : Nat → IN} {m : Nat} {s s1 : vt_S} (k : rfO s s1) (h : cIv B p p' R0 R K KN gi ni go no fa pl mp I m s) : cIv B p p' R0 R K KN gi ni go no fa pl mp I m s1 := by
  rw [k.mix]; exact h
theorem cMp.rf {p R0 KN : Nat} {gm : Nat → Nat} {nm : Nat} {D : Nat → SD} {wk : WK} {a : Nat} {tk : Int32} {st : WS} {s s1 : vt_S} (k : rfO s s1) (h : cMp B p R0 KN gm nm D wk a tk st s) : cMp B p R0 KN gm nm D wk a tk st s1 := by
  rw [k.mix]; exact h
theorem rmI.rf {K KN : Nat} {s s1 : vt_S} (k : rfO s s1) (h : rmI B K KN s) : rmI B K KN s1 := by
  rw [k.mix]; exact h
theorem cMp.K {p R0 KN : Nat} {gm : Nat → Nat} {nm : Nat} {D : Nat → SD} {wk : WK} {a : Nat} {tk : Int32} {st : WS} {s : vt_S} (h : cMp B p R0 KN gm nm D wk a tk st s) : cTK B gm (gm 6) s := by
  obtain ⟨-, -, -, -, -, -, -, ⟨h1, h2, h3, h4⟩, -⟩ := h
  exact ⟨⟨h1, h2, ndsC_of _ _ (fun j _ q => h3 j (by omega))⟩, h4⟩
/-- the room is enough -/
theorem Inv.room {k : Nat} {s : vt_S} (h : Inv B k s) : vt_z s - B ≤ 600000 ∧ vt_l s ≤ 7302250 := by
  obtain ⟨p, p', R0, R, K, KN, gi, ni, go, no, fa, pl, mp, gm, nm, D, wk, a, tk, I, m, st, h1, h2, h3, h4, h5, h6, h7, h8, h9⟩ := h
  obtain ⟨c1, c2, c3, ⟨r1, r2, ⟨q3, n3, r3⟩, q4, n4, r4⟩, c5, ⟨u1, J, n5, u2⟩, c7, c8, c9⟩ := h4
  have x1 := r1.len.1
  have x2 := r2.len.1
  have x3 := r3.len.1
  have x4 := r4.len.1
  have x5 := u1.2.2.2.1.2
  have x6 := u2.2.2.2.1.2
  have x7 := c7.2.2
  have x8 := c9.2.1.2
  obtain ⟨y1, y2⟩ := h2
  obtain ⟨z1, z2⟩ := h9
  have w : vt_L s 100 (B + 24) ≤ 8192 ∧ vt_L s 100 (B + 323) ≤ 8192 := by
    rcases y1 with ⟨e1, e2⟩ | ⟨e1, e2⟩
    · rw [e1] at x4; rw [e2] at x3; exact ⟨x4, x3⟩
    · rw [e1] at x4; rw [e2] at x3; exact ⟨x3, x4⟩
  have w2 : vt_L s 601 (B + 633) ≤ 2048 ∧ vt_L s 601 (B + 636) ≤ 2048 := by
    rcases y2 with ⟨e1, e2⟩ | ⟨e1, e2⟩
    · rw [e1] at x5; rw [e2] at x6; exact ⟨x5, x6⟩
    · rw [e1] at x5; rw [e2] at x6; exact ⟨x6, x5⟩
  omega
end IN2
