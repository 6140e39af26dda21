-- obligation: loadDemo
section ODM
variable {B : Nat}
theorem r_rMp {s : vt_S} {gi : Nat → Nat} {ni : Nat} {go : Nat → Nat} {no : Nat} {fa pl : Int32} {mp : Nat} {gm : Nat → Nat} {nm : Nat} {D : Nat → SD} {wk : WK} {a : Nat} {tk : Int32} {I : Nat → IN} {m : Nat} {st : WS} (h6 : rIv B gi ni go no fa pl mp I m s) (h7 : 0 < mp → rMp2 B gm nm D wk a tk st s) : rMp B s gm nm mp := by
  unfold rMp
  by_cases c : 0 < mp
  · rw [if_pos c]; exact (h7 c).1
  · rw [if_neg c]; exact (h6.2.2.2.2 (by omega)).1
theorem cMp.og {s s1 : vt_S} {p R0 R KN : Nat} {gm : Nat → Nat} {nm : Nat} {D : Nat → SD} {wk : WK} {a : Nat} {tk : Int32} {st : WS} (hp : p = B + 23 ∨ p = B + 322) (hR : (R0 = B + 633 ∧ R = B + 636) ∨ (R0 = B + 636 ∧ R = B + 633)) (o : ong (rdW B R) s s1) (h : cMp B p R0 KN gm nm D wk a tk st s) : cMp B p R0 KN gm nm D wk a tk st s1 := by
  obtain ⟨x1, x2, x3, ⟨x4, x5, x6⟩, x7, x8, x9, ⟨y1, y2, y3, y4⟩, y5⟩ := h
  have S := x1.2.2.2.2.2.2.S
  have n28 : ¬ rdW B R (B + 628) := by unfold rdW; omega
  have n6 : ¬ rdW B R (B + 6) := by unfold rdW; omega
  have np : ∀ b, p ≤ b → b < p + 299 → ¬ rdW B R b := fun b z1 z2 => by unfold rdW; omega
  exact ⟨x1.ong o np (by unfold rdW; omega), x2.ong o (by unfold rdW; omega), x3.ong o np S.1, ⟨by rw [o.I n28]; exact x4, by rw [o.I n28]; exact x5, by rw [o.I n28]; exact x6⟩, by rw [o.I n28]; exact x7, by rw [o.I n28]; exact x8, x9.ong o (by unfold rdW; omega), ⟨by rw [o.I n6]; exact y1, by rw [o.I n6]; exact y2, fun j hj => by
    obtain ⟨z1, z2, z3, z4, z5⟩ := y3 j hj
    exact ⟨by rw [o.A n6]; exact z1, by rw [o.A n6]; exact z2, by rw [o.A n6]; exact z3, by rw [o.A n6]; exact z4, by rw [o.A n6]; exact z5⟩, fun j hj => by rw [o.A n6]; exact y4 j hj⟩, y5⟩
theorem cIv.og {s s1 : vt_S} {p p' R0 R K KN : Nat} {gi : Nat → Nat} {ni : Nat} {go : Nat → Nat} {no : Nat} {fa pl fb pm : Int32} {mp : Nat} {I : Nat → IN} {m : Nat} (ad : adr B p p' R0 R) (o : ong (rdW B R) s s1) (h : cIv B p p' R0 R K KN gi ni go no fa pl mp I m s) (h1 : vt_I s1 502 (B + 5) = fb) (h2 : vt_I s1 503 (B + 5) = pm) (hr : ∃ G n, runC s1 R G n) : cIv B p p' R0 R K KN gi ni go no fb pm mp I m s1 := by
  obtain ⟨c1, ⟨c2, c3, c4, c5⟩, c6, ⟨r1, r2, ⟨q3, n3, r3⟩, q4, n4, r4⟩, ⟨f1, f2, f3⟩, ⟨u1, u2⟩, t1, t2, t3⟩ := h
  obtain ⟨a1, a2⟩ := ad
  have nW : ∀ b, b ≠ R → b ≠ B + 5 → b ≠ R + 1 → ¬ rdW B R b := fun b z1 z2 z3 => by unfold rdW; omega
  have n6 := nW (B + 6) (by omega) (by omega) (by omega)
  have n7 := nW (B + 7) (by omega) (by omega) (by omega)
  have n21 := nW (B + 621) (by omega) (by omega) (by omega)
  have n29 := nW (B + 629) (by omega) (by omega) (by omega)
  refine ⟨?_, ⟨c2.ong o (fun b z1 z2 => nW b (by omega) (by omega) (by omega)), c3.ong o (fun b z1 z2 => nW b (by omega) (by omega) (by omega)), by rw [o.P]; exact c4, by rw [o.P]; exact c5⟩, by rw [o.P]; exact c6, ⟨r1.ong o (nW _ (by omega) (by omega) (by omega)), r2.ong o (nW _ (by omega) (by omega) (by omega)), ⟨q3, n3, r3.ong o (nW _ (by omega) (by omega) (by omega))⟩, q4, n4, r4.ong o (nW _ (by omega) (by omega) (by omega))⟩, ⟨h1, h2, by rw [o.I (nW B (by omega) (by omega) (by omega))]; exact f3⟩, ⟨u1.ong o (nW R0 (by omega) (by omega) (by omega)), hr⟩, ?_, t2, ?_⟩
  · unfold cS
    rw [o.P, o.L n6, o.L n6, o.L n6, o.L n21, o.L n21, o.L n21, o.L n21, o.L n21, o.L n21, o.L n29, o.L n29, o.L n29]
    exact c1
  · unfold pcL
    rw [o.L n7, o.L n7, o.L n7, o.L n7, o.L n7, o.L n7]
    exact t1
  · unfold ndL
    rw [o.L n6, o.L n6, o.L n6, o.L n6, o.L n6, o.L n6]
    exact t3
theorem rmI.og {s s1 : vt_S} {R K KN : Nat} (hR : R = B + 633 ∨ R = B + 636) (o : ong (rdW B R) s s1) (g : grm R s s1) (h : rmI B K KN s) : rmI B K KN s1 := by
  obtain ⟨g1, g2, g3⟩ := g
  obtain ⟨h1, h2⟩ := h
  have nW : ∀ b, b ≠ R → b ≠ B + 5 → b ≠ R + 1 → ∀ f, vt_L s1 f b = vt_L s f b := fun b z1 z2 z3 f => o.L (by unfold rdW; omega)
  unfold rmI
  rw [nW (B + 1) (by omega) (by omega) (by omega), nW (B + 3) (by omega) (by omega) (by omega), nW (B + 24) (by omega) (by omega) (by omega), nW (B + 323) (by omega) (by omega) (by omega)]
  rcases hR with e | e
  · rw [nW (B + 636) (by omega) (by omega) (by omega)]
    rw [e] at g1 g2 g3
    exact ⟨by omega, by omega⟩
  · rw [nW (B + 633) (by omega) (by omega) (by omega)]
    rw [e] at g1 g2 g3
    exact ⟨by omega, by omega⟩
theorem o_demo : ∀ (k : Nat), k + 5 ≤ 2560 → vb2 (Inv B k) (Inv B (k + 5)) (ab_X12_loadDemo B) (ab_X17_loadDemo (B + 639)) := by
  intro k hk s h
  obtain ⟨p, p', R0, R, K, KN, gi, ni, go, no, fa, pl, mp, gm, nm, D, wk, a, tk, I, m, st, h1, h2, h3, h4, h5, h6, h7, h8, h9⟩ := h
  have m10 := no_map h3 hk
  obtain ⟨ad1, ad2⟩ := id h2
  obtain ⟨c1, ⟨c2, c3, c4, c5⟩, c6, ⟨r1, r2, r34⟩, ⟨f1, f2, f3⟩, ⟨u1, u2⟩, t1, t2, t3⟩ := id h4
  have S5 : 0 < mp → gm 5 ≤ 32 := fun c => ((h3.2.2 c).1.S).1
  have hpp : p = B + 23 ∨ p = B + 322 := by omega
  have hRR : R = B + 633 ∨ R = B + 636 := by omega
  obtain ⟨s1, a1, a2, a3, a4, a5, a6⟩ := c_demo1 (R := R) (p := p) (gm := gm) (mp := mp) c1.P1302 c6.2.1 hRR c6.2.2.2 c1.P500 c4 hpp r1 f3 m10 (fun c => ⟨(h5 c).1.2.2.2.2.2.1.1.2.2.1, by have := S5 c; omega⟩) u2
  have sN : secN mp gm < 256 := by
    unfold secN
    by_cases c : 0 < mp
    · rw [if_pos c]; have := S5 c; omega
    · rw [if_neg c]; omega
  have I1 := h4.og h2 a3 a2.fp.1 a2.fp.2 a6
  have X1 := h9.og hRR a3 a4
  rcases pe_cases (pDemo gi ni (secN mp gm)) with ⟨e, hE⟩ | ⟨q, hE⟩
  · have eC : ab_X12_loadDemo B s = some (fz (pDemo gi ni (secN mp gm)), s1) := by
      rw [a1, hE]
      rw [hE] at a2
      exact c_56_bad (by rw [a3.P]; exact c1.P1302) a2
    have kC := (vk_X12_loadDemo (O := fun _ => True) vclT trivial eC).1
    have cl := clO_vk kC (by decide)
    have hr := h6.cl cl
    have tr := h8.cl cl
    have m1 := fun q => (h7 q).cl cl
    obtain ⟨s3, b1, b2, b3, -, b5⟩ := r_demo hr.1 hr.2.1.1 (r_rMp hr m1) sN
    have k2 := b5 e hE
    have rf := rfO_vk k2 (by decide)
    obtain ⟨g1, ⟨g2, g3⟩, g4, g5, g6⟩ := hr
    exact ⟨_, s1, s3, eC, b1, p, p', R0, R, K, KN, gi, ni, go, no, _, _, mp, gm, nm, D, wk, a, tk, I, m, st, by omega, h2, h3.up, I1.rf rf, fun c => ((h5 c).og hpp ad2 a3).rf rf, ⟨k2.keep0 (P := rS B) g1, ⟨k2.keep0 (P := fun t => rIn B t gi ni) g2, k2.keep0 (P := fun t => rOut B t go no) g3⟩, ⟨b2, b3, k2.keep0 (P := fun t => vt_I t 1810 (B + 639) = nI mp) g4.2.2⟩, k2.keep0 (P := fun t => runR B t I m) g5, k2.keep0 (P := fun t => mp = 0 → vt_I t 1809 (B + 639) = 0 ∧ vt_I t 1400 (B + 656) = nI 0) g6⟩, fun c => k2.keep0 (P := rMp2 B gm nm D wk a tk st) (m1 c), k2.keep0 (P := trQ B gm (wallN mp gm)) tr, X1.rf rf⟩
  · obtain ⟨c, v1, v2, v3, v4⟩ := a5 q hE
    obtain ⟨d1, d2, d3, d4, d5⟩ := h3.2.2 c
    have C1 := (h5 c).og hpp ad2 a3
    have a2' := a2
    rw [hE] at a2'
    obtain ⟨s2, e1, e2, e3, e4, e5, e6, e7⟩ := c_56_ok (R0 := R0) (R := R) (p := p) (x := rdS gi) I1.1.P1302 a2' I1.1.P1304 I1.2.1.2.2.1 I1.2.2.1.1 I1.2.2.1.2.1 I1.2.2.1.2.2.2 v3 C1.1
    obtain ⟨t, ht⟩ : ∃ t, t = vu_P (vu_P s1 1308 B R) 1309 B R0 := ⟨_, rfl⟩
    have kt : vk [1308, 1309] [] [] (fun _ => True) s1 t := by rw [ht]; exact vk.pP (vk.pP (vk.refl s1) (by decide)) (by decide)
    rw [← ht] at e7
    have Pt : vt_P t 1308 B = R ∧ vt_P t 1309 B = R0 := by
      rw [ht]
      exact ⟨by rw [P_ne (by omega), P_at], P_at⟩
    have kk : vk [707, 708, 709, 710, 711, 1101, 1102, 1103, 1104, 1105, 1106, 1308, 1309] [] [] (fun _ => True) s1 s2 := (kt.weak (by decide) (by decide) (by decide)).trans (e7.weak (by decide) (by decide) (by decide))
    have fzq : fz (pDemo gi ni (secN mp gm)) = 0 := by rw [hE]; rfl
    have eC : ab_X12_loadDemo B s = some (fz (pDemo gi ni (secN mp gm)), s2) := by rw [a1, e1, fzq]
    have kC := (vk_X12_loadDemo (O := fun _ => True) vclT trivial eC).1
    have cl := clO_vk kC (by decide)
    have hr := h6.cl cl
    have tr := h8.cl cl
    have m1 := fun q => (h7 q).cl cl
    obtain ⟨s3, b1, b2, b3, b4, -⟩ := r_demo hr.1 hr.2.1.1 (r_rMp hr m1) sN
    have k2 := (vk_X17_loadDemo (O := fun _ => True) vclT trivial b1).1
    have rf := rfO_vk k2 (by decide)
    obtain ⟨g1, ⟨g2, g3⟩, g4, g5, g6⟩ := hr
    obtain ⟨w1, w2, w3, w4, w5, w6, w7⟩ := b4 q hE
    obtain ⟨i1, i2, i3, i4, i5, ⟨i6, -⟩, i7, i8, i9⟩ := id I1
    obtain ⟨-, j2, -, -, -, -, -, j8⟩ := C1
    have P2 : vt_P s2 1308 B = R ∧ vt_P s2 1309 B = R0 := e7.keep0 (P := fun u => vt_P u 1308 B = R ∧ vt_P u 1309 B = R0) Pt
    have I2 : cIv B p p' R R0 K KN gi ni go no (fz (pDemo gi ni (secN mp gm))) (pz (pDemo gi ni (secN mp gm))) mp (rdI gi ni) (rdM gi ni) s2 := ⟨kk.keep0 (P := cS B) i1, kk.keep0 (P := fun u => pS p u ∧ pS p' u ∧ vt_P u 1306 B = p ∧ vt_P u 1307 B = p') i2, ⟨P2.1, P2.2, kk.keep0 (P := fun u => vt_P u 600 R = R + 1) i3.2.2.2, kk.keep0 (P := fun u => vt_P u 600 R0 = R0 + 1) i3.2.2.1⟩, kk.keep0 (P := fun u => rowC u (B + 1) gi ni ∧ rowC u (B + 3) go no ∧ (∃ q n, rowC u (p' + 1) q n) ∧ ∃ q n, rowC u (p + 1) q n) i4, kk.keep0 (P := fun u => vt_I u 502 (B + 5) = fz (pDemo gi ni (secN mp gm)) ∧ vt_I u 503 (B + 5) = pz (pDemo gi ni (secN mp gm)) ∧ vt_I u 1310 B = nI mp) i5, ⟨kk.keep0 (P := fun u => runC u R (rdI gi ni) (rdM gi ni)) v4, I, m, kk.keep0 (P := fun u => runC u R0 I m) i6⟩, kk.keep0 (P := fun u => pcL B u K) i7, i8, kk.keep0 (P := fun u => ndL B u KN) i9⟩
    have C2 : cMp B p R KN gm nm (rest0 gm) ((rdS gi).1, (rdS gi).2.1, (rdS gi).2.2.2) (rdS gi).2.2.1 0 (rdS gi) s2 := ⟨e2, kk.keep0 (P := fun u => rowC u (p + 1) gm nm) j2, e3, e4, e5, e6, kk.keep0 (P := fun u => stC u (R + 1) (rdS gi)) v3, kk.keep0 (P := fun u => (vt_I u 911 (B + 6) = nI (trN gm (gm 6)).length ∧ vt_I u 913 (B + 6) = nI (gm 6 + bcut gm 128 (l00 (gm 6))) ∧ (∀ j, j < (trN gm (gm 6)).length → ndC B u j (trD gm (gm 6) j)) ∧ szC B gm (gm 6) u) ∧ (trN gm (gm 6)).length ≤ KN) j8⟩
    have so : stOk (rdS gi) := by
      refine ⟨pr_rng gi 3, pr_rng gi 5, ?_, ?_⟩
      · show gi 7 < 64; omega
      · show gi 8 < 256; have := S5 c; omega
    exact ⟨_, s2, s3, eC, b1, p, p', R, R0, K, KN, gi, ni, go, no, _, _, mp, gm, nm, _, _, _, _, _, _, _, by omega, ⟨ad1, ad2.elim (fun z => Or.inr ⟨z.2, z.1⟩) (fun z => Or.inl ⟨z.2, z.1⟩)⟩, ⟨by have := h3.1; omega, fun z => absurd z (by omega), fun _ => ⟨d1, st_wk so v1, fun _ _ => rest0_ok, so, v1⟩⟩, I2.rf rf, fun _ => C2.rf rf, ⟨k2.keep0 (P := rS B) g1, ⟨k2.keep0 (P := fun t => rIn B t gi ni) g2, k2.keep0 (P := fun t => rOut B t go no) g3⟩, ⟨b2, b3, k2.keep0 (P := fun t => vt_I t 1810 (B + 639) = nI mp) g4.2.2⟩, w6, k2.keep0 (P := fun t => mp = 0 → vt_I t 1809 (B + 639) = 0 ∧ vt_I t 1400 (B + 656) = nI 0) g6⟩, fun _ => ⟨w1, w2, w3, w4, w5, w7⟩, k2.keep0 (P := trQ B gm (wallN mp gm)) tr, (kk.keep0 (P := rmI B K KN) X1).rf rf⟩
end ODM
