-- obligations: the rows of bytes
section OR1
variable {B p p' R0 R K KN ni no mp m nm a : Nat} {gi go gm : Nat → Nat} {fa pl tk : Int32} {I : Nat → IN} {D : Nat → SD} {wk : WK} {st : WS} {s s1 : vt_S}
theorem dOk.up {k : Nat} (h : dOk k mp gm nm D wk a m st) : dOk (k + 5) mp gm nm D wk a m st := ⟨by have := h.1; omega, h.2⟩
theorem row_rwk {b c n : Nat} {q : Nat → Nat} (h : rowC s c q n) (k : rwk b s s1) (hb : c ≠ b) : rowC s1 c q n := h.agr k.agr (fun z => hb z.2) (fun z => hb z.2) (fun z => hb z.2)
theorem cIv.row1 {g1 : Nat → Nat} {n1 : Nat} (ad : adr B p p' R0 R) (h : cIv B p p' R0 R K KN gi ni go no fa pl mp I m s) (k : vk [101] [100] [100] (fun _ => True) s s1) (w : rwk (B + 1) s s1) (hr : rowC s1 (B + 1) g1 n1) : cIv B p p' R0 R K KN g1 n1 go no fa pl mp I m s1 := by
  obtain ⟨c1, c2, c3, ⟨r1, r2, ⟨q3, n3, r3⟩, q4, n4, r4⟩, c5, ⟨c6, J, n5, c7⟩, c8, c9, c10⟩ := h
  obtain ⟨y1, -⟩ := ad
  exact ⟨k.keep (P := cS B) c1, k.keep (P := fun t => pS p t ∧ pS p' t ∧ vt_P t 1306 B = p ∧ vt_P t 1307 B = p') c2, k.keep (P := fun t => vt_P t 1308 B = R0 ∧ vt_P t 1309 B = R ∧ vt_P t 600 R0 = R0 + 1 ∧ vt_P t 600 R = R + 1) c3, ⟨hr, row_rwk r2 w (by omega), ⟨q3, n3, row_rwk r3 w (by omega)⟩, q4, n4, row_rwk r4 w (by omega)⟩, k.keep (P := fun t => vt_I t 502 (B + 5) = fa ∧ vt_I t 503 (B + 5) = pl ∧ vt_I t 1310 B = nI mp) c5, ⟨k.keep (P := fun t => runC t R0 I m) c6, J, n5, k.keep (P := fun t => runC t R J n5) c7⟩, k.keep (P := fun t => pcL B t K) c8, c9, k.keep (P := fun t => ndL B t KN) c10⟩
theorem cIv.row3 {g1 : Nat → Nat} {n1 : Nat} (ad : adr B p p' R0 R) (h : cIv B p p' R0 R K KN gi ni go no fa pl mp I m s) (k : vk [101] [100] [100] (fun _ => True) s s1) (w : rwk (B + 3) s s1) (hr : rowC s1 (B + 3) g1 n1) : cIv B p p' R0 R K KN gi ni g1 n1 fa pl mp I m s1 := by
  obtain ⟨c1, c2, c3, ⟨r1, r2, ⟨q3, n3, r3⟩, q4, n4, r4⟩, c5, ⟨c6, J, n5, c7⟩, c8, c9, c10⟩ := h
  obtain ⟨y1, -⟩ := ad
  exact ⟨k.keep (P := cS B) c1, k.keep (P := fun t => pS p t ∧ pS p' t ∧ vt_P t 1306 B = p ∧ vt_P t 1307 B = p') c2, k.keep (P := fun t => vt_P t 1308 B = R0 ∧ vt_P t 1309 B = R ∧ vt_P t 600 R0 = R0 + 1 ∧ vt_P t 600 R = R + 1) c3, ⟨row_rwk r1 w (by omega), hr, ⟨q3, n3, row_rwk r3 w (by omega)⟩, q4, n4, row_rwk r4 w (by omega)⟩, k.keep (P := fun t => vt_I t 502 (B + 5) = fa ∧ vt_I t 503 (B + 5) = pl ∧ vt_I t 1310 B = nI mp) c5, ⟨k.keep (P := fun t => runC t R0 I m) c6, J, n5, k.keep (P := fun t => runC t R J n5) c7⟩, k.keep (P := fun t => pcL B t K) c8, c9, k.keep (P := fun t => ndL B t KN) c10⟩
theorem cMp.row {b : Nat} (h : cMp B p R0 KN gm nm D wk a tk st s) (k : vk [101] [100] [100] (fun _ => True) s s1) (w : rwk b s s1) (hb : p + 1 ≠ b) : cMp B p R0 KN gm nm D wk a tk st s1 := by
  obtain ⟨c1, c2, c3⟩ := h
  exact ⟨k.keep (P := cWk B p gm nm) c1, row_rwk c2 w hb, k.keep (P := fun t => secsC t p (gm 5) D ∧ wkC B t wk ∧ vt_I t 1104 (B + 628) = nI a ∧ vt_I t 1106 (B + 628) = tk ∧ stC t (R0 + 1) st ∧ (vt_I t 911 (B + 6) = nI (trN gm (gm 6)).length ∧ vt_I t 913 (B + 6) = nI (gm 6 + bcut gm 128 (l00 (gm 6))) ∧ (∀ j, j < (trN gm (gm 6)).length → ndC B t j (trD gm (gm 6) j)) ∧ szC B gm (gm 6) t) ∧ (trN gm (gm 6)).length ≤ KN) c3⟩
theorem rmI.row {b : Nat} (h : rmI B K KN s) (w : rwk b s s1) (hb : b = B + 1 ∨ b = B + 3) : rmI B K KN s1 := by
  obtain ⟨-, -, -, -, -, -, ⟨n, e⟩, y1, y2, y3⟩ := w
  have o : ∀ f c, ¬ (f = 100 ∧ c = b) → vt_L s1 f c = vt_L s f c := fun f c hc => by rw [e, vur_ne _ _ hc]
  obtain ⟨z1, z2⟩ := h
  unfold rmI
  rw [o 100 (B + 24) (by omega), o 100 (B + 323) (by omega), o 601 (B + 633) (by omega), o 601 (B + 636) (by omega)]
  rcases hb with hb | hb
  · rw [o 100 (B + 3) (by omega)]
    rw [hb] at y1 y2 y3
    exact ⟨by omega, by omega⟩
  · rw [o 100 (B + 1) (by omega)]
    rw [hb] at y1 y2 y3
    exact ⟨by omega, by omega⟩
theorem rIv.in1 {g1 : Nat → Nat} {n1 : Nat} (h : rIv B gi ni go no fa pl mp I m s) (k : vk [1501, 1800] [1500] [] (fun _ => True) s s1) (hr : rIn B s1 g1 n1) : rIv B g1 n1 go no fa pl mp I m s1 := by
  obtain ⟨c1, ⟨c2, c3⟩, c4, c5, c6⟩ := h
  exact ⟨k.keep0 (P := rS B) c1, ⟨hr, k.keep0 (P := fun t => rOut B t go no) c3⟩, k.keep0 (P := fun t => vt_I t 1807 (B + 639) = fa ∧ vt_I t 1808 (B + 639) = pl ∧ vt_I t 1810 (B + 639) = nI mp) c4, k.keep0 (P := fun t => runR B t I m) c5, k.keep0 (P := fun t => mp = 0 → vt_I t 1809 (B + 639) = 0 ∧ vt_I t 1400 (B + 656) = nI 0) c6⟩
theorem o_give : ∀ (k : Nat), k + 5 ≤ 2560 → ∀ (v : Int64) (n : Int32), vb2 (Inv B k) (Inv B (k + 5)) (ab_X12_giveBytes B v n) (ab_X17_giveBytes (B + 639) v n) := by
  intro k hk v n s h
  obtain ⟨p, p', R0, R, K, KN, gi, ni, go, no, fa, pl, mp, gm, nm, D, wk, a, tk, I, m, st, h1, h2, h3, h4, h5, h6, h7, h8, h9⟩ := h
  obtain ⟨r, s1, g1, n1, a1, a2, a3, a4⟩ := c_give v n h4.1.P1300 h4.2.2.2.1.1
  have k1 := (vk_X12_giveBytes (O := fun _ => True) vclT trivial a1).1
  have cl := clO_vk k1 (by decide)
  have hr := h6.cl cl
  have t1 := h8.cl cl
  have m1 := fun q => (h7 q).cl cl
  obtain ⟨s3, b1, b2⟩ := a4 s1 hr.1 hr.2.1.1
  have k2 := (vk_X17_giveBytes (O := fun _ => True) vclT trivial b1).1
  have rf := rfO_vk k2 (by decide)
  have hp : p + 1 ≠ B + 1 := by have := h2.1; omega
  exact ⟨r, s1, s3, a1, b1, p, p', R0, R, K, KN, g1, n1, go, no, fa, pl, mp, gm, nm, D, wk, a, tk, I, m, st, by omega, h2, h3.up, (h4.row1 h2 k1 a2 a3).rf rf, fun q => ((h5 q).row k1 a2 hp).rf rf, hr.in1 k2 b2, fun q => k2.keep0 (P := rMp2 B gm nm D wk a tk st) (m1 q), k2.keep0 (P := trQ B gm (wallN mp gm)) t1, (h9.row a2 (Or.inl rfl)).rf rf⟩
theorem o_cut : ∀ (k : Nat), k + 5 ≤ 2560 → ∀ (n : Int32), vb2 (Inv B k) (Inv B (k + 5)) (ab_X12_cutBytes B n) (ab_X17_cutBytes (B + 639) n) := by
  intro k hk n s h
  obtain ⟨p, p', R0, R, K, KN, gi, ni, go, no, fa, pl, mp, gm, nm, D, wk, a, tk, I, m, st, h1, h2, h3, h4, h5, h6, h7, h8, h9⟩ := h
  obtain ⟨r, s1, n1, a1, a2, a3, a4⟩ := c_cut n h4.1.P1300 h4.2.2.2.1.1
  have k1 : vk [101] [100] [100] (fun _ => True) s s1 := ((vk_X12_cutBytes (O := fun _ => True) vclT trivial a1).1).weak (by decide) (by decide) (by decide)
  have cl := clO_vk k1 (by decide)
  have hr := h6.cl cl
  have t1 := h8.cl cl
  have m1 := fun q => (h7 q).cl cl
  obtain ⟨s3, b1, b2⟩ := a4 s1 hr.1 hr.2.1.1
  have k2 : vk [1501, 1800] [1500] [] (fun _ => True) s1 s3 := ((vk_X17_cutBytes (O := fun _ => True) vclT trivial b1).1).weak (by decide) (by decide) (by decide)
  have rf := rfO_vk k2 (by decide)
  have hp : p + 1 ≠ B + 1 := by have := h2.1; omega
  exact ⟨r, s1, s3, a1, b1, p, p', R0, R, K, KN, gi, n1, go, no, fa, pl, mp, gm, nm, D, wk, a, tk, I, m, st, by omega, h2, h3.up, (h4.row1 h2 k1 a2 a3).rf rf, fun q => ((h5 q).row k1 a2 hp).rf rf, hr.in1 k2 b2, fun q => k2.keep0 (P := rMp2 B gm nm D wk a tk st) (m1 q), k2.keep0 (P := trQ B gm (wallN mp gm)) t1, (h9.row a2 (Or.inl rfl)).rf rf⟩
theorem o_poke : ∀ (k : Nat), k + 5 ≤ 2560 → ∀ (x y : Int32), vb2 (Inv B k) (Inv B (k + 5)) (ab_X12_pokeByte B x y) (ab_X17_pokeByte (B + 639) x y) := by
  intro k hk x y s h
  obtain ⟨p, p', R0, R, K, KN, gi, ni, go, no, fa, pl, mp, gm, nm, D, wk, a, tk, I, m, st, h1, h2, h3, h4, h5, h6, h7, h8, h9⟩ := h
  obtain ⟨r, s1, g1, a1, a2, a3, a4⟩ := c_poke x y h4.1.P1300 h4.2.2.2.1.1
  have k1 : vk [101] [100] [100] (fun _ => True) s s1 := ((vk_X12_pokeByte (O := fun _ => True) vclT trivial a1).1).weak (by decide) (by decide) (by decide)
  have cl := clO_vk k1 (by decide)
  have hr := h6.cl cl
  have t1 := h8.cl cl
  have m1 := fun q => (h7 q).cl cl
  obtain ⟨s3, b1, b2⟩ := a4 s1 hr.1 hr.2.1.1
  have k2 : vk [1501, 1800] [1500] [] (fun _ => True) s1 s3 := ((vk_X17_pokeByte (O := fun _ => True) vclT trivial b1).1).weak (by decide) (by decide) (by decide)
  have rf := rfO_vk k2 (by decide)
  have hp : p + 1 ≠ B + 1 := by have := h2.1; omega
  exact ⟨r, s1, s3, a1, b1, p, p', R0, R, K, KN, g1, ni, go, no, fa, pl, mp, gm, nm, D, wk, a, tk, I, m, st, by omega, h2, h3.up, (h4.row1 h2 k1 a2 a3).rf rf, fun q => ((h5 q).row k1 a2 hp).rf rf, hr.in1 k2 b2, fun q => k2.keep0 (P := rMp2 B gm nm D wk a tk st) (m1 q), k2.keep0 (P := trQ B gm (wallN mp gm)) t1, (h9.row a2 (Or.inl rfl)).rf rf⟩
theorem o_turn : ∀ (k : Nat), k + 5 ≤ 2560 → vb2 (Inv B k) (Inv B (k + 5)) (ab_X12_turnBytes B) (ab_X17_turnBytes (B + 639)) := by
  intro k hk s h
  obtain ⟨p, p', R0, R, K, KN, gi, ni, go, no, fa, pl, mp, gm, nm, D, wk, a, tk, I, m, st, h1, h2, h3, h4, h5, h6, h7, h8, h9⟩ := h
  obtain ⟨s1, a1, a2, a3⟩ := c_turn h4.1 h4.2.2.2.1.1 h4.2.2.2.1.2.1
  have k1 := (vk_X12_turnBytes (O := fun _ => True) vclT trivial a1).1
  have cl := clO_vk k1 (by decide)
  have hr := h6.cl cl
  have t1 := h8.cl cl
  have m1 := fun q => (h7 q).cl cl
  obtain ⟨s3, b1, b2, -⟩ := r_turn hr.1 hr.2.1.1 hr.2.1.2
  have k2 := (vk_X17_turnBytes (O := fun _ => True) vclT trivial b1).1
  have rf := rfO_vk k2 (by decide)
  have hp : p + 1 ≠ B + 1 := by have := h2.1; omega
  exact ⟨(), s1, s3, a1, b1, p, p', R0, R, K, KN, go, no, go, no, fa, pl, mp, gm, nm, D, wk, a, tk, I, m, st, by omega, h2, h3.up, (h4.row1 h2 k1 a2 a3).rf rf, fun q => ((h5 q).row k1 a2 hp).rf rf, hr.in1 k2 b2, fun q => k2.keep0 (P := rMp2 B gm nm D wk a tk st) (m1 q), k2.keep0 (P := trQ B gm (wallN mp gm)) t1, (h9.row a2 (Or.inl rfl)).rf rf⟩
/-- where only the reference's first field was written -/
theorem Inv.v1800 {k : Nat} {v : Int32} (h : Inv B k s) (hk : k + 5 ≤ 2560) : Inv B (k + 5) (vu_I s 1800 (B + 639) v) := by
  obtain ⟨p, p', R0, R, K, KN, gi, ni, go, no, fa, pl, mp, gm, nm, D, wk, a, tk, I, m, st, h1, h2, h3, h4, h5, h6, h7, h8, h9⟩ := h
  exact ⟨p, p', R0, R, K, KN, gi, ni, go, no, fa, pl, mp, gm, nm, D, wk, a, tk, I, m, st, by omega, h2, h3.up, h4, h5, h6, h7, h8, h9⟩
theorem o_byte : ∀ (k : Nat), k + 5 ≤ 2560 → ∀ (x d : Int32) (hd : d = 0 ∨ d = 1), vb2 (Inv B k) (Inv B (k + 5)) (ab_X12_byteOf B x d) (ab_X17_byteOf (B + 639) x d) := by
  intro k hk x d _ s h
  have h0 := h
  obtain ⟨p, p', R0, R, K, KN, gi, ni, go, no, fa, pl, mp, gm, nm, D, wk, a, tk, I, m, st, h1, h2, h3, h4, h5, h6, h7, h8, h9⟩ := h
  obtain ⟨r, a1, a2⟩ := c_byte x d h4.1 h4.2.2.2.1.1 h4.2.2.2.1.2.1
  exact ⟨r, s, _, a1, a2 s h6.1 h6.2.1.1 h6.2.1.2, h0.v1800 hk⟩
end OR1
