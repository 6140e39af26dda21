-- loadMap, the class
section CL
variable {B p n : Nat} {g : Nat → Nat} {s : vt_S}
theorem vk.pP {ws rs gs : List Nat} {s0 s : vt_S} {f a v : Nat} (h : vk ws rs gs (fun _ => True) s0 s) (hf : f ∈ ws) : vk ws rs gs (fun _ => True) s0 (vu_P s f a v) := (vw_P ⟨h, vclT⟩ hf trivial trivial).1
theorem c_load1 {p' : Nat} (hS : cS B s) (hp : p' = B + 23 ∨ p' = B + 322) (h7 : vt_P s 1307 B = p') (hs : pS p' s) (hrow : rowC s (B + 1) g n) : ∃ s1, ab_X12_loadMap B s = (if pWell (pMp g n) = 0 then ab_X12_loadMap_110 B s1 else
    vt_b (ab_X12_swapPlans B s1) fun _ h9 =>
    sv_let (vt_I h9 1310 B) fun v10 =>
    sv_let (vu_I h9 1310 B (v10 + 1)) fun h11 =>
    sv_let (vt_P h11 1306 B) fun v12 =>
    sv_let (vt_P h11 300 v12) fun v13 =>
    sv_let (vt_P h11 1300 B) fun v14 =>
    vt_b (ab_X0_become v13 v14 h11) fun _ h15 =>
    sv_let (vt_P h15 1303 B) fun v16 =>
    sv_let (vt_P h15 1306 B) fun v17 =>
    vt_b (ab_X8_grow v16 v17 h15) fun _ h18 =>
    sv_let (vt_P h18 1308 B) fun v19 =>
    sv_let (vu_I h18 602 v19 0) fun h20 =>
    sv_let (vt_P h20 1308 B) fun v21 =>
    sv_let (vt_P h20 600 v21) fun v22 =>
    sv_let (vt_P h20 1306 B) fun v23 =>
    sv_let (vt_P h20 301 v23) fun v24 =>
    vt_b (ab_X7_become v22 v24 h20) fun _ h25 =>
    sv_let (vt_P h25 1304 B) fun v26 =>
    sv_let (vt_P h25 1306 B) fun v27 =>
    sv_let (vt_P h25 1308 B) fun v28 =>
    sv_let (vt_P h25 600 v28) fun v29 =>
    vt_b (ab_X10_begin v26 v27 v29 h25) fun _ h30 =>
    ab_X12_loadMap_110 B h30) ∧ RdS B g n (pMp g n) s1 ∧ onl (fun a => a = B + 5 ∨ (p' ≤ a ∧ a < p' + 299)) s s1 ∧ (∀ q, pMp g n = .ok q → planF s1 p' g) ∧ (∀ a q2 m2, rowC s a q2 m2 → rowC s1 a q2 m2) ∧ vk [309, 310, 311, 312, 501, 502, 503, 700, 701, 702, 703, 704, 705, 706, 800, 801, 802, 803, 1200, 1201, 1202, 1203, 1204, 1205, 1206, 1207, 1208, 1209, 1210] [302, 303, 304, 305, 306, 1211] [] (fun _ => True) s s1 := by
  obtain ⟨s1, a1, a2, a3⟩ := c_rdBegin hS.P500 hrow
  obtain ⟨s2, b1, b2, b3, b4⟩ := c_read hp (hs.ong a3.ong (fun a h1 h2 => by omega)) a2
  have e : pMap (ovW g (wlp g 0)) g n = pMp g n := pMap_eq g n
  rw [e] at b2 b4
  have k := (a3.mono (V := fun a => a = B + 5 ∨ (p' ≤ a ∧ a < p' + 299)) (fun _ h => Or.inl h)).trans b3
  have v1 := (vk_X4_begin (O := fun _ => True) vclT trivial a1).1
  have v2 := (vk_X2_read (O := fun _ => True) vclT trivial trivial b1).1
  refine ⟨s2, ?_, b2, k, b4, fun a q2 m2 h => v2.keep0 (P := fun t => rowC t a q2 m2) (v1.keep0 (P := fun t => rowC t a q2 m2) h), (v1.weak (by decide) (by decide) (by decide)).trans v2⟩
  unfold ab_X12_loadMap
  rw [slet, hS.P1302, a1, vbs, slet, a3.P, h7, slet, hS.P1302, b1, vbs, slet, b3.P, a3.P, hS.P1302, rd_well b2, vbs]
theorem c_110 {st : PE} (h2 : vt_P s 1302 B = B + 5) (h : vt_I s 502 (B + 5) = fz st) : ab_X12_loadMap_110 B s = some (fz st, s) := by
  unfold ab_X12_loadMap_110
  rw [slet, slet, h2, h]
theorem c_load_err {p' : Nat} {e : Nat × Nat} (hS : cS B s) (hp : p' = B + 23 ∨ p' = B + 322) (h7 : vt_P s 1307 B = p') (hs : pS p' s) (hrow : rowC s (B + 1) g n) (hE : pMp g n = .error e) : ∃ s1, ab_X12_loadMap B s = some (fz (pMp g n), s1) ∧ vt_I s1 502 (B + 5) = fz (pMp g n) ∧ vt_I s1 503 (B + 5) = pz (pMp g n) ∧ onl (fun a => a = B + 5 ∨ (p' ≤ a ∧ a < p' + 299)) s s1 ∧ (∀ a q2 m2, rowC s a q2 m2 → rowC s1 a q2 m2) ∧ vk [309, 310, 311, 312, 501, 502, 503, 700, 701, 702, 703, 704, 705, 706, 800, 801, 802, 803, 1200, 1201, 1202, 1203, 1204, 1205, 1206, 1207, 1208, 1209, 1210] [302, 303, 304, 305, 306, 1211] [] (fun _ => True) s s1 := by
  obtain ⟨s1, a1, a2, a3, -, a5, a6⟩ := c_load1 hS hp h7 hs hrow
  refine ⟨s1, ?_, a2.fp.1, a2.fp.2, a3, a5, a6⟩
  rw [a1, hE, if_pos pWell_err, ← hE]
  exact c_110 (by rw [a3.P]; exact hS.P1302) a2.fp.1
theorem c_stBecome {a b : Nat} {st : WS} (hab : a ≠ b) (h : stC s b st) : ∃ s1, ab_X7_become a b s = some ((), s1) ∧ stC s1 a st ∧ stC s1 b st := by
  obtain ⟨h1, h2, h3, h4⟩ := h
  refine ⟨vu_I (vu_I (vu_I (vu_I s 800 a (zI st.1)) 801 a (zI st.2.1)) 802 a (nI st.2.2.1)) 803 a (nI st.2.2.2), ?_, ⟨?_, ?_, ?_, ?_⟩, ⟨?_, ?_, ?_, ?_⟩⟩
  · unfold ab_X7_become ab_X7_put
    rw [slet, slet, slet, slet, h1, h2, h3, h4, slet, slet, slet, slet, vbs]
  · rw [I_ne (by omega), I_ne (by omega), I_ne (by omega), I_at]
  · rw [I_ne (by omega), I_ne (by omega), I_at]
  · rw [I_ne (by omega), I_at]
  · rw [I_at]
  · rw [I_ne (by omega), I_ne (by omega), I_ne (by omega), I_ne (by omega)]; exact h1
  · rw [I_ne (by omega), I_ne (by omega), I_ne (by omega), I_ne (by omega)]; exact h2
  · rw [I_ne (by omega), I_ne (by omega), I_ne (by omega), I_ne (by omega)]; exact h3
  · rw [I_ne (by omega), I_ne (by omega), I_ne (by omega), I_ne (by omega)]; exact h4
end CL
