theorem sm_X17_addInput_29 {h0 : sv_H} {s0 : Int32} {h : sv_H} (w : vt_W h0 h) : vt_sm h0 (fn_X17_addInput_29 s0 h) (ab_X17_addInput_29 s0 (vt_ab h)) := by
  unfold fn_X17_addInput_29 ab_X17_addInput_29
  obtain ⟨F, hF⟩ : ∃ F, sv_FP h = F := ⟨_, rfl⟩
  exact sm_rt w
theorem sm_X17_addInput_0 {h0 : sv_H} {x0 : Nat} {x1 : Int32} {x2 : Int32} {x3 : Int32} {x4 : Int32} {h : sv_H} (w : vt_W h0 h) (tx0 : sv_K h0 x0 = 18) : vt_sm h0 (fn_X17_addInput x0 x1 x2 x3 x4 h) (ab_X17_addInput x0 x1 x2 x3 x4 (vt_ab h)) := by
  unfold fn_X17_addInput ab_X17_addInput
  obtain ⟨F, hF⟩ : ∃ F, sv_FP h = F := ⟨_, rfl⟩
  refine sm_kd w tx0 (by decide) ?_
  refine sm_pI w hF tx0 (by decide) (fun h w hF => ?_)
  refine sm_gI w tx0 (by decide) (fun v2 => ?_)
  refine sm_if (fun _ => ?_) (fun _ => ?_)
  · exact sm_X17_addInput_29 w
  · refine sm_gP w tx0 tk_1802 rfl (fun v3 tv3 => ?_)
    refine sm_cl w (sm_X15_record w.1 (w.k tv3 (by decide))) (fun r4 h2 e w2 => ?_)
    have hF2 : sv_FP h2 = F := (ow_X15_record sv_clT trivial e).2.1.1.trans hF
    clear e w hF
    have hF := hF2
    have w := w2
    clear hF2 w2
    exact sm_X17_addInput_29 w
theorem sm_X17_addInput {x0 : Nat} {x1 : Int32} {x2 : Int32} {x3 : Int32} {x4 : Int32} {h : sv_H} (g : vt_G h) (tx0 : sv_K h x0 = 18) : vt_sm h (fn_X17_addInput x0 x1 x2 x3 x4 h) (ab_X17_addInput x0 x1 x2 x3 x4 (vt_ab h)) := sm_X17_addInput_0 ⟨g, vt_ko.refl h⟩ tx0

theorem sm_X12_dropInputs_15 {h0 : sv_H} {h : sv_H} (w : vt_W h0 h) : vt_sm h0 (fn_X12_dropInputs_15 h) (ab_X12_dropInputs_15 (vt_ab h)) := by
  unfold fn_X12_dropInputs_15 ab_X12_dropInputs_15
  obtain ⟨F, hF⟩ : ∃ F, sv_FP h = F := ⟨_, rfl⟩
  exact sm_rt w
theorem sm_X12_dropInputs_0 {h0 : sv_H} {x0 : Nat} {x1 : Int32} {h : sv_H} (w : vt_W h0 h) (tx0 : sv_K h0 x0 = 13) : vt_sm h0 (fn_X12_dropInputs x0 x1 h) (ab_X12_dropInputs x0 x1 (vt_ab h)) := by
  unfold fn_X12_dropInputs ab_X12_dropInputs
  obtain ⟨F, hF⟩ : ∃ F, sv_FP h = F := ⟨_, rfl⟩
  refine sm_kd w tx0 (by decide) ?_
  refine sm_if (fun _ => ?_) (fun _ => ?_)
  · exact sm_X12_dropInputs_15 w
  · refine sm_gP w tx0 tk_1308 rfl (fun v1 tv1 => ?_)
    refine sm_gI w tv1 (by decide) (fun v2 => ?_)
    refine sm_if (fun _ => ?_) (fun _ => ?_)
    · refine sm_gP w tx0 tk_1308 rfl (fun v3 tv3 => ?_)
      refine sm_gI w tv3 (by decide) (fun v4 => ?_)
      refine sm_pI w hF tv3 (by decide) (fun h w hF => ?_)
      exact sm_rt w
    · exact sm_X12_dropInputs_15 w
theorem sm_X12_dropInputs {x0 : Nat} {x1 : Int32} {h : sv_H} (g : vt_G h) (tx0 : sv_K h x0 = 13) : vt_sm h (fn_X12_dropInputs x0 x1 h) (ab_X12_dropInputs x0 x1 (vt_ab h)) := sm_X12_dropInputs_0 ⟨g, vt_ko.refl h⟩ tx0

theorem sm_X15_undo_12 {h0 : sv_H} {h : sv_H} (w : vt_W h0 h) : vt_sm h0 (fn_X15_undo_12 h) (ab_X15_undo_12 (vt_ab h)) := by
  unfold fn_X15_undo_12 ab_X15_undo_12
  obtain ⟨F, hF⟩ : ∃ F, sv_FP h = F := ⟨_, rfl⟩
  exact sm_rt w
theorem sm_X15_undo_0 {h0 : sv_H} {x0 : Nat} {x1 : Int32} {h : sv_H} (w : vt_W h0 h) (tx0 : sv_K h0 x0 = 16) : vt_sm h0 (fn_X15_undo x0 x1 h) (ab_X15_undo x0 x1 (vt_ab h)) := by
  unfold fn_X15_undo ab_X15_undo
  obtain ⟨F, hF⟩ : ∃ F, sv_FP h = F := ⟨_, rfl⟩
  refine sm_kd w tx0 (by decide) ?_
  refine sm_if (fun _ => ?_) (fun _ => ?_)
  · exact sm_X15_undo_12 w
  · refine sm_gI w tx0 (by decide) (fun v1 => ?_)
    refine sm_if (fun _ => ?_) (fun _ => ?_)
    · refine sm_gI w tx0 (by decide) (fun v2 => ?_)
      refine sm_pI w hF tx0 (by decide) (fun h w hF => ?_)
      exact sm_rt w
    · exact sm_X15_undo_12 w
theorem sm_X15_undo {x0 : Nat} {x1 : Int32} {h : sv_H} (g : vt_G h) (tx0 : sv_K h x0 = 16) : vt_sm h (fn_X15_undo x0 x1 h) (ab_X15_undo x0 x1 (vt_ab h)) := sm_X15_undo_0 ⟨g, vt_ko.refl h⟩ tx0

theorem sm_X17_dropInputs_0 {h0 : sv_H} {x0 : Nat} {x1 : Int32} {h : sv_H} (w : vt_W h0 h) (tx0 : sv_K h0 x0 = 18) : vt_sm h0 (fn_X17_dropInputs x0 x1 h) (ab_X17_dropInputs x0 x1 (vt_ab h)) := by
  unfold fn_X17_dropInputs ab_X17_dropInputs
  obtain ⟨F, hF⟩ : ∃ F, sv_FP h = F := ⟨_, rfl⟩
  refine sm_kd w tx0 (by decide) ?_
  refine sm_pI w hF tx0 (by decide) (fun h w hF => ?_)
  refine sm_gP w tx0 tk_1802 rfl (fun v2 tv2 => ?_)
  refine sm_cl w (sm_X15_undo w.1 (w.k tv2 (by decide))) (fun r3 h2 e w2 => ?_)
  have hF2 : sv_FP h2 = F := (ow_X15_undo sv_clT trivial e).2.1.1.trans hF
  clear e w hF
  have hF := hF2
  have w := w2
  clear hF2 w2
  exact sm_rz w
theorem sm_X17_dropInputs {x0 : Nat} {x1 : Int32} {h : sv_H} (g : vt_G h) (tx0 : sv_K h x0 = 18) : vt_sm h (fn_X17_dropInputs x0 x1 h) (ab_X17_dropInputs x0 x1 (vt_ab h)) := sm_X17_dropInputs_0 ⟨g, vt_ko.refl h⟩ tx0

theorem sm_X12_cosine_0 {h0 : sv_H} {x0 : Int32} {h : sv_H} (w : vt_W h0 h) : vt_sm h0 (fn_X12_cosine x0 h) (ab_X12_cosine x0 (vt_ab h)) := by
  unfold fn_X12_cosine ab_X12_cosine
  obtain ⟨F, hF⟩ : ∃ F, sv_FP h = F := ⟨_, rfl⟩
  refine sm_if (fun _ => ?_) (fun _ => ?_)
  · refine sm_if (fun _ => ?_) (fun _ => ?_)
    · refine sm_if (fun _ => ?_) (fun _ => ?_)
      · refine sm_bd (fun _ => ?_)
        exact sm_rt w
      · refine sm_bd (fun _ => ?_)
        exact sm_rt w
    · refine sm_bd (fun _ => ?_)
      exact sm_rt w
  · refine sm_bd (fun _ => ?_)
    exact sm_rt w
theorem sm_X12_cosine {x0 : Int32} {h : sv_H} (g : vt_G h) : vt_sm h (fn_X12_cosine x0 h) (ab_X12_cosine x0 (vt_ab h)) := sm_X12_cosine_0 ⟨g, vt_ko.refl h⟩

theorem sm_X12_sine_0 {h0 : sv_H} {x0 : Int32} {h : sv_H} (w : vt_W h0 h) : vt_sm h0 (fn_X12_sine x0 h) (ab_X12_sine x0 (vt_ab h)) := by
  unfold fn_X12_sine ab_X12_sine
  obtain ⟨F, hF⟩ : ∃ F, sv_FP h = F := ⟨_, rfl⟩
  refine sm_cl w (sm_J9_floorMod_7cf53 w.1) (fun r1 h2 e w2 => ?_)
  have hF2 : sv_FP h2 = F := by rw [ro_J9_floorMod_7cf53 e]; exact hF
  clear e w hF
  have hF := hF2
  have w := w2
  clear hF2 w2
  refine sm_cl w (sm_X12_cosine w.1) (fun r3 h2 e w2 => ?_)
  have hF2 : sv_FP h2 = F := by rw [ro_X12_cosine e]; exact hF
  clear e w hF
  have hF := hF2
  have w := w2
  clear hF2 w2
  exact sm_rt w
theorem sm_X12_sine {x0 : Int32} {h : sv_H} (g : vt_G h) : vt_sm h (fn_X12_sine x0 h) (ab_X12_sine x0 (vt_ab h)) := sm_X12_sine_0 ⟨g, vt_ko.refl h⟩

theorem sm_X3_aim_0 {h0 : sv_H} {x0 : Nat} {x1 : Int32} {x2 : Int32} {x3 : Int32} {x4 : Int32} {h : sv_H} (w : vt_W h0 h) (tx0 : sv_K h0 x0 = 4) : vt_sm h0 (fn_X3_aim x0 x1 x2 x3 x4 h) (ab_X3_aim x0 x1 x2 x3 x4 (vt_ab h)) := by
  unfold fn_X3_aim ab_X3_aim
  obtain ⟨F, hF⟩ : ∃ F, sv_FP h = F := ⟨_, rfl⟩
  refine sm_kd w tx0 (by decide) ?_
  refine sm_pI w hF tx0 (by decide) (fun h w hF => ?_)
  refine sm_pI w hF tx0 (by decide) (fun h w hF => ?_)
  refine sm_pI w hF tx0 (by decide) (fun h w hF => ?_)
  refine sm_pI w hF tx0 (by decide) (fun h w hF => ?_)
  exact sm_rt w
theorem sm_X3_aim {x0 : Nat} {x1 : Int32} {x2 : Int32} {x3 : Int32} {x4 : Int32} {h : sv_H} (g : vt_G h) (tx0 : sv_K h x0 = 4) : vt_sm h (fn_X3_aim x0 x1 x2 x3 x4 h) (ab_X3_aim x0 x1 x2 x3 x4 (vt_ab h)) := sm_X3_aim_0 ⟨g, vt_ko.refl h⟩ tx0

theorem sm_X3_makeGap_166 {h0 : sv_H} {x5 : Int32} {h : sv_H} (w : vt_W h0 h) : vt_sm h0 (fn_X3_makeGap_166 x5 h) (ab_X3_makeGap_166 x5 (vt_ab h)) := by
  unfold fn_X3_makeGap_166 ab_X3_makeGap_166
  obtain ⟨F, hF⟩ : ∃ F, sv_FP h = F := ⟨_, rfl⟩
  exact sm_rt w
theorem sm_X3_makeGap_22b {h0 : sv_H} {k22 : Nat → Int64 → Int64 → Int32 → Int32 → sv_H → Option (Int32 × sv_H)} {j22 : Nat → Int64 → Int64 → Int32 → Int32 → vt_S → Option (Int32 × vt_S)} (hk22 : ∀ {x0 : Nat} {x1 : Int64} {x3 : Int64} {x5 : Int32} {x6 : Int32} {h : sv_H}, vt_W h0 h → sv_K h0 x0 = 4 → vt_sm h0 (k22 x0 x1 x3 x5 x6 h) (j22 x0 x1 x3 x5 x6 (vt_ab h))) {x0 : Nat} {x1 : Int64} {x3 : Int64} {x5 : Int32} {x6 : Int32} {h : sv_H} (w : vt_W h0 h) (tx0 : sv_K h0 x0 = 4) : vt_sm h0 (fn_X3_makeGap_22b k22 x0 x1 x3 x5 x6 h) (ab_X3_makeGap_22b j22 x0 x1 x3 x5 x6 (vt_ab h)) := by
  unfold fn_X3_makeGap_22b ab_X3_makeGap_22b
  obtain ⟨F, hF⟩ : ∃ F, sv_FP h = F := ⟨_, rfl⟩
  refine sm_if (fun _ => ?_) (fun _ => ?_)
  · exact sm_X3_makeGap_166 w
  · refine sm_if (fun _ => ?_) (fun _ => ?_)
    · exact sm_X3_makeGap_166 w
    · refine sm_gA w hF tx0 tk_402 (by decide) (fun v1 av1 => ?_)
      refine sm_lJ w hF tx0 av1 tk_402 (fun _ => ?_)
      refine sm_gA w hF tx0 tk_403 (by decide) (fun v3 av3 => ?_)
      refine sm_lJ w hF tx0 av3 tk_403 (fun _ => ?_)
      refine sm_cl w (sm_X12_compareQuotients w.1) (fun r5 h2 e w2 => ?_)
      have hF2 : sv_FP h2 = F := by rw [ro_X12_compareQuotients e]; exact hF
      clear e w hF
      have hF := hF2
      have w := w2
      clear hF2 w2
      refine sm_if (fun _ => ?_) (fun _ => ?_)
      · refine sm_gA w hF tx0 tk_400 (by decide) (fun v7 av7 => ?_)
        refine sm_gA w hF tx0 tk_400 (by decide) (fun v8 av8 => ?_)
        refine sm_lI w hF tx0 av8 tk_400 (fun _ => ?_)
        refine sm_sI w hF tx0 av7 tk_400 (fun h w hF => ?_)
        refine sm_gA w hF tx0 tk_401 (by decide) (fun v11 av11 => ?_)
        refine sm_gA w hF tx0 tk_401 (by decide) (fun v12 av12 => ?_)
        refine sm_lZ w hF tx0 av12 tk_401 (fun _ => ?_)
        refine sm_sZ w hF tx0 av11 tk_401 (fun h w hF => ?_)
        refine sm_gA w hF tx0 tk_402 (by decide) (fun v15 av15 => ?_)
        refine sm_gA w hF tx0 tk_402 (by decide) (fun v16 av16 => ?_)
        refine sm_lJ w hF tx0 av16 tk_402 (fun _ => ?_)
        refine sm_sJ w hF tx0 av15 tk_402 (fun h w hF => ?_)
        refine sm_gA w hF tx0 tk_403 (by decide) (fun v19 av19 => ?_)
        refine sm_gA w hF tx0 tk_403 (by decide) (fun v20 av20 => ?_)
        refine sm_lJ w hF tx0 av20 tk_403 (fun _ => ?_)
        refine sm_sJ w hF tx0 av19 tk_403 (fun h w hF => ?_)
        refine sm_gA w hF tx0 tk_404 (by decide) (fun v23 av23 => ?_)
        refine sm_gA w hF tx0 tk_404 (by decide) (fun v24 av24 => ?_)
        refine sm_lJ w hF tx0 av24 tk_404 (fun _ => ?_)
        refine sm_sJ w hF tx0 av23 tk_404 (fun h w hF => ?_)
        refine sm_gA w hF tx0 tk_405 (by decide) (fun v27 av27 => ?_)
        refine sm_gA w hF tx0 tk_405 (by decide) (fun v28 av28 => ?_)
        refine sm_lJ w hF tx0 av28 tk_405 (fun _ => ?_)
        refine sm_sJ w hF tx0 av27 tk_405 (fun h w hF => ?_)
        exact hk22 w tx0
      · exact sm_rt w
theorem sm_X3_makeGap_22 {h0 : sv_H} : ∀ (n : Nat) {x0 : Nat} {x1 : Int64} {x3 : Int64} {x5 : Int32} {x6 : Int32} {h : sv_H}, vt_W h0 h → sv_K h0 x0 = 4 → vt_sm h0 (fn_X3_makeGap_22 n x0 x1 x3 x5 x6 h) (ab_X3_makeGap_22 n x0 x1 x3 x5 x6 (vt_ab h)) := by
  intro n
  induction n with
  | zero => intro x0 x1 x3 x5 x6 h w tx0; exact sm_no
  | succ n ih => intro x0 x1 x3 x5 x6 h w tx0; exact sm_X3_makeGap_22b (k22 := fn_X3_makeGap_22 n) (j22 := ab_X3_makeGap_22 n) (fun w tx0 => ih w tx0) w tx0
theorem sm_X3_makeGap_0 {h0 : sv_H} {x0 : Nat} {x1 : Int64} {x3 : Int64} {h : sv_H} (w : vt_W h0 h) (tx0 : sv_K h0 x0 = 4) : vt_sm h0 (fn_X3_makeGap x0 x1 x3 h) (ab_X3_makeGap x0 x1 x3 (vt_ab h)) := by
  unfold fn_X3_makeGap ab_X3_makeGap
  obtain ⟨F, hF⟩ : ∃ F, sv_FP h = F := ⟨_, rfl⟩
  refine sm_kd w tx0 (by decide) ?_
  refine sm_gI w tx0 (by decide) (fun v1 => ?_)
  refine sm_gI w tx0 (by decide) (fun v2 => ?_)
  refine sm_pI w hF tx0 (by decide) (fun h w hF => ?_)
  refine sm_gI w tx0 (by decide) (fun v4 => ?_)
  exact sm_X3_makeGap_22 sv_fuel w tx0
theorem sm_X3_makeGap {x0 : Nat} {x1 : Int64} {x3 : Int64} {h : sv_H} (g : vt_G h) (tx0 : sv_K h x0 = 4) : vt_sm h (fn_X3_makeGap x0 x1 x3 h) (ab_X3_makeGap x0 x1 x3 (vt_ab h)) := sm_X3_makeGap_0 ⟨g, vt_ko.refl h⟩ tx0

theorem sm_X3_meet_189 {h0 : sv_H} {h : sv_H} (w : vt_W h0 h) : vt_sm h0 (fn_X3_meet_189 h) (ab_X3_meet_189 (vt_ab h)) := by
  unfold fn_X3_meet_189 ab_X3_meet_189
  obtain ⟨F, hF⟩ : ∃ F, sv_FP h = F := ⟨_, rfl⟩
  exact sm_rt w
theorem sm_X3_meet_226 {h0 : sv_H} {x0 : Nat} {x4 : Int64} {x6 : Int64} {x10 : Int64} {x12 : Int64} {x14 : Int32} {s0 : Nat} {s0o : Nat} {s1 : Int32} {s2 : Int32} {h : sv_H} (w : vt_W h0 h) (tx0 : sv_K h0 x0 = 4) (ts0 : sv_K h0 s0o = 4) (as0 : sv_FP h 401 s0o = s0) : vt_sm h0 (fn_X3_meet_226 x0 x4 x6 x10 x12 x14 s0 s1 s2 h) (ab_X3_meet_226 x0 x4 x6 x10 x12 x14 s0o s1 s2 (vt_ab h)) := by
  unfold fn_X3_meet_226 ab_X3_meet_226
  obtain ⟨F, hF⟩ : ∃ F, sv_FP h = F := ⟨_, rfl⟩
  rw [hF] at as0
  refine sm_sZ w hF ts0 as0 tk_401 (fun h w hF => ?_)
  refine sm_gA w hF tx0 tk_402 (by decide) (fun v2 av2 => ?_)
  refine sm_sJ w hF tx0 av2 tk_402 (fun h w hF => ?_)
  refine sm_gA w hF tx0 tk_403 (by decide) (fun v4 av4 => ?_)
  refine sm_sJ w hF tx0 av4 tk_403 (fun h w hF => ?_)
  refine sm_gA w hF tx0 tk_404 (by decide) (fun v6 av6 => ?_)
  refine sm_sJ w hF tx0 av6 tk_404 (fun h w hF => ?_)
  refine sm_gA w hF tx0 tk_405 (by decide) (fun v8 av8 => ?_)
  refine sm_sJ w hF tx0 av8 tk_405 (fun h w hF => ?_)
  exact sm_rt w
theorem sm_X3_meet_159 {h0 : sv_H} {x0 : Nat} {x2 : Int32} {x3 : Int32} {x4 : Int64} {x6 : Int64} {x8 : Int64} {s0 : Int64} {h : sv_H} (w : vt_W h0 h) (tx0 : sv_K h0 x0 = 4) : vt_sm h0 (fn_X3_meet_159 x0 x2 x3 x4 x6 x8 s0 h) (ab_X3_meet_159 x0 x2 x3 x4 x6 x8 s0 (vt_ab h)) := by
  unfold fn_X3_meet_159 ab_X3_meet_159
  obtain ⟨F, hF⟩ : ∃ F, sv_FP h = F := ⟨_, rfl⟩
  refine sm_let (fun _ => ?_)
  refine sm_if (fun _ => ?_) (fun _ => ?_)
  · exact sm_X3_meet_189 w
  · refine sm_if (fun _ => ?_) (fun _ => ?_)
    · refine sm_cl w (sm_X3_makeGap w.1 (w.k tx0 (by decide))) (fun r2 h2 e w2 => ?_)
      have hF2 : sv_FP h2 = F := (ow_X3_makeGap sv_clT trivial e).2.1.1.trans hF
      clear e w hF
      have hF := hF2
      have w := w2
      clear hF2 w2
      refine sm_gA w hF tx0 tk_400 (by decide) (fun v4 av4 => ?_)
      refine sm_sI w hF tx0 av4 tk_400 (fun h w hF => ?_)
      refine sm_gA w hF tx0 tk_401 (by decide) (fun v6 av6 => ?_)
      refine sm_if (fun _ => ?_) (fun _ => ?_)
      · exact sm_X3_meet_226 w tx0 tx0 (by rw [hF]; exact av6)
      · exact sm_X3_meet_226 w tx0 tx0 (by rw [hF]; exact av6)
    · exact sm_X3_meet_189 w
theorem sm_X3_meet_94 {h0 : sv_H} {x0 : Nat} {x1 : Nat} {x2 : Int32} {x3 : Int32} {x4 : Int64} {x6 : Int64} {s0 : Int32} {s1 : Int32} {h : sv_H} (w : vt_W h0 h) (tx0 : sv_K h0 x0 = 4) (tx1 : sv_K h0 x1 = 12) : vt_sm h0 (fn_X3_meet_94 x0 x1 x2 x3 x4 x6 s0 s1 h) (ab_X3_meet_94 x0 x1 x2 x3 x4 x6 s0 s1 (vt_ab h)) := by
  unfold fn_X3_meet_94 ab_X3_meet_94
  obtain ⟨F, hF⟩ : ∃ F, sv_FP h = F := ⟨_, rfl⟩
  refine sm_if (fun _ => ?_) (fun _ => ?_)
  · exact sm_rt w
  · refine sm_gI w tx1 (by decide) (fun v1 => ?_)
    refine sm_gI w tx0 (by decide) (fun v2 => ?_)
    refine sm_gI w tx1 (by decide) (fun v3 => ?_)
    refine sm_gI w tx0 (by decide) (fun v4 => ?_)
    refine sm_gI w tx1 (by decide) (fun v5 => ?_)
    refine sm_gI w tx1 (by decide) (fun v6 => ?_)
    refine sm_gI w tx1 (by decide) (fun v7 => ?_)
    refine sm_gI w tx1 (by decide) (fun v8 => ?_)
    refine sm_cl w (sm_X12_cross w.1) (fun r9 h2 e w2 => ?_)
    have hF2 : sv_FP h2 = F := by rw [ro_X12_cross e]; exact hF
    clear e w hF
    have hF := hF2
    have w := w2
    clear hF2 w2
    refine sm_if (fun _ => ?_) (fun _ => ?_)
    · exact sm_X3_meet_159 w tx0
    · exact sm_X3_meet_159 w tx0
theorem sm_X3_meet_82 {h0 : sv_H} {x0 : Nat} {x1 : Nat} {x2 : Int32} {x3 : Int32} {x4 : Int64} {x6 : Int64} {s0 : Int32} {h : sv_H} (w : vt_W h0 h) (tx0 : sv_K h0 x0 = 4) (tx1 : sv_K h0 x1 = 12) : vt_sm h0 (fn_X3_meet_82 x0 x1 x2 x3 x4 x6 s0 h) (ab_X3_meet_82 x0 x1 x2 x3 x4 x6 s0 (vt_ab h)) := by
  unfold fn_X3_meet_82 ab_X3_meet_82
  obtain ⟨F, hF⟩ : ∃ F, sv_FP h = F := ⟨_, rfl⟩
  refine sm_if (fun _ => ?_) (fun _ => ?_)
  · exact sm_X3_meet_94 w tx0 tx1
  · exact sm_X3_meet_94 w tx0 tx1
theorem sm_X3_meet_0 {h0 : sv_H} {x0 : Nat} {x1 : Nat} {x2 : Int32} {x3 : Int32} {h : sv_H} (w : vt_W h0 h) (tx0 : sv_K h0 x0 = 4) (tx1 : sv_K h0 x1 = 12) : vt_sm h0 (fn_X3_meet x0 x1 x2 x3 h) (ab_X3_meet x0 x1 x2 x3 (vt_ab h)) := by
  unfold fn_X3_meet ab_X3_meet
  obtain ⟨F, hF⟩ : ∃ F, sv_FP h = F := ⟨_, rfl⟩
  refine sm_kd w tx0 (by decide) ?_
  refine sm_gI w tx0 (by decide) (fun v1 => ?_)
  refine sm_gI w tx0 (by decide) (fun v2 => ?_)
  refine sm_gI w tx1 (by decide) (fun v3 => ?_)
  refine sm_gI w tx0 (by decide) (fun v4 => ?_)
  refine sm_gI w tx1 (by decide) (fun v5 => ?_)
  refine sm_gI w tx0 (by decide) (fun v6 => ?_)
  refine sm_cl w (sm_X12_cross w.1) (fun r7 h2 e w2 => ?_)
  have hF2 : sv_FP h2 = F := by rw [ro_X12_cross e]; exact hF
  clear e w hF
  have hF := hF2
  have w := w2
  clear hF2 w2
  refine sm_gI w tx0 (by decide) (fun v9 => ?_)
  refine sm_gI w tx0 (by decide) (fun v10 => ?_)
  refine sm_gI w tx1 (by decide) (fun v11 => ?_)
  refine sm_gI w tx0 (by decide) (fun v12 => ?_)
  refine sm_gI w tx1 (by decide) (fun v13 => ?_)
  refine sm_gI w tx0 (by decide) (fun v14 => ?_)
  refine sm_cl w (sm_X12_cross w.1) (fun r15 h2 e w2 => ?_)
  have hF2 : sv_FP h2 = F := by rw [ro_X12_cross e]; exact hF
  clear e w hF
  have hF := hF2
  have w := w2
  clear hF2 w2
  refine sm_if (fun _ => ?_) (fun _ => ?_)
  · exact sm_X3_meet_82 w tx0 tx1
  · exact sm_X3_meet_82 w tx0 tx1
theorem sm_X3_meet {x0 : Nat} {x1 : Nat} {x2 : Int32} {x3 : Int32} {h : sv_H} (g : vt_G h) (tx0 : sv_K h x0 = 4) (tx1 : sv_K h x1 = 12) : vt_sm h (fn_X3_meet x0 x1 x2 x3 h) (ab_X3_meet x0 x1 x2 x3 (vt_ab h)) := sm_X3_meet_0 ⟨g, vt_ko.refl h⟩ tx0 tx1

theorem sm_X3_meetClose_89 {h0 : sv_H} {k30 : Nat → Nat → Int32 → Int32 → Int32 → sv_H → Option (Unit × sv_H)} {j30 : Nat → Nat → Int32 → Int32 → Int32 → vt_S → Option (Unit × vt_S)} (hk30 : ∀ {x0 : Nat} {x1 : Nat} {x2 : Int32} {x3 : Int32} {x4 : Int32} {h : sv_H}, vt_W h0 h → sv_K h0 x0 = 4 → sv_K h0 x1 = 3 → vt_sm h0 (k30 x0 x1 x2 x3 x4 h) (j30 x0 x1 x2 x3 x4 (vt_ab h))) {x0 : Nat} {x1 : Nat} {x2 : Int32} {x3 : Int32} {x4 : Int32} {h : sv_H} (w : vt_W h0 h) (tx0 : sv_K h0 x0 = 4) (tx1 : sv_K h0 x1 = 3) : vt_sm h0 (fn_X3_meetClose_89 k30 x0 x1 x2 x3 x4 h) (ab_X3_meetClose_89 j30 x0 x1 x2 x3 x4 (vt_ab h)) := by
  unfold fn_X3_meetClose_89 ab_X3_meetClose_89
  obtain ⟨F, hF⟩ : ∃ F, sv_FP h = F := ⟨_, rfl⟩
  exact hk30 w tx0 tx1
theorem sm_X3_meetClose_30b {h0 : sv_H} {k30 : Nat → Nat → Int32 → Int32 → Int32 → sv_H → Option (Unit × sv_H)} {j30 : Nat → Nat → Int32 → Int32 → Int32 → vt_S → Option (Unit × vt_S)} (hk30 : ∀ {x0 : Nat} {x1 : Nat} {x2 : Int32} {x3 : Int32} {x4 : Int32} {h : sv_H}, vt_W h0 h → sv_K h0 x0 = 4 → sv_K h0 x1 = 3 → vt_sm h0 (k30 x0 x1 x2 x3 x4 h) (j30 x0 x1 x2 x3 x4 (vt_ab h))) {x0 : Nat} {x1 : Nat} {x2 : Int32} {x3 : Int32} {x4 : Int32} {h : sv_H} (w : vt_W h0 h) (tx0 : sv_K h0 x0 = 4) (tx1 : sv_K h0 x1 = 3) : vt_sm h0 (fn_X3_meetClose_30b k30 x0 x1 x2 x3 x4 h) (ab_X3_meetClose_30b j30 x0 x1 x2 x3 x4 (vt_ab h)) := by
  unfold fn_X3_meetClose_30b ab_X3_meetClose_30b
  obtain ⟨F, hF⟩ : ∃ F, sv_FP h = F := ⟨_, rfl⟩
  refine sm_gI w tx1 (by decide) (fun v1 => ?_)
  refine sm_if (fun _ => ?_) (fun _ => ?_)
  · exact sm_rt w
  · refine sm_gA w hF tx1 tk_308 (by decide) (fun v2 av2 => ?_)
    refine sm_lP (c := 12) w hF tx1 av2 tk_308 (by decide) (fun v3 tv3 => ?_)
    refine sm_gI w tx0 (by decide) (fun v4 => ?_)
    refine sm_gI w tx0 (by decide) (fun v5 => ?_)
    refine sm_gI w tx0 (by decide) (fun v6 => ?_)
    refine sm_gI w tx0 (by decide) (fun v7 => ?_)
    refine sm_cl w (sm_X11_reachesBox w.1 (w.k tv3 (by decide))) (fun r8 h2 e w2 => ?_)
    have hF2 : sv_FP h2 = F := by rw [ro_X11_reachesBox e]; exact hF
    clear e w hF
    have hF := hF2
    have w := w2
    clear hF2 w2
    refine sm_if (fun _ => ?_) (fun _ => ?_)
    · exact sm_X3_meetClose_89 (k30 := k30) (j30 := j30) hk30 w tx0 tx1
    · refine sm_cl w (sm_X3_meet w.1 (w.k tx0 (by decide)) (w.k tv3 (by decide))) (fun _ h2 e w2 => ?_)
      have hF2 : sv_FP h2 = F := (ow_X3_meet sv_clT trivial trivial e).2.1.1.trans hF
      clear e w hF
      have hF := hF2
      have w := w2
      clear hF2 w2
      exact sm_X3_meetClose_89 (k30 := k30) (j30 := j30) hk30 w tx0 tx1
theorem sm_X3_meetClose_30 {h0 : sv_H} : ∀ (n : Nat) {x0 : Nat} {x1 : Nat} {x2 : Int32} {x3 : Int32} {x4 : Int32} {h : sv_H}, vt_W h0 h → sv_K h0 x0 = 4 → sv_K h0 x1 = 3 → vt_sm h0 (fn_X3_meetClose_30 n x0 x1 x2 x3 x4 h) (ab_X3_meetClose_30 n x0 x1 x2 x3 x4 (vt_ab h)) := by
  intro n
  induction n with
  | zero => intro x0 x1 x2 x3 x4 h w tx0 tx1; exact sm_no
  | succ n ih => intro x0 x1 x2 x3 x4 h w tx0 tx1; exact sm_X3_meetClose_30b (k30 := fn_X3_meetClose_30 n) (j30 := ab_X3_meetClose_30 n) (fun w tx0 tx1 => ih w tx0 tx1) w tx0 tx1
theorem sm_X3_meetClose_0 {h0 : sv_H} {x0 : Nat} {x1 : Nat} {x2 : Int32} {h : sv_H} (w : vt_W h0 h) (tx0 : sv_K h0 x0 = 4) (tx1 : sv_K h0 x1 = 3) : vt_sm h0 (fn_X3_meetClose x0 x1 x2 h) (ab_X3_meetClose x0 x1 x2 (vt_ab h)) := by
  unfold fn_X3_meetClose ab_X3_meetClose
  obtain ⟨F, hF⟩ : ∃ F, sv_FP h = F := ⟨_, rfl⟩
  refine sm_kd w tx0 (by decide) ?_
  refine sm_pI w hF tx0 (by decide) (fun h w hF => ?_)
  refine sm_gI w tx0 (by decide) (fun v2 => ?_)
  refine sm_let (fun _ => ?_)
  refine sm_gI w tx0 (by decide) (fun v4 => ?_)
  refine sm_let (fun _ => ?_)
  refine sm_let (fun _ => ?_)
  refine sm_if (fun _ => sm_no) (fun _ => ?_)
  exact sm_X3_meetClose_30 sv_fuel w tx0 tx1
theorem sm_X3_meetClose {x0 : Nat} {x1 : Nat} {x2 : Int32} {h : sv_H} (g : vt_G h) (tx0 : sv_K h x0 = 4) (tx1 : sv_K h x1 = 3) : vt_sm h (fn_X3_meetClose x0 x1 x2 h) (ab_X3_meetClose x0 x1 x2 (vt_ab h)) := sm_X3_meetClose_0 ⟨g, vt_ko.refl h⟩ tx0 tx1

theorem sm_X11_sectorOn_15 {h0 : sv_H} {s0 : Int32} {h : sv_H} (w : vt_W h0 h) : vt_sm h0 (fn_X11_sectorOn_15 s0 h) (ab_X11_sectorOn_15 s0 (vt_ab h)) := by
  unfold fn_X11_sectorOn_15 ab_X11_sectorOn_15
  obtain ⟨F, hF⟩ : ∃ F, sv_FP h = F := ⟨_, rfl⟩
  exact sm_rt w
theorem sm_X11_sectorOn_0 {h0 : sv_H} {x0 : Nat} {x1 : Int32} {h : sv_H} (w : vt_W h0 h) (tx0 : sv_K h0 x0 = 12) : vt_sm h0 (fn_X11_sectorOn x0 x1 h) (ab_X11_sectorOn x0 x1 (vt_ab h)) := by
  unfold fn_X11_sectorOn ab_X11_sectorOn
  obtain ⟨F, hF⟩ : ∃ F, sv_FP h = F := ⟨_, rfl⟩
  refine sm_kd w tx0 (by decide) ?_
  refine sm_if (fun _ => ?_) (fun _ => ?_)
  · refine sm_gI w tx0 (by decide) (fun v1 => ?_)
    exact sm_X11_sectorOn_15 w
  · refine sm_gI w tx0 (by decide) (fun v2 => ?_)
    exact sm_X11_sectorOn_15 w
theorem sm_X11_sectorOn {x0 : Nat} {x1 : Int32} {h : sv_H} (g : vt_G h) (tx0 : sv_K h x0 = 12) : vt_sm h (fn_X11_sectorOn x0 x1 h) (ab_X11_sectorOn x0 x1 (vt_ab h)) := sm_X11_sectorOn_0 ⟨g, vt_ko.refl h⟩ tx0

theorem sm_X10_stops_101 {h0 : sv_H} {s0 : Int32} {h : sv_H} (w : vt_W h0 h) : vt_sm h0 (fn_X10_stops_101 s0 h) (ab_X10_stops_101 s0 (vt_ab h)) := by
  unfold fn_X10_stops_101 ab_X10_stops_101
  obtain ⟨F, hF⟩ : ∃ F, sv_FP h = F := ⟨_, rfl⟩
  exact sm_rz w
theorem sm_X10_stops_96 {h0 : sv_H} {h : sv_H} (w : vt_W h0 h) : vt_sm h0 (fn_X10_stops_96 h) (ab_X10_stops_96 (vt_ab h)) := by
  unfold fn_X10_stops_96 ab_X10_stops_96
  obtain ⟨F, hF⟩ : ∃ F, sv_FP h = F := ⟨_, rfl⟩
  exact sm_X10_stops_101 w
theorem sm_X10_stops_41 {h0 : sv_H} {x3 : Nat} {s0 : Nat} {s0o : Nat} {s1 : Nat} {s2 : Int32} {h : sv_H} (w : vt_W h0 h) (tx3 : sv_K h0 x3 = 7) (ts0 : sv_K h0 s0o = 3) (as0 : sv_FP h 307 s0o = s0) (ts1 : sv_K h0 s1 = 12) : vt_sm h0 (fn_X10_stops_41 x3 s0 s1 s2 h) (ab_X10_stops_41 x3 s0o s1 s2 (vt_ab h)) := by
  unfold fn_X10_stops_41 ab_X10_stops_41
  obtain ⟨F, hF⟩ : ∃ F, sv_FP h = F := ⟨_, rfl⟩
  rw [hF] at as0
  refine sm_cl w (sm_X11_sectorOn w.1 (w.k ts1 (by decide))) (fun r1 h2 e w2 => ?_)
  have hF2 : sv_FP h2 = F := by rw [ro_X11_sectorOn e]; exact hF
  clear e w hF
  have hF := hF2
  have w := w2
  clear hF2 w2
  refine sm_lP (c := 7) w hF ts0 as0 tk_307 (by decide) (fun v3 tv3 => ?_)
  refine sm_gI w tx3 (by decide) (fun v4 => ?_)
  refine sm_gI w tv3 (by decide) (fun v5 => ?_)
  refine sm_let (fun _ => ?_)
  refine sm_gI w tx3 (by decide) (fun v7 => ?_)
  refine sm_gI w tv3 (by decide) (fun v8 => ?_)
  refine sm_let (fun _ => ?_)
  refine sm_gI w tv3 (by decide) (fun v10 => ?_)
  refine sm_gI w tx3 (by decide) (fun v11 => ?_)
  refine sm_if (fun _ => ?_) (fun _ => ?_)
  · exact sm_X10_stops_96 w
  · refine sm_if (fun _ => ?_) (fun _ => ?_)
    · exact sm_X10_stops_101 w
    · exact sm_X10_stops_96 w
theorem sm_X10_stops_0 {h0 : sv_H} {x0 : Nat} {x1 : Nat} {x2 : Int32} {h : sv_H} (w : vt_W h0 h) (tx0 : sv_K h0 x0 = 11) (tx1 : sv_K h0 x1 = 12) : vt_sm h0 (fn_X10_stops x0 x1 x2 h) (ab_X10_stops x0 x1 x2 (vt_ab h)) := by
  unfold fn_X10_stops ab_X10_stops
  obtain ⟨F, hF⟩ : ∃ F, sv_FP h = F := ⟨_, rfl⟩
  refine sm_kd w tx0 (by decide) ?_
  refine sm_gI w tx1 (by decide) (fun v1 => ?_)
  refine sm_if (fun _ => ?_) (fun _ => ?_)
  · exact sm_rt w
  · refine sm_gP w tx0 tk_1101 rfl (fun v2 tv2 => ?_)
    refine sm_gA w hF tv2 tk_307 (by decide) (fun v3 av3 => ?_)
    refine sm_cl w (sm_X11_sectorOn w.1 (w.k tx1 (by decide))) (fun r4 h2 e w2 => ?_)
    have hF2 : sv_FP h2 = F := by rw [ro_X11_sectorOn e]; exact hF
    clear e w hF
    have hF := hF2
    have w := w2
    clear hF2 w2
    refine sm_lP (c := 7) w hF tv2 av3 tk_307 (by decide) (fun v6 tv6 => ?_)
    refine sm_gP w tx0 tk_1101 rfl (fun v7 tv7 => ?_)
    refine sm_gA w hF tv7 tk_307 (by decide) (fun v8 av8 => ?_)
    refine sm_if (fun _ => ?_) (fun _ => ?_)
    · exact sm_X10_stops_41 w tv6 tv7 (by rw [hF]; exact av8) tx1
    · exact sm_X10_stops_41 w tv6 tv7 (by rw [hF]; exact av8) tx1
theorem sm_X10_stops {x0 : Nat} {x1 : Nat} {x2 : Int32} {h : sv_H} (g : vt_G h) (tx0 : sv_K h x0 = 11) (tx1 : sv_K h x1 = 12) : vt_sm h (fn_X10_stops x0 x1 x2 h) (ab_X10_stops x0 x1 x2 (vt_ab h)) := sm_X10_stops_0 ⟨g, vt_ko.refl h⟩ tx0 tx1

theorem sm_X10_moverByCrossing_38 {h0 : sv_H} {h : sv_H} (w : vt_W h0 h) : vt_sm h0 (fn_X10_moverByCrossing_38 h) (ab_X10_moverByCrossing_38 (vt_ab h)) := by
  unfold fn_X10_moverByCrossing_38 ab_X10_moverByCrossing_38
  obtain ⟨F, hF⟩ : ∃ F, sv_FP h = F := ⟨_, rfl⟩
  exact sm_rt w
theorem sm_X10_moverByCrossing_0 {h0 : sv_H} {x0 : Int32} {h : sv_H} (w : vt_W h0 h) : vt_sm h0 (fn_X10_moverByCrossing x0 h) (ab_X10_moverByCrossing x0 (vt_ab h)) := by
  unfold fn_X10_moverByCrossing ab_X10_moverByCrossing
  obtain ⟨F, hF⟩ : ∃ F, sv_FP h = F := ⟨_, rfl⟩
  refine sm_if (fun _ => ?_) (fun _ => ?_)
  · exact sm_rt w
  refine sm_if (fun _ => ?_) (fun _ => ?_)
  · exact sm_rt w
  refine sm_if (fun _ => ?_) (fun _ => ?_)
  · exact sm_X10_moverByCrossing_38 w
  refine sm_if (fun _ => ?_) (fun _ => ?_)
  · exact sm_rt w
  exact sm_X10_moverByCrossing_38 w
theorem sm_X10_moverByCrossing {x0 : Int32} {h : sv_H} (g : vt_G h) : vt_sm h (fn_X10_moverByCrossing x0 h) (ab_X10_moverByCrossing x0 (vt_ab h)) := sm_X10_moverByCrossing_0 ⟨g, vt_ko.refl h⟩

theorem sm_X2_neighbourBy_19 {h0 : sv_H} {h : sv_H} (w : vt_W h0 h) : vt_sm h0 (fn_X2_neighbourBy_19 h) (ab_X2_neighbourBy_19 (vt_ab h)) := by
  unfold fn_X2_neighbourBy_19 ab_X2_neighbourBy_19
  obtain ⟨F, hF⟩ : ∃ F, sv_FP h = F := ⟨_, rfl⟩
  exact sm_rt w
theorem sm_X2_neighbourBy_50 {h0 : sv_H} {s0 : Int32} {h : sv_H} (w : vt_W h0 h) : vt_sm h0 (fn_X2_neighbourBy_50 s0 h) (ab_X2_neighbourBy_50 s0 (vt_ab h)) := by
  unfold fn_X2_neighbourBy_50 ab_X2_neighbourBy_50
  obtain ⟨F, hF⟩ : ∃ F, sv_FP h = F := ⟨_, rfl⟩
  exact sm_rt w
theorem sm_X2_neighbourBy_0 {h0 : sv_H} {x0 : Nat} {x1 : Nat} {x2 : Int32} {h : sv_H} (w : vt_W h0 h) (tx0 : sv_K h0 x0 = 3) (tx1 : sv_K h0 x1 = 12) : vt_sm h0 (fn_X2_neighbourBy x0 x1 x2 h) (ab_X2_neighbourBy x0 x1 x2 (vt_ab h)) := by
  unfold fn_X2_neighbourBy ab_X2_neighbourBy
  obtain ⟨F, hF⟩ : ∃ F, sv_FP h = F := ⟨_, rfl⟩
  refine sm_kd w tx0 (by decide) ?_
  refine sm_gI w tx1 (by decide) (fun v1 => ?_)
  refine sm_if (fun _ => ?_) (fun _ => ?_)
  · exact sm_X2_neighbourBy_19 w
  · refine sm_gI w tx1 (by decide) (fun v2 => ?_)
    refine sm_gI w tx1 (by decide) (fun v3 => ?_)
    refine sm_if (fun _ => ?_) (fun _ => ?_)
    · exact sm_X2_neighbourBy_19 w
    · refine sm_gI w tx1 (by decide) (fun v4 => ?_)
      refine sm_if (fun _ => ?_) (fun _ => ?_)
      · refine sm_gI w tx1 (by decide) (fun v7 => ?_)
        exact sm_rt w
      · refine sm_gI w tx1 (by decide) (fun v5 => ?_)
        refine sm_if (fun _ => ?_) (fun _ => ?_)
        · refine sm_gI w tx1 (by decide) (fun v6 => ?_)
          exact sm_X2_neighbourBy_50 w
        · exact sm_X2_neighbourBy_50 w
theorem sm_X2_neighbourBy {x0 : Nat} {x1 : Nat} {x2 : Int32} {h : sv_H} (g : vt_G h) (tx0 : sv_K h x0 = 3) (tx1 : sv_K h x1 = 12) : vt_sm h (fn_X2_neighbourBy x0 x1 x2 h) (ab_X2_neighbourBy x0 x1 x2 (vt_ab h)) := sm_X2_neighbourBy_0 ⟨g, vt_ko.refl h⟩ tx0 tx1

theorem sm_X2_lowCeiling_72 {h0 : sv_H} {s0 : Int32} {h : sv_H} (w : vt_W h0 h) : vt_sm h0 (fn_X2_lowCeiling_72 s0 h) (ab_X2_lowCeiling_72 s0 (vt_ab h)) := by
  unfold fn_X2_lowCeiling_72 ab_X2_lowCeiling_72
  obtain ⟨F, hF⟩ : ∃ F, sv_FP h = F := ⟨_, rfl⟩
  exact sm_rt w
theorem sm_X2_lowCeiling_47 {h0 : sv_H} {k5 : Nat → Int32 → Int32 → Int32 → sv_H → Option (Int32 × sv_H)} {j5 : Nat → Int32 → Int32 → Int32 → vt_S → Option (Int32 × vt_S)} (hk5 : ∀ {x0 : Nat} {x1 : Int32} {x2 : Int32} {x3 : Int32} {h : sv_H}, vt_W h0 h → sv_K h0 x0 = 3 → vt_sm h0 (k5 x0 x1 x2 x3 h) (j5 x0 x1 x2 x3 (vt_ab h))) {x0 : Nat} {x1 : Int32} {x2 : Int32} {x3 : Int32} {h : sv_H} (w : vt_W h0 h) (tx0 : sv_K h0 x0 = 3) : vt_sm h0 (fn_X2_lowCeiling_47 k5 x0 x1 x2 x3 h) (ab_X2_lowCeiling_47 j5 x0 x1 x2 x3 (vt_ab h)) := by
  unfold fn_X2_lowCeiling_47 ab_X2_lowCeiling_47
  obtain ⟨F, hF⟩ : ∃ F, sv_FP h = F := ⟨_, rfl⟩
  exact hk5 w tx0
theorem sm_X2_lowCeiling_5b {h0 : sv_H} {k5 : Nat → Int32 → Int32 → Int32 → sv_H → Option (Int32 × sv_H)} {j5 : Nat → Int32 → Int32 → Int32 → vt_S → Option (Int32 × vt_S)} (hk5 : ∀ {x0 : Nat} {x1 : Int32} {x2 : Int32} {x3 : Int32} {h : sv_H}, vt_W h0 h → sv_K h0 x0 = 3 → vt_sm h0 (k5 x0 x1 x2 x3 h) (j5 x0 x1 x2 x3 (vt_ab h))) {x0 : Nat} {x1 : Int32} {x2 : Int32} {x3 : Int32} {h : sv_H} (w : vt_W h0 h) (tx0 : sv_K h0 x0 = 3) : vt_sm h0 (fn_X2_lowCeiling_5b k5 x0 x1 x2 x3 h) (ab_X2_lowCeiling_5b j5 x0 x1 x2 x3 (vt_ab h)) := by
  unfold fn_X2_lowCeiling_5b ab_X2_lowCeiling_5b
  obtain ⟨F, hF⟩ : ∃ F, sv_FP h = F := ⟨_, rfl⟩
  refine sm_gI w tx0 (by decide) (fun v1 => ?_)
  refine sm_if (fun _ => ?_) (fun _ => ?_)
  · refine sm_if (fun _ => ?_) (fun _ => ?_)
    · refine sm_gA w hF tx0 tk_307 (by decide) (fun v2 av2 => ?_)
      refine sm_lP (c := 7) w hF tx0 av2 tk_307 (by decide) (fun v3 tv3 => ?_)
      refine sm_gI w tv3 (by decide) (fun v4 => ?_)
      exact sm_X2_lowCeiling_72 w
    · exact sm_X2_lowCeiling_72 w
  · refine sm_gA w hF tx0 tk_308 (by decide) (fun v5 av5 => ?_)
    refine sm_lP (c := 12) w hF tx0 av5 tk_308 (by decide) (fun v6 tv6 => ?_)
    refine sm_cl w (sm_X2_neighbourBy w.1 (w.k tx0 (by decide)) (w.k tv6 (by decide))) (fun r7 h2 e w2 => ?_)
    have hF2 : sv_FP h2 = F := by rw [ro_X2_neighbourBy e]; exact hF
    clear e w hF
    have hF := hF2
    have w := w2
    clear hF2 w2
    refine sm_if (fun _ => ?_) (fun _ => ?_)
    · exact sm_X2_lowCeiling_47 (k5 := k5) (j5 := j5) hk5 w tx0
    · refine sm_gA w hF tx0 tk_307 (by decide) (fun v9 av9 => ?_)
      refine sm_lP (c := 7) w hF tx0 av9 tk_307 (by decide) (fun v10 tv10 => ?_)
      refine sm_gI w tv10 (by decide) (fun v11 => ?_)
      refine sm_let (fun _ => ?_)
      exact sm_X2_lowCeiling_47 (k5 := k5) (j5 := j5) hk5 w tx0
theorem sm_X2_lowCeiling_5 {h0 : sv_H} : ∀ (n : Nat) {x0 : Nat} {x1 : Int32} {x2 : Int32} {x3 : Int32} {h : sv_H}, vt_W h0 h → sv_K h0 x0 = 3 → vt_sm h0 (fn_X2_lowCeiling_5 n x0 x1 x2 x3 h) (ab_X2_lowCeiling_5 n x0 x1 x2 x3 (vt_ab h)) := by
  intro n
  induction n with
  | zero => intro x0 x1 x2 x3 h w tx0; exact sm_no
  | succ n ih => intro x0 x1 x2 x3 h w tx0; exact sm_X2_lowCeiling_5b (k5 := fn_X2_lowCeiling_5 n) (j5 := ab_X2_lowCeiling_5 n) (fun w tx0 => ih w tx0) w tx0
theorem sm_X2_lowCeiling_0 {h0 : sv_H} {x0 : Nat} {x1 : Int32} {h : sv_H} (w : vt_W h0 h) (tx0 : sv_K h0 x0 = 3) : vt_sm h0 (fn_X2_lowCeiling x0 x1 h) (ab_X2_lowCeiling x0 x1 (vt_ab h)) := by
  unfold fn_X2_lowCeiling ab_X2_lowCeiling
  obtain ⟨F, hF⟩ : ∃ F, sv_FP h = F := ⟨_, rfl⟩
  refine sm_kd w tx0 (by decide) ?_
  exact sm_X2_lowCeiling_5 sv_fuel w tx0
theorem sm_X2_lowCeiling {x0 : Nat} {x1 : Int32} {h : sv_H} (g : vt_G h) (tx0 : sv_K h x0 = 3) : vt_sm h (fn_X2_lowCeiling x0 x1 h) (ab_X2_lowCeiling x0 x1 (vt_ab h)) := sm_X2_lowCeiling_0 ⟨g, vt_ko.refl h⟩ tx0

theorem sm_X6_startMover_0 {h0 : sv_H} {x0 : Nat} {x1 : Int32} {x2 : Int32} {x3 : Int32} {h : sv_H} (w : vt_W h0 h) (tx0 : sv_K h0 x0 = 7) : vt_sm h0 (fn_X6_startMover x0 x1 x2 x3 h) (ab_X6_startMover x0 x1 x2 x3 (vt_ab h)) := by
  unfold fn_X6_startMover ab_X6_startMover
  obtain ⟨F, hF⟩ : ∃ F, sv_FP h = F := ⟨_, rfl⟩
  refine sm_kd w tx0 (by decide) ?_
  refine sm_pI w hF tx0 (by decide) (fun h w hF => ?_)
  refine sm_pI w hF tx0 (by decide) (fun h w hF => ?_)
  refine sm_pI w hF tx0 (by decide) (fun h w hF => ?_)
  refine sm_gI w tx0 (by decide) (fun v4 => ?_)
  refine sm_pI w hF tx0 (by decide) (fun h w hF => ?_)
  refine sm_pI w hF tx0 (by decide) (fun h w hF => ?_)
  exact sm_rt w
theorem sm_X6_startMover {x0 : Nat} {x1 : Int32} {x2 : Int32} {x3 : Int32} {h : sv_H} (g : vt_G h) (tx0 : sv_K h x0 = 7) : vt_sm h (fn_X6_startMover x0 x1 x2 x3 h) (ab_X6_startMover x0 x1 x2 x3 (vt_ab h)) := sm_X6_startMover_0 ⟨g, vt_ko.refl h⟩ tx0

theorem sm_X2_lowFloor_54 {h0 : sv_H} {k12 : Nat → Int32 → Int32 → Int32 → sv_H → Option (Int32 × sv_H)} {j12 : Nat → Int32 → Int32 → Int32 → vt_S → Option (Int32 × vt_S)} (hk12 : ∀ {x0 : Nat} {x1 : Int32} {x2 : Int32} {x3 : Int32} {h : sv_H}, vt_W h0 h → sv_K h0 x0 = 3 → vt_sm h0 (k12 x0 x1 x2 x3 h) (j12 x0 x1 x2 x3 (vt_ab h))) {x0 : Nat} {x1 : Int32} {x2 : Int32} {x3 : Int32} {h : sv_H} (w : vt_W h0 h) (tx0 : sv_K h0 x0 = 3) : vt_sm h0 (fn_X2_lowFloor_54 k12 x0 x1 x2 x3 h) (ab_X2_lowFloor_54 j12 x0 x1 x2 x3 (vt_ab h)) := by
  unfold fn_X2_lowFloor_54 ab_X2_lowFloor_54
  obtain ⟨F, hF⟩ : ∃ F, sv_FP h = F := ⟨_, rfl⟩
  exact hk12 w tx0
theorem sm_X2_lowFloor_12b {h0 : sv_H} {k12 : Nat → Int32 → Int32 → Int32 → sv_H → Option (Int32 × sv_H)} {j12 : Nat → Int32 → Int32 → Int32 → vt_S → Option (Int32 × vt_S)} (hk12 : ∀ {x0 : Nat} {x1 : Int32} {x2 : Int32} {x3 : Int32} {h : sv_H}, vt_W h0 h → sv_K h0 x0 = 3 → vt_sm h0 (k12 x0 x1 x2 x3 h) (j12 x0 x1 x2 x3 (vt_ab h))) {x0 : Nat} {x1 : Int32} {x2 : Int32} {x3 : Int32} {h : sv_H} (w : vt_W h0 h) (tx0 : sv_K h0 x0 = 3) : vt_sm h0 (fn_X2_lowFloor_12b k12 x0 x1 x2 x3 h) (ab_X2_lowFloor_12b j12 x0 x1 x2 x3 (vt_ab h)) := by
  unfold fn_X2_lowFloor_12b ab_X2_lowFloor_12b
  obtain ⟨F, hF⟩ : ∃ F, sv_FP h = F := ⟨_, rfl⟩
  refine sm_gI w tx0 (by decide) (fun v1 => ?_)
  refine sm_if (fun _ => ?_) (fun _ => ?_)
  · exact sm_rt w
  · refine sm_gA w hF tx0 tk_308 (by decide) (fun v2 av2 => ?_)
    refine sm_lP (c := 12) w hF tx0 av2 tk_308 (by decide) (fun v3 tv3 => ?_)
    refine sm_cl w (sm_X2_neighbourBy w.1 (w.k tx0 (by decide)) (w.k tv3 (by decide))) (fun r4 h2 e w2 => ?_)
    have hF2 : sv_FP h2 = F := by rw [ro_X2_neighbourBy e]; exact hF
    clear e w hF
    have hF := hF2
    have w := w2
    clear hF2 w2
    refine sm_if (fun _ => ?_) (fun _ => ?_)
    · exact sm_X2_lowFloor_54 (k12 := k12) (j12 := j12) hk12 w tx0
    · refine sm_gA w hF tx0 tk_307 (by decide) (fun v6 av6 => ?_)
      refine sm_lP (c := 7) w hF tx0 av6 tk_307 (by decide) (fun v7 tv7 => ?_)
      refine sm_gI w tv7 (by decide) (fun v8 => ?_)
      refine sm_let (fun _ => ?_)
      exact sm_X2_lowFloor_54 (k12 := k12) (j12 := j12) hk12 w tx0
theorem sm_X2_lowFloor_12 {h0 : sv_H} : ∀ (n : Nat) {x0 : Nat} {x1 : Int32} {x2 : Int32} {x3 : Int32} {h : sv_H}, vt_W h0 h → sv_K h0 x0 = 3 → vt_sm h0 (fn_X2_lowFloor_12 n x0 x1 x2 x3 h) (ab_X2_lowFloor_12 n x0 x1 x2 x3 (vt_ab h)) := by
  intro n
  induction n with
  | zero => intro x0 x1 x2 x3 h w tx0; exact sm_no
  | succ n ih => intro x0 x1 x2 x3 h w tx0; exact sm_X2_lowFloor_12b (k12 := fn_X2_lowFloor_12 n) (j12 := ab_X2_lowFloor_12 n) (fun w tx0 => ih w tx0) w tx0
theorem sm_X2_lowFloor_0 {h0 : sv_H} {x0 : Nat} {x1 : Int32} {h : sv_H} (w : vt_W h0 h) (tx0 : sv_K h0 x0 = 3) : vt_sm h0 (fn_X2_lowFloor x0 x1 h) (ab_X2_lowFloor x0 x1 (vt_ab h)) := by
  unfold fn_X2_lowFloor ab_X2_lowFloor
  obtain ⟨F, hF⟩ : ∃ F, sv_FP h = F := ⟨_, rfl⟩
  refine sm_kd w tx0 (by decide) ?_
  refine sm_gA w hF tx0 tk_307 (by decide) (fun v1 av1 => ?_)
  refine sm_lP (c := 7) w hF tx0 av1 tk_307 (by decide) (fun v2 tv2 => ?_)
  refine sm_gI w tv2 (by decide) (fun v3 => ?_)
  exact sm_X2_lowFloor_12 sv_fuel w tx0
theorem sm_X2_lowFloor {x0 : Nat} {x1 : Int32} {h : sv_H} (g : vt_G h) (tx0 : sv_K h x0 = 3) : vt_sm h (fn_X2_lowFloor x0 x1 h) (ab_X2_lowFloor x0 x1 (vt_ab h)) := sm_X2_lowFloor_0 ⟨g, vt_ko.refl h⟩ tx0

theorem sm_X2_highFloor_54 {h0 : sv_H} {k12 : Nat → Int32 → Int32 → Int32 → sv_H → Option (Int32 × sv_H)} {j12 : Nat → Int32 → Int32 → Int32 → vt_S → Option (Int32 × vt_S)} (hk12 : ∀ {x0 : Nat} {x1 : Int32} {x2 : Int32} {x3 : Int32} {h : sv_H}, vt_W h0 h → sv_K h0 x0 = 3 → vt_sm h0 (k12 x0 x1 x2 x3 h) (j12 x0 x1 x2 x3 (vt_ab h))) {x0 : Nat} {x1 : Int32} {x2 : Int32} {x3 : Int32} {h : sv_H} (w : vt_W h0 h) (tx0 : sv_K h0 x0 = 3) : vt_sm h0 (fn_X2_highFloor_54 k12 x0 x1 x2 x3 h) (ab_X2_highFloor_54 j12 x0 x1 x2 x3 (vt_ab h)) := by
  unfold fn_X2_highFloor_54 ab_X2_highFloor_54
  obtain ⟨F, hF⟩ : ∃ F, sv_FP h = F := ⟨_, rfl⟩
  exact hk12 w tx0
theorem sm_X2_highFloor_12b {h0 : sv_H} {k12 : Nat → Int32 → Int32 → Int32 → sv_H → Option (Int32 × sv_H)} {j12 : Nat → Int32 → Int32 → Int32 → vt_S → Option (Int32 × vt_S)} (hk12 : ∀ {x0 : Nat} {x1 : Int32} {x2 : Int32} {x3 : Int32} {h : sv_H}, vt_W h0 h → sv_K h0 x0 = 3 → vt_sm h0 (k12 x0 x1 x2 x3 h) (j12 x0 x1 x2 x3 (vt_ab h))) {x0 : Nat} {x1 : Int32} {x2 : Int32} {x3 : Int32} {h : sv_H} (w : vt_W h0 h) (tx0 : sv_K h0 x0 = 3) : vt_sm h0 (fn_X2_highFloor_12b k12 x0 x1 x2 x3 h) (ab_X2_highFloor_12b j12 x0 x1 x2 x3 (vt_ab h)) := by
  unfold fn_X2_highFloor_12b ab_X2_highFloor_12b
  obtain ⟨F, hF⟩ : ∃ F, sv_FP h = F := ⟨_, rfl⟩
  refine sm_gI w tx0 (by decide) (fun v1 => ?_)
  refine sm_if (fun _ => ?_) (fun _ => ?_)
  · exact sm_rt w
  · refine sm_gA w hF tx0 tk_308 (by decide) (fun v2 av2 => ?_)
    refine sm_lP (c := 12) w hF tx0 av2 tk_308 (by decide) (fun v3 tv3 => ?_)
    refine sm_cl w (sm_X2_neighbourBy w.1 (w.k tx0 (by decide)) (w.k tv3 (by decide))) (fun r4 h2 e w2 => ?_)
    have hF2 : sv_FP h2 = F := by rw [ro_X2_neighbourBy e]; exact hF
    clear e w hF
    have hF := hF2
    have w := w2
    clear hF2 w2
    refine sm_if (fun _ => ?_) (fun _ => ?_)
    · exact sm_X2_highFloor_54 (k12 := k12) (j12 := j12) hk12 w tx0
    · refine sm_gA w hF tx0 tk_307 (by decide) (fun v6 av6 => ?_)
      refine sm_lP (c := 7) w hF tx0 av6 tk_307 (by decide) (fun v7 tv7 => ?_)
      refine sm_gI w tv7 (by decide) (fun v8 => ?_)
      refine sm_let (fun _ => ?_)
      exact sm_X2_highFloor_54 (k12 := k12) (j12 := j12) hk12 w tx0
theorem sm_X2_highFloor_12 {h0 : sv_H} : ∀ (n : Nat) {x0 : Nat} {x1 : Int32} {x2 : Int32} {x3 : Int32} {h : sv_H}, vt_W h0 h → sv_K h0 x0 = 3 → vt_sm h0 (fn_X2_highFloor_12 n x0 x1 x2 x3 h) (ab_X2_highFloor_12 n x0 x1 x2 x3 (vt_ab h)) := by
  intro n
  induction n with
  | zero => intro x0 x1 x2 x3 h w tx0; exact sm_no
  | succ n ih => intro x0 x1 x2 x3 h w tx0; exact sm_X2_highFloor_12b (k12 := fn_X2_highFloor_12 n) (j12 := ab_X2_highFloor_12 n) (fun w tx0 => ih w tx0) w tx0
theorem sm_X2_highFloor_0 {h0 : sv_H} {x0 : Nat} {x1 : Int32} {h : sv_H} (w : vt_W h0 h) (tx0 : sv_K h0 x0 = 3) : vt_sm h0 (fn_X2_highFloor x0 x1 h) (ab_X2_highFloor x0 x1 (vt_ab h)) := by
  unfold fn_X2_highFloor ab_X2_highFloor
  obtain ⟨F, hF⟩ : ∃ F, sv_FP h = F := ⟨_, rfl⟩
  refine sm_kd w tx0 (by decide) ?_
  refine sm_gA w hF tx0 tk_307 (by decide) (fun v1 av1 => ?_)
  refine sm_lP (c := 7) w hF tx0 av1 tk_307 (by decide) (fun v2 tv2 => ?_)
  refine sm_gI w tv2 (by decide) (fun v3 => ?_)
  exact sm_X2_highFloor_12 sv_fuel w tx0
theorem sm_X2_highFloor {x0 : Nat} {x1 : Int32} {h : sv_H} (g : vt_G h) (tx0 : sv_K h x0 = 3) : vt_sm h (fn_X2_highFloor x0 x1 h) (ab_X2_highFloor x0 x1 (vt_ab h)) := sm_X2_highFloor_0 ⟨g, vt_ko.refl h⟩ tx0

theorem sm_X2_startOne_103 {h0 : sv_H} {h : sv_H} (w : vt_W h0 h) : vt_sm h0 (fn_X2_startOne_103 h) (ab_X2_startOne_103 (vt_ab h)) := by
  unfold fn_X2_startOne_103 ab_X2_startOne_103
  obtain ⟨F, hF⟩ : ∃ F, sv_FP h = F := ⟨_, rfl⟩
  exact sm_rt w
theorem sm_X2_startOne_0 {h0 : sv_H} {x0 : Nat} {x1 : Int32} {x2 : Int32} {h : sv_H} (w : vt_W h0 h) (tx0 : sv_K h0 x0 = 3) : vt_sm h0 (fn_X2_startOne x0 x1 x2 h) (ab_X2_startOne x0 x1 x2 (vt_ab h)) := by
  unfold fn_X2_startOne ab_X2_startOne
  obtain ⟨F, hF⟩ : ∃ F, sv_FP h = F := ⟨_, rfl⟩
  refine sm_kd w tx0 (by decide) ?_
  refine sm_gA w hF tx0 tk_307 (by decide) (fun v1 av1 => ?_)
  refine sm_lP (c := 7) w hF tx0 av1 tk_307 (by decide) (fun v2 tv2 => ?_)
  refine sm_gI w tv2 (by decide) (fun v3 => ?_)
  refine sm_if (fun _ => ?_) (fun _ => ?_)
  · refine sm_if (fun _ => ?_) (fun _ => ?_)
    · refine sm_cl w (sm_X2_lowCeiling w.1 (w.k tx0 (by decide))) (fun r12 h2 e w2 => ?_)
      have hF2 : sv_FP h2 = F := by rw [ro_X2_lowCeiling e]; exact hF
      clear e w hF
      have hF := hF2
      have w := w2
      clear hF2 w2
      refine sm_gI w tv2 (by decide) (fun v14 => ?_)
      refine sm_let (fun _ => ?_)
      refine sm_cl w (sm_X6_startMover w.1 (w.k tv2 (by decide))) (fun _ h2 e w2 => ?_)
      have hF2 : sv_FP h2 = F := (ow_X6_startMover sv_clT trivial e).2.1.1.trans hF
      clear e w hF
      have hF := hF2
      have w := w2
      clear hF2 w2
      exact sm_X2_startOne_103 w
    · refine sm_if (fun _ => ?_) (fun _ => ?_)
      · refine sm_cl w (sm_X2_lowFloor w.1 (w.k tx0 (by decide))) (fun r9 h2 e w2 => ?_)
        have hF2 : sv_FP h2 = F := by rw [ro_X2_lowFloor e]; exact hF
        clear e w hF
        have hF := hF2
        have w := w2
        clear hF2 w2
        refine sm_cl w (sm_X6_startMover w.1 (w.k tv2 (by decide))) (fun _ h2 e w2 => ?_)
        have hF2 : sv_FP h2 = F := (ow_X6_startMover sv_clT trivial e).2.1.1.trans hF
        clear e w hF
        have hF := hF2
        have w := w2
        clear hF2 w2
        exact sm_X2_startOne_103 w
      · refine sm_if (fun _ => ?_) (fun _ => ?_)
        · refine sm_cl w (sm_X2_highFloor w.1 (w.k tx0 (by decide))) (fun r4 h2 e w2 => ?_)
          have hF2 : sv_FP h2 = F := by rw [ro_X2_highFloor e]; exact hF
          clear e w hF
          have hF := hF2
          have w := w2
          clear hF2 w2
          refine sm_gI w tv2 (by decide) (fun v6 => ?_)
          refine sm_let (fun _ => ?_)
          refine sm_cl w (sm_X6_startMover w.1 (w.k tv2 (by decide))) (fun _ h2 e w2 => ?_)
          have hF2 : sv_FP h2 = F := (ow_X6_startMover sv_clT trivial e).2.1.1.trans hF
          clear e w hF
          have hF := hF2
          have w := w2
          clear hF2 w2
          exact sm_X2_startOne_103 w
        · exact sm_X2_startOne_103 w
  · refine sm_if (fun _ => ?_) (fun _ => ?_)
    · refine sm_gI w tv2 (by decide) (fun v17 => ?_)
      refine sm_if (fun _ => ?_) (fun _ => ?_)
      · refine sm_pI w hF tv2 (by decide) (fun h w hF => ?_)
        exact sm_X2_startOne_103 w
      · exact sm_X2_startOne_103 w
    · exact sm_X2_startOne_103 w
theorem sm_X2_startOne {x0 : Nat} {x1 : Int32} {x2 : Int32} {h : sv_H} (g : vt_G h) (tx0 : sv_K h x0 = 3) : vt_sm h (fn_X2_startOne x0 x1 x2 h) (ab_X2_startOne x0 x1 x2 (vt_ab h)) := sm_X2_startOne_0 ⟨g, vt_ko.refl h⟩ tx0

theorem sm_X2_startAll_40 {h0 : sv_H} {h : sv_H} (w : vt_W h0 h) : vt_sm h0 (fn_X2_startAll_40 h) (ab_X2_startAll_40 (vt_ab h)) := by
  unfold fn_X2_startAll_40 ab_X2_startAll_40
  obtain ⟨F, hF⟩ : ∃ F, sv_FP h = F := ⟨_, rfl⟩
  exact sm_rt w
theorem sm_X2_startAll_34 {h0 : sv_H} {k2 : Nat → Int32 → Int32 → Int32 → sv_H → Option (Unit × sv_H)} {j2 : Nat → Int32 → Int32 → Int32 → vt_S → Option (Unit × vt_S)} (hk2 : ∀ {x0 : Nat} {x1 : Int32} {x2 : Int32} {x3 : Int32} {h : sv_H}, vt_W h0 h → sv_K h0 x0 = 3 → vt_sm h0 (k2 x0 x1 x2 x3 h) (j2 x0 x1 x2 x3 (vt_ab h))) {x0 : Nat} {x1 : Int32} {x2 : Int32} {x3 : Int32} {h : sv_H} (w : vt_W h0 h) (tx0 : sv_K h0 x0 = 3) : vt_sm h0 (fn_X2_startAll_34 k2 x0 x1 x2 x3 h) (ab_X2_startAll_34 j2 x0 x1 x2 x3 (vt_ab h)) := by
  unfold fn_X2_startAll_34 ab_X2_startAll_34
  obtain ⟨F, hF⟩ : ∃ F, sv_FP h = F := ⟨_, rfl⟩
  exact hk2 w tx0
theorem sm_X2_startAll_2b {h0 : sv_H} {k2 : Nat → Int32 → Int32 → Int32 → sv_H → Option (Unit × sv_H)} {j2 : Nat → Int32 → Int32 → Int32 → vt_S → Option (Unit × vt_S)} (hk2 : ∀ {x0 : Nat} {x1 : Int32} {x2 : Int32} {x3 : Int32} {h : sv_H}, vt_W h0 h → sv_K h0 x0 = 3 → vt_sm h0 (k2 x0 x1 x2 x3 h) (j2 x0 x1 x2 x3 (vt_ab h))) {x0 : Nat} {x1 : Int32} {x2 : Int32} {x3 : Int32} {h : sv_H} (w : vt_W h0 h) (tx0 : sv_K h0 x0 = 3) : vt_sm h0 (fn_X2_startAll_2b k2 x0 x1 x2 x3 h) (ab_X2_startAll_2b j2 x0 x1 x2 x3 (vt_ab h)) := by
  unfold fn_X2_startAll_2b ab_X2_startAll_2b
  obtain ⟨F, hF⟩ : ∃ F, sv_FP h = F := ⟨_, rfl⟩
  refine sm_gI w tx0 (by decide) (fun v1 => ?_)
  refine sm_if (fun _ => ?_) (fun _ => ?_)
  · exact sm_X2_startAll_40 w
  · refine sm_if (fun _ => ?_) (fun _ => ?_)
    · exact sm_X2_startAll_40 w
    · refine sm_gA w hF tx0 tk_307 (by decide) (fun v2 av2 => ?_)
      refine sm_lP (c := 7) w hF tx0 av2 tk_307 (by decide) (fun v3 tv3 => ?_)
      refine sm_gI w tv3 (by decide) (fun v4 => ?_)
      refine sm_if (fun _ => ?_) (fun _ => ?_)
      · refine sm_cl w (sm_X2_startOne w.1 (w.k tx0 (by decide))) (fun _ h2 e w2 => ?_)
        have hF2 : sv_FP h2 = F := (ow_X2_startOne sv_clT trivial e).2.1.1.trans hF
        clear e w hF
        have hF := hF2
        have w := w2
        clear hF2 w2
        exact sm_X2_startAll_34 (k2 := k2) (j2 := j2) hk2 w tx0
      · exact sm_X2_startAll_34 (k2 := k2) (j2 := j2) hk2 w tx0
theorem sm_X2_startAll_2 {h0 : sv_H} : ∀ (n : Nat) {x0 : Nat} {x1 : Int32} {x2 : Int32} {x3 : Int32} {h : sv_H}, vt_W h0 h → sv_K h0 x0 = 3 → vt_sm h0 (fn_X2_startAll_2 n x0 x1 x2 x3 h) (ab_X2_startAll_2 n x0 x1 x2 x3 (vt_ab h)) := by
  intro n
  induction n with
  | zero => intro x0 x1 x2 x3 h w tx0; exact sm_no
  | succ n ih => intro x0 x1 x2 x3 h w tx0; exact sm_X2_startAll_2b (k2 := fn_X2_startAll_2 n) (j2 := ab_X2_startAll_2 n) (fun w tx0 => ih w tx0) w tx0
theorem sm_X2_startAll_0 {h0 : sv_H} {x0 : Nat} {x1 : Int32} {x2 : Int32} {h : sv_H} (w : vt_W h0 h) (tx0 : sv_K h0 x0 = 3) : vt_sm h0 (fn_X2_startAll x0 x1 x2 h) (ab_X2_startAll x0 x1 x2 (vt_ab h)) := by
  unfold fn_X2_startAll ab_X2_startAll
  obtain ⟨F, hF⟩ : ∃ F, sv_FP h = F := ⟨_, rfl⟩
  refine sm_kd w tx0 (by decide) ?_
  exact sm_X2_startAll_2 sv_fuel w tx0
theorem sm_X2_startAll {x0 : Nat} {x1 : Int32} {x2 : Int32} {h : sv_H} (g : vt_G h) (tx0 : sv_K h x0 = 3) : vt_sm h (fn_X2_startAll x0 x1 x2 h) (ab_X2_startAll x0 x1 x2 (vt_ab h)) := sm_X2_startAll_0 ⟨g, vt_ko.refl h⟩ tx0

theorem sm_X10_go_57 {h0 : sv_H} {h : sv_H} (w : vt_W h0 h) : vt_sm h0 (fn_X10_go_57 h) (ab_X10_go_57 (vt_ab h)) := by
  unfold fn_X10_go_57 ab_X10_go_57
  obtain ⟨F, hF⟩ : ∃ F, sv_FP h = F := ⟨_, rfl⟩
  exact sm_rt w
theorem sm_X10_go_185 {h0 : sv_H} {k135 : Nat → Int32 → sv_H → Option (Int32 × sv_H)} {j135 : Nat → Int32 → vt_S → Option (Int32 × vt_S)} (hk135 : ∀ {x0 : Nat} {x3 : Int32} {h : sv_H}, vt_W h0 h → sv_K h0 x0 = 11 → vt_sm h0 (k135 x0 x3 h) (j135 x0 x3 (vt_ab h))) {x0 : Nat} {x3 : Int32} {x4 : Nat} {s0 : Nat} {s1 : Nat} {s2 : Int32} {h : sv_H} (w : vt_W h0 h) (tx0 : sv_K h0 x0 = 11) (tx4 : sv_K h0 x4 = 12) (ts0 : sv_K h0 s0 = 11) (ts1 : sv_K h0 s1 = 12) : vt_sm h0 (fn_X10_go_185 k135 x0 x3 x4 s0 s1 s2 h) (ab_X10_go_185 j135 x0 x3 x4 s0 s1 s2 (vt_ab h)) := by
  unfold fn_X10_go_185 ab_X10_go_185
  obtain ⟨F, hF⟩ : ∃ F, sv_FP h = F := ⟨_, rfl⟩
  refine sm_cl w (sm_X11_sectorOn w.1 (w.k ts1 (by decide))) (fun r1 h2 e w2 => ?_)
  have hF2 : sv_FP h2 = F := by rw [ro_X11_sectorOn e]; exact hF
  clear e w hF
  have hF := hF2
  have w := w2
  clear hF2 w2
  refine sm_pI w hF ts0 (by decide) (fun h w hF => ?_)
  refine sm_gP w tx0 tk_1101 rfl (fun v4 tv4 => ?_)
  refine sm_gI w tx4 (by decide) (fun v5 => ?_)
  refine sm_cl w (sm_X10_moverByCrossing w.1) (fun r6 h2 e w2 => ?_)
  have hF2 : sv_FP h2 = F := by rw [ro_X10_moverByCrossing e]; exact hF
  clear e w hF
  have hF := hF2
  have w := w2
  clear hF2 w2
  refine sm_gI w tx4 (by decide) (fun v8 => ?_)
  refine sm_cl w (sm_X2_startAll w.1 (w.k tv4 (by decide))) (fun _ h2 e w2 => ?_)
  have hF2 : sv_FP h2 = F := (ow_X2_startAll sv_clT trivial e).2.1.1.trans hF
  clear e w hF
  have hF := hF2
  have w := w2
  clear hF2 w2
  exact hk135 w tx0
theorem sm_X10_go_135b {h0 : sv_H} {k135 : Nat → Int32 → sv_H → Option (Int32 × sv_H)} {j135 : Nat → Int32 → vt_S → Option (Int32 × vt_S)} (hk135 : ∀ {x0 : Nat} {x3 : Int32} {h : sv_H}, vt_W h0 h → sv_K h0 x0 = 11 → vt_sm h0 (k135 x0 x3 h) (j135 x0 x3 (vt_ab h))) {x0 : Nat} {x3 : Int32} {h : sv_H} (w : vt_W h0 h) (tx0 : sv_K h0 x0 = 11) : vt_sm h0 (fn_X10_go_135b k135 x0 x3 h) (ab_X10_go_135b j135 x0 x3 (vt_ab h)) := by
  unfold fn_X10_go_135b ab_X10_go_135b
  obtain ⟨F, hF⟩ : ∃ F, sv_FP h = F := ⟨_, rfl⟩
  refine sm_gP w tx0 tk_1100 rfl (fun v1 tv1 => ?_)
  refine sm_gI w tv1 (by decide) (fun v2 => ?_)
  refine sm_if (fun _ => ?_) (fun _ => ?_)
  · exact sm_rt w
  · refine sm_gP w tx0 tk_1101 rfl (fun v3 tv3 => ?_)
    refine sm_gA w hF tv3 tk_308 (by decide) (fun v4 av4 => ?_)
    refine sm_gP w tx0 tk_1100 rfl (fun v5 tv5 => ?_)
    refine sm_gA w hF tv5 tk_400 (by decide) (fun v6 av6 => ?_)
    refine sm_lI w hF tv5 av6 tk_400 (fun _ => ?_)
    refine sm_lP (c := 12) w hF tv3 av4 tk_308 (by decide) (fun v8 tv8 => ?_)
    refine sm_gP w tx0 tk_1100 rfl (fun v9 tv9 => ?_)
    refine sm_gA w hF tv9 tk_401 (by decide) (fun v10 av10 => ?_)
    refine sm_lZ w hF tv9 av10 tk_401 (fun _ => ?_)
    refine sm_if (fun _ => ?_) (fun _ => ?_)
    · exact sm_X10_go_185 (k135 := k135) (j135 := j135) hk135 w tx0 tv8 tx0 tv8
    · exact sm_X10_go_185 (k135 := k135) (j135 := j135) hk135 w tx0 tv8 tx0 tv8
theorem sm_X10_go_135 {h0 : sv_H} : ∀ (n : Nat) {x0 : Nat} {x3 : Int32} {h : sv_H}, vt_W h0 h → sv_K h0 x0 = 11 → vt_sm h0 (fn_X10_go_135 n x0 x3 h) (ab_X10_go_135 n x0 x3 (vt_ab h)) := by
  intro n
  induction n with
  | zero => intro x0 x3 h w tx0; exact sm_no
  | succ n ih => intro x0 x3 h w tx0; exact sm_X10_go_135b (k135 := fn_X10_go_135 n) (j135 := ab_X10_go_135 n) (fun w tx0 => ih w tx0) w tx0
theorem sm_X10_go_61b {h0 : sv_H} {k61 : Nat → Int32 → Int32 → Int32 → sv_H → Option (Int32 × sv_H)} {j61 : Nat → Int32 → Int32 → Int32 → vt_S → Option (Int32 × vt_S)} (hk61 : ∀ {x0 : Nat} {x1 : Int32} {x2 : Int32} {x3 : Int32} {h : sv_H}, vt_W h0 h → sv_K h0 x0 = 11 → vt_sm h0 (k61 x0 x1 x2 x3 h) (j61 x0 x1 x2 x3 (vt_ab h))) {x0 : Nat} {x1 : Int32} {x2 : Int32} {x3 : Int32} {h : sv_H} (w : vt_W h0 h) (tx0 : sv_K h0 x0 = 11) : vt_sm h0 (fn_X10_go_61b k61 x0 x1 x2 x3 h) (ab_X10_go_61b j61 x0 x1 x2 x3 (vt_ab h)) := by
  unfold fn_X10_go_61b ab_X10_go_61b
  obtain ⟨F, hF⟩ : ∃ F, sv_FP h = F := ⟨_, rfl⟩
  refine sm_gP w tx0 tk_1100 rfl (fun v1 tv1 => ?_)
  refine sm_gI w tv1 (by decide) (fun v2 => ?_)
  refine sm_if (fun _ => ?_) (fun _ => ?_)
  · refine sm_gI w tx0 (by decide) (fun v3 => ?_)
    refine sm_pI w hF tx0 (by decide) (fun h w hF => ?_)
    refine sm_gI w tx0 (by decide) (fun v5 => ?_)
    refine sm_pI w hF tx0 (by decide) (fun h w hF => ?_)
    exact sm_X10_go_135 sv_fuel w tx0
  · refine sm_gP w tx0 tk_1101 rfl (fun v7 tv7 => ?_)
    refine sm_gA w hF tv7 tk_308 (by decide) (fun v8 av8 => ?_)
    refine sm_gP w tx0 tk_1100 rfl (fun v9 tv9 => ?_)
    refine sm_gA w hF tv9 tk_400 (by decide) (fun v10 av10 => ?_)
    refine sm_lI w hF tv9 av10 tk_400 (fun _ => ?_)
    refine sm_lP (c := 12) w hF tv7 av8 tk_308 (by decide) (fun v12 tv12 => ?_)
    refine sm_gP w tx0 tk_1100 rfl (fun v13 tv13 => ?_)
    refine sm_gA w hF tv13 tk_401 (by decide) (fun v14 av14 => ?_)
    refine sm_lZ w hF tv13 av14 tk_401 (fun _ => ?_)
    refine sm_cl w (sm_X10_stops w.1 (w.k tx0 (by decide)) (w.k tv12 (by decide))) (fun r16 h2 e w2 => ?_)
    have hF2 : sv_FP h2 = F := by rw [ro_X10_stops e]; exact hF
    clear e w hF
    have hF := hF2
    have w := w2
    clear hF2 w2
    refine sm_if (fun _ => ?_) (fun _ => ?_)
    · exact hk61 w tx0
    · exact sm_rt w
theorem sm_X10_go_61 {h0 : sv_H} : ∀ (n : Nat) {x0 : Nat} {x1 : Int32} {x2 : Int32} {x3 : Int32} {h : sv_H}, vt_W h0 h → sv_K h0 x0 = 11 → vt_sm h0 (fn_X10_go_61 n x0 x1 x2 x3 h) (ab_X10_go_61 n x0 x1 x2 x3 (vt_ab h)) := by
  intro n
  induction n with
  | zero => intro x0 x1 x2 x3 h w tx0; exact sm_no
  | succ n ih => intro x0 x1 x2 x3 h w tx0; exact sm_X10_go_61b (k61 := fn_X10_go_61 n) (j61 := ab_X10_go_61 n) (fun w tx0 => ih w tx0) w tx0
theorem sm_X10_go_0 {h0 : sv_H} {x0 : Nat} {x1 : Int32} {x2 : Int32} {h : sv_H} (w : vt_W h0 h) (tx0 : sv_K h0 x0 = 11) : vt_sm h0 (fn_X10_go x0 x1 x2 h) (ab_X10_go x0 x1 x2 (vt_ab h)) := by
  unfold fn_X10_go ab_X10_go
  obtain ⟨F, hF⟩ : ∃ F, sv_FP h = F := ⟨_, rfl⟩
  refine sm_kd w tx0 (by decide) ?_
  refine sm_gP w tx0 tk_1100 rfl (fun v1 tv1 => ?_)
  refine sm_gI w tx0 (by decide) (fun v2 => ?_)
  refine sm_gI w tx0 (by decide) (fun v3 => ?_)
  refine sm_cl w (sm_X3_aim w.1 (w.k tv1 (by decide))) (fun _ h2 e w2 => ?_)
  have hF2 : sv_FP h2 = F := (ow_X3_aim sv_clT trivial e).2.1.1.trans hF
  clear e w hF
  have hF := hF2
  have w := w2
  clear hF2 w2
  refine sm_gP w tx0 tk_1100 rfl (fun v5 tv5 => ?_)
  refine sm_gP w tx0 tk_1101 rfl (fun v6 tv6 => ?_)
  refine sm_cl w (sm_X3_meetClose w.1 (w.k tv5 (by decide)) (w.k tv6 (by decide))) (fun _ h2 e w2 => ?_)
  have hF2 : sv_FP h2 = F := (ow_X3_meetClose sv_clT trivial trivial e).2.1.1.trans hF
  clear e w hF
  have hF := hF2
  have w := w2
  clear hF2 w2
  refine sm_gI w tx0 (by decide) (fun v8 => ?_)
  refine sm_let (fun _ => ?_)
  refine sm_if (fun _ => ?_) (fun _ => ?_)
  · exact sm_X10_go_57 w
  · refine sm_gI w tx0 (by decide) (fun v10 => ?_)
    refine sm_let (fun _ => ?_)
    refine sm_if (fun _ => ?_) (fun _ => ?_)
    · exact sm_X10_go_61 sv_fuel w tx0
    · exact sm_X10_go_57 w
theorem sm_X10_go {x0 : Nat} {x1 : Int32} {x2 : Int32} {h : sv_H} (g : vt_G h) (tx0 : sv_K h x0 = 11) : vt_sm h (fn_X10_go x0 x1 x2 h) (ab_X10_go x0 x1 x2 (vt_ab h)) := sm_X10_go_0 ⟨g, vt_ko.refl h⟩ tx0

theorem sm_X10_use_51 {h0 : sv_H} {h : sv_H} (w : vt_W h0 h) : vt_sm h0 (fn_X10_use_51 h) (ab_X10_use_51 (vt_ab h)) := by
  unfold fn_X10_use_51 ab_X10_use_51
  obtain ⟨F, hF⟩ : ∃ F, sv_FP h = F := ⟨_, rfl⟩
  exact sm_rt w
theorem sm_X10_use_121 {h0 : sv_H} {h : sv_H} (w : vt_W h0 h) : vt_sm h0 (fn_X10_use_121 h) (ab_X10_use_121 (vt_ab h)) := by
  unfold fn_X10_use_121 ab_X10_use_121
  obtain ⟨F, hF⟩ : ∃ F, sv_FP h = F := ⟨_, rfl⟩
  exact sm_rt w
theorem sm_X10_use_101 {h0 : sv_H} {x0 : Nat} {x3 : Nat} {h : sv_H} (w : vt_W h0 h) (tx0 : sv_K h0 x0 = 11) (tx3 : sv_K h0 x3 = 12) : vt_sm h0 (fn_X10_use_101 x0 x3 h) (ab_X10_use_101 x0 x3 (vt_ab h)) := by
  unfold fn_X10_use_101 ab_X10_use_101
  obtain ⟨F, hF⟩ : ∃ F, sv_FP h = F := ⟨_, rfl⟩
  refine sm_gI w tx3 (by decide) (fun v1 => ?_)
  refine sm_if (fun _ => ?_) (fun _ => ?_)
  · refine sm_gP w tx0 tk_1101 rfl (fun v2 tv2 => ?_)
    refine sm_gI w tx3 (by decide) (fun v3 => ?_)
    refine sm_cl w (sm_X2_startAll w.1 (w.k tv2 (by decide))) (fun _ h2 e w2 => ?_)
    have hF2 : sv_FP h2 = F := (ow_X2_startAll sv_clT trivial e).2.1.1.trans hF
    clear e w hF
    have hF := hF2
    have w := w2
    clear hF2 w2
    exact sm_X10_use_121 w
  · exact sm_X10_use_121 w
theorem sm_X10_use_0 {h0 : sv_H} {x0 : Nat} {x1 : Int32} {x2 : Int32} {h : sv_H} (w : vt_W h0 h) (tx0 : sv_K h0 x0 = 11) : vt_sm h0 (fn_X10_use x0 x1 x2 h) (ab_X10_use x0 x1 x2 (vt_ab h)) := by
  unfold fn_X10_use ab_X10_use
  obtain ⟨F, hF⟩ : ∃ F, sv_FP h = F := ⟨_, rfl⟩
  refine sm_kd w tx0 (by decide) ?_
  refine sm_gP w tx0 tk_1100 rfl (fun v1 tv1 => ?_)
  refine sm_gI w tx0 (by decide) (fun v2 => ?_)
  refine sm_gI w tx0 (by decide) (fun v3 => ?_)
  refine sm_cl w (sm_X3_aim w.1 (w.k tv1 (by decide))) (fun _ h2 e w2 => ?_)
  have hF2 : sv_FP h2 = F := (ow_X3_aim sv_clT trivial e).2.1.1.trans hF
  clear e w hF
  have hF := hF2
  have w := w2
  clear hF2 w2
  refine sm_gP w tx0 tk_1100 rfl (fun v5 tv5 => ?_)
  refine sm_gP w tx0 tk_1101 rfl (fun v6 tv6 => ?_)
  refine sm_cl w (sm_X3_meetClose w.1 (w.k tv5 (by decide)) (w.k tv6 (by decide))) (fun _ h2 e w2 => ?_)
  have hF2 : sv_FP h2 = F := (ow_X3_meetClose sv_clT trivial trivial e).2.1.1.trans hF
  clear e w hF
  have hF := hF2
  have w := w2
  clear hF2 w2
  refine sm_gP w tx0 tk_1100 rfl (fun v8 tv8 => ?_)
  refine sm_gI w tv8 (by decide) (fun v9 => ?_)
  refine sm_if (fun _ => ?_) (fun _ => ?_)
  · exact sm_X10_use_51 w
  · refine sm_gP w tx0 tk_1100 rfl (fun v10 tv10 => ?_)
    refine sm_gA w hF tv10 tk_401 (by decide) (fun v11 av11 => ?_)
    refine sm_lZ w hF tv10 av11 tk_401 (fun _ => ?_)
    refine sm_if (fun _ => ?_) (fun _ => ?_)
    · exact sm_X10_use_51 w
    · refine sm_gP w tx0 tk_1101 rfl (fun v13 tv13 => ?_)
      refine sm_gA w hF tv13 tk_308 (by decide) (fun v14 av14 => ?_)
      refine sm_gP w tx0 tk_1100 rfl (fun v15 tv15 => ?_)
      refine sm_gA w hF tv15 tk_400 (by decide) (fun v16 av16 => ?_)
      refine sm_lI w hF tv15 av16 tk_400 (fun _ => ?_)
      refine sm_lP (c := 12) w hF tv13 av14 tk_308 (by decide) (fun v18 tv18 => ?_)
      refine sm_gI w tv18 (by decide) (fun v19 => ?_)
      refine sm_if (fun _ => ?_) (fun _ => ?_)
      · refine sm_gI w tv18 (by decide) (fun v20 => ?_)
        refine sm_if (fun _ => ?_) (fun _ => ?_)
        · exact sm_X10_use_101 w tx0 tv18
        · refine sm_gP w tx0 tk_1101 rfl (fun v21 tv21 => ?_)
          refine sm_gI w tv18 (by decide) (fun v22 => ?_)
          refine sm_cl w (sm_X2_startOne w.1 (w.k tv21 (by decide))) (fun _ h2 e w2 => ?_)
          have hF2 : sv_FP h2 = F := (ow_X2_startOne sv_clT trivial e).2.1.1.trans hF
          clear e w hF
          have hF := hF2
          have w := w2
          clear hF2 w2
          exact sm_X10_use_121 w
      · exact sm_X10_use_101 w tx0 tv18
theorem sm_X10_use {x0 : Nat} {x1 : Int32} {x2 : Int32} {h : sv_H} (g : vt_G h) (tx0 : sv_K h x0 = 11) : vt_sm h (fn_X10_use x0 x1 x2 h) (ab_X10_use x0 x1 x2 (vt_ab h)) := sm_X10_use_0 ⟨g, vt_ko.refl h⟩ tx0

theorem sm_X6_waitOn_33 {h0 : sv_H} {h : sv_H} (w : vt_W h0 h) : vt_sm h0 (fn_X6_waitOn_33 h) (ab_X6_waitOn_33 (vt_ab h)) := by
  unfold fn_X6_waitOn_33 ab_X6_waitOn_33
  obtain ⟨F, hF⟩ : ∃ F, sv_FP h = F := ⟨_, rfl⟩
  exact sm_rt w
theorem sm_X6_waitOn_30 {h0 : sv_H} {s0 : Nat} {s1 : Int32} {h : sv_H} (w : vt_W h0 h) (ts0 : sv_K h0 s0 = 7) : vt_sm h0 (fn_X6_waitOn_30 s0 s1 h) (ab_X6_waitOn_30 s0 s1 (vt_ab h)) := by
  unfold fn_X6_waitOn_30 ab_X6_waitOn_30
  obtain ⟨F, hF⟩ : ∃ F, sv_FP h = F := ⟨_, rfl⟩
  refine sm_pI w hF ts0 (by decide) (fun h w hF => ?_)
  exact sm_X6_waitOn_33 w
theorem sm_X6_waitOn_0 {h0 : sv_H} {x0 : Nat} {h : sv_H} (w : vt_W h0 h) (tx0 : sv_K h0 x0 = 7) : vt_sm h0 (fn_X6_waitOn x0 h) (ab_X6_waitOn x0 (vt_ab h)) := by
  unfold fn_X6_waitOn ab_X6_waitOn
  obtain ⟨F, hF⟩ : ∃ F, sv_FP h = F := ⟨_, rfl⟩
  refine sm_kd w tx0 (by decide) ?_
  refine sm_gI w tx0 (by decide) (fun v1 => ?_)
  refine sm_pI w hF tx0 (by decide) (fun h w hF => ?_)
  refine sm_gI w tx0 (by decide) (fun v3 => ?_)
  refine sm_if (fun _ => ?_) (fun _ => ?_)
  · exact sm_X6_waitOn_33 w
  · refine sm_gI w tx0 (by decide) (fun v4 => ?_)
    refine sm_if (fun _ => ?_) (fun _ => ?_)
    · exact sm_X6_waitOn_30 w tx0
    · exact sm_X6_waitOn_30 w tx0
theorem sm_X6_waitOn {x0 : Nat} {h : sv_H} (g : vt_G h) (tx0 : sv_K h x0 = 7) : vt_sm h (fn_X6_waitOn x0 h) (ab_X6_waitOn x0 (vt_ab h)) := sm_X6_waitOn_0 ⟨g, vt_ko.refl h⟩ tx0

theorem sm_X6_waitFor_0 {h0 : sv_H} {x0 : Nat} {x1 : Int32} {h : sv_H} (w : vt_W h0 h) (tx0 : sv_K h0 x0 = 7) : vt_sm h0 (fn_X6_waitFor x0 x1 h) (ab_X6_waitFor x0 x1 (vt_ab h)) := by
  unfold fn_X6_waitFor ab_X6_waitFor
  obtain ⟨F, hF⟩ : ∃ F, sv_FP h = F := ⟨_, rfl⟩
  refine sm_kd w tx0 (by decide) ?_
  refine sm_pI w hF tx0 (by decide) (fun h w hF => ?_)
  refine sm_pI w hF tx0 (by decide) (fun h w hF => ?_)
  exact sm_rt w
theorem sm_X6_waitFor {x0 : Nat} {x1 : Int32} {h : sv_H} (g : vt_G h) (tx0 : sv_K h x0 = 7) : vt_sm h (fn_X6_waitFor x0 x1 h) (ab_X6_waitFor x0 x1 (vt_ab h)) := sm_X6_waitFor_0 ⟨g, vt_ko.refl h⟩ tx0

theorem sm_X6_openDoor_35 {h0 : sv_H} {h : sv_H} (w : vt_W h0 h) : vt_sm h0 (fn_X6_openDoor_35 h) (ab_X6_openDoor_35 (vt_ab h)) := by
  unfold fn_X6_openDoor_35 ab_X6_openDoor_35
  obtain ⟨F, hF⟩ : ∃ F, sv_FP h = F := ⟨_, rfl⟩
  exact sm_rt w
theorem sm_X6_openDoor_0 {h0 : sv_H} {x0 : Nat} {h : sv_H} (w : vt_W h0 h) (tx0 : sv_K h0 x0 = 7) : vt_sm h0 (fn_X6_openDoor x0 h) (ab_X6_openDoor x0 (vt_ab h)) := by
  unfold fn_X6_openDoor ab_X6_openDoor
  obtain ⟨F, hF⟩ : ∃ F, sv_FP h = F := ⟨_, rfl⟩
  refine sm_kd w tx0 (by decide) ?_
  refine sm_gI w tx0 (by decide) (fun v1 => ?_)
  refine sm_gI w tx0 (by decide) (fun v2 => ?_)
  refine sm_let (fun _ => ?_)
  refine sm_pI w hF tx0 (by decide) (fun h w hF => ?_)
  refine sm_gI w tx0 (by decide) (fun v5 => ?_)
  refine sm_gI w tx0 (by decide) (fun v6 => ?_)
  refine sm_if (fun _ => ?_) (fun _ => ?_)
  · refine sm_cl w (sm_X6_waitFor w.1 (w.k tx0 (by decide))) (fun _ h2 e w2 => ?_)
    have hF2 : sv_FP h2 = F := (ow_X6_waitFor sv_clT trivial e).2.1.1.trans hF
    clear e w hF
    have hF := hF2
    have w := w2
    clear hF2 w2
    exact sm_X6_openDoor_35 w
  · exact sm_X6_openDoor_35 w
theorem sm_X6_openDoor {x0 : Nat} {h : sv_H} (g : vt_G h) (tx0 : sv_K h x0 = 7) : vt_sm h (fn_X6_openDoor x0 h) (ab_X6_openDoor x0 (vt_ab h)) := sm_X6_openDoor_0 ⟨g, vt_ko.refl h⟩ tx0

theorem sm_X6_closeDoor_56 {h0 : sv_H} {h : sv_H} (w : vt_W h0 h) : vt_sm h0 (fn_X6_closeDoor_56 h) (ab_X6_closeDoor_56 (vt_ab h)) := by
  unfold fn_X6_closeDoor_56 ab_X6_closeDoor_56
  obtain ⟨F, hF⟩ : ∃ F, sv_FP h = F := ⟨_, rfl⟩
  exact sm_rt w
theorem sm_X6_closeDoor_36 {h0 : sv_H} {x0 : Nat} {x2 : Int32} {h : sv_H} (w : vt_W h0 h) (tx0 : sv_K h0 x0 = 7) : vt_sm h0 (fn_X6_closeDoor_36 x0 x2 h) (ab_X6_closeDoor_36 x0 x2 (vt_ab h)) := by
  unfold fn_X6_closeDoor_36 ab_X6_closeDoor_36
  obtain ⟨F, hF⟩ : ∃ F, sv_FP h = F := ⟨_, rfl⟩
  refine sm_pI w hF tx0 (by decide) (fun h w hF => ?_)
  refine sm_gI w tx0 (by decide) (fun v2 => ?_)
  refine sm_gI w tx0 (by decide) (fun v3 => ?_)
  refine sm_if (fun _ => ?_) (fun _ => ?_)
  · refine sm_cl w (sm_X6_endMover w.1 (w.k tx0 (by decide))) (fun _ h2 e w2 => ?_)
    have hF2 : sv_FP h2 = F := (ow_X6_endMover sv_clT trivial e).2.1.1.trans hF
    clear e w hF
    have hF := hF2
    have w := w2
    clear hF2 w2
    exact sm_X6_closeDoor_56 w
  · exact sm_X6_closeDoor_56 w
theorem sm_X6_closeDoor_0 {h0 : sv_H} {x0 : Nat} {x1 : Int32} {h : sv_H} (w : vt_W h0 h) (tx0 : sv_K h0 x0 = 7) : vt_sm h0 (fn_X6_closeDoor x0 x1 h) (ab_X6_closeDoor x0 x1 (vt_ab h)) := by
  unfold fn_X6_closeDoor ab_X6_closeDoor
  obtain ⟨F, hF⟩ : ∃ F, sv_FP h = F := ⟨_, rfl⟩
  refine sm_kd w tx0 (by decide) ?_
  refine sm_gI w tx0 (by decide) (fun v1 => ?_)
  refine sm_gI w tx0 (by decide) (fun v2 => ?_)
  refine sm_let (fun _ => ?_)
  refine sm_if (fun _ => ?_) (fun _ => ?_)
  · exact sm_X6_closeDoor_36 w tx0
  · refine sm_gI w tx0 (by decide) (fun v4 => ?_)
    refine sm_if (fun _ => ?_) (fun _ => ?_)
    · exact sm_X6_closeDoor_36 w tx0
    · refine sm_pI w hF tx0 (by decide) (fun h w hF => ?_)
      exact sm_rt w
theorem sm_X6_closeDoor {x0 : Nat} {x1 : Int32} {h : sv_H} (g : vt_G h) (tx0 : sv_K h x0 = 7) : vt_sm h (fn_X6_closeDoor x0 x1 h) (ab_X6_closeDoor x0 x1 (vt_ab h)) := sm_X6_closeDoor_0 ⟨g, vt_ko.refl h⟩ tx0

theorem sm_X6_sinkLift_34 {h0 : sv_H} {h : sv_H} (w : vt_W h0 h) : vt_sm h0 (fn_X6_sinkLift_34 h) (ab_X6_sinkLift_34 (vt_ab h)) := by
  unfold fn_X6_sinkLift_34 ab_X6_sinkLift_34
  obtain ⟨F, hF⟩ : ∃ F, sv_FP h = F := ⟨_, rfl⟩
  exact sm_rt w
theorem sm_X6_sinkLift_0 {h0 : sv_H} {x0 : Nat} {h : sv_H} (w : vt_W h0 h) (tx0 : sv_K h0 x0 = 7) : vt_sm h0 (fn_X6_sinkLift x0 h) (ab_X6_sinkLift x0 (vt_ab h)) := by
  unfold fn_X6_sinkLift ab_X6_sinkLift
  obtain ⟨F, hF⟩ : ∃ F, sv_FP h = F := ⟨_, rfl⟩
  refine sm_kd w tx0 (by decide) ?_
  refine sm_gI w tx0 (by decide) (fun v1 => ?_)
  refine sm_gI w tx0 (by decide) (fun v2 => ?_)
  refine sm_let (fun _ => ?_)
  refine sm_pI w hF tx0 (by decide) (fun h w hF => ?_)
  refine sm_gI w tx0 (by decide) (fun v5 => ?_)
  refine sm_gI w tx0 (by decide) (fun v6 => ?_)
  refine sm_if (fun _ => ?_) (fun _ => ?_)
  · refine sm_cl w (sm_X6_waitFor w.1 (w.k tx0 (by decide))) (fun _ h2 e w2 => ?_)
    have hF2 : sv_FP h2 = F := (ow_X6_waitFor sv_clT trivial e).2.1.1.trans hF
    clear e w hF
    have hF := hF2
    have w := w2
    clear hF2 w2
    exact sm_X6_sinkLift_34 w
  · exact sm_X6_sinkLift_34 w
theorem sm_X6_sinkLift {x0 : Nat} {h : sv_H} (g : vt_G h) (tx0 : sv_K h x0 = 7) : vt_sm h (fn_X6_sinkLift x0 h) (ab_X6_sinkLift x0 (vt_ab h)) := sm_X6_sinkLift_0 ⟨g, vt_ko.refl h⟩ tx0

theorem sm_X6_raiseFloor_47 {h0 : sv_H} {h : sv_H} (w : vt_W h0 h) : vt_sm h0 (fn_X6_raiseFloor_47 h) (ab_X6_raiseFloor_47 (vt_ab h)) := by
  unfold fn_X6_raiseFloor_47 ab_X6_raiseFloor_47
  obtain ⟨F, hF⟩ : ∃ F, sv_FP h = F := ⟨_, rfl⟩
  exact sm_rt w
theorem sm_X6_raiseFloor_29 {h0 : sv_H} {x0 : Nat} {x2 : Int32} {x4 : Int32} {h : sv_H} (w : vt_W h0 h) (tx0 : sv_K h0 x0 = 7) : vt_sm h0 (fn_X6_raiseFloor_29 x0 x2 x4 h) (ab_X6_raiseFloor_29 x0 x2 x4 (vt_ab h)) := by
  unfold fn_X6_raiseFloor_29 ab_X6_raiseFloor_29
  obtain ⟨F, hF⟩ : ∃ F, sv_FP h = F := ⟨_, rfl⟩
  refine sm_pI w hF tx0 (by decide) (fun h w hF => ?_)
  refine sm_gI w tx0 (by decide) (fun v2 => ?_)
  refine sm_if (fun _ => ?_) (fun _ => ?_)
  · refine sm_cl w (sm_X6_endMover w.1 (w.k tx0 (by decide))) (fun _ h2 e w2 => ?_)
    have hF2 : sv_FP h2 = F := (ow_X6_endMover sv_clT trivial e).2.1.1.trans hF
    clear e w hF
    have hF := hF2
    have w := w2
    clear hF2 w2
    exact sm_X6_raiseFloor_47 w
  · exact sm_X6_raiseFloor_47 w
theorem sm_X6_raiseFloor_0 {h0 : sv_H} {x0 : Nat} {x1 : Int32} {x2 : Int32} {x3 : Int32} {h : sv_H} (w : vt_W h0 h) (tx0 : sv_K h0 x0 = 7) : vt_sm h0 (fn_X6_raiseFloor x0 x1 x2 x3 h) (ab_X6_raiseFloor x0 x1 x2 x3 (vt_ab h)) := by
  unfold fn_X6_raiseFloor ab_X6_raiseFloor
  obtain ⟨F, hF⟩ : ∃ F, sv_FP h = F := ⟨_, rfl⟩
  refine sm_kd w tx0 (by decide) ?_
  refine sm_gI w tx0 (by decide) (fun v1 => ?_)
  refine sm_let (fun _ => ?_)
  refine sm_if (fun _ => ?_) (fun _ => ?_)
  · exact sm_X6_raiseFloor_29 w tx0
  · refine sm_gI w tx0 (by decide) (fun v3 => ?_)
    refine sm_if (fun _ => ?_) (fun _ => ?_)
    · exact sm_X6_raiseFloor_29 w tx0
    · exact sm_rt w
theorem sm_X6_raiseFloor {x0 : Nat} {x1 : Int32} {x2 : Int32} {x3 : Int32} {h : sv_H} (g : vt_G h) (tx0 : sv_K h x0 = 7) : vt_sm h (fn_X6_raiseFloor x0 x1 x2 x3 h) (ab_X6_raiseFloor x0 x1 x2 x3 (vt_ab h)) := sm_X6_raiseFloor_0 ⟨g, vt_ko.refl h⟩ tx0

theorem sm_X6_tick_104 {h0 : sv_H} {h : sv_H} (w : vt_W h0 h) : vt_sm h0 (fn_X6_tick_104 h) (ab_X6_tick_104 (vt_ab h)) := by
  unfold fn_X6_tick_104 ab_X6_tick_104
  obtain ⟨F, hF⟩ : ∃ F, sv_FP h = F := ⟨_, rfl⟩
  exact sm_rt w
theorem sm_X6_tick_44 {h0 : sv_H} {x0 : Nat} {x1 : Int32} {h : sv_H} (w : vt_W h0 h) (tx0 : sv_K h0 x0 = 7) : vt_sm h0 (fn_X6_tick_44 x0 x1 h) (ab_X6_tick_44 x0 x1 (vt_ab h)) := by
  unfold fn_X6_tick_44 ab_X6_tick_44
  obtain ⟨F, hF⟩ : ∃ F, sv_FP h = F := ⟨_, rfl⟩
  refine sm_gI w tx0 (by decide) (fun v1 => ?_)
  refine sm_if (fun _ => ?_) (fun _ => ?_)
  · refine sm_cl w (sm_X6_closeDoor w.1 (w.k tx0 (by decide))) (fun _ h2 e w2 => ?_)
    have hF2 : sv_FP h2 = F := (ow_X6_closeDoor sv_clT trivial e).2.1.1.trans hF
    clear e w hF
    have hF := hF2
    have w := w2
    clear hF2 w2
    exact sm_X6_tick_104 w
  · refine sm_gI w tx0 (by decide) (fun v2 => ?_)
    refine sm_if (fun _ => ?_) (fun _ => ?_)
    · refine sm_gI w tx0 (by decide) (fun v3 => ?_)
      refine sm_if (fun _ => ?_) (fun _ => ?_)
      · refine sm_gI w tx0 (by decide) (fun v6 => ?_)
        refine sm_cl w (sm_X6_raiseFloor w.1 (w.k tx0 (by decide))) (fun _ h2 e w2 => ?_)
        have hF2 : sv_FP h2 = F := (ow_X6_raiseFloor sv_clT trivial e).2.1.1.trans hF
        clear e w hF
        have hF := hF2
        have w := w2
        clear hF2 w2
        exact sm_X6_tick_104 w
      · refine sm_gI w tx0 (by decide) (fun v4 => ?_)
        refine sm_cl w (sm_X6_raiseFloor w.1 (w.k tx0 (by decide))) (fun _ h2 e w2 => ?_)
        have hF2 : sv_FP h2 = F := (ow_X6_raiseFloor sv_clT trivial e).2.1.1.trans hF
        clear e w hF
        have hF := hF2
        have w := w2
        clear hF2 w2
        exact sm_X6_tick_104 w
    · refine sm_cl w (sm_X6_sinkLift w.1 (w.k tx0 (by decide))) (fun _ h2 e w2 => ?_)
      have hF2 : sv_FP h2 = F := (ow_X6_sinkLift sv_clT trivial e).2.1.1.trans hF
      clear e w hF
      have hF := hF2
      have w := w2
      clear hF2 w2
      exact sm_X6_tick_104 w
theorem sm_X6_tick_0 {h0 : sv_H} {x0 : Nat} {x1 : Int32} {h : sv_H} (w : vt_W h0 h) (tx0 : sv_K h0 x0 = 7) : vt_sm h0 (fn_X6_tick x0 x1 h) (ab_X6_tick x0 x1 (vt_ab h)) := by
  unfold fn_X6_tick ab_X6_tick
  obtain ⟨F, hF⟩ : ∃ F, sv_FP h = F := ⟨_, rfl⟩
  refine sm_kd w tx0 (by decide) ?_
  refine sm_gI w tx0 (by decide) (fun v1 => ?_)
  refine sm_if (fun _ => ?_) (fun _ => ?_)
  · exact sm_rt w
  · refine sm_gI w tx0 (by decide) (fun v2 => ?_)
    refine sm_if (fun _ => ?_) (fun _ => ?_)
    · refine sm_cl w (sm_X6_waitOn w.1 (w.k tx0 (by decide))) (fun _ h2 e w2 => ?_)
      have hF2 : sv_FP h2 = F := (ow_X6_waitOn sv_clT trivial e).2.1.1.trans hF
      clear e w hF
      have hF := hF2
      have w := w2
      clear hF2 w2
      exact sm_X6_tick_104 w
    · refine sm_gI w tx0 (by decide) (fun v3 => ?_)
      refine sm_if (fun _ => ?_) (fun _ => ?_)
      · refine sm_gI w tx0 (by decide) (fun v4 => ?_)
        refine sm_if (fun _ => ?_) (fun _ => ?_)
        · exact sm_X6_tick_44 w tx0
        · refine sm_cl w (sm_X6_openDoor w.1 (w.k tx0 (by decide))) (fun _ h2 e w2 => ?_)
          have hF2 : sv_FP h2 = F := (ow_X6_openDoor sv_clT trivial e).2.1.1.trans hF
          clear e w hF
          have hF := hF2
          have w := w2
          clear hF2 w2
          exact sm_X6_tick_104 w
      · exact sm_X6_tick_44 w tx0
theorem sm_X6_tick {x0 : Nat} {x1 : Int32} {h : sv_H} (g : vt_G h) (tx0 : sv_K h x0 = 7) : vt_sm h (fn_X6_tick x0 x1 h) (ab_X6_tick x0 x1 (vt_ab h)) := sm_X6_tick_0 ⟨g, vt_ko.refl h⟩ tx0

theorem sm_X2_tick_26 {h0 : sv_H} {k2 : Nat → Int32 → Int32 → sv_H → Option (Unit × sv_H)} {j2 : Nat → Int32 → Int32 → vt_S → Option (Unit × vt_S)} (hk2 : ∀ {x0 : Nat} {x1 : Int32} {x2 : Int32} {h : sv_H}, vt_W h0 h → sv_K h0 x0 = 3 → vt_sm h0 (k2 x0 x1 x2 h) (j2 x0 x1 x2 (vt_ab h))) {x0 : Nat} {x1 : Int32} {x2 : Int32} {s0 : Nat} {s1 : Int32} {h : sv_H} (w : vt_W h0 h) (tx0 : sv_K h0 x0 = 3) (ts0 : sv_K h0 s0 = 7) : vt_sm h0 (fn_X2_tick_26 k2 x0 x1 x2 s0 s1 h) (ab_X2_tick_26 j2 x0 x1 x2 s0 s1 (vt_ab h)) := by
  unfold fn_X2_tick_26 ab_X2_tick_26
  obtain ⟨F, hF⟩ : ∃ F, sv_FP h = F := ⟨_, rfl⟩
  refine sm_cl w (sm_X6_tick w.1 (w.k ts0 (by decide))) (fun _ h2 e w2 => ?_)
  have hF2 : sv_FP h2 = F := (ow_X6_tick sv_clT trivial e).2.1.1.trans hF
  clear e w hF
  have hF := hF2
  have w := w2
  clear hF2 w2
  exact hk2 w tx0
theorem sm_X2_tick_2b {h0 : sv_H} {k2 : Nat → Int32 → Int32 → sv_H → Option (Unit × sv_H)} {j2 : Nat → Int32 → Int32 → vt_S → Option (Unit × vt_S)} (hk2 : ∀ {x0 : Nat} {x1 : Int32} {x2 : Int32} {h : sv_H}, vt_W h0 h → sv_K h0 x0 = 3 → vt_sm h0 (k2 x0 x1 x2 h) (j2 x0 x1 x2 (vt_ab h))) {x0 : Nat} {x1 : Int32} {x2 : Int32} {h : sv_H} (w : vt_W h0 h) (tx0 : sv_K h0 x0 = 3) : vt_sm h0 (fn_X2_tick_2b k2 x0 x1 x2 h) (ab_X2_tick_2b j2 x0 x1 x2 (vt_ab h)) := by
  unfold fn_X2_tick_2b ab_X2_tick_2b
  obtain ⟨F, hF⟩ : ∃ F, sv_FP h = F := ⟨_, rfl⟩
  refine sm_gI w tx0 (by decide) (fun v1 => ?_)
  refine sm_if (fun _ => ?_) (fun _ => ?_)
  · exact sm_rt w
  · refine sm_gA w hF tx0 tk_307 (by decide) (fun v2 av2 => ?_)
    refine sm_lP (c := 7) w hF tx0 av2 tk_307 (by decide) (fun v3 tv3 => ?_)
    refine sm_if (fun _ => ?_) (fun _ => ?_)
    · exact sm_X2_tick_26 (k2 := k2) (j2 := j2) hk2 w tx0 tv3
    · exact sm_X2_tick_26 (k2 := k2) (j2 := j2) hk2 w tx0 tv3
theorem sm_X2_tick_2 {h0 : sv_H} : ∀ (n : Nat) {x0 : Nat} {x1 : Int32} {x2 : Int32} {h : sv_H}, vt_W h0 h → sv_K h0 x0 = 3 → vt_sm h0 (fn_X2_tick_2 n x0 x1 x2 h) (ab_X2_tick_2 n x0 x1 x2 (vt_ab h)) := by
  intro n
  induction n with
  | zero => intro x0 x1 x2 h w tx0; exact sm_no
  | succ n ih => intro x0 x1 x2 h w tx0; exact sm_X2_tick_2b (k2 := fn_X2_tick_2 n) (j2 := ab_X2_tick_2 n) (fun w tx0 => ih w tx0) w tx0
theorem sm_X2_tick_0 {h0 : sv_H} {x0 : Nat} {x1 : Int32} {h : sv_H} (w : vt_W h0 h) (tx0 : sv_K h0 x0 = 3) : vt_sm h0 (fn_X2_tick x0 x1 h) (ab_X2_tick x0 x1 (vt_ab h)) := by
  unfold fn_X2_tick ab_X2_tick
  obtain ⟨F, hF⟩ : ∃ F, sv_FP h = F := ⟨_, rfl⟩
  refine sm_kd w tx0 (by decide) ?_
  exact sm_X2_tick_2 sv_fuel w tx0
theorem sm_X2_tick {x0 : Nat} {x1 : Int32} {h : sv_H} (g : vt_G h) (tx0 : sv_K h x0 = 3) : vt_sm h (fn_X2_tick x0 x1 h) (ab_X2_tick x0 x1 (vt_ab h)) := sm_X2_tick_0 ⟨g, vt_ko.refl h⟩ tx0

theorem sm_X10_step_124 {h0 : sv_H} {x0 : Nat} {x8 : Int32} {h : sv_H} (w : vt_W h0 h) (tx0 : sv_K h0 x0 = 11) : vt_sm h0 (fn_X10_step_124 x0 x8 h) (ab_X10_step_124 x0 x8 (vt_ab h)) := by
  unfold fn_X10_step_124 ab_X10_step_124
  obtain ⟨F, hF⟩ : ∃ F, sv_FP h = F := ⟨_, rfl⟩
  refine sm_gI w tx0 (by decide) (fun v1 => ?_)
  refine sm_pI w hF tx0 (by decide) (fun h w hF => ?_)
  refine sm_gP w tx0 tk_1101 rfl (fun v3 tv3 => ?_)
  refine sm_gI w tx0 (by decide) (fun v4 => ?_)
  refine sm_cl w (sm_X2_tick w.1 (w.k tv3 (by decide))) (fun _ h2 e w2 => ?_)
  have hF2 : sv_FP h2 = F := (ow_X2_tick sv_clT trivial e).2.1.1.trans hF
  clear e w hF
  have hF := hF2
  have w := w2
  clear hF2 w2
  exact sm_rt w
theorem sm_X10_step_111 {h0 : sv_H} {x0 : Nat} {x1 : Int32} {x2 : Int32} {x3 : Int32} {x8 : Int32} {h : sv_H} (w : vt_W h0 h) (tx0 : sv_K h0 x0 = 11) : vt_sm h0 (fn_X10_step_111 x0 x1 x2 x3 x8 h) (ab_X10_step_111 x0 x1 x2 x3 x8 (vt_ab h)) := by
  unfold fn_X10_step_111 ab_X10_step_111
  obtain ⟨F, hF⟩ : ∃ F, sv_FP h = F := ⟨_, rfl⟩
  refine sm_cl w (sm_X5_usesOf w.1) (fun r1 h2 e w2 => ?_)
  have hF2 : sv_FP h2 = F := by rw [ro_X5_usesOf e]; exact hF
  clear e w hF
  have hF := hF2
  have w := w2
  clear hF2 w2
  refine sm_if (fun _ => ?_) (fun _ => ?_)
  · exact sm_X10_step_124 w tx0
  · refine sm_cl w (sm_X10_use w.1 (w.k tx0 (by decide))) (fun _ h2 e w2 => ?_)
    have hF2 : sv_FP h2 = F := (ow_X10_use sv_clT trivial e).2.1.1.trans hF
    clear e w hF
    have hF := hF2
    have w := w2
    clear hF2 w2
    exact sm_X10_step_124 w tx0
theorem sm_X10_step_109 {h0 : sv_H} {x0 : Nat} {x1 : Int32} {x2 : Int32} {x3 : Int32} {s0 : Int32} {h : sv_H} (w : vt_W h0 h) (tx0 : sv_K h0 x0 = 11) : vt_sm h0 (fn_X10_step_109 x0 x1 x2 x3 s0 h) (ab_X10_step_109 x0 x1 x2 x3 s0 (vt_ab h)) := by
  unfold fn_X10_step_109 ab_X10_step_109
  obtain ⟨F, hF⟩ : ∃ F, sv_FP h = F := ⟨_, rfl⟩
  exact sm_X10_step_111 w tx0
theorem sm_X10_step_93 {h0 : sv_H} {x0 : Nat} {x1 : Int32} {x2 : Int32} {x3 : Int32} {x6 : Int32} {x7 : Int32} {h : sv_H} (w : vt_W h0 h) (tx0 : sv_K h0 x0 = 11) : vt_sm h0 (fn_X10_step_93 x0 x1 x2 x3 x6 x7 h) (ab_X10_step_93 x0 x1 x2 x3 x6 x7 (vt_ab h)) := by
  unfold fn_X10_step_93 ab_X10_step_93
  obtain ⟨F, hF⟩ : ∃ F, sv_FP h = F := ⟨_, rfl⟩
  refine sm_cl w (sm_X10_go w.1 (w.k tx0 (by decide))) (fun r1 h2 e w2 => ?_)
  have hF2 : sv_FP h2 = F := (ow_X10_go sv_clT trivial e).2.1.1.trans hF
  clear e w hF
  have hF := hF2
  have w := w2
  clear hF2 w2
  refine sm_if (fun _ => ?_) (fun _ => ?_)
  · exact sm_X10_step_109 w tx0
  · exact sm_X10_step_109 w tx0
theorem sm_X10_step_0 {h0 : sv_H} {x0 : Nat} {x1 : Int32} {h : sv_H} (w : vt_W h0 h) (tx0 : sv_K h0 x0 = 11) : vt_sm h0 (fn_X10_step x0 x1 h) (ab_X10_step x0 x1 (vt_ab h)) := by
  unfold fn_X10_step ab_X10_step
  obtain ⟨F, hF⟩ : ∃ F, sv_FP h = F := ⟨_, rfl⟩
  refine sm_kd w tx0 (by decide) ?_
  refine sm_gI w tx0 (by decide) (fun v1 => ?_)
  refine sm_cl w (sm_X5_turnOf w.1) (fun r2 h2 e w2 => ?_)
  have hF2 : sv_FP h2 = F := by rw [ro_X5_turnOf e]; exact hF
  clear e w hF
  have hF := hF2
  have w := w2
  clear hF2 w2
  refine sm_cl w (sm_J9_floorMod_7cf53 w.1) (fun r4 h2 e w2 => ?_)
  have hF2 : sv_FP h2 = F := by rw [ro_J9_floorMod_7cf53 e]; exact hF
  clear e w hF
  have hF := hF2
  have w := w2
  clear hF2 w2
  refine sm_pI w hF tx0 (by decide) (fun h w hF => ?_)
  refine sm_gI w tx0 (by decide) (fun v7 => ?_)
  refine sm_cl w (sm_X12_cosine w.1) (fun r8 h2 e w2 => ?_)
  have hF2 : sv_FP h2 = F := by rw [ro_X12_cosine e]; exact hF
  clear e w hF
  have hF := hF2
  have w := w2
  clear hF2 w2
  refine sm_gI w tx0 (by decide) (fun v10 => ?_)
  refine sm_cl w (sm_X12_sine w.1) (fun r11 h2 e w2 => ?_)
  have hF2 : sv_FP h2 = F := by rw [ro_X12_sine e]; exact hF
  clear e w hF
  have hF := hF2
  have w := w2
  clear hF2 w2
  refine sm_cl w (sm_X5_aheadOf w.1) (fun r13 h2 e w2 => ?_)
  have hF2 : sv_FP h2 = F := by rw [ro_X5_aheadOf e]; exact hF
  clear e w hF
  have hF := hF2
  have w := w2
  clear hF2 w2
  refine sm_cl w (sm_X5_asideOf w.1) (fun r15 h2 e w2 => ?_)
  have hF2 : sv_FP h2 = F := by rw [ro_X5_asideOf e]; exact hF
  clear e w hF
  have hF := hF2
  have w := w2
  clear hF2 w2
  refine sm_cl w (sm_J9_floorDiv_7cf53 w.1) (fun r17 h2 e w2 => ?_)
  have hF2 : sv_FP h2 = F := by rw [ro_J9_floorDiv_7cf53 e]; exact hF
  clear e w hF
  have hF := hF2
  have w := w2
  clear hF2 w2
  refine sm_cl w (sm_J9_floorDiv_7cf53 w.1) (fun r19 h2 e w2 => ?_)
  have hF2 : sv_FP h2 = F := by rw [ro_J9_floorDiv_7cf53 e]; exact hF
  clear e w hF
  have hF := hF2
  have w := w2
  clear hF2 w2
  refine sm_if (fun _ => ?_) (fun _ => ?_)
  · refine sm_if (fun _ => ?_) (fun _ => ?_)
    · exact sm_X10_step_111 w tx0
    · exact sm_X10_step_93 w tx0
  · exact sm_X10_step_93 w tx0
theorem sm_X10_step {x0 : Nat} {x1 : Int32} {h : sv_H} (g : vt_G h) (tx0 : sv_K h x0 = 11) : vt_sm h (fn_X10_step x0 x1 h) (ab_X10_step x0 x1 (vt_ab h)) := sm_X10_step_0 ⟨g, vt_ko.refl h⟩ tx0

theorem sm_X12_playTo_22 {h0 : sv_H} {h : sv_H} (w : vt_W h0 h) : vt_sm h0 (fn_X12_playTo_22 h) (ab_X12_playTo_22 (vt_ab h)) := by
  unfold fn_X12_playTo_22 ab_X12_playTo_22
  obtain ⟨F, hF⟩ : ∃ F, sv_FP h = F := ⟨_, rfl⟩
  exact sm_rt w
theorem sm_X12_playTo_74 {h0 : sv_H} {k46 : Nat → Int32 → Int32 → Int32 → sv_H → Option (Int32 × sv_H)} {j46 : Nat → Int32 → Int32 → Int32 → vt_S → Option (Int32 × vt_S)} (hk46 : ∀ {x0 : Nat} {x1 : Int32} {x2 : Int32} {x3 : Int32} {h : sv_H}, vt_W h0 h → sv_K h0 x0 = 13 → vt_sm h0 (k46 x0 x1 x2 x3 h) (j46 x0 x1 x2 x3 (vt_ab h))) {x0 : Nat} {x1 : Int32} {x2 : Int32} {x3 : Int32} {h : sv_H} (w : vt_W h0 h) (tx0 : sv_K h0 x0 = 13) : vt_sm h0 (fn_X12_playTo_74 k46 x0 x1 x2 x3 h) (ab_X12_playTo_74 j46 x0 x1 x2 x3 (vt_ab h)) := by
  unfold fn_X12_playTo_74 ab_X12_playTo_74
  obtain ⟨F, hF⟩ : ∃ F, sv_FP h = F := ⟨_, rfl⟩
  exact hk46 w tx0
theorem sm_X12_playTo_46b {h0 : sv_H} {k46 : Nat → Int32 → Int32 → Int32 → sv_H → Option (Int32 × sv_H)} {j46 : Nat → Int32 → Int32 → Int32 → vt_S → Option (Int32 × vt_S)} (hk46 : ∀ {x0 : Nat} {x1 : Int32} {x2 : Int32} {x3 : Int32} {h : sv_H}, vt_W h0 h → sv_K h0 x0 = 13 → vt_sm h0 (k46 x0 x1 x2 x3 h) (j46 x0 x1 x2 x3 (vt_ab h))) {x0 : Nat} {x1 : Int32} {x2 : Int32} {x3 : Int32} {h : sv_H} (w : vt_W h0 h) (tx0 : sv_K h0 x0 = 13) : vt_sm h0 (fn_X12_playTo_46b k46 x0 x1 x2 x3 h) (ab_X12_playTo_46b j46 x0 x1 x2 x3 (vt_ab h)) := by
  unfold fn_X12_playTo_46b ab_X12_playTo_46b
  obtain ⟨F, hF⟩ : ∃ F, sv_FP h = F := ⟨_, rfl⟩
  refine sm_if (fun _ => ?_) (fun _ => ?_)
  · exact sm_rt w
  · refine sm_gP w tx0 tk_1304 rfl (fun v1 tv1 => ?_)
    refine sm_gP w tx0 tk_1308 rfl (fun v2 tv2 => ?_)
    refine sm_gA w hF tv2 tk_601 (by decide) (fun v3 av3 => ?_)
    refine sm_lI w hF tv2 av3 tk_601 (fun _ => ?_)
    refine sm_cl w (sm_X10_step w.1 (w.k tv1 (by decide))) (fun r5 h2 e w2 => ?_)
    have hF2 : sv_FP h2 = F := (ow_X10_step sv_clT trivial e).2.1.1.trans hF
    clear e w hF
    have hF := hF2
    have w := w2
    clear hF2 w2
    refine sm_if (fun _ => ?_) (fun _ => ?_)
    · exact sm_X12_playTo_74 (k46 := k46) (j46 := j46) hk46 w tx0
    · exact sm_X12_playTo_74 (k46 := k46) (j46 := j46) hk46 w tx0
theorem sm_X12_playTo_46 {h0 : sv_H} : ∀ (n : Nat) {x0 : Nat} {x1 : Int32} {x2 : Int32} {x3 : Int32} {h : sv_H}, vt_W h0 h → sv_K h0 x0 = 13 → vt_sm h0 (fn_X12_playTo_46 n x0 x1 x2 x3 h) (ab_X12_playTo_46 n x0 x1 x2 x3 (vt_ab h)) := by
  intro n
  induction n with
  | zero => intro x0 x1 x2 x3 h w tx0; exact sm_no
  | succ n ih => intro x0 x1 x2 x3 h w tx0; exact sm_X12_playTo_46b (k46 := fn_X12_playTo_46 n) (j46 := ab_X12_playTo_46 n) (fun w tx0 => ih w tx0) w tx0
theorem sm_X12_playTo_0 {h0 : sv_H} {x0 : Nat} {x1 : Int32} {h : sv_H} (w : vt_W h0 h) (tx0 : sv_K h0 x0 = 13) : vt_sm h0 (fn_X12_playTo x0 x1 h) (ab_X12_playTo x0 x1 (vt_ab h)) := by
  unfold fn_X12_playTo ab_X12_playTo
  obtain ⟨F, hF⟩ : ∃ F, sv_FP h = F := ⟨_, rfl⟩
  refine sm_kd w tx0 (by decide) ?_
  refine sm_cl w (sm_X12_hasMap w.1 (w.k tx0 (by decide))) (fun r1 h2 e w2 => ?_)
  have hF2 : sv_FP h2 = F := by rw [ro_X12_hasMap e]; exact hF
  clear e w hF
  have hF := hF2
  have w := w2
  clear hF2 w2
  refine sm_if (fun _ => ?_) (fun _ => ?_)
  · exact sm_X12_playTo_22 w
  · refine sm_if (fun _ => ?_) (fun _ => ?_)
    · exact sm_X12_playTo_22 w
    · refine sm_gP w tx0 tk_1308 rfl (fun v3 tv3 => ?_)
      refine sm_gI w tv3 (by decide) (fun v4 => ?_)
      refine sm_if (fun _ => ?_) (fun _ => ?_)
      · refine sm_gP w tx0 tk_1304 rfl (fun v5 tv5 => ?_)
        refine sm_gP w tx0 tk_1306 rfl (fun v6 tv6 => ?_)
        refine sm_gP w tx0 tk_1308 rfl (fun v7 tv7 => ?_)
        refine sm_gP w tv7 tk_600 rfl (fun v8 tv8 => ?_)
        refine sm_cl w (sm_X10_begin w.1 (w.k tv5 (by decide)) (w.k tv6 (by decide)) (w.k tv8 (by decide))) (fun _ h2 e w2 => ?_)
        obtain ⟨F, hF2⟩ : ∃ F, sv_FP h2 = F := ⟨_, rfl⟩
        clear e w hF
        have hF := hF2
        have w := w2
        clear hF2 w2
        exact sm_X12_playTo_46 sv_fuel w tx0
      · exact sm_X12_playTo_22 w
theorem sm_X12_playTo {x0 : Nat} {x1 : Int32} {h : sv_H} (g : vt_G h) (tx0 : sv_K h x0 = 13) : vt_sm h (fn_X12_playTo x0 x1 h) (ab_X12_playTo x0 x1 (vt_ab h)) := sm_X12_playTo_0 ⟨g, vt_ko.refl h⟩ tx0

theorem sm_X17_quarter_0 {h0 : sv_H} {x0 : Int32} {h : sv_H} (w : vt_W h0 h) : vt_sm h0 (fn_X17_quarter x0 h) (ab_X17_quarter x0 (vt_ab h)) := by
  unfold fn_X17_quarter ab_X17_quarter
  obtain ⟨F, hF⟩ : ∃ F, sv_FP h = F := ⟨_, rfl⟩
  refine sm_if (fun _ => ?_) (fun _ => ?_)
  · exact sm_rt w
  refine sm_if (fun _ => ?_) (fun _ => ?_)
  · exact sm_rt w
  refine sm_if (fun _ => ?_) (fun _ => ?_)
  · exact sm_rt w
  refine sm_if (fun _ => ?_) (fun _ => ?_)
  · exact sm_rt w
  refine sm_if (fun _ => ?_) (fun _ => ?_)
  · exact sm_rt w
  refine sm_if (fun _ => ?_) (fun _ => ?_)
  · exact sm_rt w
  refine sm_if (fun _ => ?_) (fun _ => ?_)
  · exact sm_rt w
  refine sm_if (fun _ => ?_) (fun _ => ?_)
  · exact sm_rt w
  refine sm_if (fun _ => ?_) (fun _ => ?_)
  · exact sm_rt w
  refine sm_if (fun _ => ?_) (fun _ => ?_)
  · exact sm_rt w
  refine sm_if (fun _ => ?_) (fun _ => ?_)
  · exact sm_rt w
  refine sm_if (fun _ => ?_) (fun _ => ?_)
  · exact sm_rt w
  refine sm_if (fun _ => ?_) (fun _ => ?_)
  · exact sm_rt w
  refine sm_if (fun _ => ?_) (fun _ => ?_)
  · exact sm_rt w
  refine sm_if (fun _ => ?_) (fun _ => ?_)
  · exact sm_rt w
  refine sm_if (fun _ => ?_) (fun _ => ?_)
  · exact sm_rt w
  exact sm_rt w
theorem sm_X17_quarter {x0 : Int32} {h : sv_H} (g : vt_G h) : vt_sm h (fn_X17_quarter x0 h) (ab_X17_quarter x0 (vt_ab h)) := sm_X17_quarter_0 ⟨g, vt_ko.refl h⟩

theorem sm_X17_cosine_65 {h0 : sv_H} {s0 : Int32} {h : sv_H} (w : vt_W h0 h) : vt_sm h0 (fn_X17_cosine_65 s0 h) (ab_X17_cosine_65 s0 (vt_ab h)) := by
  unfold fn_X17_cosine_65 ab_X17_cosine_65
  obtain ⟨F, hF⟩ : ∃ F, sv_FP h = F := ⟨_, rfl⟩
  exact sm_rt w
theorem sm_X17_cosine_0 {h0 : sv_H} {x0 : Int32} {h : sv_H} (w : vt_W h0 h) : vt_sm h0 (fn_X17_cosine x0 h) (ab_X17_cosine x0 (vt_ab h)) := by
  unfold fn_X17_cosine ab_X17_cosine
  obtain ⟨F, hF⟩ : ∃ F, sv_FP h = F := ⟨_, rfl⟩
  refine sm_if (fun _ => ?_) (fun _ => ?_)
  · refine sm_if (fun _ => ?_) (fun _ => ?_)
    · refine sm_if (fun _ => ?_) (fun _ => ?_)
      · refine sm_cl w (sm_X17_quarter w.1) (fun r1 h2 e w2 => ?_)
        have hF2 : sv_FP h2 = F := by rw [ro_X17_quarter e]; exact hF
        clear e w hF
        have hF := hF2
        have w := w2
        clear hF2 w2
        exact sm_X17_cosine_65 w
      · refine sm_cl w (sm_X17_quarter w.1) (fun r3 h2 e w2 => ?_)
        have hF2 : sv_FP h2 = F := by rw [ro_X17_quarter e]; exact hF
        clear e w hF
        have hF := hF2
        have w := w2
        clear hF2 w2
        exact sm_X17_cosine_65 w
    · refine sm_cl w (sm_X17_quarter w.1) (fun r5 h2 e w2 => ?_)
      have hF2 : sv_FP h2 = F := by rw [ro_X17_quarter e]; exact hF
      clear e w hF
      have hF := hF2
      have w := w2
      clear hF2 w2
      exact sm_X17_cosine_65 w
  · refine sm_cl w (sm_X17_quarter w.1) (fun r7 h2 e w2 => ?_)
    have hF2 : sv_FP h2 = F := by rw [ro_X17_quarter e]; exact hF
    clear e w hF
    have hF := hF2
    have w := w2
    clear hF2 w2
    exact sm_X17_cosine_65 w
theorem sm_X17_cosine {x0 : Int32} {h : sv_H} (g : vt_G h) : vt_sm h (fn_X17_cosine x0 h) (ab_X17_cosine x0 (vt_ab h)) := sm_X17_cosine_0 ⟨g, vt_ko.refl h⟩

theorem sm_X17_sine_0 {h0 : sv_H} {x0 : Int32} {h : sv_H} (w : vt_W h0 h) : vt_sm h0 (fn_X17_sine x0 h) (ab_X17_sine x0 (vt_ab h)) := by
  unfold fn_X17_sine ab_X17_sine
  obtain ⟨F, hF⟩ : ∃ F, sv_FP h = F := ⟨_, rfl⟩
  refine sm_cl w (sm_X17_cosine w.1) (fun r1 h2 e w2 => ?_)
  have hF2 : sv_FP h2 = F := by rw [ro_X17_cosine e]; exact hF
  clear e w hF
  have hF := hF2
  have w := w2
  clear hF2 w2
  exact sm_rt w
theorem sm_X17_sine {x0 : Int32} {h : sv_H} (g : vt_G h) : vt_sm h (fn_X17_sine x0 h) (ab_X17_sine x0 (vt_ab h)) := sm_X17_sine_0 ⟨g, vt_ko.refl h⟩

theorem sm_X17_down_47 {h0 : sv_H} {s0 : Int64} {h : sv_H} (w : vt_W h0 h) : vt_sm h0 (fn_X17_down_47 s0 h) (ab_X17_down_47 s0 (vt_ab h)) := by
  unfold fn_X17_down_47 ab_X17_down_47
  obtain ⟨F, hF⟩ : ∃ F, sv_FP h = F := ⟨_, rfl⟩
  exact sm_rt w
theorem sm_X17_down_45 {h0 : sv_H} {x4 : Int64} {h : sv_H} (w : vt_W h0 h) : vt_sm h0 (fn_X17_down_45 x4 h) (ab_X17_down_45 x4 (vt_ab h)) := by
  unfold fn_X17_down_45 ab_X17_down_45
  obtain ⟨F, hF⟩ : ∃ F, sv_FP h = F := ⟨_, rfl⟩
  exact sm_X17_down_47 w
theorem sm_X17_down_35 {h0 : sv_H} {x4 : Int64} {s0 : Int32} {s1 : Int32} {h : sv_H} (w : vt_W h0 h) : vt_sm h0 (fn_X17_down_35 x4 s0 s1 h) (ab_X17_down_35 x4 s0 s1 (vt_ab h)) := by
  unfold fn_X17_down_35 ab_X17_down_35
  obtain ⟨F, hF⟩ : ∃ F, sv_FP h = F := ⟨_, rfl⟩
  refine sm_if (fun _ => ?_) (fun _ => ?_)
  · exact sm_X17_down_45 w
  · exact sm_X17_down_47 w
theorem sm_X17_down_24 {h0 : sv_H} {x2 : Int64} {x4 : Int64} {s0 : Int32} {h : sv_H} (w : vt_W h0 h) : vt_sm h0 (fn_X17_down_24 x2 x4 s0 h) (ab_X17_down_24 x2 x4 s0 (vt_ab h)) := by
  unfold fn_X17_down_24 ab_X17_down_24
  obtain ⟨F, hF⟩ : ∃ F, sv_FP h = F := ⟨_, rfl⟩
  refine sm_if (fun _ => ?_) (fun _ => ?_)
  · exact sm_X17_down_35 w
  · exact sm_X17_down_35 w
theorem sm_X17_down_0 {h0 : sv_H} {x0 : Int64} {x2 : Int64} {h : sv_H} (w : vt_W h0 h) : vt_sm h0 (fn_X17_down x0 x2 h) (ab_X17_down x0 x2 (vt_ab h)) := by
  unfold fn_X17_down ab_X17_down
  obtain ⟨F, hF⟩ : ∃ F, sv_FP h = F := ⟨_, rfl⟩
  refine sm_if (fun _ => sm_no) (fun _ => ?_)
  refine sm_if (fun _ => sm_no) (fun _ => ?_)
  refine sm_if (fun _ => ?_) (fun _ => ?_)
  · exact sm_X17_down_45 w
  · refine sm_if (fun _ => ?_) (fun _ => ?_)
    · exact sm_X17_down_24 w
    · exact sm_X17_down_24 w
theorem sm_X17_down {x0 : Int64} {x2 : Int64} {h : sv_H} (g : vt_G h) : vt_sm h (fn_X17_down x0 x2 h) (ab_X17_down x0 x2 (vt_ab h)) := sm_X17_down_0 ⟨g, vt_ko.refl h⟩

theorem sm_X17_cross_0 {h0 : sv_H} {x0 : Int64} {x2 : Int64} {x4 : Int64} {x6 : Int64} {h : sv_H} (w : vt_W h0 h) : vt_sm h0 (fn_X17_cross x0 x2 x4 x6 h) (ab_X17_cross x0 x2 x4 x6 (vt_ab h)) := by
  unfold fn_X17_cross ab_X17_cross
  obtain ⟨F, hF⟩ : ∃ F, sv_FP h = F := ⟨_, rfl⟩
  exact sm_rt w
theorem sm_X17_cross {x0 : Int64} {x2 : Int64} {x4 : Int64} {x6 : Int64} {h : sv_H} (g : vt_G h) : vt_sm h (fn_X17_cross x0 x2 x4 x6 h) (ab_X17_cross x0 x2 x4 x6 (vt_ab h)) := sm_X17_cross_0 ⟨g, vt_ko.refl h⟩

theorem sm_X17_meets_242 {h0 : sv_H} {s0 : Int32} {h : sv_H} (w : vt_W h0 h) : vt_sm h0 (fn_X17_meets_242 s0 h) (ab_X17_meets_242 s0 (vt_ab h)) := by
  unfold fn_X17_meets_242 ab_X17_meets_242
  obtain ⟨F, hF⟩ : ∃ F, sv_FP h = F := ⟨_, rfl⟩
  exact sm_rz w
theorem sm_X17_meets_241 {h0 : sv_H} {h : sv_H} (w : vt_W h0 h) : vt_sm h0 (fn_X17_meets_241 h) (ab_X17_meets_241 (vt_ab h)) := by
  unfold fn_X17_meets_241 ab_X17_meets_241
  obtain ⟨F, hF⟩ : ∃ F, sv_FP h = F := ⟨_, rfl⟩
  exact sm_X17_meets_242 w
theorem sm_X17_meets_225 {h0 : sv_H} {x0 : Nat} {s0 : Int32} {s1 : Int32} {h : sv_H} (w : vt_W h0 h) (tx0 : sv_K h0 x0 = 18) : vt_sm h0 (fn_X17_meets_225 x0 s0 s1 h) (ab_X17_meets_225 x0 s0 s1 (vt_ab h)) := by
  unfold fn_X17_meets_225 ab_X17_meets_225
  obtain ⟨F, hF⟩ : ∃ F, sv_FP h = F := ⟨_, rfl⟩
  refine sm_if (fun _ => ?_) (fun _ => ?_)
  · exact sm_X17_meets_241 w
  · refine sm_gJ w tx0 (by decide) (fun v1 => ?_)
    refine sm_if (fun _ => ?_) (fun _ => ?_)
    · exact sm_X17_meets_241 w
    · exact sm_X17_meets_242 w
theorem sm_X17_meets_211 {h0 : sv_H} {x0 : Nat} {s0 : Int32} {h : sv_H} (w : vt_W h0 h) (tx0 : sv_K h0 x0 = 18) : vt_sm h0 (fn_X17_meets_211 x0 s0 h) (ab_X17_meets_211 x0 s0 (vt_ab h)) := by
  unfold fn_X17_meets_211 ab_X17_meets_211
  obtain ⟨F, hF⟩ : ∃ F, sv_FP h = F := ⟨_, rfl⟩
  refine sm_gJ w tx0 (by decide) (fun v1 => ?_)
  refine sm_if (fun _ => ?_) (fun _ => ?_)
  · exact sm_X17_meets_225 w tx0
  · exact sm_X17_meets_225 w tx0
theorem sm_X17_meets_197 {h0 : sv_H} {x0 : Nat} {h : sv_H} (w : vt_W h0 h) (tx0 : sv_K h0 x0 = 18) : vt_sm h0 (fn_X17_meets_197 x0 h) (ab_X17_meets_197 x0 (vt_ab h)) := by
  unfold fn_X17_meets_197 ab_X17_meets_197
  obtain ⟨F, hF⟩ : ∃ F, sv_FP h = F := ⟨_, rfl⟩
  refine sm_gJ w tx0 (by decide) (fun v1 => ?_)
  refine sm_if (fun _ => ?_) (fun _ => ?_)
  · exact sm_X17_meets_211 w tx0
  · exact sm_X17_meets_211 w tx0
theorem sm_X17_meets_167 {h0 : sv_H} {x0 : Nat} {s0 : Nat} {s1 : Int32} {h : sv_H} (w : vt_W h0 h) (tx0 : sv_K h0 x0 = 18) (ts0 : sv_K h0 s0 = 18) : vt_sm h0 (fn_X17_meets_167 x0 s0 s1 h) (ab_X17_meets_167 x0 s0 s1 (vt_ab h)) := by
  unfold fn_X17_meets_167 ab_X17_meets_167
  obtain ⟨F, hF⟩ : ∃ F, sv_FP h = F := ⟨_, rfl⟩
  refine sm_pZ w hF ts0 (by decide) (fun h w hF => ?_)
  refine sm_gJ w tx0 (by decide) (fun v2 => ?_)
  refine sm_if (fun _ => ?_) (fun _ => ?_)
  · exact sm_X17_meets_197 w tx0
  · refine sm_gJ w tx0 (by decide) (fun v3 => ?_)
    refine sm_pJ w hF tx0 (by decide) (fun h w hF => ?_)
    refine sm_gJ w tx0 (by decide) (fun v5 => ?_)
    refine sm_pJ w hF tx0 (by decide) (fun h w hF => ?_)
    exact sm_X17_meets_197 w tx0
theorem sm_X17_meets_0 {h0 : sv_H} {x0 : Nat} {x1 : Int32} {h : sv_H} (w : vt_W h0 h) (tx0 : sv_K h0 x0 = 18) : vt_sm h0 (fn_X17_meets x0 x1 h) (ab_X17_meets x0 x1 (vt_ab h)) := by
  unfold fn_X17_meets ab_X17_meets
  obtain ⟨F, hF⟩ : ∃ F, sv_FP h = F := ⟨_, rfl⟩
  refine sm_kd w tx0 (by decide) ?_
  refine sm_gP w tx0 tk_1804 rfl (fun v1 tv1 => ?_)
  refine sm_gA w hF tv1 tk_1701 (by decide) (fun v2 av2 => ?_)
  refine sm_lI w hF tv1 av2 tk_1701 (fun _ => ?_)
  refine sm_gP w tx0 tk_1804 rfl (fun v4 tv4 => ?_)
  refine sm_gA w hF tv4 tk_1702 (by decide) (fun v5 av5 => ?_)
  refine sm_lI w hF tv4 av5 tk_1702 (fun _ => ?_)
  refine sm_gP w tx0 tk_1804 rfl (fun v7 tv7 => ?_)
  refine sm_gA w hF tv7 tk_1703 (by decide) (fun v8 av8 => ?_)
  refine sm_lI w hF tv7 av8 tk_1703 (fun _ => ?_)
  refine sm_gP w tx0 tk_1804 rfl (fun v10 tv10 => ?_)
  refine sm_gA w hF tv10 tk_1704 (by decide) (fun v11 av11 => ?_)
  refine sm_lI w hF tv10 av11 tk_1704 (fun _ => ?_)
  refine sm_gJ w tx0 (by decide) (fun v13 => ?_)
  refine sm_gJ w tx0 (by decide) (fun v14 => ?_)
  refine sm_gI w tx0 (by decide) (fun v15 => ?_)
  refine sm_gI w tx0 (by decide) (fun v16 => ?_)
  refine sm_cl w (sm_X17_cross w.1) (fun r17 h2 e w2 => ?_)
  have hF2 : sv_FP h2 = F := by rw [ro_X17_cross e]; exact hF
  clear e w hF
  have hF := hF2
  have w := w2
  clear hF2 w2
  refine sm_pJ w hF tx0 (by decide) (fun h w hF => ?_)
  refine sm_gJ w tx0 (by decide) (fun v20 => ?_)
  refine sm_gJ w tx0 (by decide) (fun v21 => ?_)
  refine sm_gI w tx0 (by decide) (fun v22 => ?_)
  refine sm_gI w tx0 (by decide) (fun v23 => ?_)
  refine sm_cl w (sm_X17_cross w.1) (fun r24 h2 e w2 => ?_)
  have hF2 : sv_FP h2 = F := by rw [ro_X17_cross e]; exact hF
  clear e w hF
  have hF := hF2
  have w := w2
  clear hF2 w2
  refine sm_pJ w hF tx0 (by decide) (fun h w hF => ?_)
  refine sm_gI w tx0 (by decide) (fun v27 => ?_)
  refine sm_gI w tx0 (by decide) (fun v28 => ?_)
  refine sm_cl w (sm_X17_cross w.1) (fun r29 h2 e w2 => ?_)
  have hF2 : sv_FP h2 = F := by rw [ro_X17_cross e]; exact hF
  clear e w hF
  have hF := hF2
  have w := w2
  clear hF2 w2
  refine sm_pJ w hF tx0 (by decide) (fun h w hF => ?_)
  refine sm_gJ w tx0 (by decide) (fun v32 => ?_)
  refine sm_gJ w tx0 (by decide) (fun v33 => ?_)
  refine sm_pJ w hF tx0 (by decide) (fun h w hF => ?_)
  refine sm_gJ w tx0 (by decide) (fun v35 => ?_)
  refine sm_if (fun _ => ?_) (fun _ => ?_)
  · exact sm_X17_meets_167 w tx0 tx0
  · exact sm_X17_meets_167 w tx0 tx0
theorem sm_X17_meets {x0 : Nat} {x1 : Int32} {h : sv_H} (g : vt_G h) (tx0 : sv_K h x0 = 18) : vt_sm h (fn_X17_meets x0 x1 h) (ab_X17_meets x0 x1 (vt_ab h)) := sm_X17_meets_0 ⟨g, vt_ko.refl h⟩ tx0

theorem sm_X16_order_83 {h0 : sv_H} {s0 : Int32} {h : sv_H} (w : vt_W h0 h) : vt_sm h0 (fn_X16_order_83 s0 h) (ab_X16_order_83 s0 (vt_ab h)) := by
  unfold fn_X16_order_83 ab_X16_order_83
  obtain ⟨F, hF⟩ : ∃ F, sv_FP h = F := ⟨_, rfl⟩
  exact sm_rt w
theorem sm_X16_order_37 {h0 : sv_H} {s0 : Int32} {h : sv_H} (w : vt_W h0 h) : vt_sm h0 (fn_X16_order_37 s0 h) (ab_X16_order_37 s0 (vt_ab h)) := by
  unfold fn_X16_order_37 ab_X16_order_37
  obtain ⟨F, hF⟩ : ∃ F, sv_FP h = F := ⟨_, rfl⟩
  exact sm_rt w
theorem sm_X16_order_0 {h0 : sv_H} {x0 : Int64} {x2 : Int64} {x4 : Int64} {x6 : Int64} {h : sv_H} (w : vt_W h0 h) : vt_sm h0 (fn_X16_order x0 x2 x4 x6 h) (ab_X16_order x0 x2 x4 x6 (vt_ab h)) := by
  unfold fn_X16_order ab_X16_order
  obtain ⟨F, hF⟩ : ∃ F, sv_FP h = F := ⟨_, rfl⟩
  refine sm_cl w (sm_J9_multiplyHigh_f86c9 w.1) (fun r1 h2 e w2 => ?_)
  have hF2 : sv_FP h2 = F := by rw [ro_J9_multiplyHigh_f86c9 e]; exact hF
  clear e w hF
  have hF := hF2
  have w := w2
  clear hF2 w2
  refine sm_cl w (sm_J9_multiplyHigh_f86c9 w.1) (fun r3 h2 e w2 => ?_)
  have hF2 : sv_FP h2 = F := by rw [ro_J9_multiplyHigh_f86c9 e]; exact hF
  clear e w hF
  have hF := hF2
  have w := w2
  clear hF2 w2
  refine sm_if (fun _ => ?_) (fun _ => ?_)
  · refine sm_if (fun _ => ?_) (fun _ => ?_)
    · refine sm_if (fun _ => ?_) (fun _ => ?_)
      · exact sm_X16_order_83 w
      · exact sm_X16_order_83 w
    · exact sm_X16_order_83 w
  · refine sm_if (fun _ => ?_) (fun _ => ?_)
    · exact sm_X16_order_37 w
    · exact sm_X16_order_37 w
theorem sm_X16_order {x0 : Int64} {x2 : Int64} {x4 : Int64} {x6 : Int64} {h : sv_H} (g : vt_G h) : vt_sm h (fn_X16_order x0 x2 x4 x6 h) (ab_X16_order x0 x2 x4 x6 (vt_ab h)) := sm_X16_order_0 ⟨g, vt_ko.refl h⟩

theorem sm_X17_gather_134 {h0 : sv_H} {k18 : Nat → Int32 → sv_H → Option (Unit × sv_H)} {j18 : Nat → Int32 → vt_S → Option (Unit × vt_S)} (hk18 : ∀ {x0 : Nat} {x5 : Int32} {h : sv_H}, vt_W h0 h → sv_K h0 x0 = 18 → vt_sm h0 (k18 x0 x5 h) (j18 x0 x5 (vt_ab h))) {x0 : Nat} {x5 : Int32} {h : sv_H} (w : vt_W h0 h) (tx0 : sv_K h0 x0 = 18) : vt_sm h0 (fn_X17_gather_134 k18 x0 x5 h) (ab_X17_gather_134 j18 x0 x5 (vt_ab h)) := by
  unfold fn_X17_gather_134 ab_X17_gather_134
  obtain ⟨F, hF⟩ : ∃ F, sv_FP h = F := ⟨_, rfl⟩
  exact hk18 w tx0
theorem sm_X17_gather_115 {h0 : sv_H} {k18 : Nat → Int32 → sv_H → Option (Unit × sv_H)} {j18 : Nat → Int32 → vt_S → Option (Unit × vt_S)} (hk18 : ∀ {x0 : Nat} {x5 : Int32} {h : sv_H}, vt_W h0 h → sv_K h0 x0 = 18 → vt_sm h0 (k18 x0 x5 h) (j18 x0 x5 (vt_ab h))) {x0 : Nat} {x5 : Int32} {x10 : Int32} {h : sv_H} (w : vt_W h0 h) (tx0 : sv_K h0 x0 = 18) : vt_sm h0 (fn_X17_gather_115 k18 x0 x5 x10 h) (ab_X17_gather_115 j18 x0 x5 x10 (vt_ab h)) := by
  unfold fn_X17_gather_115 ab_X17_gather_115
  obtain ⟨F, hF⟩ : ∃ F, sv_FP h = F := ⟨_, rfl⟩
  refine sm_gA w hF tx0 tk_1820 (by decide) (fun v1 av1 => ?_)
  refine sm_sI w hF tx0 av1 tk_1820 (fun h w hF => ?_)
  refine sm_gI w tx0 (by decide) (fun v3 => ?_)
  refine sm_pI w hF tx0 (by decide) (fun h w hF => ?_)
  exact sm_X17_gather_134 (k18 := k18) (j18 := j18) hk18 w tx0
theorem sm_X17_gather_54b {h0 : sv_H} {k18 : Nat → Int32 → sv_H → Option (Unit × sv_H)} {j18 : Nat → Int32 → vt_S → Option (Unit × vt_S)} (hk18 : ∀ {x0 : Nat} {x5 : Int32} {h : sv_H}, vt_W h0 h → sv_K h0 x0 = 18 → vt_sm h0 (k18 x0 x5 h) (j18 x0 x5 (vt_ab h))) {k54 : Nat → Int32 → Int64 → Int64 → Int32 → sv_H → Option (Unit × sv_H)} {j54 : Nat → Int32 → Int64 → Int64 → Int32 → vt_S → Option (Unit × vt_S)} (hk54 : ∀ {x0 : Nat} {x5 : Int32} {x6 : Int64} {x8 : Int64} {x10 : Int32} {h : sv_H}, vt_W h0 h → sv_K h0 x0 = 18 → vt_sm h0 (k54 x0 x5 x6 x8 x10 h) (j54 x0 x5 x6 x8 x10 (vt_ab h))) {x0 : Nat} {x5 : Int32} {x6 : Int64} {x8 : Int64} {x10 : Int32} {h : sv_H} (w : vt_W h0 h) (tx0 : sv_K h0 x0 = 18) : vt_sm h0 (fn_X17_gather_54b k18 k54 x0 x5 x6 x8 x10 h) (ab_X17_gather_54b j18 j54 x0 x5 x6 x8 x10 (vt_ab h)) := by
  unfold fn_X17_gather_54b ab_X17_gather_54b
  obtain ⟨F, hF⟩ : ∃ F, sv_FP h = F := ⟨_, rfl⟩
  refine sm_if (fun _ => ?_) (fun _ => ?_)
  · exact sm_X17_gather_115 (k18 := k18) (j18 := j18) hk18 w tx0
  · refine sm_gA w hF tx0 tk_1820 (by decide) (fun v1 av1 => ?_)
    refine sm_lI w hF tx0 av1 tk_1820 (fun _ => ?_)
    refine sm_cl w (sm_X17_meets w.1 (w.k tx0 (by decide))) (fun r3 h2 e w2 => ?_)
    have hF2 : sv_FP h2 = F := (ow_X17_meets sv_clT trivial e).2.1.1.trans hF
    clear e w hF
    have hF := hF2
    have w := w2
    clear hF2 w2
    refine sm_if (fun _ => ?_) (fun _ => ?_)
    · exact sm_X17_gather_115 (k18 := k18) (j18 := j18) hk18 w tx0
    · refine sm_gJ w tx0 (by decide) (fun v5 => ?_)
      refine sm_gJ w tx0 (by decide) (fun v6 => ?_)
      refine sm_cl w (sm_X16_order w.1) (fun r7 h2 e w2 => ?_)
      have hF2 : sv_FP h2 = F := by rw [ro_X16_order e]; exact hF
      clear e w hF
      have hF := hF2
      have w := w2
      clear hF2 w2
      refine sm_if (fun _ => ?_) (fun _ => ?_)
      · exact sm_X17_gather_115 (k18 := k18) (j18 := j18) hk18 w tx0
      · refine sm_gA w hF tx0 tk_1820 (by decide) (fun v9 av9 => ?_)
        refine sm_gA w hF tx0 tk_1820 (by decide) (fun v10 av10 => ?_)
        refine sm_lI w hF tx0 av10 tk_1820 (fun _ => ?_)
        refine sm_sI w hF tx0 av9 tk_1820 (fun h w hF => ?_)
        exact hk54 w tx0
theorem sm_X17_gather_54 {h0 : sv_H} {k18 : Nat → Int32 → sv_H → Option (Unit × sv_H)} {j18 : Nat → Int32 → vt_S → Option (Unit × vt_S)} (hk18 : ∀ {x0 : Nat} {x5 : Int32} {h : sv_H}, vt_W h0 h → sv_K h0 x0 = 18 → vt_sm h0 (k18 x0 x5 h) (j18 x0 x5 (vt_ab h))) : ∀ (n : Nat) {x0 : Nat} {x5 : Int32} {x6 : Int64} {x8 : Int64} {x10 : Int32} {h : sv_H}, vt_W h0 h → sv_K h0 x0 = 18 → vt_sm h0 (fn_X17_gather_54 k18 n x0 x5 x6 x8 x10 h) (ab_X17_gather_54 j18 n x0 x5 x6 x8 x10 (vt_ab h)) := by
  intro n
  induction n with
  | zero => intro x0 x5 x6 x8 x10 h w tx0; exact sm_no
  | succ n ih => intro x0 x5 x6 x8 x10 h w tx0; exact sm_X17_gather_54b (k18 := k18) (j18 := j18) (k54 := fn_X17_gather_54 k18 n) (j54 := ab_X17_gather_54 j18 n) hk18 (fun w tx0 => ih w tx0) w tx0
theorem sm_X17_gather_18b {h0 : sv_H} {k18 : Nat → Int32 → sv_H → Option (Unit × sv_H)} {j18 : Nat → Int32 → vt_S → Option (Unit × vt_S)} (hk18 : ∀ {x0 : Nat} {x5 : Int32} {h : sv_H}, vt_W h0 h → sv_K h0 x0 = 18 → vt_sm h0 (k18 x0 x5 h) (j18 x0 x5 (vt_ab h))) {x0 : Nat} {x5 : Int32} {h : sv_H} (w : vt_W h0 h) (tx0 : sv_K h0 x0 = 18) : vt_sm h0 (fn_X17_gather_18b k18 x0 x5 h) (ab_X17_gather_18b j18 x0 x5 (vt_ab h)) := by
  unfold fn_X17_gather_18b ab_X17_gather_18b
  obtain ⟨F, hF⟩ : ∃ F, sv_FP h = F := ⟨_, rfl⟩
  refine sm_cl w (sm_X17_walls w.1 (w.k tx0 (by decide))) (fun r1 h2 e w2 => ?_)
  have hF2 : sv_FP h2 = F := by rw [ro_X17_walls e]; exact hF
  clear e w hF
  have hF := hF2
  have w := w2
  clear hF2 w2
  refine sm_if (fun _ => ?_) (fun _ => ?_)
  · exact sm_rt w
  · refine sm_cl w (sm_X17_meets w.1 (w.k tx0 (by decide))) (fun r3 h2 e w2 => ?_)
    have hF2 : sv_FP h2 = F := (ow_X17_meets sv_clT trivial e).2.1.1.trans hF
    clear e w hF
    have hF := hF2
    have w := w2
    clear hF2 w2
    refine sm_if (fun _ => ?_) (fun _ => ?_)
    · exact sm_X17_gather_134 (k18 := k18) (j18 := j18) hk18 w tx0
    · refine sm_gJ w tx0 (by decide) (fun v5 => ?_)
      refine sm_gJ w tx0 (by decide) (fun v6 => ?_)
      refine sm_gI w tx0 (by decide) (fun v7 => ?_)
      exact sm_X17_gather_54 (k18 := k18) (j18 := j18) hk18 sv_fuel w tx0
theorem sm_X17_gather_18 {h0 : sv_H} : ∀ (n : Nat) {x0 : Nat} {x5 : Int32} {h : sv_H}, vt_W h0 h → sv_K h0 x0 = 18 → vt_sm h0 (fn_X17_gather_18 n x0 x5 h) (ab_X17_gather_18 n x0 x5 (vt_ab h)) := by
  intro n
  induction n with
  | zero => intro x0 x5 h w tx0; exact sm_no
  | succ n ih => intro x0 x5 h w tx0; exact sm_X17_gather_18b (k18 := fn_X17_gather_18 n) (j18 := ab_X17_gather_18 n) (fun w tx0 => ih w tx0) w tx0
theorem sm_X17_gather_0 {h0 : sv_H} {x0 : Nat} {x1 : Int64} {x3 : Int64} {h : sv_H} (w : vt_W h0 h) (tx0 : sv_K h0 x0 = 18) : vt_sm h0 (fn_X17_gather x0 x1 x3 h) (ab_X17_gather x0 x1 x3 (vt_ab h)) := by
  unfold fn_X17_gather ab_X17_gather
  obtain ⟨F, hF⟩ : ∃ F, sv_FP h = F := ⟨_, rfl⟩
  refine sm_kd w tx0 (by decide) ?_
  refine sm_pJ w hF tx0 (by decide) (fun h w hF => ?_)
  refine sm_pJ w hF tx0 (by decide) (fun h w hF => ?_)
  refine sm_pI w hF tx0 (by decide) (fun h w hF => ?_)
  exact sm_X17_gather_18 sv_fuel w tx0
theorem sm_X17_gather {x0 : Nat} {x1 : Int64} {x3 : Int64} {h : sv_H} (g : vt_G h) (tx0 : sv_K h x0 = 18) : vt_sm h (fn_X17_gather x0 x1 x3 h) (ab_X17_gather x0 x1 x3 (vt_ab h)) := sm_X17_gather_0 ⟨g, vt_ko.refl h⟩ tx0

theorem sm_X17_wallPart_0 {h0 : sv_H} {x0 : Nat} {x1 : Int32} {x2 : Int32} {h : sv_H} (w : vt_W h0 h) (tx0 : sv_K h0 x0 = 18) : vt_sm h0 (fn_X17_wallPart x0 x1 x2 h) (ab_X17_wallPart x0 x1 x2 (vt_ab h)) := by
  unfold fn_X17_wallPart ab_X17_wallPart
  obtain ⟨F, hF⟩ : ∃ F, sv_FP h = F := ⟨_, rfl⟩
  refine sm_kd w tx0 (by decide) ?_
  refine sm_gP w tx0 tk_1801 rfl (fun v1 tv1 => ?_)
  refine sm_cl w (sm_X14_wall w.1 (w.k tv1 (by decide))) (fun r2 h2 e w2 => ?_)
  have hF2 : sv_FP h2 = F := by rw [ro_X14_wall e]; exact hF
  clear e w hF
  have hF := hF2
  have w := w2
  clear hF2 w2
  exact sm_rt w
theorem sm_X17_wallPart {x0 : Nat} {x1 : Int32} {x2 : Int32} {h : sv_H} (g : vt_G h) (tx0 : sv_K h x0 = 18) : vt_sm h (fn_X17_wallPart x0 x1 x2 h) (ab_X17_wallPart x0 x1 x2 (vt_ab h)) := sm_X17_wallPart_0 ⟨g, vt_ko.refl h⟩ tx0

theorem sm_X17_sideOf_31 {h0 : sv_H} {s0 : Int32} {h : sv_H} (w : vt_W h0 h) : vt_sm h0 (fn_X17_sideOf_31 s0 h) (ab_X17_sideOf_31 s0 (vt_ab h)) := by
  unfold fn_X17_sideOf_31 ab_X17_sideOf_31
  obtain ⟨F, hF⟩ : ∃ F, sv_FP h = F := ⟨_, rfl⟩
  exact sm_rt w
theorem sm_X17_sideOf_15 {h0 : sv_H} {s0 : Nat} {s1 : Int32} {s2 : Int32} {h : sv_H} (w : vt_W h0 h) (ts0 : sv_K h0 s0 = 18) : vt_sm h0 (fn_X17_sideOf_15 s0 s1 s2 h) (ab_X17_sideOf_15 s0 s1 s2 (vt_ab h)) := by
  unfold fn_X17_sideOf_15 ab_X17_sideOf_15
  obtain ⟨F, hF⟩ : ∃ F, sv_FP h = F := ⟨_, rfl⟩
  refine sm_cl w (sm_X17_wallPart w.1 (w.k ts0 (by decide))) (fun r1 h2 e w2 => ?_)
  have hF2 : sv_FP h2 = F := by rw [ro_X17_wallPart e]; exact hF
  clear e w hF
  have hF := hF2
  have w := w2
  clear hF2 w2
  refine sm_if (fun _ => ?_) (fun _ => ?_)
  · exact sm_X17_sideOf_31 w
  · exact sm_X17_sideOf_31 w
theorem sm_X17_sideOf_0 {h0 : sv_H} {x0 : Nat} {x1 : Int32} {x2 : Int32} {h : sv_H} (w : vt_W h0 h) (tx0 : sv_K h0 x0 = 18) : vt_sm h0 (fn_X17_sideOf x0 x1 x2 h) (ab_X17_sideOf x0 x1 x2 (vt_ab h)) := by
  unfold fn_X17_sideOf ab_X17_sideOf
  obtain ⟨F, hF⟩ : ∃ F, sv_FP h = F := ⟨_, rfl⟩
  refine sm_kd w tx0 (by decide) ?_
  refine sm_gI w tx0 (by decide) (fun v1 => ?_)
  refine sm_if (fun _ => ?_) (fun _ => ?_)
  · exact sm_X17_sideOf_15 w tx0
  · exact sm_X17_sideOf_15 w tx0
theorem sm_X17_sideOf {x0 : Nat} {x1 : Int32} {x2 : Int32} {h : sv_H} (g : vt_G h) (tx0 : sv_K h x0 = 18) : vt_sm h (fn_X17_sideOf x0 x1 x2 h) (ab_X17_sideOf x0 x1 x2 (vt_ab h)) := sm_X17_sideOf_0 ⟨g, vt_ko.refl h⟩ tx0

theorem sm_X17_stops_22 {h0 : sv_H} {h : sv_H} (w : vt_W h0 h) : vt_sm h0 (fn_X17_stops_22 h) (ab_X17_stops_22 (vt_ab h)) := by
  unfold fn_X17_stops_22 ab_X17_stops_22
  obtain ⟨F, hF⟩ : ∃ F, sv_FP h = F := ⟨_, rfl⟩
  exact sm_rt w
theorem sm_X17_stops_151 {h0 : sv_H} {s0 : Int32} {h : sv_H} (w : vt_W h0 h) : vt_sm h0 (fn_X17_stops_151 s0 h) (ab_X17_stops_151 s0 (vt_ab h)) := by
  unfold fn_X17_stops_151 ab_X17_stops_151
  obtain ⟨F, hF⟩ : ∃ F, sv_FP h = F := ⟨_, rfl⟩
  exact sm_rz w
theorem sm_X17_stops_146 {h0 : sv_H} {h : sv_H} (w : vt_W h0 h) : vt_sm h0 (fn_X17_stops_146 h) (ab_X17_stops_146 (vt_ab h)) := by
  unfold fn_X17_stops_146 ab_X17_stops_146
  obtain ⟨F, hF⟩ : ∃ F, sv_FP h = F := ⟨_, rfl⟩
  exact sm_X17_stops_151 w
theorem sm_X17_stops_110 {h0 : sv_H} {x0 : Nat} {x2 : Int32} {x3 : Int32} {x4 : Int32} {s0 : Int32} {h : sv_H} (w : vt_W h0 h) (tx0 : sv_K h0 x0 = 18) : vt_sm h0 (fn_X17_stops_110 x0 x2 x3 x4 s0 h) (ab_X17_stops_110 x0 x2 x3 x4 s0 (vt_ab h)) := by
  unfold fn_X17_stops_110 ab_X17_stops_110
  obtain ⟨F, hF⟩ : ∃ F, sv_FP h = F := ⟨_, rfl⟩
  refine sm_gP w tx0 tk_1803 rfl (fun v1 tv1 => ?_)
  refine sm_gA w hF tv1 tk_1408 (by decide) (fun v2 av2 => ?_)
  refine sm_lI w hF tv1 av2 tk_1408 (fun _ => ?_)
  refine sm_gP w tx0 tk_1803 rfl (fun v4 tv4 => ?_)
  refine sm_gA w hF tv4 tk_1408 (by decide) (fun v5 av5 => ?_)
  refine sm_lI w hF tv4 av5 tk_1408 (fun _ => ?_)
  refine sm_if (fun _ => ?_) (fun _ => ?_)
  · exact sm_X17_stops_146 w
  · refine sm_if (fun _ => ?_) (fun _ => ?_)
    · exact sm_X17_stops_151 w
    · exact sm_X17_stops_146 w
theorem sm_X17_stops_66 {h0 : sv_H} {x0 : Nat} {x2 : Int32} {x3 : Int32} {s0 : Int32} {h : sv_H} (w : vt_W h0 h) (tx0 : sv_K h0 x0 = 18) : vt_sm h0 (fn_X17_stops_66 x0 x2 x3 s0 h) (ab_X17_stops_66 x0 x2 x3 s0 (vt_ab h)) := by
  unfold fn_X17_stops_66 ab_X17_stops_66
  obtain ⟨F, hF⟩ : ∃ F, sv_FP h = F := ⟨_, rfl⟩
  refine sm_gP w tx0 tk_1803 rfl (fun v1 tv1 => ?_)
  refine sm_gA w hF tv1 tk_1408 (by decide) (fun v2 av2 => ?_)
  refine sm_lI w hF tv1 av2 tk_1408 (fun _ => ?_)
  refine sm_gP w tx0 tk_1803 rfl (fun v4 tv4 => ?_)
  refine sm_gA w hF tv4 tk_1408 (by decide) (fun v5 av5 => ?_)
  refine sm_lI w hF tv4 av5 tk_1408 (fun _ => ?_)
  refine sm_if (fun _ => ?_) (fun _ => ?_)
  · refine sm_gP w tx0 tk_1803 rfl (fun v7 tv7 => ?_)
    refine sm_gA w hF tv7 tk_1408 (by decide) (fun v8 av8 => ?_)
    refine sm_lI w hF tv7 av8 tk_1408 (fun _ => ?_)
    exact sm_X17_stops_110 w tx0
  · refine sm_gP w tx0 tk_1803 rfl (fun v10 tv10 => ?_)
    refine sm_gA w hF tv10 tk_1408 (by decide) (fun v11 av11 => ?_)
    refine sm_lI w hF tv10 av11 tk_1408 (fun _ => ?_)
    exact sm_X17_stops_110 w tx0
theorem sm_X17_stops_0 {h0 : sv_H} {x0 : Nat} {x1 : Int32} {h : sv_H} (w : vt_W h0 h) (tx0 : sv_K h0 x0 = 18) : vt_sm h0 (fn_X17_stops x0 x1 h) (ab_X17_stops x0 x1 (vt_ab h)) := by
  unfold fn_X17_stops ab_X17_stops
  obtain ⟨F, hF⟩ : ∃ F, sv_FP h = F := ⟨_, rfl⟩
  refine sm_kd w tx0 (by decide) ?_
  refine sm_cl w (sm_X17_sideOf w.1 (w.k tx0 (by decide))) (fun r1 h2 e w2 => ?_)
  have hF2 : sv_FP h2 = F := by rw [ro_X17_sideOf e]; exact hF
  clear e w hF
  have hF := hF2
  have w := w2
  clear hF2 w2
  refine sm_cl w (sm_X17_sideOf w.1 (w.k tx0 (by decide))) (fun r3 h2 e w2 => ?_)
  have hF2 : sv_FP h2 = F := by rw [ro_X17_sideOf e]; exact hF
  clear e w hF
  have hF := hF2
  have w := w2
  clear hF2 w2
  refine sm_if (fun _ => ?_) (fun _ => ?_)
  · exact sm_X17_stops_22 w
  · refine sm_if (fun _ => ?_) (fun _ => ?_)
    · refine sm_gP w tx0 tk_1803 rfl (fun v5 tv5 => ?_)
      refine sm_gA w hF tv5 tk_1409 (by decide) (fun v6 av6 => ?_)
      refine sm_lI w hF tv5 av6 tk_1409 (fun _ => ?_)
      refine sm_gP w tx0 tk_1803 rfl (fun v8 tv8 => ?_)
      refine sm_gA w hF tv8 tk_1409 (by decide) (fun v9 av9 => ?_)
      refine sm_lI w hF tv8 av9 tk_1409 (fun _ => ?_)
      refine sm_if (fun _ => ?_) (fun _ => ?_)
      · refine sm_gP w tx0 tk_1803 rfl (fun v11 tv11 => ?_)
        refine sm_gA w hF tv11 tk_1409 (by decide) (fun v12 av12 => ?_)
        refine sm_lI w hF tv11 av12 tk_1409 (fun _ => ?_)
        exact sm_X17_stops_66 w tx0
      · refine sm_gP w tx0 tk_1803 rfl (fun v14 tv14 => ?_)
        refine sm_gA w hF tv14 tk_1409 (by decide) (fun v15 av15 => ?_)
        refine sm_lI w hF tv14 av15 tk_1409 (fun _ => ?_)
        exact sm_X17_stops_66 w tx0
    · exact sm_X17_stops_22 w
theorem sm_X17_stops {x0 : Nat} {x1 : Int32} {h : sv_H} (g : vt_G h) (tx0 : sv_K h x0 = 18) : vt_sm h (fn_X17_stops x0 x1 h) (ab_X17_stops x0 x1 (vt_ab h)) := sm_X17_stops_0 ⟨g, vt_ko.refl h⟩ tx0

theorem sm_X13_lowCeiling_70 {h0 : sv_H} {s0 : Int32} {h : sv_H} (w : vt_W h0 h) : vt_sm h0 (fn_X13_lowCeiling_70 s0 h) (ab_X13_lowCeiling_70 s0 (vt_ab h)) := by
  unfold fn_X13_lowCeiling_70 ab_X13_lowCeiling_70
  obtain ⟨F, hF⟩ : ∃ F, sv_FP h = F := ⟨_, rfl⟩
  exact sm_rt w
theorem sm_X13_lowCeiling_47 {h0 : sv_H} {k5 : Nat → Int32 → Int32 → Int32 → sv_H → Option (Int32 × sv_H)} {j5 : Nat → Int32 → Int32 → Int32 → vt_S → Option (Int32 × vt_S)} (hk5 : ∀ {x0 : Nat} {x1 : Int32} {x2 : Int32} {x3 : Int32} {h : sv_H}, vt_W h0 h → sv_K h0 x0 = 14 → vt_sm h0 (k5 x0 x1 x2 x3 h) (j5 x0 x1 x2 x3 (vt_ab h))) {x0 : Nat} {x1 : Int32} {x3 : Int32} {s0 : Int32} {h : sv_H} (w : vt_W h0 h) (tx0 : sv_K h0 x0 = 14) : vt_sm h0 (fn_X13_lowCeiling_47 k5 x0 x1 x3 s0 h) (ab_X13_lowCeiling_47 j5 x0 x1 x3 s0 (vt_ab h)) := by
  unfold fn_X13_lowCeiling_47 ab_X13_lowCeiling_47
  obtain ⟨F, hF⟩ : ∃ F, sv_FP h = F := ⟨_, rfl⟩
  exact hk5 w tx0
theorem sm_X13_lowCeiling_46 {h0 : sv_H} {k5 : Nat → Int32 → Int32 → Int32 → sv_H → Option (Int32 × sv_H)} {j5 : Nat → Int32 → Int32 → Int32 → vt_S → Option (Int32 × vt_S)} (hk5 : ∀ {x0 : Nat} {x1 : Int32} {x2 : Int32} {x3 : Int32} {h : sv_H}, vt_W h0 h → sv_K h0 x0 = 14 → vt_sm h0 (k5 x0 x1 x2 x3 h) (j5 x0 x1 x2 x3 (vt_ab h))) {x0 : Nat} {x1 : Int32} {x2 : Int32} {x3 : Int32} {h : sv_H} (w : vt_W h0 h) (tx0 : sv_K h0 x0 = 14) : vt_sm h0 (fn_X13_lowCeiling_46 k5 x0 x1 x2 x3 h) (ab_X13_lowCeiling_46 j5 x0 x1 x2 x3 (vt_ab h)) := by
  unfold fn_X13_lowCeiling_46 ab_X13_lowCeiling_46
  obtain ⟨F, hF⟩ : ∃ F, sv_FP h = F := ⟨_, rfl⟩
  exact sm_X13_lowCeiling_47 (k5 := k5) (j5 := j5) hk5 w tx0
theorem sm_X13_lowCeiling_5b {h0 : sv_H} {k5 : Nat → Int32 → Int32 → Int32 → sv_H → Option (Int32 × sv_H)} {j5 : Nat → Int32 → Int32 → Int32 → vt_S → Option (Int32 × vt_S)} (hk5 : ∀ {x0 : Nat} {x1 : Int32} {x2 : Int32} {x3 : Int32} {h : sv_H}, vt_W h0 h → sv_K h0 x0 = 14 → vt_sm h0 (k5 x0 x1 x2 x3 h) (j5 x0 x1 x2 x3 (vt_ab h))) {x0 : Nat} {x1 : Int32} {x2 : Int32} {x3 : Int32} {h : sv_H} (w : vt_W h0 h) (tx0 : sv_K h0 x0 = 14) : vt_sm h0 (fn_X13_lowCeiling_5b k5 x0 x1 x2 x3 h) (ab_X13_lowCeiling_5b j5 x0 x1 x2 x3 (vt_ab h)) := by
  unfold fn_X13_lowCeiling_5b ab_X13_lowCeiling_5b
  obtain ⟨F, hF⟩ : ∃ F, sv_FP h = F := ⟨_, rfl⟩
  refine sm_gI w tx0 (by decide) (fun v1 => ?_)
  refine sm_if (fun _ => ?_) (fun _ => ?_)
  · refine sm_if (fun _ => ?_) (fun _ => ?_)
    · refine sm_gA w hF tx0 tk_1409 (by decide) (fun v2 av2 => ?_)
      refine sm_lI w hF tx0 av2 tk_1409 (fun _ => ?_)
      exact sm_X13_lowCeiling_70 w
    · exact sm_X13_lowCeiling_70 w
  · refine sm_gA w hF tx0 tk_1406 (by decide) (fun v4 av4 => ?_)
    refine sm_lZ w hF tx0 av4 tk_1406 (fun _ => ?_)
    refine sm_if (fun _ => ?_) (fun _ => ?_)
    · exact sm_X13_lowCeiling_46 (k5 := k5) (j5 := j5) hk5 w tx0
    · refine sm_gA w hF tx0 tk_1409 (by decide) (fun v6 av6 => ?_)
      refine sm_lI w hF tx0 av6 tk_1409 (fun _ => ?_)
      refine sm_if (fun _ => ?_) (fun _ => ?_)
      · exact sm_X13_lowCeiling_46 (k5 := k5) (j5 := j5) hk5 w tx0
      · refine sm_gA w hF tx0 tk_1409 (by decide) (fun v8 av8 => ?_)
        refine sm_lI w hF tx0 av8 tk_1409 (fun _ => ?_)
        exact sm_X13_lowCeiling_47 (k5 := k5) (j5 := j5) hk5 w tx0
theorem sm_X13_lowCeiling_5 {h0 : sv_H} : ∀ (n : Nat) {x0 : Nat} {x1 : Int32} {x2 : Int32} {x3 : Int32} {h : sv_H}, vt_W h0 h → sv_K h0 x0 = 14 → vt_sm h0 (fn_X13_lowCeiling_5 n x0 x1 x2 x3 h) (ab_X13_lowCeiling_5 n x0 x1 x2 x3 (vt_ab h)) := by
  intro n
  induction n with
  | zero => intro x0 x1 x2 x3 h w tx0; exact sm_no
  | succ n ih => intro x0 x1 x2 x3 h w tx0; exact sm_X13_lowCeiling_5b (k5 := fn_X13_lowCeiling_5 n) (j5 := ab_X13_lowCeiling_5 n) (fun w tx0 => ih w tx0) w tx0
theorem sm_X13_lowCeiling_0 {h0 : sv_H} {x0 : Nat} {x1 : Int32} {h : sv_H} (w : vt_W h0 h) (tx0 : sv_K h0 x0 = 14) : vt_sm h0 (fn_X13_lowCeiling x0 x1 h) (ab_X13_lowCeiling x0 x1 (vt_ab h)) := by
  unfold fn_X13_lowCeiling ab_X13_lowCeiling
  obtain ⟨F, hF⟩ : ∃ F, sv_FP h = F := ⟨_, rfl⟩
  refine sm_kd w tx0 (by decide) ?_
  exact sm_X13_lowCeiling_5 sv_fuel w tx0
theorem sm_X13_lowCeiling {x0 : Nat} {x1 : Int32} {h : sv_H} (g : vt_G h) (tx0 : sv_K h x0 = 14) : vt_sm h (fn_X13_lowCeiling x0 x1 h) (ab_X13_lowCeiling x0 x1 (vt_ab h)) := sm_X13_lowCeiling_0 ⟨g, vt_ko.refl h⟩ tx0

theorem sm_X13_highFloor_51 {h0 : sv_H} {k9 : Nat → Int32 → Int32 → Int32 → sv_H → Option (Int32 × sv_H)} {j9 : Nat → Int32 → Int32 → Int32 → vt_S → Option (Int32 × vt_S)} (hk9 : ∀ {x0 : Nat} {x1 : Int32} {x2 : Int32} {x3 : Int32} {h : sv_H}, vt_W h0 h → sv_K h0 x0 = 14 → vt_sm h0 (k9 x0 x1 x2 x3 h) (j9 x0 x1 x2 x3 (vt_ab h))) {x0 : Nat} {x1 : Int32} {x3 : Int32} {s0 : Int32} {h : sv_H} (w : vt_W h0 h) (tx0 : sv_K h0 x0 = 14) : vt_sm h0 (fn_X13_highFloor_51 k9 x0 x1 x3 s0 h) (ab_X13_highFloor_51 j9 x0 x1 x3 s0 (vt_ab h)) := by
  unfold fn_X13_highFloor_51 ab_X13_highFloor_51
  obtain ⟨F, hF⟩ : ∃ F, sv_FP h = F := ⟨_, rfl⟩
  exact hk9 w tx0
theorem sm_X13_highFloor_50 {h0 : sv_H} {k9 : Nat → Int32 → Int32 → Int32 → sv_H → Option (Int32 × sv_H)} {j9 : Nat → Int32 → Int32 → Int32 → vt_S → Option (Int32 × vt_S)} (hk9 : ∀ {x0 : Nat} {x1 : Int32} {x2 : Int32} {x3 : Int32} {h : sv_H}, vt_W h0 h → sv_K h0 x0 = 14 → vt_sm h0 (k9 x0 x1 x2 x3 h) (j9 x0 x1 x2 x3 (vt_ab h))) {x0 : Nat} {x1 : Int32} {x2 : Int32} {x3 : Int32} {h : sv_H} (w : vt_W h0 h) (tx0 : sv_K h0 x0 = 14) : vt_sm h0 (fn_X13_highFloor_50 k9 x0 x1 x2 x3 h) (ab_X13_highFloor_50 j9 x0 x1 x2 x3 (vt_ab h)) := by
  unfold fn_X13_highFloor_50 ab_X13_highFloor_50
  obtain ⟨F, hF⟩ : ∃ F, sv_FP h = F := ⟨_, rfl⟩
  exact sm_X13_highFloor_51 (k9 := k9) (j9 := j9) hk9 w tx0
theorem sm_X13_highFloor_9b {h0 : sv_H} {k9 : Nat → Int32 → Int32 → Int32 → sv_H → Option (Int32 × sv_H)} {j9 : Nat → Int32 → Int32 → Int32 → vt_S → Option (Int32 × vt_S)} (hk9 : ∀ {x0 : Nat} {x1 : Int32} {x2 : Int32} {x3 : Int32} {h : sv_H}, vt_W h0 h → sv_K h0 x0 = 14 → vt_sm h0 (k9 x0 x1 x2 x3 h) (j9 x0 x1 x2 x3 (vt_ab h))) {x0 : Nat} {x1 : Int32} {x2 : Int32} {x3 : Int32} {h : sv_H} (w : vt_W h0 h) (tx0 : sv_K h0 x0 = 14) : vt_sm h0 (fn_X13_highFloor_9b k9 x0 x1 x2 x3 h) (ab_X13_highFloor_9b j9 x0 x1 x2 x3 (vt_ab h)) := by
  unfold fn_X13_highFloor_9b ab_X13_highFloor_9b
  obtain ⟨F, hF⟩ : ∃ F, sv_FP h = F := ⟨_, rfl⟩
  refine sm_gI w tx0 (by decide) (fun v1 => ?_)
  refine sm_if (fun _ => ?_) (fun _ => ?_)
  · exact sm_rt w
  · refine sm_gA w hF tx0 tk_1406 (by decide) (fun v2 av2 => ?_)
    refine sm_lZ w hF tx0 av2 tk_1406 (fun _ => ?_)
    refine sm_if (fun _ => ?_) (fun _ => ?_)
    · exact sm_X13_highFloor_50 (k9 := k9) (j9 := j9) hk9 w tx0
    · refine sm_gA w hF tx0 tk_1408 (by decide) (fun v4 av4 => ?_)
      refine sm_lI w hF tx0 av4 tk_1408 (fun _ => ?_)
      refine sm_if (fun _ => ?_) (fun _ => ?_)
      · exact sm_X13_highFloor_50 (k9 := k9) (j9 := j9) hk9 w tx0
      · refine sm_gA w hF tx0 tk_1408 (by decide) (fun v6 av6 => ?_)
        refine sm_lI w hF tx0 av6 tk_1408 (fun _ => ?_)
        exact sm_X13_highFloor_51 (k9 := k9) (j9 := j9) hk9 w tx0
theorem sm_X13_highFloor_9 {h0 : sv_H} : ∀ (n : Nat) {x0 : Nat} {x1 : Int32} {x2 : Int32} {x3 : Int32} {h : sv_H}, vt_W h0 h → sv_K h0 x0 = 14 → vt_sm h0 (fn_X13_highFloor_9 n x0 x1 x2 x3 h) (ab_X13_highFloor_9 n x0 x1 x2 x3 (vt_ab h)) := by
  intro n
  induction n with
  | zero => intro x0 x1 x2 x3 h w tx0; exact sm_no
  | succ n ih => intro x0 x1 x2 x3 h w tx0; exact sm_X13_highFloor_9b (k9 := fn_X13_highFloor_9 n) (j9 := ab_X13_highFloor_9 n) (fun w tx0 => ih w tx0) w tx0
theorem sm_X13_highFloor_0 {h0 : sv_H} {x0 : Nat} {x1 : Int32} {h : sv_H} (w : vt_W h0 h) (tx0 : sv_K h0 x0 = 14) : vt_sm h0 (fn_X13_highFloor x0 x1 h) (ab_X13_highFloor x0 x1 (vt_ab h)) := by
  unfold fn_X13_highFloor ab_X13_highFloor
  obtain ⟨F, hF⟩ : ∃ F, sv_FP h = F := ⟨_, rfl⟩
  refine sm_kd w tx0 (by decide) ?_
  refine sm_gA w hF tx0 tk_1408 (by decide) (fun v1 av1 => ?_)
  refine sm_lI w hF tx0 av1 tk_1408 (fun _ => ?_)
  exact sm_X13_highFloor_9 sv_fuel w tx0
theorem sm_X13_highFloor {x0 : Nat} {x1 : Int32} {h : sv_H} (g : vt_G h) (tx0 : sv_K h x0 = 14) : vt_sm h (fn_X13_highFloor x0 x1 h) (ab_X13_highFloor x0 x1 (vt_ab h)) := sm_X13_highFloor_0 ⟨g, vt_ko.refl h⟩ tx0

theorem sm_X13_lowFloor_51 {h0 : sv_H} {k9 : Nat → Int32 → Int32 → Int32 → sv_H → Option (Int32 × sv_H)} {j9 : Nat → Int32 → Int32 → Int32 → vt_S → Option (Int32 × vt_S)} (hk9 : ∀ {x0 : Nat} {x1 : Int32} {x2 : Int32} {x3 : Int32} {h : sv_H}, vt_W h0 h → sv_K h0 x0 = 14 → vt_sm h0 (k9 x0 x1 x2 x3 h) (j9 x0 x1 x2 x3 (vt_ab h))) {x0 : Nat} {x1 : Int32} {x3 : Int32} {s0 : Int32} {h : sv_H} (w : vt_W h0 h) (tx0 : sv_K h0 x0 = 14) : vt_sm h0 (fn_X13_lowFloor_51 k9 x0 x1 x3 s0 h) (ab_X13_lowFloor_51 j9 x0 x1 x3 s0 (vt_ab h)) := by
  unfold fn_X13_lowFloor_51 ab_X13_lowFloor_51
  obtain ⟨F, hF⟩ : ∃ F, sv_FP h = F := ⟨_, rfl⟩
  exact hk9 w tx0
theorem sm_X13_lowFloor_50 {h0 : sv_H} {k9 : Nat → Int32 → Int32 → Int32 → sv_H → Option (Int32 × sv_H)} {j9 : Nat → Int32 → Int32 → Int32 → vt_S → Option (Int32 × vt_S)} (hk9 : ∀ {x0 : Nat} {x1 : Int32} {x2 : Int32} {x3 : Int32} {h : sv_H}, vt_W h0 h → sv_K h0 x0 = 14 → vt_sm h0 (k9 x0 x1 x2 x3 h) (j9 x0 x1 x2 x3 (vt_ab h))) {x0 : Nat} {x1 : Int32} {x2 : Int32} {x3 : Int32} {h : sv_H} (w : vt_W h0 h) (tx0 : sv_K h0 x0 = 14) : vt_sm h0 (fn_X13_lowFloor_50 k9 x0 x1 x2 x3 h) (ab_X13_lowFloor_50 j9 x0 x1 x2 x3 (vt_ab h)) := by
  unfold fn_X13_lowFloor_50 ab_X13_lowFloor_50
  obtain ⟨F, hF⟩ : ∃ F, sv_FP h = F := ⟨_, rfl⟩
  exact sm_X13_lowFloor_51 (k9 := k9) (j9 := j9) hk9 w tx0
theorem sm_X13_lowFloor_9b {h0 : sv_H} {k9 : Nat → Int32 → Int32 → Int32 → sv_H → Option (Int32 × sv_H)} {j9 : Nat → Int32 → Int32 → Int32 → vt_S → Option (Int32 × vt_S)} (hk9 : ∀ {x0 : Nat} {x1 : Int32} {x2 : Int32} {x3 : Int32} {h : sv_H}, vt_W h0 h → sv_K h0 x0 = 14 → vt_sm h0 (k9 x0 x1 x2 x3 h) (j9 x0 x1 x2 x3 (vt_ab h))) {x0 : Nat} {x1 : Int32} {x2 : Int32} {x3 : Int32} {h : sv_H} (w : vt_W h0 h) (tx0 : sv_K h0 x0 = 14) : vt_sm h0 (fn_X13_lowFloor_9b k9 x0 x1 x2 x3 h) (ab_X13_lowFloor_9b j9 x0 x1 x2 x3 (vt_ab h)) := by
  unfold fn_X13_lowFloor_9b ab_X13_lowFloor_9b
  obtain ⟨F, hF⟩ : ∃ F, sv_FP h = F := ⟨_, rfl⟩
  refine sm_gI w tx0 (by decide) (fun v1 => ?_)
  refine sm_if (fun _ => ?_) (fun _ => ?_)
  · exact sm_rt w
  · refine sm_gA w hF tx0 tk_1406 (by decide) (fun v2 av2 => ?_)
    refine sm_lZ w hF tx0 av2 tk_1406 (fun _ => ?_)
    refine sm_if (fun _ => ?_) (fun _ => ?_)
    · exact sm_X13_lowFloor_50 (k9 := k9) (j9 := j9) hk9 w tx0
    · refine sm_gA w hF tx0 tk_1408 (by decide) (fun v4 av4 => ?_)
      refine sm_lI w hF tx0 av4 tk_1408 (fun _ => ?_)
      refine sm_if (fun _ => ?_) (fun _ => ?_)
      · exact sm_X13_lowFloor_50 (k9 := k9) (j9 := j9) hk9 w tx0
      · refine sm_gA w hF tx0 tk_1408 (by decide) (fun v6 av6 => ?_)
        refine sm_lI w hF tx0 av6 tk_1408 (fun _ => ?_)
        exact sm_X13_lowFloor_51 (k9 := k9) (j9 := j9) hk9 w tx0
theorem sm_X13_lowFloor_9 {h0 : sv_H} : ∀ (n : Nat) {x0 : Nat} {x1 : Int32} {x2 : Int32} {x3 : Int32} {h : sv_H}, vt_W h0 h → sv_K h0 x0 = 14 → vt_sm h0 (fn_X13_lowFloor_9 n x0 x1 x2 x3 h) (ab_X13_lowFloor_9 n x0 x1 x2 x3 (vt_ab h)) := by
  intro n
  induction n with
  | zero => intro x0 x1 x2 x3 h w tx0; exact sm_no
  | succ n ih => intro x0 x1 x2 x3 h w tx0; exact sm_X13_lowFloor_9b (k9 := fn_X13_lowFloor_9 n) (j9 := ab_X13_lowFloor_9 n) (fun w tx0 => ih w tx0) w tx0
theorem sm_X13_lowFloor_0 {h0 : sv_H} {x0 : Nat} {x1 : Int32} {h : sv_H} (w : vt_W h0 h) (tx0 : sv_K h0 x0 = 14) : vt_sm h0 (fn_X13_lowFloor x0 x1 h) (ab_X13_lowFloor x0 x1 (vt_ab h)) := by
  unfold fn_X13_lowFloor ab_X13_lowFloor
  obtain ⟨F, hF⟩ : ∃ F, sv_FP h = F := ⟨_, rfl⟩
  refine sm_kd w tx0 (by decide) ?_
  refine sm_gA w hF tx0 tk_1408 (by decide) (fun v1 av1 => ?_)
  refine sm_lI w hF tx0 av1 tk_1408 (fun _ => ?_)
  exact sm_X13_lowFloor_9 sv_fuel w tx0
theorem sm_X13_lowFloor {x0 : Nat} {x1 : Int32} {h : sv_H} (g : vt_G h) (tx0 : sv_K h x0 = 14) : vt_sm h (fn_X13_lowFloor x0 x1 h) (ab_X13_lowFloor x0 x1 (vt_ab h)) := sm_X13_lowFloor_0 ⟨g, vt_ko.refl h⟩ tx0

theorem sm_X13_begin_17 {h0 : sv_H} {h : sv_H} (w : vt_W h0 h) : vt_sm h0 (fn_X13_begin_17 h) (ab_X13_begin_17 (vt_ab h)) := by
  unfold fn_X13_begin_17 ab_X13_begin_17
  obtain ⟨F, hF⟩ : ∃ F, sv_FP h = F := ⟨_, rfl⟩
  exact sm_rt w
theorem sm_X13_begin_223 {h0 : sv_H} {s0 : Nat} {s0o : Nat} {s1 : Int32} {s2 : Int32} {h : sv_H} (w : vt_W h0 h) (ts0 : sv_K h0 s0o = 14) (as0 : sv_FP h 1413 s0o = s0) : vt_sm h0 (fn_X13_begin_223 s0 s1 s2 h) (ab_X13_begin_223 s0o s1 s2 (vt_ab h)) := by
  unfold fn_X13_begin_223 ab_X13_begin_223
  obtain ⟨F, hF⟩ : ∃ F, sv_FP h = F := ⟨_, rfl⟩
  rw [hF] at as0
  refine sm_sI w hF ts0 as0 tk_1413 (fun h w hF => ?_)
  exact sm_rt w
theorem sm_X13_begin_128 {h0 : sv_H} {x0 : Nat} {x1 : Int32} {x2 : Int32} {s0 : Nat} {s0o : Nat} {s1 : Int32} {s2 : Int32} {h : sv_H} (w : vt_W h0 h) (tx0 : sv_K h0 x0 = 14) (ts0 : sv_K h0 s0o = 14) (as0 : sv_FP h 1411 s0o = s0) : vt_sm h0 (fn_X13_begin_128 x0 x1 x2 s0 s1 s2 h) (ab_X13_begin_128 x0 x1 x2 s0o s1 s2 (vt_ab h)) := by
  unfold fn_X13_begin_128 ab_X13_begin_128
  obtain ⟨F, hF⟩ : ∃ F, sv_FP h = F := ⟨_, rfl⟩
  rw [hF] at as0
  refine sm_sI w hF ts0 as0 tk_1411 (fun h w hF => ?_)
  refine sm_gA w hF tx0 tk_1414 (by decide) (fun v2 av2 => ?_)
  refine sm_gA w hF tx0 tk_1408 (by decide) (fun v3 av3 => ?_)
  refine sm_lI w hF tx0 av3 tk_1408 (fun _ => ?_)
  refine sm_sI w hF tx0 av2 tk_1414 (fun h w hF => ?_)
  refine sm_cl w (sm_X13_lowCeiling w.1 (w.k tx0 (by decide))) (fun r6 h2 e w2 => ?_)
  have hF2 : sv_FP h2 = F := by rw [ro_X13_lowCeiling e]; exact hF
  clear e w hF
  have hF := hF2
  have w := w2
  clear hF2 w2
  refine sm_cl w (sm_X13_highFloor w.1 (w.k tx0 (by decide))) (fun r8 h2 e w2 => ?_)
  have hF2 : sv_FP h2 = F := by rw [ro_X13_highFloor e]; exact hF
  clear e w hF
  have hF := hF2
  have w := w2
  clear hF2 w2
  refine sm_gA w hF tx0 tk_1413 (by decide) (fun v10 av10 => ?_)
  refine sm_if (fun _ => ?_) (fun _ => ?_)
  · refine sm_gA w hF tx0 tk_1409 (by decide) (fun v17 av17 => ?_)
    refine sm_lI w hF tx0 av17 tk_1409 (fun _ => ?_)
    refine sm_if (fun _ => ?_) (fun _ => ?_)
    · refine sm_gA w hF tx0 tk_1409 (by decide) (fun v19 av19 => ?_)
      refine sm_lI w hF tx0 av19 tk_1409 (fun _ => ?_)
      exact sm_X13_begin_223 w tx0 (by rw [hF]; exact av10)
    · exact sm_X13_begin_223 w tx0 (by rw [hF]; exact av10)
  · refine sm_if (fun _ => ?_) (fun _ => ?_)
    · refine sm_cl w (sm_X13_lowFloor w.1 (w.k tx0 (by decide))) (fun r15 h2 e w2 => ?_)
      have hF2 : sv_FP h2 = F := by rw [ro_X13_lowFloor e]; exact hF
      clear e w hF
      have hF := hF2
      have w := w2
      clear hF2 w2
      exact sm_X13_begin_223 w tx0 (by rw [hF]; exact av10)
    · refine sm_gA w hF tx0 tk_1409 (by decide) (fun v11 av11 => ?_)
      refine sm_lI w hF tx0 av11 tk_1409 (fun _ => ?_)
      refine sm_if (fun _ => ?_) (fun _ => ?_)
      · refine sm_gA w hF tx0 tk_1409 (by decide) (fun v13 av13 => ?_)
        refine sm_lI w hF tx0 av13 tk_1409 (fun _ => ?_)
        exact sm_X13_begin_223 w tx0 (by rw [hF]; exact av10)
      · exact sm_X13_begin_223 w tx0 (by rw [hF]; exact av10)
theorem sm_X13_begin_96 {h0 : sv_H} {x3 : Int32} {s0 : Nat} {s0o : Nat} {s1 : Int32} {s2 : Int32} {h : sv_H} (w : vt_W h0 h) (ts0 : sv_K h0 s0o = 14) (as0 : sv_FP h 1412 s0o = s0) : vt_sm h0 (fn_X13_begin_96 x3 s0 s1 s2 h) (ab_X13_begin_96 x3 s0o s1 s2 (vt_ab h)) := by
  unfold fn_X13_begin_96 ab_X13_begin_96
  obtain ⟨F, hF⟩ : ∃ F, sv_FP h = F := ⟨_, rfl⟩
  rw [hF] at as0
  refine sm_sI w hF ts0 as0 tk_1412 (fun h w hF => ?_)
  exact sm_rz w
theorem sm_X13_begin_76 {h0 : sv_H} {x0 : Nat} {x1 : Int32} {x3 : Int32} {s0 : Nat} {s0o : Nat} {s1 : Int32} {s2 : Int32} {h : sv_H} (w : vt_W h0 h) (tx0 : sv_K h0 x0 = 14) (ts0 : sv_K h0 s0o = 14) (as0 : sv_FP h 1411 s0o = s0) : vt_sm h0 (fn_X13_begin_76 x0 x1 x3 s0 s1 s2 h) (ab_X13_begin_76 x0 x1 x3 s0o s1 s2 (vt_ab h)) := by
  unfold fn_X13_begin_76 ab_X13_begin_76
  obtain ⟨F, hF⟩ : ∃ F, sv_FP h = F := ⟨_, rfl⟩
  rw [hF] at as0
  refine sm_sI w hF ts0 as0 tk_1411 (fun h w hF => ?_)
  refine sm_gA w hF tx0 tk_1412 (by decide) (fun v2 av2 => ?_)
  refine sm_if (fun _ => ?_) (fun _ => ?_)
  · refine sm_gA w hF tx0 tk_1412 (by decide) (fun v3 av3 => ?_)
    refine sm_lI w hF tx0 av3 tk_1412 (fun _ => ?_)
    exact sm_X13_begin_96 w tx0 (by rw [hF]; exact av2)
  · exact sm_X13_begin_96 w tx0 (by rw [hF]; exact av2)
theorem sm_X13_begin_56 {h0 : sv_H} {x0 : Nat} {x1 : Int32} {s0 : Int32} {h : sv_H} (w : vt_W h0 h) (tx0 : sv_K h0 x0 = 14) : vt_sm h0 (fn_X13_begin_56 x0 x1 s0 h) (ab_X13_begin_56 x0 x1 s0 (vt_ab h)) := by
  unfold fn_X13_begin_56 ab_X13_begin_56
  obtain ⟨F, hF⟩ : ∃ F, sv_FP h = F := ⟨_, rfl⟩
  refine sm_gA w hF tx0 tk_1411 (by decide) (fun v1 av1 => ?_)
  refine sm_if (fun _ => ?_) (fun _ => ?_)
  · refine sm_gA w hF tx0 tk_1411 (by decide) (fun v2 av2 => ?_)
    refine sm_lI w hF tx0 av2 tk_1411 (fun _ => ?_)
    exact sm_X13_begin_76 w tx0 tx0 (by rw [hF]; exact av1)
  · exact sm_X13_begin_76 w tx0 tx0 (by rw [hF]; exact av1)
theorem sm_X13_begin_55 {h0 : sv_H} {x0 : Nat} {x1 : Int32} {h : sv_H} (w : vt_W h0 h) (tx0 : sv_K h0 x0 = 14) : vt_sm h0 (fn_X13_begin_55 x0 x1 h) (ab_X13_begin_55 x0 x1 (vt_ab h)) := by
  unfold fn_X13_begin_55 ab_X13_begin_55
  obtain ⟨F, hF⟩ : ∃ F, sv_FP h = F := ⟨_, rfl⟩
  exact sm_X13_begin_56 w tx0
theorem sm_X13_begin_0 {h0 : sv_H} {x0 : Nat} {x1 : Int32} {x2 : Int32} {h : sv_H} (w : vt_W h0 h) (tx0 : sv_K h0 x0 = 14) : vt_sm h0 (fn_X13_begin x0 x1 x2 h) (ab_X13_begin x0 x1 x2 (vt_ab h)) := by
  unfold fn_X13_begin ab_X13_begin
  obtain ⟨F, hF⟩ : ∃ F, sv_FP h = F := ⟨_, rfl⟩
  refine sm_kd w tx0 (by decide) ?_
  refine sm_cl w (sm_X13_isSector w.1 (w.k tx0 (by decide))) (fun r1 h2 e w2 => ?_)
  have hF2 : sv_FP h2 = F := by rw [ro_X13_isSector e]; exact hF
  clear e w hF
  have hF := hF2
  have w := w2
  clear hF2 w2
  refine sm_if (fun _ => ?_) (fun _ => ?_)
  · exact sm_X13_begin_17 w
  · refine sm_if (fun _ => ?_) (fun _ => ?_)
    · exact sm_X13_begin_17 w
    · refine sm_if (fun _ => ?_) (fun _ => ?_)
      · refine sm_gA w hF tx0 tk_1410 (by decide) (fun v3 av3 => ?_)
        refine sm_lI w hF tx0 av3 tk_1410 (fun _ => ?_)
        refine sm_if (fun _ => ?_) (fun _ => ?_)
        · refine sm_gA w hF tx0 tk_1410 (by decide) (fun v5 av5 => ?_)
          refine sm_sI w hF tx0 av5 tk_1410 (fun h w hF => ?_)
          refine sm_gA w hF tx0 tk_1412 (by decide) (fun v7 av7 => ?_)
          refine sm_sI w hF tx0 av7 tk_1412 (fun h w hF => ?_)
          refine sm_gA w hF tx0 tk_1411 (by decide) (fun v9 av9 => ?_)
          refine sm_if (fun _ => ?_) (fun _ => ?_)
          · exact sm_X13_begin_128 w tx0 tx0 (by rw [hF]; exact av9)
          · exact sm_X13_begin_128 w tx0 tx0 (by rw [hF]; exact av9)
        · refine sm_if (fun _ => ?_) (fun _ => ?_)
          · refine sm_gA w hF tx0 tk_1410 (by decide) (fun v10 av10 => ?_)
            refine sm_lI w hF tx0 av10 tk_1410 (fun _ => ?_)
            refine sm_if (fun _ => ?_) (fun _ => ?_)
            · refine sm_gA w hF tx0 tk_1411 (by decide) (fun v12 av12 => ?_)
              refine sm_lI w hF tx0 av12 tk_1411 (fun _ => ?_)
              refine sm_if (fun _ => ?_) (fun _ => ?_)
              · exact sm_X13_begin_55 w tx0
              · exact sm_X13_begin_56 w tx0
            · exact sm_X13_begin_55 w tx0
          · exact sm_X13_begin_55 w tx0
      · exact sm_X13_begin_17 w
theorem sm_X13_begin {x0 : Nat} {x1 : Int32} {x2 : Int32} {h : sv_H} (g : vt_G h) (tx0 : sv_K h x0 = 14) : vt_sm h (fn_X13_begin x0 x1 x2 h) (ab_X13_begin x0 x1 x2 (vt_ab h)) := sm_X13_begin_0 ⟨g, vt_ko.refl h⟩ tx0

theorem sm_X17_startAll_40 {h0 : sv_H} {k2 : Nat → Int32 → Int32 → Int32 → sv_H → Option (Unit × sv_H)} {j2 : Nat → Int32 → Int32 → Int32 → vt_S → Option (Unit × vt_S)} (hk2 : ∀ {x0 : Nat} {x1 : Int32} {x2 : Int32} {x3 : Int32} {h : sv_H}, vt_W h0 h → sv_K h0 x0 = 18 → vt_sm h0 (k2 x0 x1 x2 x3 h) (j2 x0 x1 x2 x3 (vt_ab h))) {x0 : Nat} {x1 : Int32} {x2 : Int32} {x3 : Int32} {s0 : Int32} {h : sv_H} (w : vt_W h0 h) (tx0 : sv_K h0 x0 = 18) : vt_sm h0 (fn_X17_startAll_40 k2 x0 x1 x2 x3 s0 h) (ab_X17_startAll_40 j2 x0 x1 x2 x3 s0 (vt_ab h)) := by
  unfold fn_X17_startAll_40 ab_X17_startAll_40
  obtain ⟨F, hF⟩ : ∃ F, sv_FP h = F := ⟨_, rfl⟩
  exact hk2 w tx0
theorem sm_X17_startAll_39 {h0 : sv_H} {k2 : Nat → Int32 → Int32 → Int32 → sv_H → Option (Unit × sv_H)} {j2 : Nat → Int32 → Int32 → Int32 → vt_S → Option (Unit × vt_S)} (hk2 : ∀ {x0 : Nat} {x1 : Int32} {x2 : Int32} {x3 : Int32} {h : sv_H}, vt_W h0 h → sv_K h0 x0 = 18 → vt_sm h0 (k2 x0 x1 x2 x3 h) (j2 x0 x1 x2 x3 (vt_ab h))) {x0 : Nat} {x1 : Int32} {x2 : Int32} {x3 : Int32} {h : sv_H} (w : vt_W h0 h) (tx0 : sv_K h0 x0 = 18) : vt_sm h0 (fn_X17_startAll_39 k2 x0 x1 x2 x3 h) (ab_X17_startAll_39 j2 x0 x1 x2 x3 (vt_ab h)) := by
  unfold fn_X17_startAll_39 ab_X17_startAll_39
  obtain ⟨F, hF⟩ : ∃ F, sv_FP h = F := ⟨_, rfl⟩
  exact sm_X17_startAll_40 (k2 := k2) (j2 := j2) hk2 w tx0
theorem sm_X17_startAll_2b {h0 : sv_H} {k2 : Nat → Int32 → Int32 → Int32 → sv_H → Option (Unit × sv_H)} {j2 : Nat → Int32 → Int32 → Int32 → vt_S → Option (Unit × vt_S)} (hk2 : ∀ {x0 : Nat} {x1 : Int32} {x2 : Int32} {x3 : Int32} {h : sv_H}, vt_W h0 h → sv_K h0 x0 = 18 → vt_sm h0 (k2 x0 x1 x2 x3 h) (j2 x0 x1 x2 x3 (vt_ab h))) {x0 : Nat} {x1 : Int32} {x2 : Int32} {x3 : Int32} {h : sv_H} (w : vt_W h0 h) (tx0 : sv_K h0 x0 = 18) : vt_sm h0 (fn_X17_startAll_2b k2 x0 x1 x2 x3 h) (ab_X17_startAll_2b j2 x0 x1 x2 x3 (vt_ab h)) := by
  unfold fn_X17_startAll_2b ab_X17_startAll_2b
  obtain ⟨F, hF⟩ : ∃ F, sv_FP h = F := ⟨_, rfl⟩
  refine sm_cl w (sm_X17_sectors w.1 (w.k tx0 (by decide))) (fun r1 h2 e w2 => ?_)
  have hF2 : sv_FP h2 = F := by rw [ro_X17_sectors e]; exact hF
  clear e w hF
  have hF := hF2
  have w := w2
  clear hF2 w2
  refine sm_if (fun _ => ?_) (fun _ => ?_)
  · exact sm_rt w
  · refine sm_gP w tx0 tk_1803 rfl (fun v3 tv3 => ?_)
    refine sm_gA w hF tv3 tk_1405 (by decide) (fun v4 av4 => ?_)
    refine sm_lI w hF tv3 av4 tk_1405 (fun _ => ?_)
    refine sm_if (fun _ => ?_) (fun _ => ?_)
    · refine sm_gP w tx0 tk_1803 rfl (fun v6 tv6 => ?_)
      refine sm_cl w (sm_X13_begin w.1 (w.k tv6 (by decide))) (fun r7 h2 e w2 => ?_)
      have hF2 : sv_FP h2 = F := (ow_X13_begin sv_clT trivial e).2.1.1.trans hF
      clear e w hF
      have hF := hF2
      have w := w2
      clear hF2 w2
      refine sm_if (fun _ => ?_) (fun _ => ?_)
      · exact sm_X17_startAll_39 (k2 := k2) (j2 := j2) hk2 w tx0
      · exact sm_X17_startAll_40 (k2 := k2) (j2 := j2) hk2 w tx0
    · exact sm_X17_startAll_39 (k2 := k2) (j2 := j2) hk2 w tx0
theorem sm_X17_startAll_2 {h0 : sv_H} : ∀ (n : Nat) {x0 : Nat} {x1 : Int32} {x2 : Int32} {x3 : Int32} {h : sv_H}, vt_W h0 h → sv_K h0 x0 = 18 → vt_sm h0 (fn_X17_startAll_2 n x0 x1 x2 x3 h) (ab_X17_startAll_2 n x0 x1 x2 x3 (vt_ab h)) := by
  intro n
  induction n with
  | zero => intro x0 x1 x2 x3 h w tx0; exact sm_no
  | succ n ih => intro x0 x1 x2 x3 h w tx0; exact sm_X17_startAll_2b (k2 := fn_X17_startAll_2 n) (j2 := ab_X17_startAll_2 n) (fun w tx0 => ih w tx0) w tx0
theorem sm_X17_startAll_0 {h0 : sv_H} {x0 : Nat} {x1 : Int32} {x2 : Int32} {h : sv_H} (w : vt_W h0 h) (tx0 : sv_K h0 x0 = 18) : vt_sm h0 (fn_X17_startAll x0 x1 x2 h) (ab_X17_startAll x0 x1 x2 (vt_ab h)) := by
  unfold fn_X17_startAll ab_X17_startAll
  obtain ⟨F, hF⟩ : ∃ F, sv_FP h = F := ⟨_, rfl⟩
  refine sm_kd w tx0 (by decide) ?_
  exact sm_X17_startAll_2 sv_fuel w tx0
theorem sm_X17_startAll {x0 : Nat} {x1 : Int32} {x2 : Int32} {h : sv_H} (g : vt_G h) (tx0 : sv_K h x0 = 18) : vt_sm h (fn_X17_startAll x0 x1 x2 h) (ab_X17_startAll x0 x1 x2 (vt_ab h)) := sm_X17_startAll_0 ⟨g, vt_ko.refl h⟩ tx0

theorem sm_X17_walks_139 {h0 : sv_H} {h : sv_H} (w : vt_W h0 h) : vt_sm h0 (fn_X17_walks_139 h) (ab_X17_walks_139 (vt_ab h)) := by
  unfold fn_X17_walks_139 ab_X17_walks_139
  obtain ⟨F, hF⟩ : ∃ F, sv_FP h = F := ⟨_, rfl⟩
  exact sm_rt w
theorem sm_X17_walks_247 {h0 : sv_H} {k169 : Nat → Int32 → Int32 → sv_H → Option (Int32 × sv_H)} {j169 : Nat → Int32 → Int32 → vt_S → Option (Int32 × vt_S)} (hk169 : ∀ {x0 : Nat} {x4 : Int32} {x5 : Int32} {h : sv_H}, vt_W h0 h → sv_K h0 x0 = 18 → vt_sm h0 (k169 x0 x4 x5 h) (j169 x0 x4 x5 (vt_ab h))) {x0 : Nat} {x4 : Int32} {x5 : Int32} {h : sv_H} (w : vt_W h0 h) (tx0 : sv_K h0 x0 = 18) : vt_sm h0 (fn_X17_walks_247 k169 x0 x4 x5 h) (ab_X17_walks_247 j169 x0 x4 x5 (vt_ab h)) := by
  unfold fn_X17_walks_247 ab_X17_walks_247
  obtain ⟨F, hF⟩ : ∃ F, sv_FP h = F := ⟨_, rfl⟩
  exact hk169 w tx0
theorem sm_X17_walks_244 {h0 : sv_H} {k169 : Nat → Int32 → Int32 → sv_H → Option (Int32 × sv_H)} {j169 : Nat → Int32 → Int32 → vt_S → Option (Int32 × vt_S)} (hk169 : ∀ {x0 : Nat} {x4 : Int32} {x5 : Int32} {h : sv_H}, vt_W h0 h → sv_K h0 x0 = 18 → vt_sm h0 (k169 x0 x4 x5 h) (j169 x0 x4 x5 (vt_ab h))) {x0 : Nat} {x4 : Int32} {x5 : Int32} {s0 : Nat} {s1 : Int32} {s2 : Int32} {h : sv_H} (w : vt_W h0 h) (tx0 : sv_K h0 x0 = 18) (ts0 : sv_K h0 s0 = 18) : vt_sm h0 (fn_X17_walks_244 k169 x0 x4 x5 s0 s1 s2 h) (ab_X17_walks_244 j169 x0 x4 x5 s0 s1 s2 (vt_ab h)) := by
  unfold fn_X17_walks_244 ab_X17_walks_244
  obtain ⟨F, hF⟩ : ∃ F, sv_FP h = F := ⟨_, rfl⟩
  refine sm_cl w (sm_X17_startAll w.1 (w.k ts0 (by decide))) (fun _ h2 e w2 => ?_)
  have hF2 : sv_FP h2 = F := (ow_X17_startAll sv_clT trivial e).2.1.1.trans hF
  clear e w hF
  have hF := hF2
  have w := w2
  clear hF2 w2
  exact sm_X17_walks_247 (k169 := k169) (j169 := j169) hk169 w tx0
theorem sm_X17_walks_209 {h0 : sv_H} {k169 : Nat → Int32 → Int32 → sv_H → Option (Int32 × sv_H)} {j169 : Nat → Int32 → Int32 → vt_S → Option (Int32 × vt_S)} (hk169 : ∀ {x0 : Nat} {x4 : Int32} {x5 : Int32} {h : sv_H}, vt_W h0 h → sv_K h0 x0 = 18 → vt_sm h0 (k169 x0 x4 x5 h) (j169 x0 x4 x5 (vt_ab h))) {x0 : Nat} {x4 : Int32} {x5 : Int32} {x6 : Int32} {h : sv_H} (w : vt_W h0 h) (tx0 : sv_K h0 x0 = 18) : vt_sm h0 (fn_X17_walks_209 k169 x0 x4 x5 x6 h) (ab_X17_walks_209 j169 x0 x4 x5 x6 (vt_ab h)) := by
  unfold fn_X17_walks_209 ab_X17_walks_209
  obtain ⟨F, hF⟩ : ∃ F, sv_FP h = F := ⟨_, rfl⟩
  refine sm_gA w hF tx0 tk_1820 (by decide) (fun v1 av1 => ?_)
  refine sm_lI w hF tx0 av1 tk_1820 (fun _ => ?_)
  refine sm_cl w (sm_X17_wallPart w.1 (w.k tx0 (by decide))) (fun r3 h2 e w2 => ?_)
  have hF2 : sv_FP h2 = F := by rw [ro_X17_wallPart e]; exact hF
  clear e w hF
  have hF := hF2
  have w := w2
  clear hF2 w2
  refine sm_if (fun _ => ?_) (fun _ => ?_)
  · exact sm_X17_walks_244 (k169 := k169) (j169 := j169) hk169 w tx0 tx0
  · refine sm_if (fun _ => ?_) (fun _ => ?_)
    · exact sm_X17_walks_244 (k169 := k169) (j169 := j169) hk169 w tx0 tx0
    · exact sm_X17_walks_244 (k169 := k169) (j169 := j169) hk169 w tx0 tx0
theorem sm_X17_walks_169b {h0 : sv_H} {k169 : Nat → Int32 → Int32 → sv_H → Option (Int32 × sv_H)} {j169 : Nat → Int32 → Int32 → vt_S → Option (Int32 × vt_S)} (hk169 : ∀ {x0 : Nat} {x4 : Int32} {x5 : Int32} {h : sv_H}, vt_W h0 h → sv_K h0 x0 = 18 → vt_sm h0 (k169 x0 x4 x5 h) (j169 x0 x4 x5 (vt_ab h))) {x0 : Nat} {x4 : Int32} {x5 : Int32} {h : sv_H} (w : vt_W h0 h) (tx0 : sv_K h0 x0 = 18) : vt_sm h0 (fn_X17_walks_169b k169 x0 x4 x5 h) (ab_X17_walks_169b j169 x0 x4 x5 (vt_ab h)) := by
  unfold fn_X17_walks_169b ab_X17_walks_169b
  obtain ⟨F, hF⟩ : ∃ F, sv_FP h = F := ⟨_, rfl⟩
  refine sm_if (fun _ => ?_) (fun _ => ?_)
  · exact sm_rt w
  · refine sm_gA w hF tx0 tk_1820 (by decide) (fun v1 av1 => ?_)
    refine sm_lI w hF tx0 av1 tk_1820 (fun _ => ?_)
    refine sm_cl w (sm_X17_wallPart w.1 (w.k tx0 (by decide))) (fun r3 h2 e w2 => ?_)
    have hF2 : sv_FP h2 = F := by rw [ro_X17_wallPart e]; exact hF
    clear e w hF
    have hF := hF2
    have w := w2
    clear hF2 w2
    refine sm_if (fun _ => ?_) (fun _ => ?_)
    · exact sm_X17_walks_209 (k169 := k169) (j169 := j169) hk169 w tx0
    · refine sm_if (fun _ => ?_) (fun _ => ?_)
      · exact sm_X17_walks_209 (k169 := k169) (j169 := j169) hk169 w tx0
      · refine sm_if (fun _ => ?_) (fun _ => ?_)
        · exact sm_X17_walks_209 (k169 := k169) (j169 := j169) hk169 w tx0
        · exact sm_X17_walks_247 (k169 := k169) (j169 := j169) hk169 w tx0
theorem sm_X17_walks_169 {h0 : sv_H} : ∀ (n : Nat) {x0 : Nat} {x4 : Int32} {x5 : Int32} {h : sv_H}, vt_W h0 h → sv_K h0 x0 = 18 → vt_sm h0 (fn_X17_walks_169 n x0 x4 x5 h) (ab_X17_walks_169 n x0 x4 x5 (vt_ab h)) := by
  intro n
  induction n with
  | zero => intro x0 x4 x5 h w tx0; exact sm_no
  | succ n ih => intro x0 x4 x5 h w tx0; exact sm_X17_walks_169b (k169 := fn_X17_walks_169 n) (j169 := ab_X17_walks_169 n) (fun w tx0 => ih w tx0) w tx0
theorem sm_X17_walks_85 {h0 : sv_H} {k19 : Nat → Int32 → Int32 → Int32 → Int32 → Int32 → sv_H → Option (Int32 × sv_H)} {j19 : Nat → Int32 → Int32 → Int32 → Int32 → Int32 → vt_S → Option (Int32 × vt_S)} (hk19 : ∀ {x0 : Nat} {x1 : Int32} {x2 : Int32} {x3 : Int32} {x4 : Int32} {x5 : Int32} {h : sv_H}, vt_W h0 h → sv_K h0 x0 = 18 → vt_sm h0 (k19 x0 x1 x2 x3 x4 x5 h) (j19 x0 x1 x2 x3 x4 x5 (vt_ab h))) {x0 : Nat} {x1 : Int32} {x2 : Int32} {x3 : Int32} {x4 : Int32} {x5 : Int32} {h : sv_H} (w : vt_W h0 h) (tx0 : sv_K h0 x0 = 18) : vt_sm h0 (fn_X17_walks_85 k19 x0 x1 x2 x3 x4 x5 h) (ab_X17_walks_85 j19 x0 x1 x2 x3 x4 x5 (vt_ab h)) := by
  unfold fn_X17_walks_85 ab_X17_walks_85
  obtain ⟨F, hF⟩ : ∃ F, sv_FP h = F := ⟨_, rfl⟩
  exact hk19 w tx0
theorem sm_X17_walks_19b {h0 : sv_H} {k19 : Nat → Int32 → Int32 → Int32 → Int32 → Int32 → sv_H → Option (Int32 × sv_H)} {j19 : Nat → Int32 → Int32 → Int32 → Int32 → Int32 → vt_S → Option (Int32 × vt_S)} (hk19 : ∀ {x0 : Nat} {x1 : Int32} {x2 : Int32} {x3 : Int32} {x4 : Int32} {x5 : Int32} {h : sv_H}, vt_W h0 h → sv_K h0 x0 = 18 → vt_sm h0 (k19 x0 x1 x2 x3 x4 x5 h) (j19 x0 x1 x2 x3 x4 x5 (vt_ab h))) {x0 : Nat} {x1 : Int32} {x2 : Int32} {x3 : Int32} {x4 : Int32} {x5 : Int32} {h : sv_H} (w : vt_W h0 h) (tx0 : sv_K h0 x0 = 18) : vt_sm h0 (fn_X17_walks_19b k19 x0 x1 x2 x3 x4 x5 h) (ab_X17_walks_19b j19 x0 x1 x2 x3 x4 x5 (vt_ab h)) := by
  unfold fn_X17_walks_19b ab_X17_walks_19b
  obtain ⟨F, hF⟩ : ∃ F, sv_FP h = F := ⟨_, rfl⟩
  refine sm_gI w tx0 (by decide) (fun v1 => ?_)
  refine sm_if (fun _ => ?_) (fun _ => ?_)
  · refine sm_gI w tx0 (by decide) (fun v2 => ?_)
    refine sm_if (fun _ => ?_) (fun _ => ?_)
    · exact sm_X17_walks_139 w
    · refine sm_gI w tx0 (by decide) (fun v3 => ?_)
      refine sm_if (fun _ => ?_) (fun _ => ?_)
      · exact sm_X17_walks_139 w
      · refine sm_gI w tx0 (by decide) (fun v4 => ?_)
        refine sm_if (fun _ => ?_) (fun _ => ?_)
        · exact sm_X17_walks_139 w
        · refine sm_gI w tx0 (by decide) (fun v5 => ?_)
          refine sm_if (fun _ => ?_) (fun _ => ?_)
          · refine sm_gI w tx0 (by decide) (fun v6 => ?_)
            refine sm_pI w hF tx0 (by decide) (fun h w hF => ?_)
            refine sm_gI w tx0 (by decide) (fun v8 => ?_)
            refine sm_pI w hF tx0 (by decide) (fun h w hF => ?_)
            refine sm_pI w hF tx0 (by decide) (fun h w hF => ?_)
            exact sm_X17_walks_169 sv_fuel w tx0
          · exact sm_X17_walks_139 w
  · refine sm_gA w hF tx0 tk_1820 (by decide) (fun v11 av11 => ?_)
    refine sm_lI w hF tx0 av11 tk_1820 (fun _ => ?_)
    refine sm_cl w (sm_X17_meets w.1 (w.k tx0 (by decide))) (fun r13 h2 e w2 => ?_)
    have hF2 : sv_FP h2 = F := (ow_X17_meets sv_clT trivial e).2.1.1.trans hF
    clear e w hF
    have hF := hF2
    have w := w2
    clear hF2 w2
    refine sm_gJ w tx0 (by decide) (fun v15 => ?_)
    refine sm_gJ w tx0 (by decide) (fun v16 => ?_)
    refine sm_if (fun _ => ?_) (fun _ => ?_)
    · exact sm_X17_walks_85 (k19 := k19) (j19 := j19) hk19 w tx0
    · refine sm_gA w hF tx0 tk_1820 (by decide) (fun v17 av17 => ?_)
      refine sm_lI w hF tx0 av17 tk_1820 (fun _ => ?_)
      refine sm_cl w (sm_X17_stops w.1 (w.k tx0 (by decide))) (fun r19 h2 e w2 => ?_)
      have hF2 : sv_FP h2 = F := by rw [ro_X17_stops e]; exact hF
      clear e w hF
      have hF := hF2
      have w := w2
      clear hF2 w2
      refine sm_if (fun _ => ?_) (fun _ => ?_)
      · refine sm_gA w hF tx0 tk_1820 (by decide) (fun v21 av21 => ?_)
        refine sm_lI w hF tx0 av21 tk_1820 (fun _ => ?_)
        refine sm_cl w (sm_X17_sideOf w.1 (w.k tx0 (by decide))) (fun r23 h2 e w2 => ?_)
        have hF2 : sv_FP h2 = F := by rw [ro_X17_sideOf e]; exact hF
        clear e w hF
        have hF := hF2
        have w := w2
        clear hF2 w2
        exact sm_X17_walks_85 (k19 := k19) (j19 := j19) hk19 w tx0
      · exact sm_rt w
theorem sm_X17_walks_19 {h0 : sv_H} : ∀ (n : Nat) {x0 : Nat} {x1 : Int32} {x2 : Int32} {x3 : Int32} {x4 : Int32} {x5 : Int32} {h : sv_H}, vt_W h0 h → sv_K h0 x0 = 18 → vt_sm h0 (fn_X17_walks_19 n x0 x1 x2 x3 x4 x5 h) (ab_X17_walks_19 n x0 x1 x2 x3 x4 x5 (vt_ab h)) := by
  intro n
  induction n with
  | zero => intro x0 x1 x2 x3 x4 x5 h w tx0; exact sm_no
  | succ n ih => intro x0 x1 x2 x3 x4 x5 h w tx0; exact sm_X17_walks_19b (k19 := fn_X17_walks_19 n) (j19 := ab_X17_walks_19 n) (fun w tx0 => ih w tx0) w tx0
theorem sm_X17_walks_0 {h0 : sv_H} {x0 : Nat} {x1 : Int32} {x2 : Int32} {h : sv_H} (w : vt_W h0 h) (tx0 : sv_K h0 x0 = 18) : vt_sm h0 (fn_X17_walks x0 x1 x2 h) (ab_X17_walks x0 x1 x2 (vt_ab h)) := by
  unfold fn_X17_walks ab_X17_walks
  obtain ⟨F, hF⟩ : ∃ F, sv_FP h = F := ⟨_, rfl⟩
  refine sm_kd w tx0 (by decide) ?_
  refine sm_cl w (sm_X17_gather w.1 (w.k tx0 (by decide))) (fun _ h2 e w2 => ?_)
  have hF2 : sv_FP h2 = F := (ow_X17_gather sv_clT trivial e).2.1.1.trans hF
  clear e w hF
  have hF := hF2
  have w := w2
  clear hF2 w2
  refine sm_gI w tx0 (by decide) (fun v2 => ?_)
  exact sm_X17_walks_19 sv_fuel w tx0
theorem sm_X17_walks {x0 : Nat} {x1 : Int32} {x2 : Int32} {h : sv_H} (g : vt_G h) (tx0 : sv_K h x0 = 18) : vt_sm h (fn_X17_walks x0 x1 x2 h) (ab_X17_walks x0 x1 x2 (vt_ab h)) := sm_X17_walks_0 ⟨g, vt_ko.refl h⟩ tx0

theorem sm_X17_use_63 {h0 : sv_H} {h : sv_H} (w : vt_W h0 h) : vt_sm h0 (fn_X17_use_63 h) (ab_X17_use_63 (vt_ab h)) := by
  unfold fn_X17_use_63 ab_X17_use_63
  obtain ⟨F, hF⟩ : ∃ F, sv_FP h = F := ⟨_, rfl⟩
  exact sm_rt w
theorem sm_X17_use_132 {h0 : sv_H} {h : sv_H} (w : vt_W h0 h) : vt_sm h0 (fn_X17_use_132 h) (ab_X17_use_132 (vt_ab h)) := by
  unfold fn_X17_use_132 ab_X17_use_132
  obtain ⟨F, hF⟩ : ∃ F, sv_FP h = F := ⟨_, rfl⟩
  exact sm_rt w
theorem sm_X17_use_109 {h0 : sv_H} {x0 : Nat} {x1 : Int32} {h : sv_H} (w : vt_W h0 h) (tx0 : sv_K h0 x0 = 18) : vt_sm h0 (fn_X17_use_109 x0 x1 h) (ab_X17_use_109 x0 x1 (vt_ab h)) := by
  unfold fn_X17_use_109 ab_X17_use_109
  obtain ⟨F, hF⟩ : ∃ F, sv_FP h = F := ⟨_, rfl⟩
  refine sm_cl w (sm_X17_wallPart w.1 (w.k tx0 (by decide))) (fun r1 h2 e w2 => ?_)
  have hF2 : sv_FP h2 = F := by rw [ro_X17_wallPart e]; exact hF
  clear e w hF
  have hF := hF2
  have w := w2
  clear hF2 w2
  refine sm_if (fun _ => ?_) (fun _ => ?_)
  · refine sm_cl w (sm_X17_wallPart w.1 (w.k tx0 (by decide))) (fun r3 h2 e w2 => ?_)
    have hF2 : sv_FP h2 = F := by rw [ro_X17_wallPart e]; exact hF
    clear e w hF
    have hF := hF2
    have w := w2
    clear hF2 w2
    refine sm_cl w (sm_X17_startAll w.1 (w.k tx0 (by decide))) (fun _ h2 e w2 => ?_)
    have hF2 : sv_FP h2 = F := (ow_X17_startAll sv_clT trivial e).2.1.1.trans hF
    clear e w hF
    have hF := hF2
    have w := w2
    clear hF2 w2
    exact sm_X17_use_132 w
  · exact sm_X17_use_132 w
theorem sm_X17_use_0 {h0 : sv_H} {x0 : Nat} {h : sv_H} (w : vt_W h0 h) (tx0 : sv_K h0 x0 = 18) : vt_sm h0 (fn_X17_use x0 h) (ab_X17_use x0 (vt_ab h)) := by
  unfold fn_X17_use ab_X17_use
  obtain ⟨F, hF⟩ : ∃ F, sv_FP h = F := ⟨_, rfl⟩
  refine sm_kd w tx0 (by decide) ?_
  refine sm_gI w tx0 (by decide) (fun v1 => ?_)
  refine sm_cl w (sm_X17_cosine w.1) (fun r2 h2 e w2 => ?_)
  have hF2 : sv_FP h2 = F := by rw [ro_X17_cosine e]; exact hF
  clear e w hF
  have hF := hF2
  have w := w2
  clear hF2 w2
  refine sm_gI w tx0 (by decide) (fun v4 => ?_)
  refine sm_cl w (sm_X17_sine w.1) (fun r5 h2 e w2 => ?_)
  have hF2 : sv_FP h2 = F := by rw [ro_X17_sine e]; exact hF
  clear e w hF
  have hF := hF2
  have w := w2
  clear hF2 w2
  refine sm_cl w (sm_X17_gather w.1 (w.k tx0 (by decide))) (fun _ h2 e w2 => ?_)
  have hF2 : sv_FP h2 = F := (ow_X17_gather sv_clT trivial e).2.1.1.trans hF
  clear e w hF
  have hF := hF2
  have w := w2
  clear hF2 w2
  refine sm_gI w tx0 (by decide) (fun v8 => ?_)
  refine sm_if (fun _ => ?_) (fun _ => ?_)
  · exact sm_X17_use_63 w
  · refine sm_gA w hF tx0 tk_1820 (by decide) (fun v9 av9 => ?_)
    refine sm_lI w hF tx0 av9 tk_1820 (fun _ => ?_)
    refine sm_cl w (sm_X17_meets w.1 (w.k tx0 (by decide))) (fun r11 h2 e w2 => ?_)
    have hF2 : sv_FP h2 = F := (ow_X17_meets sv_clT trivial e).2.1.1.trans hF
    clear e w hF
    have hF := hF2
    have w := w2
    clear hF2 w2
    refine sm_if (fun _ => ?_) (fun _ => ?_)
    · exact sm_X17_use_63 w
    · refine sm_gJ w tx0 (by decide) (fun v13 => ?_)
      refine sm_gJ w tx0 (by decide) (fun v14 => ?_)
      refine sm_if (fun _ => ?_) (fun _ => ?_)
      · exact sm_X17_use_63 w
      · refine sm_gI w tx0 (by decide) (fun v15 => ?_)
        refine sm_if (fun _ => ?_) (fun _ => ?_)
        · exact sm_X17_use_63 w
        · refine sm_gA w hF tx0 tk_1820 (by decide) (fun v16 av16 => ?_)
          refine sm_lI w hF tx0 av16 tk_1820 (fun _ => ?_)
          refine sm_cl w (sm_X17_wallPart w.1 (w.k tx0 (by decide))) (fun r18 h2 e w2 => ?_)
          have hF2 : sv_FP h2 = F := by rw [ro_X17_wallPart e]; exact hF
          clear e w hF
          have hF := hF2
          have w := w2
          clear hF2 w2
          refine sm_cl w (sm_X17_wallPart w.1 (w.k tx0 (by decide))) (fun r20 h2 e w2 => ?_)
          have hF2 : sv_FP h2 = F := by rw [ro_X17_wallPart e]; exact hF
          clear e w hF
          have hF := hF2
          have w := w2
          clear hF2 w2
          refine sm_if (fun _ => ?_) (fun _ => ?_)
          · refine sm_if (fun _ => ?_) (fun _ => ?_)
            · exact sm_X17_use_109 w tx0
            · refine sm_gP w tx0 tk_1803 rfl (fun v22 tv22 => ?_)
              refine sm_cl w (sm_X13_begin w.1 (w.k tv22 (by decide))) (fun r23 h2 e w2 => ?_)
              have hF2 : sv_FP h2 = F := (ow_X13_begin sv_clT trivial e).2.1.1.trans hF
              clear e w hF
              have hF := hF2
              have w := w2
              clear hF2 w2
              exact sm_X17_use_132 w
          · exact sm_X17_use_109 w tx0
theorem sm_X17_use {x0 : Nat} {h : sv_H} (g : vt_G h) (tx0 : sv_K h x0 = 18) : vt_sm h (fn_X17_use x0 h) (ab_X17_use x0 (vt_ab h)) := sm_X17_use_0 ⟨g, vt_ko.refl h⟩ tx0

theorem sm_X13_await_0 {h0 : sv_H} {x0 : Nat} {x1 : Int32} {x2 : Int32} {h : sv_H} (w : vt_W h0 h) (tx0 : sv_K h0 x0 = 14) : vt_sm h0 (fn_X13_await x0 x1 x2 h) (ab_X13_await x0 x1 x2 (vt_ab h)) := by
  unfold fn_X13_await ab_X13_await
  obtain ⟨F, hF⟩ : ∃ F, sv_FP h = F := ⟨_, rfl⟩
  refine sm_kd w tx0 (by decide) ?_
  refine sm_gA w hF tx0 tk_1411 (by decide) (fun v1 av1 => ?_)
  refine sm_sI w hF tx0 av1 tk_1411 (fun h w hF => ?_)
  refine sm_gA w hF tx0 tk_1412 (by decide) (fun v3 av3 => ?_)
  refine sm_sI w hF tx0 av3 tk_1412 (fun h w hF => ?_)
  exact sm_rt w
theorem sm_X13_await {x0 : Nat} {x1 : Int32} {x2 : Int32} {h : sv_H} (g : vt_G h) (tx0 : sv_K h x0 = 14) : vt_sm h (fn_X13_await x0 x1 x2 h) (ab_X13_await x0 x1 x2 (vt_ab h)) := sm_X13_await_0 ⟨g, vt_ko.refl h⟩ tx0

theorem sm_X13_end_0 {h0 : sv_H} {x0 : Nat} {x1 : Int32} {h : sv_H} (w : vt_W h0 h) (tx0 : sv_K h0 x0 = 14) : vt_sm h0 (fn_X13_end x0 x1 h) (ab_X13_end x0 x1 (vt_ab h)) := by
  unfold fn_X13_end ab_X13_end
  obtain ⟨F, hF⟩ : ∃ F, sv_FP h = F := ⟨_, rfl⟩
  refine sm_kd w tx0 (by decide) ?_
  refine sm_gA w hF tx0 tk_1410 (by decide) (fun v1 av1 => ?_)
  refine sm_sI w hF tx0 av1 tk_1410 (fun h w hF => ?_)
  refine sm_gA w hF tx0 tk_1411 (by decide) (fun v3 av3 => ?_)
  refine sm_sI w hF tx0 av3 tk_1411 (fun h w hF => ?_)
  refine sm_gA w hF tx0 tk_1413 (by decide) (fun v5 av5 => ?_)
  refine sm_sI w hF tx0 av5 tk_1413 (fun h w hF => ?_)
  exact sm_rt w
theorem sm_X13_end {x0 : Nat} {x1 : Int32} {h : sv_H} (g : vt_G h) (tx0 : sv_K h x0 = 14) : vt_sm h (fn_X13_end x0 x1 h) (ab_X13_end x0 x1 (vt_ab h)) := sm_X13_end_0 ⟨g, vt_ko.refl h⟩ tx0

theorem sm_X13_stepDoor_157 {h0 : sv_H} {h : sv_H} (w : vt_W h0 h) : vt_sm h0 (fn_X13_stepDoor_157 h) (ab_X13_stepDoor_157 (vt_ab h)) := by
  unfold fn_X13_stepDoor_157 ab_X13_stepDoor_157
  obtain ⟨F, hF⟩ : ∃ F, sv_FP h = F := ⟨_, rfl⟩
  exact sm_rt w
theorem sm_X13_stepDoor_135 {h0 : sv_H} {x0 : Nat} {x1 : Int32} {x2 : Int32} {h : sv_H} (w : vt_W h0 h) (tx0 : sv_K h0 x0 = 14) : vt_sm h0 (fn_X13_stepDoor_135 x0 x1 x2 h) (ab_X13_stepDoor_135 x0 x1 x2 (vt_ab h)) := by
  unfold fn_X13_stepDoor_135 ab_X13_stepDoor_135
  obtain ⟨F, hF⟩ : ∃ F, sv_FP h = F := ⟨_, rfl⟩
  refine sm_gA w hF tx0 tk_1409 (by decide) (fun v1 av1 => ?_)
  refine sm_sI w hF tx0 av1 tk_1409 (fun h w hF => ?_)
  refine sm_gA w hF tx0 tk_1408 (by decide) (fun v3 av3 => ?_)
  refine sm_lI w hF tx0 av3 tk_1408 (fun _ => ?_)
  refine sm_if (fun _ => ?_) (fun _ => ?_)
  · refine sm_cl w (sm_X13_end w.1 (w.k tx0 (by decide))) (fun _ h2 e w2 => ?_)
    have hF2 : sv_FP h2 = F := (ow_X13_end sv_clT trivial e).2.1.1.trans hF
    clear e w hF
    have hF := hF2
    have w := w2
    clear hF2 w2
    exact sm_X13_stepDoor_157 w
  · exact sm_X13_stepDoor_157 w
theorem sm_X13_stepDoor_95 {h0 : sv_H} {x0 : Nat} {x1 : Int32} {s0 : Int32} {h : sv_H} (w : vt_W h0 h) (tx0 : sv_K h0 x0 = 14) : vt_sm h0 (fn_X13_stepDoor_95 x0 x1 s0 h) (ab_X13_stepDoor_95 x0 x1 s0 (vt_ab h)) := by
  unfold fn_X13_stepDoor_95 ab_X13_stepDoor_95
  obtain ⟨F, hF⟩ : ∃ F, sv_FP h = F := ⟨_, rfl⟩
  refine sm_gI w tx0 (by decide) (fun v1 => ?_)
  refine sm_if (fun _ => ?_) (fun _ => ?_)
  · refine sm_gA w hF tx0 tk_1408 (by decide) (fun v2 av2 => ?_)
    refine sm_lI w hF tx0 av2 tk_1408 (fun _ => ?_)
    refine sm_if (fun _ => ?_) (fun _ => ?_)
    · exact sm_X13_stepDoor_135 w tx0
    · refine sm_gI w tx0 (by decide) (fun v4 => ?_)
      refine sm_pI w hF tx0 (by decide) (fun h w hF => ?_)
      refine sm_gA w hF tx0 tk_1411 (by decide) (fun v6 av6 => ?_)
      refine sm_sI w hF tx0 av6 tk_1411 (fun h w hF => ?_)
      exact sm_rt w
  · exact sm_X13_stepDoor_135 w tx0
theorem sm_X13_stepDoor_74 {h0 : sv_H} {h : sv_H} (w : vt_W h0 h) : vt_sm h0 (fn_X13_stepDoor_74 h) (ab_X13_stepDoor_74 (vt_ab h)) := by
  unfold fn_X13_stepDoor_74 ab_X13_stepDoor_74
  obtain ⟨F, hF⟩ : ∃ F, sv_FP h = F := ⟨_, rfl⟩
  exact sm_rt w
theorem sm_X13_stepDoor_51 {h0 : sv_H} {x0 : Nat} {x1 : Int32} {s0 : Nat} {s0o : Nat} {s1 : Int32} {s2 : Int32} {h : sv_H} (w : vt_W h0 h) (tx0 : sv_K h0 x0 = 14) (ts0 : sv_K h0 s0o = 14) (as0 : sv_FP h 1409 s0o = s0) : vt_sm h0 (fn_X13_stepDoor_51 x0 x1 s0 s1 s2 h) (ab_X13_stepDoor_51 x0 x1 s0o s1 s2 (vt_ab h)) := by
  unfold fn_X13_stepDoor_51 ab_X13_stepDoor_51
  obtain ⟨F, hF⟩ : ∃ F, sv_FP h = F := ⟨_, rfl⟩
  rw [hF] at as0
  refine sm_sI w hF ts0 as0 tk_1409 (fun h w hF => ?_)
  refine sm_gA w hF tx0 tk_1409 (by decide) (fun v2 av2 => ?_)
  refine sm_lI w hF tx0 av2 tk_1409 (fun _ => ?_)
  refine sm_gA w hF tx0 tk_1413 (by decide) (fun v4 av4 => ?_)
  refine sm_lI w hF tx0 av4 tk_1413 (fun _ => ?_)
  refine sm_if (fun _ => ?_) (fun _ => ?_)
  · refine sm_cl w (sm_X13_await w.1 (w.k tx0 (by decide))) (fun _ h2 e w2 => ?_)
    have hF2 : sv_FP h2 = F := (ow_X13_await sv_clT trivial e).2.1.1.trans hF
    clear e w hF
    have hF := hF2
    have w := w2
    clear hF2 w2
    exact sm_X13_stepDoor_74 w
  · exact sm_X13_stepDoor_74 w
theorem sm_X13_stepDoor_0 {h0 : sv_H} {x0 : Nat} {x1 : Int32} {h : sv_H} (w : vt_W h0 h) (tx0 : sv_K h0 x0 = 14) : vt_sm h0 (fn_X13_stepDoor x0 x1 h) (ab_X13_stepDoor x0 x1 (vt_ab h)) := by
  unfold fn_X13_stepDoor ab_X13_stepDoor
  obtain ⟨F, hF⟩ : ∃ F, sv_FP h = F := ⟨_, rfl⟩
  refine sm_kd w tx0 (by decide) ?_
  refine sm_gA w hF tx0 tk_1409 (by decide) (fun v1 av1 => ?_)
  refine sm_lI w hF tx0 av1 tk_1409 (fun _ => ?_)
  refine sm_gA w hF tx0 tk_1411 (by decide) (fun v3 av3 => ?_)
  refine sm_lI w hF tx0 av3 tk_1411 (fun _ => ?_)
  refine sm_gA w hF tx0 tk_1411 (by decide) (fun v5 av5 => ?_)
  refine sm_lI w hF tx0 av5 tk_1411 (fun _ => ?_)
  refine sm_if (fun _ => ?_) (fun _ => ?_)
  · refine sm_gA w hF tx0 tk_1408 (by decide) (fun v7 av7 => ?_)
    refine sm_lI w hF tx0 av7 tk_1408 (fun _ => ?_)
    refine sm_if (fun _ => ?_) (fun _ => ?_)
    · exact sm_X13_stepDoor_95 w tx0
    · refine sm_gA w hF tx0 tk_1408 (by decide) (fun v9 av9 => ?_)
      refine sm_lI w hF tx0 av9 tk_1408 (fun _ => ?_)
      exact sm_X13_stepDoor_95 w tx0
  · refine sm_gA w hF tx0 tk_1409 (by decide) (fun v11 av11 => ?_)
    refine sm_gA w hF tx0 tk_1413 (by decide) (fun v12 av12 => ?_)
    refine sm_lI w hF tx0 av12 tk_1413 (fun _ => ?_)
    refine sm_if (fun _ => ?_) (fun _ => ?_)
    · exact sm_X13_stepDoor_51 w tx0 tx0 (by rw [hF]; exact av11)
    · refine sm_gA w hF tx0 tk_1413 (by decide) (fun v14 av14 => ?_)
      refine sm_lI w hF tx0 av14 tk_1413 (fun _ => ?_)
      exact sm_X13_stepDoor_51 w tx0 tx0 (by rw [hF]; exact av11)
theorem sm_X13_stepDoor {x0 : Nat} {x1 : Int32} {h : sv_H} (g : vt_G h) (tx0 : sv_K h x0 = 14) : vt_sm h (fn_X13_stepDoor x0 x1 h) (ab_X13_stepDoor x0 x1 (vt_ab h)) := sm_X13_stepDoor_0 ⟨g, vt_ko.refl h⟩ tx0

theorem sm_X13_rise_78 {h0 : sv_H} {h : sv_H} (w : vt_W h0 h) : vt_sm h0 (fn_X13_rise_78 h) (ab_X13_rise_78 (vt_ab h)) := by
  unfold fn_X13_rise_78 ab_X13_rise_78
  obtain ⟨F, hF⟩ : ∃ F, sv_FP h = F := ⟨_, rfl⟩
  exact sm_rt w
theorem sm_X13_rise_59 {h0 : sv_H} {x0 : Nat} {x1 : Int32} {x3 : Int32} {x4 : Int32} {h : sv_H} (w : vt_W h0 h) (tx0 : sv_K h0 x0 = 14) : vt_sm h0 (fn_X13_rise_59 x0 x1 x3 x4 h) (ab_X13_rise_59 x0 x1 x3 x4 (vt_ab h)) := by
  unfold fn_X13_rise_59 ab_X13_rise_59
  obtain ⟨F, hF⟩ : ∃ F, sv_FP h = F := ⟨_, rfl⟩
  refine sm_gA w hF tx0 tk_1408 (by decide) (fun v1 av1 => ?_)
  refine sm_sI w hF tx0 av1 tk_1408 (fun h w hF => ?_)
  refine sm_if (fun _ => ?_) (fun _ => ?_)
  · refine sm_cl w (sm_X13_end w.1 (w.k tx0 (by decide))) (fun _ h2 e w2 => ?_)
    have hF2 : sv_FP h2 = F := (ow_X13_end sv_clT trivial e).2.1.1.trans hF
    clear e w hF
    have hF := hF2
    have w := w2
    clear hF2 w2
    exact sm_X13_rise_78 w
  · exact sm_X13_rise_78 w
theorem sm_X13_rise_24 {h0 : sv_H} {x0 : Nat} {x1 : Int32} {x3 : Int32} {s0 : Int32} {h : sv_H} (w : vt_W h0 h) (tx0 : sv_K h0 x0 = 14) : vt_sm h0 (fn_X13_rise_24 x0 x1 x3 s0 h) (ab_X13_rise_24 x0 x1 x3 s0 (vt_ab h)) := by
  unfold fn_X13_rise_24 ab_X13_rise_24
  obtain ⟨F, hF⟩ : ∃ F, sv_FP h = F := ⟨_, rfl⟩
  refine sm_gI w tx0 (by decide) (fun v1 => ?_)
  refine sm_if (fun _ => ?_) (fun _ => ?_)
  · refine sm_gA w hF tx0 tk_1409 (by decide) (fun v2 av2 => ?_)
    refine sm_lI w hF tx0 av2 tk_1409 (fun _ => ?_)
    refine sm_if (fun _ => ?_) (fun _ => ?_)
    · exact sm_X13_rise_59 w tx0
    · refine sm_gI w tx0 (by decide) (fun v4 => ?_)
      refine sm_pI w hF tx0 (by decide) (fun h w hF => ?_)
      exact sm_rt w
  · exact sm_X13_rise_59 w tx0
theorem sm_X13_rise_0 {h0 : sv_H} {x0 : Nat} {x1 : Int32} {x2 : Int32} {x3 : Int32} {h : sv_H} (w : vt_W h0 h) (tx0 : sv_K h0 x0 = 14) : vt_sm h0 (fn_X13_rise x0 x1 x2 x3 h) (ab_X13_rise x0 x1 x2 x3 (vt_ab h)) := by
  unfold fn_X13_rise ab_X13_rise
  obtain ⟨F, hF⟩ : ∃ F, sv_FP h = F := ⟨_, rfl⟩
  refine sm_kd w tx0 (by decide) ?_
  refine sm_gA w hF tx0 tk_1408 (by decide) (fun v1 av1 => ?_)
  refine sm_lI w hF tx0 av1 tk_1408 (fun _ => ?_)
  refine sm_if (fun _ => ?_) (fun _ => ?_)
  · refine sm_gA w hF tx0 tk_1408 (by decide) (fun v3 av3 => ?_)
    refine sm_lI w hF tx0 av3 tk_1408 (fun _ => ?_)
    exact sm_X13_rise_24 w tx0
  · exact sm_X13_rise_24 w tx0
theorem sm_X13_rise {x0 : Nat} {x1 : Int32} {x2 : Int32} {x3 : Int32} {h : sv_H} (g : vt_G h) (tx0 : sv_K h x0 = 14) : vt_sm h (fn_X13_rise x0 x1 x2 x3 h) (ab_X13_rise x0 x1 x2 x3 (vt_ab h)) := sm_X13_rise_0 ⟨g, vt_ko.refl h⟩ tx0

theorem sm_X13_step_128 {h0 : sv_H} {h : sv_H} (w : vt_W h0 h) : vt_sm h0 (fn_X13_step_128 h) (ab_X13_step_128 (vt_ab h)) := by
  unfold fn_X13_step_128 ab_X13_step_128
  obtain ⟨F, hF⟩ : ∃ F, sv_FP h = F := ⟨_, rfl⟩
  exact sm_rt w
theorem sm_X13_step_105 {h0 : sv_H} {x0 : Nat} {x1 : Int32} {s0 : Nat} {s0o : Nat} {s1 : Int32} {s2 : Int32} {h : sv_H} (w : vt_W h0 h) (tx0 : sv_K h0 x0 = 14) (ts0 : sv_K h0 s0o = 14) (as0 : sv_FP h 1408 s0o = s0) : vt_sm h0 (fn_X13_step_105 x0 x1 s0 s1 s2 h) (ab_X13_step_105 x0 x1 s0o s1 s2 (vt_ab h)) := by
  unfold fn_X13_step_105 ab_X13_step_105
  obtain ⟨F, hF⟩ : ∃ F, sv_FP h = F := ⟨_, rfl⟩
  rw [hF] at as0
  refine sm_sI w hF ts0 as0 tk_1408 (fun h w hF => ?_)
  refine sm_gA w hF tx0 tk_1408 (by decide) (fun v2 av2 => ?_)
  refine sm_lI w hF tx0 av2 tk_1408 (fun _ => ?_)
  refine sm_gA w hF tx0 tk_1413 (by decide) (fun v4 av4 => ?_)
  refine sm_lI w hF tx0 av4 tk_1413 (fun _ => ?_)
  refine sm_if (fun _ => ?_) (fun _ => ?_)
  · refine sm_cl w (sm_X13_await w.1 (w.k tx0 (by decide))) (fun _ h2 e w2 => ?_)
    have hF2 : sv_FP h2 = F := (ow_X13_await sv_clT trivial e).2.1.1.trans hF
    clear e w hF
    have hF := hF2
    have w := w2
    clear hF2 w2
    exact sm_X13_step_128 w
  · exact sm_X13_step_128 w
theorem sm_X13_step_0 {h0 : sv_H} {x0 : Nat} {x1 : Int32} {h : sv_H} (w : vt_W h0 h) (tx0 : sv_K h0 x0 = 14) : vt_sm h0 (fn_X13_step x0 x1 h) (ab_X13_step x0 x1 (vt_ab h)) := by
  unfold fn_X13_step ab_X13_step
  obtain ⟨F, hF⟩ : ∃ F, sv_FP h = F := ⟨_, rfl⟩
  refine sm_kd w tx0 (by decide) ?_
  refine sm_gA w hF tx0 tk_1410 (by decide) (fun v1 av1 => ?_)
  refine sm_lI w hF tx0 av1 tk_1410 (fun _ => ?_)
  refine sm_if (fun _ => ?_) (fun _ => ?_)
  · refine sm_cl w (sm_X13_stepDoor w.1 (w.k tx0 (by decide))) (fun _ h2 e w2 => ?_)
    have hF2 : sv_FP h2 = F := (ow_X13_stepDoor sv_clT trivial e).2.1.1.trans hF
    clear e w hF
    have hF := hF2
    have w := w2
    clear hF2 w2
    exact sm_X13_step_128 w
  · refine sm_gA w hF tx0 tk_1410 (by decide) (fun v3 av3 => ?_)
    refine sm_lI w hF tx0 av3 tk_1410 (fun _ => ?_)
    refine sm_if (fun _ => ?_) (fun _ => ?_)
    · refine sm_gA w hF tx0 tk_1413 (by decide) (fun v19 av19 => ?_)
      refine sm_lI w hF tx0 av19 tk_1413 (fun _ => ?_)
      refine sm_cl w (sm_X13_rise w.1 (w.k tx0 (by decide))) (fun _ h2 e w2 => ?_)
      have hF2 : sv_FP h2 = F := (ow_X13_rise sv_clT trivial e).2.1.1.trans hF
      clear e w hF
      have hF := hF2
      have w := w2
      clear hF2 w2
      exact sm_X13_step_128 w
    · refine sm_gA w hF tx0 tk_1411 (by decide) (fun v5 av5 => ?_)
      refine sm_lI w hF tx0 av5 tk_1411 (fun _ => ?_)
      refine sm_if (fun _ => ?_) (fun _ => ?_)
      · refine sm_gA w hF tx0 tk_1408 (by decide) (fun v7 av7 => ?_)
        refine sm_gA w hF tx0 tk_1408 (by decide) (fun v8 av8 => ?_)
        refine sm_lI w hF tx0 av8 tk_1408 (fun _ => ?_)
        refine sm_gA w hF tx0 tk_1413 (by decide) (fun v10 av10 => ?_)
        refine sm_lI w hF tx0 av10 tk_1413 (fun _ => ?_)
        refine sm_if (fun _ => ?_) (fun _ => ?_)
        · refine sm_gA w hF tx0 tk_1408 (by decide) (fun v12 av12 => ?_)
          refine sm_lI w hF tx0 av12 tk_1408 (fun _ => ?_)
          exact sm_X13_step_105 w tx0 tx0 (by rw [hF]; exact av7)
        · refine sm_gA w hF tx0 tk_1413 (by decide) (fun v14 av14 => ?_)
          refine sm_lI w hF tx0 av14 tk_1413 (fun _ => ?_)
          exact sm_X13_step_105 w tx0 tx0 (by rw [hF]; exact av7)
      · refine sm_gA w hF tx0 tk_1414 (by decide) (fun v16 av16 => ?_)
        refine sm_lI w hF tx0 av16 tk_1414 (fun _ => ?_)
        refine sm_cl w (sm_X13_rise w.1 (w.k tx0 (by decide))) (fun _ h2 e w2 => ?_)
        have hF2 : sv_FP h2 = F := (ow_X13_rise sv_clT trivial e).2.1.1.trans hF
        clear e w hF
        have hF := hF2
        have w := w2
        clear hF2 w2
        exact sm_X13_step_128 w
theorem sm_X13_step {x0 : Nat} {x1 : Int32} {h : sv_H} (g : vt_G h) (tx0 : sv_K h x0 = 14) : vt_sm h (fn_X13_step x0 x1 h) (ab_X13_step x0 x1 (vt_ab h)) := sm_X13_step_0 ⟨g, vt_ko.refl h⟩ tx0

theorem sm_X13_ticks_11 {h0 : sv_H} {h : sv_H} (w : vt_W h0 h) : vt_sm h0 (fn_X13_ticks_11 h) (ab_X13_ticks_11 (vt_ab h)) := by
  unfold fn_X13_ticks_11 ab_X13_ticks_11
  obtain ⟨F, hF⟩ : ∃ F, sv_FP h = F := ⟨_, rfl⟩
  exact sm_rt w
theorem sm_X13_ticks_118 {h0 : sv_H} {k15 : Nat → Int32 → Int32 → sv_H → Option (Int32 × sv_H)} {j15 : Nat → Int32 → Int32 → vt_S → Option (Int32 × vt_S)} (hk15 : ∀ {x0 : Nat} {x1 : Int32} {x2 : Int32} {h : sv_H}, vt_W h0 h → sv_K h0 x0 = 14 → vt_sm h0 (k15 x0 x1 x2 h) (j15 x0 x1 x2 (vt_ab h))) {k32 : Nat → Int32 → Int32 → Int32 → sv_H → Option (Int32 × sv_H)} {j32 : Nat → Int32 → Int32 → Int32 → vt_S → Option (Int32 × vt_S)} (hk32 : ∀ {x0 : Nat} {x1 : Int32} {x2 : Int32} {x3 : Int32} {h : sv_H}, vt_W h0 h → sv_K h0 x0 = 14 → vt_sm h0 (k32 x0 x1 x2 x3 h) (j32 x0 x1 x2 x3 (vt_ab h))) {x0 : Nat} {x1 : Int32} {x2 : Int32} {x3 : Int32} {h : sv_H} (w : vt_W h0 h) (tx0 : sv_K h0 x0 = 14) : vt_sm h0 (fn_X13_ticks_118 k15 k32 x0 x1 x2 x3 h) (ab_X13_ticks_118 j15 j32 x0 x1 x2 x3 (vt_ab h)) := by
  unfold fn_X13_ticks_118 ab_X13_ticks_118
  obtain ⟨F, hF⟩ : ∃ F, sv_FP h = F := ⟨_, rfl⟩
  exact hk32 w tx0
theorem sm_X13_ticks_104 {h0 : sv_H} {k15 : Nat → Int32 → Int32 → sv_H → Option (Int32 × sv_H)} {j15 : Nat → Int32 → Int32 → vt_S → Option (Int32 × vt_S)} (hk15 : ∀ {x0 : Nat} {x1 : Int32} {x2 : Int32} {h : sv_H}, vt_W h0 h → sv_K h0 x0 = 14 → vt_sm h0 (k15 x0 x1 x2 h) (j15 x0 x1 x2 (vt_ab h))) {k32 : Nat → Int32 → Int32 → Int32 → sv_H → Option (Int32 × sv_H)} {j32 : Nat → Int32 → Int32 → Int32 → vt_S → Option (Int32 × vt_S)} (hk32 : ∀ {x0 : Nat} {x1 : Int32} {x2 : Int32} {x3 : Int32} {h : sv_H}, vt_W h0 h → sv_K h0 x0 = 14 → vt_sm h0 (k32 x0 x1 x2 x3 h) (j32 x0 x1 x2 x3 (vt_ab h))) {x0 : Nat} {x1 : Int32} {x2 : Int32} {x3 : Int32} {h : sv_H} (w : vt_W h0 h) (tx0 : sv_K h0 x0 = 14) : vt_sm h0 (fn_X13_ticks_104 k15 k32 x0 x1 x2 x3 h) (ab_X13_ticks_104 j15 j32 x0 x1 x2 x3 (vt_ab h)) := by
  unfold fn_X13_ticks_104 ab_X13_ticks_104
  obtain ⟨F, hF⟩ : ∃ F, sv_FP h = F := ⟨_, rfl⟩
  refine sm_gA w hF tx0 tk_1410 (by decide) (fun v1 av1 => ?_)
  refine sm_lI w hF tx0 av1 tk_1410 (fun _ => ?_)
  refine sm_if (fun _ => ?_) (fun _ => ?_)
  · exact sm_X13_ticks_118 (k15 := k15) (j15 := j15) (k32 := k32) (j32 := j32) hk15 hk32 w tx0
  · refine sm_cl w (sm_X13_step w.1 (w.k tx0 (by decide))) (fun _ h2 e w2 => ?_)
    have hF2 : sv_FP h2 = F := (ow_X13_step sv_clT trivial e).2.1.1.trans hF
    clear e w hF
    have hF := hF2
    have w := w2
    clear hF2 w2
    exact sm_X13_ticks_118 (k15 := k15) (j15 := j15) (k32 := k32) (j32 := j32) hk15 hk32 w tx0
theorem sm_X13_ticks_100 {h0 : sv_H} {k15 : Nat → Int32 → Int32 → sv_H → Option (Int32 × sv_H)} {j15 : Nat → Int32 → Int32 → vt_S → Option (Int32 × vt_S)} (hk15 : ∀ {x0 : Nat} {x1 : Int32} {x2 : Int32} {h : sv_H}, vt_W h0 h → sv_K h0 x0 = 14 → vt_sm h0 (k15 x0 x1 x2 h) (j15 x0 x1 x2 (vt_ab h))) {k32 : Nat → Int32 → Int32 → Int32 → sv_H → Option (Int32 × sv_H)} {j32 : Nat → Int32 → Int32 → Int32 → vt_S → Option (Int32 × vt_S)} (hk32 : ∀ {x0 : Nat} {x1 : Int32} {x2 : Int32} {x3 : Int32} {h : sv_H}, vt_W h0 h → sv_K h0 x0 = 14 → vt_sm h0 (k32 x0 x1 x2 x3 h) (j32 x0 x1 x2 x3 (vt_ab h))) {x0 : Nat} {x1 : Int32} {x2 : Int32} {x3 : Int32} {s0 : Nat} {s0o : Nat} {s1 : Int32} {s2 : Int32} {h : sv_H} (w : vt_W h0 h) (tx0 : sv_K h0 x0 = 14) (ts0 : sv_K h0 s0o = 14) (as0 : sv_FP h 1411 s0o = s0) : vt_sm h0 (fn_X13_ticks_100 k15 k32 x0 x1 x2 x3 s0 s1 s2 h) (ab_X13_ticks_100 j15 j32 x0 x1 x2 x3 s0o s1 s2 (vt_ab h)) := by
  unfold fn_X13_ticks_100 ab_X13_ticks_100
  obtain ⟨F, hF⟩ : ∃ F, sv_FP h = F := ⟨_, rfl⟩
  rw [hF] at as0
  refine sm_sI w hF ts0 as0 tk_1411 (fun h w hF => ?_)
  exact sm_X13_ticks_118 (k15 := k15) (j15 := j15) (k32 := k32) (j32 := j32) hk15 hk32 w tx0
theorem sm_X13_ticks_32b {h0 : sv_H} {k15 : Nat → Int32 → Int32 → sv_H → Option (Int32 × sv_H)} {j15 : Nat → Int32 → Int32 → vt_S → Option (Int32 × vt_S)} (hk15 : ∀ {x0 : Nat} {x1 : Int32} {x2 : Int32} {h : sv_H}, vt_W h0 h → sv_K h0 x0 = 14 → vt_sm h0 (k15 x0 x1 x2 h) (j15 x0 x1 x2 (vt_ab h))) {k32 : Nat → Int32 → Int32 → Int32 → sv_H → Option (Int32 × sv_H)} {j32 : Nat → Int32 → Int32 → Int32 → vt_S → Option (Int32 × vt_S)} (hk32 : ∀ {x0 : Nat} {x1 : Int32} {x2 : Int32} {x3 : Int32} {h : sv_H}, vt_W h0 h → sv_K h0 x0 = 14 → vt_sm h0 (k32 x0 x1 x2 x3 h) (j32 x0 x1 x2 x3 (vt_ab h))) {x0 : Nat} {x1 : Int32} {x2 : Int32} {x3 : Int32} {h : sv_H} (w : vt_W h0 h) (tx0 : sv_K h0 x0 = 14) : vt_sm h0 (fn_X13_ticks_32b k15 k32 x0 x1 x2 x3 h) (ab_X13_ticks_32b j15 j32 x0 x1 x2 x3 (vt_ab h)) := by
  unfold fn_X13_ticks_32b ab_X13_ticks_32b
  obtain ⟨F, hF⟩ : ∃ F, sv_FP h = F := ⟨_, rfl⟩
  refine sm_gI w tx0 (by decide) (fun v1 => ?_)
  refine sm_if (fun _ => ?_) (fun _ => ?_)
  · exact hk15 w tx0
  · refine sm_gA w hF tx0 tk_1410 (by decide) (fun v2 av2 => ?_)
    refine sm_lI w hF tx0 av2 tk_1410 (fun _ => ?_)
    refine sm_if (fun _ => ?_) (fun _ => ?_)
    · exact sm_X13_ticks_104 (k15 := k15) (j15 := j15) (k32 := k32) (j32 := j32) hk15 hk32 w tx0
    · refine sm_gA w hF tx0 tk_1412 (by decide) (fun v4 av4 => ?_)
      refine sm_lI w hF tx0 av4 tk_1412 (fun _ => ?_)
      refine sm_if (fun _ => ?_) (fun _ => ?_)
      · exact sm_X13_ticks_104 (k15 := k15) (j15 := j15) (k32 := k32) (j32 := j32) hk15 hk32 w tx0
      · refine sm_gA w hF tx0 tk_1412 (by decide) (fun v6 av6 => ?_)
        refine sm_lI w hF tx0 av6 tk_1412 (fun _ => ?_)
        refine sm_sI w hF tx0 av6 tk_1412 (fun h w hF => ?_)
        refine sm_gA w hF tx0 tk_1411 (by decide) (fun v9 av9 => ?_)
        refine sm_gA w hF tx0 tk_1412 (by decide) (fun v10 av10 => ?_)
        refine sm_lI w hF tx0 av10 tk_1412 (fun _ => ?_)
        refine sm_if (fun _ => ?_) (fun _ => ?_)
        · refine sm_gA w hF tx0 tk_1410 (by decide) (fun v12 av12 => ?_)
          refine sm_lI w hF tx0 av12 tk_1410 (fun _ => ?_)
          refine sm_if (fun _ => ?_) (fun _ => ?_)
          · exact sm_X13_ticks_100 (k15 := k15) (j15 := j15) (k32 := k32) (j32 := j32) hk15 hk32 w tx0 tx0 (by rw [hF]; exact av9)
          · exact sm_X13_ticks_100 (k15 := k15) (j15 := j15) (k32 := k32) (j32 := j32) hk15 hk32 w tx0 tx0 (by rw [hF]; exact av9)
        · exact sm_X13_ticks_100 (k15 := k15) (j15 := j15) (k32 := k32) (j32 := j32) hk15 hk32 w tx0 tx0 (by rw [hF]; exact av9)
theorem sm_X13_ticks_32 {h0 : sv_H} {k15 : Nat → Int32 → Int32 → sv_H → Option (Int32 × sv_H)} {j15 : Nat → Int32 → Int32 → vt_S → Option (Int32 × vt_S)} (hk15 : ∀ {x0 : Nat} {x1 : Int32} {x2 : Int32} {h : sv_H}, vt_W h0 h → sv_K h0 x0 = 14 → vt_sm h0 (k15 x0 x1 x2 h) (j15 x0 x1 x2 (vt_ab h))) : ∀ (n : Nat) {x0 : Nat} {x1 : Int32} {x2 : Int32} {x3 : Int32} {h : sv_H}, vt_W h0 h → sv_K h0 x0 = 14 → vt_sm h0 (fn_X13_ticks_32 k15 n x0 x1 x2 x3 h) (ab_X13_ticks_32 j15 n x0 x1 x2 x3 (vt_ab h)) := by
  intro n
  induction n with
  | zero => intro x0 x1 x2 x3 h w tx0; exact sm_no
  | succ n ih => intro x0 x1 x2 x3 h w tx0; exact sm_X13_ticks_32b (k15 := k15) (j15 := j15) (k32 := fn_X13_ticks_32 k15 n) (j32 := ab_X13_ticks_32 j15 n) hk15 (fun w tx0 => ih w tx0) w tx0
theorem sm_X13_ticks_15b {h0 : sv_H} {k15 : Nat → Int32 → Int32 → sv_H → Option (Int32 × sv_H)} {j15 : Nat → Int32 → Int32 → vt_S → Option (Int32 × vt_S)} (hk15 : ∀ {x0 : Nat} {x1 : Int32} {x2 : Int32} {h : sv_H}, vt_W h0 h → sv_K h0 x0 = 14 → vt_sm h0 (k15 x0 x1 x2 h) (j15 x0 x1 x2 (vt_ab h))) {x0 : Nat} {x1 : Int32} {x2 : Int32} {h : sv_H} (w : vt_W h0 h) (tx0 : sv_K h0 x0 = 14) : vt_sm h0 (fn_X13_ticks_15b k15 x0 x1 x2 h) (ab_X13_ticks_15b j15 x0 x1 x2 (vt_ab h)) := by
  unfold fn_X13_ticks_15b ab_X13_ticks_15b
  obtain ⟨F, hF⟩ : ∃ F, sv_FP h = F := ⟨_, rfl⟩
  refine sm_if (fun _ => ?_) (fun _ => ?_)
  · refine sm_gI w tx0 (by decide) (fun v1 => ?_)
    exact sm_rt w
  · refine sm_gI w tx0 (by decide) (fun v2 => ?_)
    refine sm_pI w hF tx0 (by decide) (fun h w hF => ?_)
    exact sm_X13_ticks_32 (k15 := k15) (j15 := j15) hk15 sv_fuel w tx0
theorem sm_X13_ticks_15 {h0 : sv_H} : ∀ (n : Nat) {x0 : Nat} {x1 : Int32} {x2 : Int32} {h : sv_H}, vt_W h0 h → sv_K h0 x0 = 14 → vt_sm h0 (fn_X13_ticks_15 n x0 x1 x2 h) (ab_X13_ticks_15 n x0 x1 x2 (vt_ab h)) := by
  intro n
  induction n with
  | zero => intro x0 x1 x2 h w tx0; exact sm_no
  | succ n ih => intro x0 x1 x2 h w tx0; exact sm_X13_ticks_15b (k15 := fn_X13_ticks_15 n) (j15 := ab_X13_ticks_15 n) (fun w tx0 => ih w tx0) w tx0
theorem sm_X13_ticks_0 {h0 : sv_H} {x0 : Nat} {x1 : Int32} {h : sv_H} (w : vt_W h0 h) (tx0 : sv_K h0 x0 = 14) : vt_sm h0 (fn_X13_ticks x0 x1 h) (ab_X13_ticks x0 x1 (vt_ab h)) := by
  unfold fn_X13_ticks ab_X13_ticks
  obtain ⟨F, hF⟩ : ∃ F, sv_FP h = F := ⟨_, rfl⟩
  refine sm_kd w tx0 (by decide) ?_
  refine sm_if (fun _ => ?_) (fun _ => ?_)
  · exact sm_X13_ticks_11 w
  · refine sm_if (fun _ => ?_) (fun _ => ?_)
    · exact sm_X13_ticks_15 sv_fuel w tx0
    · exact sm_X13_ticks_11 w
theorem sm_X13_ticks {x0 : Nat} {x1 : Int32} {h : sv_H} (g : vt_G h) (tx0 : sv_K h x0 = 14) : vt_sm h (fn_X13_ticks x0 x1 h) (ab_X13_ticks x0 x1 (vt_ab h)) := sm_X13_ticks_0 ⟨g, vt_ko.refl h⟩ tx0

theorem sm_X17_go_121 {h0 : sv_H} {x0 : Nat} {x7 : Int32} {h : sv_H} (w : vt_W h0 h) (tx0 : sv_K h0 x0 = 18) : vt_sm h0 (fn_X17_go_121 x0 x7 h) (ab_X17_go_121 x0 x7 (vt_ab h)) := by
  unfold fn_X17_go_121 ab_X17_go_121
  obtain ⟨F, hF⟩ : ∃ F, sv_FP h = F := ⟨_, rfl⟩
  refine sm_gP w tx0 tk_1803 rfl (fun v1 tv1 => ?_)
  refine sm_gI w tx0 (by decide) (fun v2 => ?_)
  refine sm_pI w hF tv1 (by decide) (fun h w hF => ?_)
  refine sm_gP w tx0 tk_1803 rfl (fun v4 tv4 => ?_)
  refine sm_cl w (sm_X13_ticks w.1 (w.k tv4 (by decide))) (fun r5 h2 e w2 => ?_)
  have hF2 : sv_FP h2 = F := (ow_X13_ticks sv_clT trivial e).2.1.1.trans hF
  clear e w hF
  have hF := hF2
  have w := w2
  clear hF2 w2
  exact sm_rt w
theorem sm_X17_go_110 {h0 : sv_H} {x0 : Nat} {x4 : Int32} {s0 : Int32} {h : sv_H} (w : vt_W h0 h) (tx0 : sv_K h0 x0 = 18) : vt_sm h0 (fn_X17_go_110 x0 x4 s0 h) (ab_X17_go_110 x0 x4 s0 (vt_ab h)) := by
  unfold fn_X17_go_110 ab_X17_go_110
  obtain ⟨F, hF⟩ : ∃ F, sv_FP h = F := ⟨_, rfl⟩
  refine sm_if (fun _ => ?_) (fun _ => ?_)
  · exact sm_X17_go_121 w tx0
  · refine sm_cl w (sm_X17_use w.1 (w.k tx0 (by decide))) (fun _ h2 e w2 => ?_)
    have hF2 : sv_FP h2 = F := (ow_X17_use sv_clT trivial e).2.1.1.trans hF
    clear e w hF
    have hF := hF2
    have w := w2
    clear hF2 w2
    exact sm_X17_go_121 w tx0
theorem sm_X17_go_94 {h0 : sv_H} {x0 : Nat} {x4 : Int32} {x5 : Int32} {x6 : Int32} {h : sv_H} (w : vt_W h0 h) (tx0 : sv_K h0 x0 = 18) : vt_sm h0 (fn_X17_go_94 x0 x4 x5 x6 h) (ab_X17_go_94 x0 x4 x5 x6 (vt_ab h)) := by
  unfold fn_X17_go_94 ab_X17_go_94
  obtain ⟨F, hF⟩ : ∃ F, sv_FP h = F := ⟨_, rfl⟩
  refine sm_cl w (sm_X17_walks w.1 (w.k tx0 (by decide))) (fun r1 h2 e w2 => ?_)
  have hF2 : sv_FP h2 = F := (ow_X17_walks sv_clT trivial e).2.1.1.trans hF
  clear e w hF
  have hF := hF2
  have w := w2
  clear hF2 w2
  refine sm_if (fun _ => ?_) (fun _ => ?_)
  · exact sm_X17_go_110 w tx0
  · exact sm_X17_go_110 w tx0
theorem sm_X17_go_0 {h0 : sv_H} {x0 : Nat} {x1 : Int32} {x2 : Int32} {x3 : Int32} {x4 : Int32} {h : sv_H} (w : vt_W h0 h) (tx0 : sv_K h0 x0 = 18) : vt_sm h0 (fn_X17_go x0 x1 x2 x3 x4 h) (ab_X17_go x0 x1 x2 x3 x4 (vt_ab h)) := by
  unfold fn_X17_go ab_X17_go
  obtain ⟨F, hF⟩ : ∃ F, sv_FP h = F := ⟨_, rfl⟩
  refine sm_kd w tx0 (by decide) ?_
  refine sm_gI w tx0 (by decide) (fun v1 => ?_)
  refine sm_pI w hF tx0 (by decide) (fun h w hF => ?_)
  refine sm_gI w tx0 (by decide) (fun v3 => ?_)
  refine sm_cl w (sm_X17_cosine w.1) (fun r4 h2 e w2 => ?_)
  have hF2 : sv_FP h2 = F := by rw [ro_X17_cosine e]; exact hF
  clear e w hF
  have hF := hF2
  have w := w2
  clear hF2 w2
  refine sm_gI w tx0 (by decide) (fun v6 => ?_)
  refine sm_cl w (sm_X17_sine w.1) (fun r7 h2 e w2 => ?_)
  have hF2 : sv_FP h2 = F := by rw [ro_X17_sine e]; exact hF
  clear e w hF
  have hF := hF2
  have w := w2
  clear hF2 w2
  refine sm_cl w (sm_X17_down w.1) (fun r9 h2 e w2 => ?_)
  have hF2 : sv_FP h2 = F := by rw [ro_X17_down e]; exact hF
  clear e w hF
  have hF := hF2
  have w := w2
  clear hF2 w2
  refine sm_gI w tx0 (by decide) (fun v11 => ?_)
  refine sm_cl w (sm_X17_sine w.1) (fun r12 h2 e w2 => ?_)
  have hF2 : sv_FP h2 = F := by rw [ro_X17_sine e]; exact hF
  clear e w hF
  have hF := hF2
  have w := w2
  clear hF2 w2
  refine sm_gI w tx0 (by decide) (fun v14 => ?_)
  refine sm_cl w (sm_X17_cosine w.1) (fun r15 h2 e w2 => ?_)
  have hF2 : sv_FP h2 = F := by rw [ro_X17_cosine e]; exact hF
  clear e w hF
  have hF := hF2
  have w := w2
  clear hF2 w2
  refine sm_cl w (sm_X17_down w.1) (fun r17 h2 e w2 => ?_)
  have hF2 : sv_FP h2 = F := by rw [ro_X17_down e]; exact hF
  clear e w hF
  have hF := hF2
  have w := w2
  clear hF2 w2
  refine sm_if (fun _ => ?_) (fun _ => ?_)
  · refine sm_if (fun _ => ?_) (fun _ => ?_)
    · exact sm_X17_go_110 w tx0
    · exact sm_X17_go_94 w tx0
  · exact sm_X17_go_94 w tx0
theorem sm_X17_go {x0 : Nat} {x1 : Int32} {x2 : Int32} {x3 : Int32} {x4 : Int32} {h : sv_H} (g : vt_G h) (tx0 : sv_K h x0 = 18) : vt_sm h (fn_X17_go x0 x1 x2 x3 x4 h) (ab_X17_go x0 x1 x2 x3 x4 (vt_ab h)) := sm_X17_go_0 ⟨g, vt_ko.refl h⟩ tx0

theorem sm_X17_playTo_27 {h0 : sv_H} {h : sv_H} (w : vt_W h0 h) : vt_sm h0 (fn_X17_playTo_27 h) (ab_X17_playTo_27 (vt_ab h)) := by
  unfold fn_X17_playTo_27 ab_X17_playTo_27
  obtain ⟨F, hF⟩ : ∃ F, sv_FP h = F := ⟨_, rfl⟩
  exact sm_rt w
theorem sm_X17_playTo_92 {h0 : sv_H} {k37 : Nat → Int32 → Int32 → Int32 → sv_H → Option (Int32 × sv_H)} {j37 : Nat → Int32 → Int32 → Int32 → vt_S → Option (Int32 × vt_S)} (hk37 : ∀ {x0 : Nat} {x1 : Int32} {x2 : Int32} {x3 : Int32} {h : sv_H}, vt_W h0 h → sv_K h0 x0 = 18 → vt_sm h0 (k37 x0 x1 x2 x3 h) (j37 x0 x1 x2 x3 (vt_ab h))) {x0 : Nat} {x1 : Int32} {x3 : Int32} {s0 : Int32} {s1 : Int32} {h : sv_H} (w : vt_W h0 h) (tx0 : sv_K h0 x0 = 18) : vt_sm h0 (fn_X17_playTo_92 k37 x0 x1 x3 s0 s1 h) (ab_X17_playTo_92 j37 x0 x1 x3 s0 s1 (vt_ab h)) := by
  unfold fn_X17_playTo_92 ab_X17_playTo_92
  obtain ⟨F, hF⟩ : ∃ F, sv_FP h = F := ⟨_, rfl⟩
  exact hk37 w tx0
theorem sm_X17_playTo_37b {h0 : sv_H} {k37 : Nat → Int32 → Int32 → Int32 → sv_H → Option (Int32 × sv_H)} {j37 : Nat → Int32 → Int32 → Int32 → vt_S → Option (Int32 × vt_S)} (hk37 : ∀ {x0 : Nat} {x1 : Int32} {x2 : Int32} {x3 : Int32} {h : sv_H}, vt_W h0 h → sv_K h0 x0 = 18 → vt_sm h0 (k37 x0 x1 x2 x3 h) (j37 x0 x1 x2 x3 (vt_ab h))) {x0 : Nat} {x1 : Int32} {x2 : Int32} {x3 : Int32} {h : sv_H} (w : vt_W h0 h) (tx0 : sv_K h0 x0 = 18) : vt_sm h0 (fn_X17_playTo_37b k37 x0 x1 x2 x3 h) (ab_X17_playTo_37b j37 x0 x1 x2 x3 (vt_ab h)) := by
  unfold fn_X17_playTo_37b ab_X17_playTo_37b
  obtain ⟨F, hF⟩ : ∃ F, sv_FP h = F := ⟨_, rfl⟩
  refine sm_if (fun _ => ?_) (fun _ => ?_)
  · exact sm_rt w
  · refine sm_gP w tx0 tk_1802 rfl (fun v1 tv1 => ?_)
    refine sm_gA w hF tv1 tk_1601 (by decide) (fun v2 av2 => ?_)
    refine sm_lI w hF tv1 av2 tk_1601 (fun _ => ?_)
    refine sm_gP w tx0 tk_1802 rfl (fun v4 tv4 => ?_)
    refine sm_gA w hF tv4 tk_1602 (by decide) (fun v5 av5 => ?_)
    refine sm_lI w hF tv4 av5 tk_1602 (fun _ => ?_)
    refine sm_gP w tx0 tk_1802 rfl (fun v7 tv7 => ?_)
    refine sm_gA w hF tv7 tk_1603 (by decide) (fun v8 av8 => ?_)
    refine sm_lI w hF tv7 av8 tk_1603 (fun _ => ?_)
    refine sm_gP w tx0 tk_1802 rfl (fun v10 tv10 => ?_)
    refine sm_gA w hF tv10 tk_1604 (by decide) (fun v11 av11 => ?_)
    refine sm_lZ w hF tv10 av11 tk_1604 (fun _ => ?_)
    refine sm_cl w (sm_X17_go w.1 (w.k tx0 (by decide))) (fun r13 h2 e w2 => ?_)
    have hF2 : sv_FP h2 = F := (ow_X17_go sv_clT trivial e).2.1.1.trans hF
    clear e w hF
    have hF := hF2
    have w := w2
    clear hF2 w2
    refine sm_if (fun _ => ?_) (fun _ => ?_)
    · exact sm_X17_playTo_92 (k37 := k37) (j37 := j37) hk37 w tx0
    · exact sm_X17_playTo_92 (k37 := k37) (j37 := j37) hk37 w tx0
theorem sm_X17_playTo_37 {h0 : sv_H} : ∀ (n : Nat) {x0 : Nat} {x1 : Int32} {x2 : Int32} {x3 : Int32} {h : sv_H}, vt_W h0 h → sv_K h0 x0 = 18 → vt_sm h0 (fn_X17_playTo_37 n x0 x1 x2 x3 h) (ab_X17_playTo_37 n x0 x1 x2 x3 (vt_ab h)) := by
  intro n
  induction n with
  | zero => intro x0 x1 x2 x3 h w tx0; exact sm_no
  | succ n ih => intro x0 x1 x2 x3 h w tx0; exact sm_X17_playTo_37b (k37 := fn_X17_playTo_37 n) (j37 := ab_X17_playTo_37 n) (fun w tx0 => ih w tx0) w tx0
theorem sm_X17_playTo_0 {h0 : sv_H} {x0 : Nat} {x1 : Int32} {h : sv_H} (w : vt_W h0 h) (tx0 : sv_K h0 x0 = 18) : vt_sm h0 (fn_X17_playTo x0 x1 h) (ab_X17_playTo x0 x1 (vt_ab h)) := by
  unfold fn_X17_playTo ab_X17_playTo
  obtain ⟨F, hF⟩ : ∃ F, sv_FP h = F := ⟨_, rfl⟩
  refine sm_kd w tx0 (by decide) ?_
  refine sm_pI w hF tx0 (by decide) (fun h w hF => ?_)
  refine sm_gI w tx0 (by decide) (fun v2 => ?_)
  refine sm_if (fun _ => ?_) (fun _ => ?_)
  · exact sm_X17_playTo_27 w
  · refine sm_if (fun _ => ?_) (fun _ => ?_)
    · exact sm_X17_playTo_27 w
    · refine sm_gP w tx0 tk_1802 rfl (fun v3 tv3 => ?_)
      refine sm_gI w tv3 (by decide) (fun v4 => ?_)
      refine sm_if (fun _ => ?_) (fun _ => ?_)
      · refine sm_cl w (sm_X17_begin w.1 (w.k tx0 (by decide))) (fun _ h2 e w2 => ?_)
        have hF2 : sv_FP h2 = F := (ow_X17_begin sv_clT trivial e).2.1.1.trans hF
        clear e w hF
        have hF := hF2
        have w := w2
        clear hF2 w2
        exact sm_X17_playTo_37 sv_fuel w tx0
      · exact sm_X17_playTo_27 w
theorem sm_X17_playTo {x0 : Nat} {x1 : Int32} {h : sv_H} (g : vt_G h) (tx0 : sv_K h x0 = 18) : vt_sm h (fn_X17_playTo x0 x1 h) (ab_X17_playTo x0 x1 (vt_ab h)) := sm_X17_playTo_0 ⟨g, vt_ko.refl h⟩ tx0

theorem sm_X12_stepBy_16 {h0 : sv_H} {h : sv_H} (w : vt_W h0 h) : vt_sm h0 (fn_X12_stepBy_16 h) (ab_X12_stepBy_16 (vt_ab h)) := by
  unfold fn_X12_stepBy_16 ab_X12_stepBy_16
  obtain ⟨F, hF⟩ : ∃ F, sv_FP h = F := ⟨_, rfl⟩
  exact sm_rt w
theorem sm_X12_stepBy_0 {h0 : sv_H} {x0 : Nat} {x1 : Int32} {x2 : Int32} {x3 : Int32} {x4 : Int32} {h : sv_H} (w : vt_W h0 h) (tx0 : sv_K h0 x0 = 13) : vt_sm h0 (fn_X12_stepBy x0 x1 x2 x3 x4 h) (ab_X12_stepBy x0 x1 x2 x3 x4 (vt_ab h)) := by
  unfold fn_X12_stepBy ab_X12_stepBy
  obtain ⟨F, hF⟩ : ∃ F, sv_FP h = F := ⟨_, rfl⟩
  refine sm_kd w tx0 (by decide) ?_
  refine sm_cl w (sm_X12_hasMap w.1 (w.k tx0 (by decide))) (fun r1 h2 e w2 => ?_)
  have hF2 : sv_FP h2 = F := by rw [ro_X12_hasMap e]; exact hF
  clear e w hF
  have hF := hF2
  have w := w2
  clear hF2 w2
  refine sm_if (fun _ => ?_) (fun _ => ?_)
  · exact sm_X12_stepBy_16 w
  · refine sm_cl w (sm_X5_isInput w.1) (fun r3 h2 e w2 => ?_)
    have hF2 : sv_FP h2 = F := by rw [ro_X5_isInput e]; exact hF
    clear e w hF
    have hF := hF2
    have w := w2
    clear hF2 w2
    refine sm_if (fun _ => ?_) (fun _ => ?_)
    · exact sm_X12_stepBy_16 w
    · refine sm_gP w tx0 tk_1304 rfl (fun v5 tv5 => ?_)
      refine sm_cl w (sm_X5_inputOf w.1) (fun r6 h2 e w2 => ?_)
      have hF2 : sv_FP h2 = F := by rw [ro_X5_inputOf e]; exact hF
      clear e w hF
      have hF := hF2
      have w := w2
      clear hF2 w2
      refine sm_cl w (sm_X10_step w.1 (w.k tv5 (by decide))) (fun r8 h2 e w2 => ?_)
      have hF2 : sv_FP h2 = F := (ow_X10_step sv_clT trivial e).2.1.1.trans hF
      clear e w hF
      have hF := hF2
      have w := w2
      clear hF2 w2
      exact sm_rt w
theorem sm_X12_stepBy {x0 : Nat} {x1 : Int32} {x2 : Int32} {x3 : Int32} {x4 : Int32} {h : sv_H} (g : vt_G h) (tx0 : sv_K h x0 = 13) : vt_sm h (fn_X12_stepBy x0 x1 x2 x3 x4 h) (ab_X12_stepBy x0 x1 x2 x3 x4 (vt_ab h)) := sm_X12_stepBy_0 ⟨g, vt_ko.refl h⟩ tx0

theorem sm_X17_stepBy_64 {h0 : sv_H} {s0 : Int32} {h : sv_H} (w : vt_W h0 h) : vt_sm h0 (fn_X17_stepBy_64 s0 h) (ab_X17_stepBy_64 s0 (vt_ab h)) := by
  unfold fn_X17_stepBy_64 ab_X17_stepBy_64
  obtain ⟨F, hF⟩ : ∃ F, sv_FP h = F := ⟨_, rfl⟩
  exact sm_rt w
theorem sm_X17_stepBy_44 {h0 : sv_H} {x0 : Nat} {x1 : Int32} {x2 : Int32} {x3 : Int32} {x4 : Int32} {s0 : Int32} {h : sv_H} (w : vt_W h0 h) (tx0 : sv_K h0 x0 = 18) : vt_sm h0 (fn_X17_stepBy_44 x0 x1 x2 x3 x4 s0 h) (ab_X17_stepBy_44 x0 x1 x2 x3 x4 s0 (vt_ab h)) := by
  unfold fn_X17_stepBy_44 ab_X17_stepBy_44
  obtain ⟨F, hF⟩ : ∃ F, sv_FP h = F := ⟨_, rfl⟩
  refine sm_if (fun _ => ?_) (fun _ => ?_)
  · exact sm_X17_stepBy_64 w
  · refine sm_cl w (sm_X17_go w.1 (w.k tx0 (by decide))) (fun r1 h2 e w2 => ?_)
    have hF2 : sv_FP h2 = F := (ow_X17_go sv_clT trivial e).2.1.1.trans hF
    clear e w hF
    have hF := hF2
    have w := w2
    clear hF2 w2
    exact sm_X17_stepBy_64 w
theorem sm_X17_stepBy_43 {h0 : sv_H} {x0 : Nat} {x1 : Int32} {x2 : Int32} {x3 : Int32} {x4 : Int32} {h : sv_H} (w : vt_W h0 h) (tx0 : sv_K h0 x0 = 18) : vt_sm h0 (fn_X17_stepBy_43 x0 x1 x2 x3 x4 h) (ab_X17_stepBy_43 x0 x1 x2 x3 x4 (vt_ab h)) := by
  unfold fn_X17_stepBy_43 ab_X17_stepBy_43
  obtain ⟨F, hF⟩ : ∃ F, sv_FP h = F := ⟨_, rfl⟩
  exact sm_X17_stepBy_44 w tx0
theorem sm_X17_stepBy_0 {h0 : sv_H} {x0 : Nat} {x1 : Int32} {x2 : Int32} {x3 : Int32} {x4 : Int32} {h : sv_H} (w : vt_W h0 h) (tx0 : sv_K h0 x0 = 18) : vt_sm h0 (fn_X17_stepBy x0 x1 x2 x3 x4 h) (ab_X17_stepBy x0 x1 x2 x3 x4 (vt_ab h)) := by
  unfold fn_X17_stepBy ab_X17_stepBy
  obtain ⟨F, hF⟩ : ∃ F, sv_FP h = F := ⟨_, rfl⟩
  refine sm_kd w tx0 (by decide) ?_
  refine sm_pI w hF tx0 (by decide) (fun h w hF => ?_)
  refine sm_gI w tx0 (by decide) (fun v2 => ?_)
  refine sm_if (fun _ => ?_) (fun _ => ?_)
  · exact sm_X17_stepBy_43 w tx0
  · refine sm_cl w (sm_X15_isIn w.1) (fun r3 h2 e w2 => ?_)
    have hF2 : sv_FP h2 = F := by rw [ro_X15_isIn e]; exact hF
    clear e w hF
    have hF := hF2
    have w := w2
    clear hF2 w2
    refine sm_if (fun _ => ?_) (fun _ => ?_)
    · exact sm_X17_stepBy_43 w tx0
    · refine sm_cl w (sm_X15_isIn w.1) (fun r5 h2 e w2 => ?_)
      have hF2 : sv_FP h2 = F := by rw [ro_X15_isIn e]; exact hF
      clear e w hF
      have hF := hF2
      have w := w2
      clear hF2 w2
      refine sm_if (fun _ => ?_) (fun _ => ?_)
      · exact sm_X17_stepBy_43 w tx0
      · refine sm_cl w (sm_X15_isIn w.1) (fun r7 h2 e w2 => ?_)
        have hF2 : sv_FP h2 = F := by rw [ro_X15_isIn e]; exact hF
        clear e w hF
        have hF := hF2
        have w := w2
        clear hF2 w2
        refine sm_if (fun _ => ?_) (fun _ => ?_)
        · exact sm_X17_stepBy_43 w tx0
        · exact sm_X17_stepBy_44 w tx0
theorem sm_X17_stepBy {x0 : Nat} {x1 : Int32} {x2 : Int32} {x3 : Int32} {x4 : Int32} {h : sv_H} (g : vt_G h) (tx0 : sv_K h x0 = 18) : vt_sm h (fn_X17_stepBy x0 x1 x2 x3 x4 h) (ab_X17_stepBy x0 x1 x2 x3 x4 (vt_ab h)) := sm_X17_stepBy_0 ⟨g, vt_ko.refl h⟩ tx0

theorem sm_X10_eye_0 {h0 : sv_H} {x0 : Nat} {h : sv_H} (w : vt_W h0 h) (tx0 : sv_K h0 x0 = 11) : vt_sm h0 (fn_X10_eye x0 h) (ab_X10_eye x0 (vt_ab h)) := by
  unfold fn_X10_eye ab_X10_eye
  obtain ⟨F, hF⟩ : ∃ F, sv_FP h = F := ⟨_, rfl⟩
  refine sm_kd w tx0 (by decide) ?_
  refine sm_gP w tx0 tk_1101 rfl (fun v1 tv1 => ?_)
  refine sm_gA w hF tv1 tk_307 (by decide) (fun v2 av2 => ?_)
  refine sm_gI w tx0 (by decide) (fun v3 => ?_)
  refine sm_lP (c := 7) w hF tv1 av2 tk_307 (by decide) (fun v4 tv4 => ?_)
  refine sm_gI w tv4 (by decide) (fun v5 => ?_)
  exact sm_rt w
theorem sm_X10_eye {x0 : Nat} {h : sv_H} (g : vt_G h) (tx0 : sv_K h x0 = 11) : vt_sm h (fn_X10_eye x0 h) (ab_X10_eye x0 (vt_ab h)) := sm_X10_eye_0 ⟨g, vt_ko.refl h⟩ tx0

theorem sm_X12_walkerOf_0 {h0 : sv_H} {x0 : Nat} {x1 : Int32} {h : sv_H} (w : vt_W h0 h) (tx0 : sv_K h0 x0 = 13) : vt_sm h0 (fn_X12_walkerOf x0 x1 h) (ab_X12_walkerOf x0 x1 (vt_ab h)) := by
  unfold fn_X12_walkerOf ab_X12_walkerOf
  obtain ⟨F, hF⟩ : ∃ F, sv_FP h = F := ⟨_, rfl⟩
  refine sm_kd w tx0 (by decide) ?_
  refine sm_cl w (sm_X12_hasMap w.1 (w.k tx0 (by decide))) (fun r1 h2 e w2 => ?_)
  have hF2 : sv_FP h2 = F := by rw [ro_X12_hasMap e]; exact hF
  clear e w hF
  have hF := hF2
  have w := w2
  clear hF2 w2
  refine sm_if (fun _ => ?_) (fun _ => ?_)
  · exact sm_rt w
  · refine sm_if (fun _ => ?_) (fun _ => ?_)
    · refine sm_gP w tx0 tk_1304 rfl (fun v3 tv3 => ?_)
      refine sm_gI w tv3 (by decide) (fun v4 => ?_)
      exact sm_rt w
    refine sm_if (fun _ => ?_) (fun _ => ?_)
    · refine sm_gP w tx0 tk_1304 rfl (fun v5 tv5 => ?_)
      refine sm_gI w tv5 (by decide) (fun v6 => ?_)
      exact sm_rt w
    refine sm_if (fun _ => ?_) (fun _ => ?_)
    · refine sm_gP w tx0 tk_1304 rfl (fun v7 tv7 => ?_)
      refine sm_gI w tv7 (by decide) (fun v8 => ?_)
      exact sm_rt w
    refine sm_if (fun _ => ?_) (fun _ => ?_)
    · refine sm_gP w tx0 tk_1304 rfl (fun v9 tv9 => ?_)
      refine sm_gI w tv9 (by decide) (fun v10 => ?_)
      exact sm_rt w
    refine sm_if (fun _ => ?_) (fun _ => ?_)
    · refine sm_gP w tx0 tk_1304 rfl (fun v11 tv11 => ?_)
      refine sm_cl w (sm_X10_eye w.1 (w.k tv11 (by decide))) (fun r12 h2 e w2 => ?_)
      have hF2 : sv_FP h2 = F := by rw [ro_X10_eye e]; exact hF
      clear e w hF
      have hF := hF2
      have w := w2
      clear hF2 w2
      exact sm_rt w
    refine sm_if (fun _ => ?_) (fun _ => ?_)
    · refine sm_gP w tx0 tk_1304 rfl (fun v14 tv14 => ?_)
      refine sm_gI w tv14 (by decide) (fun v15 => ?_)
      exact sm_rt w
    exact sm_rt w
theorem sm_X12_walkerOf {x0 : Nat} {x1 : Int32} {h : sv_H} (g : vt_G h) (tx0 : sv_K h x0 = 13) : vt_sm h (fn_X12_walkerOf x0 x1 h) (ab_X12_walkerOf x0 x1 (vt_ab h)) := sm_X12_walkerOf_0 ⟨g, vt_ko.refl h⟩ tx0

theorem sm_X17_eye_0 {h0 : sv_H} {x0 : Nat} {h : sv_H} (w : vt_W h0 h) (tx0 : sv_K h0 x0 = 18) : vt_sm h0 (fn_X17_eye x0 h) (ab_X17_eye x0 (vt_ab h)) := by
  unfold fn_X17_eye ab_X17_eye
  obtain ⟨F, hF⟩ : ∃ F, sv_FP h = F := ⟨_, rfl⟩
  refine sm_kd w tx0 (by decide) ?_
  refine sm_gP w tx0 tk_1803 rfl (fun v1 tv1 => ?_)
  refine sm_gA w hF tv1 tk_1408 (by decide) (fun v2 av2 => ?_)
  refine sm_gI w tx0 (by decide) (fun v3 => ?_)
  refine sm_lI w hF tv1 av2 tk_1408 (fun _ => ?_)
  exact sm_rt w
theorem sm_X17_eye {x0 : Nat} {h : sv_H} (g : vt_G h) (tx0 : sv_K h x0 = 18) : vt_sm h (fn_X17_eye x0 h) (ab_X17_eye x0 (vt_ab h)) := sm_X17_eye_0 ⟨g, vt_ko.refl h⟩ tx0

theorem sm_X17_walkerOf_0 {h0 : sv_H} {x0 : Nat} {x1 : Int32} {h : sv_H} (w : vt_W h0 h) (tx0 : sv_K h0 x0 = 18) : vt_sm h0 (fn_X17_walkerOf x0 x1 h) (ab_X17_walkerOf x0 x1 (vt_ab h)) := by
  unfold fn_X17_walkerOf ab_X17_walkerOf
  obtain ⟨F, hF⟩ : ∃ F, sv_FP h = F := ⟨_, rfl⟩
  refine sm_kd w tx0 (by decide) ?_
  refine sm_pI w hF tx0 (by decide) (fun h w hF => ?_)
  refine sm_gI w tx0 (by decide) (fun v2 => ?_)
  refine sm_if (fun _ => ?_) (fun _ => ?_)
  · exact sm_rt w
  · refine sm_if (fun _ => ?_) (fun _ => ?_)
    · refine sm_gI w tx0 (by decide) (fun v3 => ?_)
      exact sm_rt w
    refine sm_if (fun _ => ?_) (fun _ => ?_)
    · refine sm_gI w tx0 (by decide) (fun v4 => ?_)
      exact sm_rt w
    refine sm_if (fun _ => ?_) (fun _ => ?_)
    · refine sm_gI w tx0 (by decide) (fun v5 => ?_)
      exact sm_rt w
    refine sm_if (fun _ => ?_) (fun _ => ?_)
    · refine sm_gI w tx0 (by decide) (fun v6 => ?_)
      exact sm_rt w
    refine sm_if (fun _ => ?_) (fun _ => ?_)
    · refine sm_cl w (sm_X17_eye w.1 (w.k tx0 (by decide))) (fun r7 h2 e w2 => ?_)
      have hF2 : sv_FP h2 = F := by rw [ro_X17_eye e]; exact hF
      clear e w hF
      have hF := hF2
      have w := w2
      clear hF2 w2
      exact sm_rt w
    refine sm_if (fun _ => ?_) (fun _ => ?_)
    · refine sm_gP w tx0 tk_1803 rfl (fun v9 tv9 => ?_)
      refine sm_gI w tv9 (by decide) (fun v10 => ?_)
      exact sm_rt w
    exact sm_rt w
theorem sm_X17_walkerOf {x0 : Nat} {x1 : Int32} {h : sv_H} (g : vt_G h) (tx0 : sv_K h x0 = 18) : vt_sm h (fn_X17_walkerOf x0 x1 h) (ab_X17_walkerOf x0 x1 (vt_ab h)) := sm_X17_walkerOf_0 ⟨g, vt_ko.refl h⟩ tx0

theorem sm_X2_moverCount_28 {h0 : sv_H} {k4 : Nat → Int32 → Int32 → sv_H → Option (Int32 × sv_H)} {j4 : Nat → Int32 → Int32 → vt_S → Option (Int32 × vt_S)} (hk4 : ∀ {x0 : Nat} {x1 : Int32} {x2 : Int32} {h : sv_H}, vt_W h0 h → sv_K h0 x0 = 3 → vt_sm h0 (k4 x0 x1 x2 h) (j4 x0 x1 x2 (vt_ab h))) {x0 : Nat} {x1 : Int32} {x2 : Int32} {h : sv_H} (w : vt_W h0 h) (tx0 : sv_K h0 x0 = 3) : vt_sm h0 (fn_X2_moverCount_28 k4 x0 x1 x2 h) (ab_X2_moverCount_28 j4 x0 x1 x2 (vt_ab h)) := by
  unfold fn_X2_moverCount_28 ab_X2_moverCount_28
  obtain ⟨F, hF⟩ : ∃ F, sv_FP h = F := ⟨_, rfl⟩
  exact hk4 w tx0
theorem sm_X2_moverCount_4b {h0 : sv_H} {k4 : Nat → Int32 → Int32 → sv_H → Option (Int32 × sv_H)} {j4 : Nat → Int32 → Int32 → vt_S → Option (Int32 × vt_S)} (hk4 : ∀ {x0 : Nat} {x1 : Int32} {x2 : Int32} {h : sv_H}, vt_W h0 h → sv_K h0 x0 = 3 → vt_sm h0 (k4 x0 x1 x2 h) (j4 x0 x1 x2 (vt_ab h))) {x0 : Nat} {x1 : Int32} {x2 : Int32} {h : sv_H} (w : vt_W h0 h) (tx0 : sv_K h0 x0 = 3) : vt_sm h0 (fn_X2_moverCount_4b k4 x0 x1 x2 h) (ab_X2_moverCount_4b j4 x0 x1 x2 (vt_ab h)) := by
  unfold fn_X2_moverCount_4b ab_X2_moverCount_4b
  obtain ⟨F, hF⟩ : ∃ F, sv_FP h = F := ⟨_, rfl⟩
  refine sm_gI w tx0 (by decide) (fun v1 => ?_)
  refine sm_if (fun _ => ?_) (fun _ => ?_)
  · exact sm_rt w
  · refine sm_gA w hF tx0 tk_307 (by decide) (fun v2 av2 => ?_)
    refine sm_lP (c := 7) w hF tx0 av2 tk_307 (by decide) (fun v3 tv3 => ?_)
    refine sm_gI w tv3 (by decide) (fun v4 => ?_)
    refine sm_if (fun _ => ?_) (fun _ => ?_)
    · exact sm_X2_moverCount_28 (k4 := k4) (j4 := j4) hk4 w tx0
    · exact sm_X2_moverCount_28 (k4 := k4) (j4 := j4) hk4 w tx0
theorem sm_X2_moverCount_4 {h0 : sv_H} : ∀ (n : Nat) {x0 : Nat} {x1 : Int32} {x2 : Int32} {h : sv_H}, vt_W h0 h → sv_K h0 x0 = 3 → vt_sm h0 (fn_X2_moverCount_4 n x0 x1 x2 h) (ab_X2_moverCount_4 n x0 x1 x2 (vt_ab h)) := by
  intro n
  induction n with
  | zero => intro x0 x1 x2 h w tx0; exact sm_no
  | succ n ih => intro x0 x1 x2 h w tx0; exact sm_X2_moverCount_4b (k4 := fn_X2_moverCount_4 n) (j4 := ab_X2_moverCount_4 n) (fun w tx0 => ih w tx0) w tx0
theorem sm_X2_moverCount_0 {h0 : sv_H} {x0 : Nat} {h : sv_H} (w : vt_W h0 h) (tx0 : sv_K h0 x0 = 3) : vt_sm h0 (fn_X2_moverCount x0 h) (ab_X2_moverCount x0 (vt_ab h)) := by
  unfold fn_X2_moverCount ab_X2_moverCount
  obtain ⟨F, hF⟩ : ∃ F, sv_FP h = F := ⟨_, rfl⟩
  refine sm_kd w tx0 (by decide) ?_
  exact sm_X2_moverCount_4 sv_fuel w tx0
theorem sm_X2_moverCount {x0 : Nat} {h : sv_H} (g : vt_G h) (tx0 : sv_K h x0 = 3) : vt_sm h (fn_X2_moverCount x0 h) (ab_X2_moverCount x0 (vt_ab h)) := sm_X2_moverCount_0 ⟨g, vt_ko.refl h⟩ tx0

theorem sm_X2_lightIn_53 {h0 : sv_H} {s0 : Int32} {h : sv_H} (w : vt_W h0 h) : vt_sm h0 (fn_X2_lightIn_53 s0 h) (ab_X2_lightIn_53 s0 (vt_ab h)) := by
  unfold fn_X2_lightIn_53 ab_X2_lightIn_53
  obtain ⟨F, hF⟩ : ∃ F, sv_FP h = F := ⟨_, rfl⟩
  exact sm_rt w
theorem sm_X2_lightIn_71 {h0 : sv_H} {s0 : Int32} {h : sv_H} (w : vt_W h0 h) : vt_sm h0 (fn_X2_lightIn_71 s0 h) (ab_X2_lightIn_71 s0 (vt_ab h)) := by
  unfold fn_X2_lightIn_71 ab_X2_lightIn_71
  obtain ⟨F, hF⟩ : ∃ F, sv_FP h = F := ⟨_, rfl⟩
  exact sm_rt w
theorem sm_X2_lightIn_0 {h0 : sv_H} {x0 : Nat} {x1 : Nat} {x2 : Int32} {h : sv_H} (w : vt_W h0 h) (tx0 : sv_K h0 x0 = 3) (tx1 : sv_K h0 x1 = 7) : vt_sm h0 (fn_X2_lightIn x0 x1 x2 h) (ab_X2_lightIn x0 x1 x2 (vt_ab h)) := by
  unfold fn_X2_lightIn ab_X2_lightIn
  obtain ⟨F, hF⟩ : ∃ F, sv_FP h = F := ⟨_, rfl⟩
  refine sm_kd w tx0 (by decide) ?_
  refine sm_gI w tx1 (by decide) (fun v1 => ?_)
  refine sm_if (fun _ => ?_) (fun _ => ?_)
  · refine sm_if (fun _ => ?_) (fun _ => ?_)
    · refine sm_gI w tx1 (by decide) (fun v2 => ?_)
      exact sm_X2_lightIn_53 w
    · refine sm_gI w tx1 (by decide) (fun v3 => ?_)
      exact sm_X2_lightIn_53 w
  refine sm_if (fun _ => ?_) (fun _ => ?_)
  · refine sm_if (fun _ => ?_) (fun _ => ?_)
    · refine sm_gI w tx1 (by decide) (fun v4 => ?_)
      exact sm_X2_lightIn_71 w
    · exact sm_X2_lightIn_71 w
  refine sm_if (fun _ => ?_) (fun _ => ?_)
  · refine sm_gI w tx1 (by decide) (fun v5 => ?_)
    refine sm_cl w (sm_X2_moverCount w.1 (w.k tx0 (by decide))) (fun r6 h2 e w2 => ?_)
    have hF2 : sv_FP h2 = F := by rw [ro_X2_moverCount e]; exact hF
    clear e w hF
    have hF := hF2
    have w := w2
    clear hF2 w2
    refine sm_let (fun _ => ?_)
    exact sm_rt w
  refine sm_gI w tx1 (by decide) (fun v9 => ?_)
  exact sm_rt w
theorem sm_X2_lightIn {x0 : Nat} {x1 : Nat} {x2 : Int32} {h : sv_H} (g : vt_G h) (tx0 : sv_K h x0 = 3) (tx1 : sv_K h x1 = 7) : vt_sm h (fn_X2_lightIn x0 x1 x2 h) (ab_X2_lightIn x0 x1 x2 (vt_ab h)) := sm_X2_lightIn_0 ⟨g, vt_ko.refl h⟩ tx0 tx1

theorem sm_X12_sectorOf_15 {h0 : sv_H} {h : sv_H} (w : vt_W h0 h) : vt_sm h0 (fn_X12_sectorOf_15 h) (ab_X12_sectorOf_15 (vt_ab h)) := by
  unfold fn_X12_sectorOf_15 ab_X12_sectorOf_15
  obtain ⟨F, hF⟩ : ∃ F, sv_FP h = F := ⟨_, rfl⟩
  exact sm_rt w
theorem sm_X12_sectorOf_0 {h0 : sv_H} {x0 : Nat} {x1 : Int32} {x2 : Int32} {h : sv_H} (w : vt_W h0 h) (tx0 : sv_K h0 x0 = 13) : vt_sm h0 (fn_X12_sectorOf x0 x1 x2 h) (ab_X12_sectorOf x0 x1 x2 (vt_ab h)) := by
  unfold fn_X12_sectorOf ab_X12_sectorOf
  obtain ⟨F, hF⟩ : ∃ F, sv_FP h = F := ⟨_, rfl⟩
  refine sm_kd w tx0 (by decide) ?_
  refine sm_cl w (sm_X12_hasMap w.1 (w.k tx0 (by decide))) (fun r1 h2 e w2 => ?_)
  have hF2 : sv_FP h2 = F := by rw [ro_X12_hasMap e]; exact hF
  clear e w hF
  have hF := hF2
  have w := w2
  clear hF2 w2
  refine sm_if (fun _ => ?_) (fun _ => ?_)
  · exact sm_X12_sectorOf_15 w
  · refine sm_cl w (sm_X12_isSector w.1 (w.k tx0 (by decide))) (fun r3 h2 e w2 => ?_)
    have hF2 : sv_FP h2 = F := by rw [ro_X12_isSector e]; exact hF
    clear e w hF
    have hF := hF2
    have w := w2
    clear hF2 w2
    refine sm_if (fun _ => ?_) (fun _ => ?_)
    · exact sm_X12_sectorOf_15 w
    · refine sm_gP w tx0 tk_1306 rfl (fun v5 tv5 => ?_)
      refine sm_gA w hF tv5 tk_307 (by decide) (fun v6 av6 => ?_)
      refine sm_lP (c := 7) w hF tv5 av6 tk_307 (by decide) (fun v7 tv7 => ?_)
      refine sm_if (fun _ => ?_) (fun _ => ?_)
      · refine sm_gI w tv7 (by decide) (fun v8 => ?_)
        exact sm_rt w
      refine sm_if (fun _ => ?_) (fun _ => ?_)
      · refine sm_gI w tv7 (by decide) (fun v9 => ?_)
        exact sm_rt w
      refine sm_if (fun _ => ?_) (fun _ => ?_)
      · refine sm_gP w tx0 tk_1306 rfl (fun v10 tv10 => ?_)
        refine sm_gP w tx0 tk_1304 rfl (fun v11 tv11 => ?_)
        refine sm_gI w tv11 (by decide) (fun v12 => ?_)
        refine sm_cl w (sm_X2_lightIn w.1 (w.k tv10 (by decide)) (w.k tv7 (by decide))) (fun r13 h2 e w2 => ?_)
        have hF2 : sv_FP h2 = F := by rw [ro_X2_lightIn e]; exact hF
        clear e w hF
        have hF := hF2
        have w := w2
        clear hF2 w2
        exact sm_rt w
      refine sm_if (fun _ => ?_) (fun _ => ?_)
      · refine sm_gI w tv7 (by decide) (fun v15 => ?_)
        exact sm_rt w
      refine sm_if (fun _ => ?_) (fun _ => ?_)
      · refine sm_gI w tv7 (by decide) (fun v16 => ?_)
        exact sm_rt w
      exact sm_rt w
theorem sm_X12_sectorOf {x0 : Nat} {x1 : Int32} {x2 : Int32} {h : sv_H} (g : vt_G h) (tx0 : sv_K h x0 = 13) : vt_sm h (fn_X12_sectorOf x0 x1 x2 h) (ab_X12_sectorOf x0 x1 x2 (vt_ab h)) := sm_X12_sectorOf_0 ⟨g, vt_ko.refl h⟩ tx0

theorem sm_X13_many_27 {h0 : sv_H} {k4 : Nat → Int32 → Int32 → sv_H → Option (Int32 × sv_H)} {j4 : Nat → Int32 → Int32 → vt_S → Option (Int32 × vt_S)} (hk4 : ∀ {x0 : Nat} {x1 : Int32} {x2 : Int32} {h : sv_H}, vt_W h0 h → sv_K h0 x0 = 14 → vt_sm h0 (k4 x0 x1 x2 h) (j4 x0 x1 x2 (vt_ab h))) {x0 : Nat} {x2 : Int32} {s0 : Int32} {s1 : Int32} {h : sv_H} (w : vt_W h0 h) (tx0 : sv_K h0 x0 = 14) : vt_sm h0 (fn_X13_many_27 k4 x0 x2 s0 s1 h) (ab_X13_many_27 j4 x0 x2 s0 s1 (vt_ab h)) := by
  unfold fn_X13_many_27 ab_X13_many_27
  obtain ⟨F, hF⟩ : ∃ F, sv_FP h = F := ⟨_, rfl⟩
  exact hk4 w tx0
theorem sm_X13_many_4b {h0 : sv_H} {k4 : Nat → Int32 → Int32 → sv_H → Option (Int32 × sv_H)} {j4 : Nat → Int32 → Int32 → vt_S → Option (Int32 × vt_S)} (hk4 : ∀ {x0 : Nat} {x1 : Int32} {x2 : Int32} {h : sv_H}, vt_W h0 h → sv_K h0 x0 = 14 → vt_sm h0 (k4 x0 x1 x2 h) (j4 x0 x1 x2 (vt_ab h))) {x0 : Nat} {x1 : Int32} {x2 : Int32} {h : sv_H} (w : vt_W h0 h) (tx0 : sv_K h0 x0 = 14) : vt_sm h0 (fn_X13_many_4b k4 x0 x1 x2 h) (ab_X13_many_4b j4 x0 x1 x2 (vt_ab h)) := by
  unfold fn_X13_many_4b ab_X13_many_4b
  obtain ⟨F, hF⟩ : ∃ F, sv_FP h = F := ⟨_, rfl⟩
  refine sm_gI w tx0 (by decide) (fun v1 => ?_)
  refine sm_if (fun _ => ?_) (fun _ => ?_)
  · exact sm_rt w
  · refine sm_gA w hF tx0 tk_1410 (by decide) (fun v2 av2 => ?_)
    refine sm_lI w hF tx0 av2 tk_1410 (fun _ => ?_)
    refine sm_if (fun _ => ?_) (fun _ => ?_)
    · exact sm_X13_many_27 (k4 := k4) (j4 := j4) hk4 w tx0
    · exact sm_X13_many_27 (k4 := k4) (j4 := j4) hk4 w tx0
theorem sm_X13_many_4 {h0 : sv_H} : ∀ (n : Nat) {x0 : Nat} {x1 : Int32} {x2 : Int32} {h : sv_H}, vt_W h0 h → sv_K h0 x0 = 14 → vt_sm h0 (fn_X13_many_4 n x0 x1 x2 h) (ab_X13_many_4 n x0 x1 x2 (vt_ab h)) := by
  intro n
  induction n with
  | zero => intro x0 x1 x2 h w tx0; exact sm_no
  | succ n ih => intro x0 x1 x2 h w tx0; exact sm_X13_many_4b (k4 := fn_X13_many_4 n) (j4 := ab_X13_many_4 n) (fun w tx0 => ih w tx0) w tx0
theorem sm_X13_many_0 {h0 : sv_H} {x0 : Nat} {h : sv_H} (w : vt_W h0 h) (tx0 : sv_K h0 x0 = 14) : vt_sm h0 (fn_X13_many x0 h) (ab_X13_many x0 (vt_ab h)) := by
  unfold fn_X13_many ab_X13_many
  obtain ⟨F, hF⟩ : ∃ F, sv_FP h = F := ⟨_, rfl⟩
  refine sm_kd w tx0 (by decide) ?_
  exact sm_X13_many_4 sv_fuel w tx0
theorem sm_X13_many {x0 : Nat} {h : sv_H} (g : vt_G h) (tx0 : sv_K h x0 = 14) : vt_sm h (fn_X13_many x0 h) (ab_X13_many x0 (vt_ab h)) := sm_X13_many_0 ⟨g, vt_ko.refl h⟩ tx0

theorem sm_X13_lightOf_66 {h0 : sv_H} {s0 : Int32} {h : sv_H} (w : vt_W h0 h) : vt_sm h0 (fn_X13_lightOf_66 s0 h) (ab_X13_lightOf_66 s0 (vt_ab h)) := by
  unfold fn_X13_lightOf_66 ab_X13_lightOf_66
  obtain ⟨F, hF⟩ : ∃ F, sv_FP h = F := ⟨_, rfl⟩
  exact sm_rt w
theorem sm_X13_lightOf_84 {h0 : sv_H} {s0 : Int32} {h : sv_H} (w : vt_W h0 h) : vt_sm h0 (fn_X13_lightOf_84 s0 h) (ab_X13_lightOf_84 s0 (vt_ab h)) := by
  unfold fn_X13_lightOf_84 ab_X13_lightOf_84
  obtain ⟨F, hF⟩ : ∃ F, sv_FP h = F := ⟨_, rfl⟩
  exact sm_rt w
theorem sm_X13_lightOf_94 {h0 : sv_H} {s0 : Int32} {h : sv_H} (w : vt_W h0 h) : vt_sm h0 (fn_X13_lightOf_94 s0 h) (ab_X13_lightOf_94 s0 (vt_ab h)) := by
  unfold fn_X13_lightOf_94 ab_X13_lightOf_94
  obtain ⟨F, hF⟩ : ∃ F, sv_FP h = F := ⟨_, rfl⟩
  exact sm_rt w
theorem sm_X13_lightOf_0 {h0 : sv_H} {x0 : Nat} {x1 : Int32} {h : sv_H} (w : vt_W h0 h) (tx0 : sv_K h0 x0 = 14) : vt_sm h0 (fn_X13_lightOf x0 x1 h) (ab_X13_lightOf x0 x1 (vt_ab h)) := by
  unfold fn_X13_lightOf ab_X13_lightOf
  obtain ⟨F, hF⟩ : ∃ F, sv_FP h = F := ⟨_, rfl⟩
  refine sm_kd w tx0 (by decide) ?_
  refine sm_gA w hF tx0 tk_1403 (by decide) (fun v1 av1 => ?_)
  refine sm_lI w hF tx0 av1 tk_1403 (fun _ => ?_)
  refine sm_cl w (sm_X13_many w.1 (w.k tx0 (by decide))) (fun r3 h2 e w2 => ?_)
  have hF2 : sv_FP h2 = F := by rw [ro_X13_many e]; exact hF
  clear e w hF
  have hF := hF2
  have w := w2
  clear hF2 w2
  refine sm_gA w hF tx0 tk_1404 (by decide) (fun v5 av5 => ?_)
  refine sm_lI w hF tx0 av5 tk_1404 (fun _ => ?_)
  refine sm_if (fun _ => ?_) (fun _ => ?_)
  · refine sm_gI w tx0 (by decide) (fun v7 => ?_)
    refine sm_if (fun _ => ?_) (fun _ => ?_)
    · exact sm_X13_lightOf_66 w
    · exact sm_X13_lightOf_66 w
  refine sm_if (fun _ => ?_) (fun _ => ?_)
  · refine sm_gI w tx0 (by decide) (fun v8 => ?_)
    refine sm_if (fun _ => ?_) (fun _ => ?_)
    · exact sm_X13_lightOf_84 w
    · exact sm_X13_lightOf_84 w
  refine sm_if (fun _ => ?_) (fun _ => ?_)
  · refine sm_if (fun _ => ?_) (fun _ => ?_)
    · exact sm_X13_lightOf_94 w
    · exact sm_X13_lightOf_94 w
  exact sm_rt w
theorem sm_X13_lightOf {x0 : Nat} {x1 : Int32} {h : sv_H} (g : vt_G h) (tx0 : sv_K h x0 = 14) : vt_sm h (fn_X13_lightOf x0 x1 h) (ab_X13_lightOf x0 x1 (vt_ab h)) := sm_X13_lightOf_0 ⟨g, vt_ko.refl h⟩ tx0

