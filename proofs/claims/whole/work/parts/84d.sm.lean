theorem sm_X13_of_0 {h0 : sv_H} {x0 : Nat} {x1 : Int32} {x2 : Int32} {h : sv_H} (w : vt_W h0 h) (tx0 : sv_K h0 x0 = 14) : vt_sm h0 (fn_X13_of x0 x1 x2 h) (ab_X13_of x0 x1 x2 (vt_ab h)) := by
  unfold fn_X13_of ab_X13_of
  obtain ⟨F, hF⟩ : ∃ F, sv_FP h = F := ⟨_, rfl⟩
  refine sm_kd w tx0 (by decide) ?_
  refine sm_cl w (sm_X13_isSector w.1 (w.k tx0 (by decide))) (fun r1 h2 e w2 => ?_)
  have hF2 : sv_FP h2 = F := by rw [ro_X13_isSector e]; exact hF
  clear e w hF
  have hF := hF2
  have w := w2
  clear hF2 w2
  refine sm_if (fun _ => ?_) (fun _ => ?_)
  · exact sm_rt w
  · refine sm_if (fun _ => ?_) (fun _ => ?_)
    · refine sm_gA w hF tx0 tk_1408 (by decide) (fun v3 av3 => ?_)
      refine sm_lI w hF tx0 av3 tk_1408 (fun _ => ?_)
      exact sm_rt w
    refine sm_if (fun _ => ?_) (fun _ => ?_)
    · refine sm_gA w hF tx0 tk_1409 (by decide) (fun v5 av5 => ?_)
      refine sm_lI w hF tx0 av5 tk_1409 (fun _ => ?_)
      exact sm_rt w
    refine sm_if (fun _ => ?_) (fun _ => ?_)
    · refine sm_cl w (sm_X13_lightOf w.1 (w.k tx0 (by decide))) (fun r7 h2 e w2 => ?_)
      have hF2 : sv_FP h2 = F := by rw [ro_X13_lightOf e]; exact hF
      clear e w hF
      have hF := hF2
      have w := w2
      clear hF2 w2
      exact sm_rt w
    refine sm_if (fun _ => ?_) (fun _ => ?_)
    · refine sm_gA w hF tx0 tk_1410 (by decide) (fun v9 av9 => ?_)
      refine sm_lI w hF tx0 av9 tk_1410 (fun _ => ?_)
      exact sm_rt w
    refine sm_if (fun _ => ?_) (fun _ => ?_)
    · refine sm_gA w hF tx0 tk_1411 (by decide) (fun v11 av11 => ?_)
      refine sm_lI w hF tx0 av11 tk_1411 (fun _ => ?_)
      exact sm_rt w
    refine sm_if (fun _ => ?_) (fun _ => ?_)
    · refine sm_gA w hF tx0 tk_1412 (by decide) (fun v13 av13 => ?_)
      refine sm_lI w hF tx0 av13 tk_1412 (fun _ => ?_)
      exact sm_rt w
    refine sm_if (fun _ => ?_) (fun _ => ?_)
    · refine sm_cl w (sm_X13_lowFloor w.1 (w.k tx0 (by decide))) (fun r15 h2 e w2 => ?_)
      have hF2 : sv_FP h2 = F := by rw [ro_X13_lowFloor e]; exact hF
      clear e w hF
      have hF := hF2
      have w := w2
      clear hF2 w2
      exact sm_rt w
    refine sm_if (fun _ => ?_) (fun _ => ?_)
    · refine sm_cl w (sm_X13_highFloor w.1 (w.k tx0 (by decide))) (fun r17 h2 e w2 => ?_)
      have hF2 : sv_FP h2 = F := by rw [ro_X13_highFloor e]; exact hF
      clear e w hF
      have hF := hF2
      have w := w2
      clear hF2 w2
      exact sm_rt w
    refine sm_if (fun _ => ?_) (fun _ => ?_)
    · refine sm_cl w (sm_X13_lowCeiling w.1 (w.k tx0 (by decide))) (fun r19 h2 e w2 => ?_)
      have hF2 : sv_FP h2 = F := by rw [ro_X13_lowCeiling e]; exact hF
      clear e w hF
      have hF := hF2
      have w := w2
      clear hF2 w2
      exact sm_rt w
    refine sm_if (fun _ => ?_) (fun _ => ?_)
    · refine sm_gA w hF tx0 tk_1413 (by decide) (fun v21 av21 => ?_)
      refine sm_lI w hF tx0 av21 tk_1413 (fun _ => ?_)
      exact sm_rt w
    exact sm_rt w
theorem sm_X13_of {x0 : Nat} {x1 : Int32} {x2 : Int32} {h : sv_H} (g : vt_G h) (tx0 : sv_K h x0 = 14) : vt_sm h (fn_X13_of x0 x1 x2 h) (ab_X13_of x0 x1 x2 (vt_ab h)) := sm_X13_of_0 ⟨g, vt_ko.refl h⟩ tx0

theorem sm_X17_sectorOf_41 {h0 : sv_H} {s0 : Int32} {h : sv_H} (w : vt_W h0 h) : vt_sm h0 (fn_X17_sectorOf_41 s0 h) (ab_X17_sectorOf_41 s0 (vt_ab h)) := by
  unfold fn_X17_sectorOf_41 ab_X17_sectorOf_41
  obtain ⟨F, hF⟩ : ∃ F, sv_FP h = F := ⟨_, rfl⟩
  exact sm_rt w
theorem sm_X17_sectorOf_26 {h0 : sv_H} {h : sv_H} (w : vt_W h0 h) : vt_sm h0 (fn_X17_sectorOf_26 h) (ab_X17_sectorOf_26 (vt_ab h)) := by
  unfold fn_X17_sectorOf_26 ab_X17_sectorOf_26
  obtain ⟨F, hF⟩ : ∃ F, sv_FP h = F := ⟨_, rfl⟩
  exact sm_X17_sectorOf_41 w
theorem sm_X17_sectorOf_0 {h0 : sv_H} {x0 : Nat} {x1 : Int32} {x2 : Int32} {h : sv_H} (w : vt_W h0 h) (tx0 : sv_K h0 x0 = 18) : vt_sm h0 (fn_X17_sectorOf x0 x1 x2 h) (ab_X17_sectorOf x0 x1 x2 (vt_ab h)) := by
  unfold fn_X17_sectorOf ab_X17_sectorOf
  obtain ⟨F, hF⟩ : ∃ F, sv_FP h = F := ⟨_, rfl⟩
  refine sm_kd w tx0 (by decide) ?_
  refine sm_pI w hF tx0 (by decide) (fun h w hF => ?_)
  refine sm_if (fun _ => ?_) (fun _ => ?_)
  · exact sm_X17_sectorOf_26 w
  · refine sm_cl w (sm_X17_sectors w.1 (w.k tx0 (by decide))) (fun r2 h2 e w2 => ?_)
    have hF2 : sv_FP h2 = F := by rw [ro_X17_sectors e]; exact hF
    clear e w hF
    have hF := hF2
    have w := w2
    clear hF2 w2
    refine sm_if (fun _ => ?_) (fun _ => ?_)
    · exact sm_X17_sectorOf_26 w
    · refine sm_if (fun _ => ?_) (fun _ => ?_)
      · exact sm_X17_sectorOf_26 w
      · refine sm_if (fun _ => ?_) (fun _ => ?_)
        · refine sm_gP w tx0 tk_1803 rfl (fun v4 tv4 => ?_)
          refine sm_cl w (sm_X13_of w.1 (w.k tv4 (by decide))) (fun r5 h2 e w2 => ?_)
          have hF2 : sv_FP h2 = F := by rw [ro_X13_of e]; exact hF
          clear e w hF
          have hF := hF2
          have w := w2
          clear hF2 w2
          exact sm_X17_sectorOf_41 w
        · exact sm_X17_sectorOf_26 w
theorem sm_X17_sectorOf {x0 : Nat} {x1 : Int32} {x2 : Int32} {h : sv_H} (g : vt_G h) (tx0 : sv_K h x0 = 18) : vt_sm h (fn_X17_sectorOf x0 x1 x2 h) (ab_X17_sectorOf x0 x1 x2 (vt_ab h)) := sm_X17_sectorOf_0 ⟨g, vt_ko.refl h⟩ tx0

theorem sm_X12_isSeen_22 {h0 : sv_H} {s0 : Int32} {h : sv_H} (w : vt_W h0 h) : vt_sm h0 (fn_X12_isSeen_22 s0 h) (ab_X12_isSeen_22 s0 (vt_ab h)) := by
  unfold fn_X12_isSeen_22 ab_X12_isSeen_22
  obtain ⟨F, hF⟩ : ∃ F, sv_FP h = F := ⟨_, rfl⟩
  exact sm_rz w
theorem sm_X12_isSeen_21 {h0 : sv_H} {h : sv_H} (w : vt_W h0 h) : vt_sm h0 (fn_X12_isSeen_21 h) (ab_X12_isSeen_21 (vt_ab h)) := by
  unfold fn_X12_isSeen_21 ab_X12_isSeen_21
  obtain ⟨F, hF⟩ : ∃ F, sv_FP h = F := ⟨_, rfl⟩
  exact sm_X12_isSeen_22 w
theorem sm_X12_isSeen_0 {h0 : sv_H} {x0 : Nat} {x1 : Int32} {h : sv_H} (w : vt_W h0 h) (tx0 : sv_K h0 x0 = 13) : vt_sm h0 (fn_X12_isSeen x0 x1 h) (ab_X12_isSeen x0 x1 (vt_ab h)) := by
  unfold fn_X12_isSeen ab_X12_isSeen
  obtain ⟨F, hF⟩ : ∃ F, sv_FP h = F := ⟨_, rfl⟩
  refine sm_kd w tx0 (by decide) ?_
  refine sm_cl w (sm_X12_hasMap w.1 (w.k tx0 (by decide))) (fun r1 h2 e w2 => ?_)
  have hF2 : sv_FP h2 = F := by rw [ro_X12_hasMap e]; exact hF
  clear e w hF
  have hF := hF2
  have w := w2
  clear hF2 w2
  refine sm_if (fun _ => ?_) (fun _ => ?_)
  · exact sm_X12_isSeen_21 w
  · refine sm_if (fun _ => ?_) (fun _ => ?_)
    · exact sm_X12_isSeen_21 w
    · refine sm_if (fun _ => ?_) (fun _ => ?_)
      · exact sm_X12_isSeen_21 w
      · exact sm_X12_isSeen_22 w
theorem sm_X12_isSeen {x0 : Nat} {x1 : Int32} {h : sv_H} (g : vt_G h) (tx0 : sv_K h x0 = 13) : vt_sm h (fn_X12_isSeen x0 x1 h) (ab_X12_isSeen x0 x1 (vt_ab h)) := sm_X12_isSeen_0 ⟨g, vt_ko.refl h⟩ tx0

theorem sm_X3_meetAll_7b {h0 : sv_H} {k7 : Nat → Nat → Int32 → sv_H → Option (Unit × sv_H)} {j7 : Nat → Nat → Int32 → vt_S → Option (Unit × vt_S)} (hk7 : ∀ {x0 : Nat} {x1 : Nat} {x2 : Int32} {h : sv_H}, vt_W h0 h → sv_K h0 x0 = 4 → sv_K h0 x1 = 3 → vt_sm h0 (k7 x0 x1 x2 h) (j7 x0 x1 x2 (vt_ab h))) {x0 : Nat} {x1 : Nat} {x2 : Int32} {h : sv_H} (w : vt_W h0 h) (tx0 : sv_K h0 x0 = 4) (tx1 : sv_K h0 x1 = 3) : vt_sm h0 (fn_X3_meetAll_7b k7 x0 x1 x2 h) (ab_X3_meetAll_7b j7 x0 x1 x2 (vt_ab h)) := by
  unfold fn_X3_meetAll_7b ab_X3_meetAll_7b
  obtain ⟨F, hF⟩ : ∃ F, sv_FP h = F := ⟨_, rfl⟩
  refine sm_gI w tx1 (by decide) (fun v1 => ?_)
  refine sm_if (fun _ => ?_) (fun _ => ?_)
  · exact sm_rt w
  · refine sm_gA w hF tx1 tk_308 (by decide) (fun v2 av2 => ?_)
    refine sm_lP (c := 12) w hF tx1 av2 tk_308 (by decide) (fun v3 tv3 => ?_)
    refine sm_cl w (sm_X3_meet w.1 (w.k tx0 (by decide)) (w.k tv3 (by decide))) (fun _ h2 e w2 => ?_)
    have hF2 : sv_FP h2 = F := (ow_X3_meet sv_clT trivial trivial e).2.1.1.trans hF
    clear e w hF
    have hF := hF2
    have w := w2
    clear hF2 w2
    exact hk7 w tx0 tx1
theorem sm_X3_meetAll_7 {h0 : sv_H} : ∀ (n : Nat) {x0 : Nat} {x1 : Nat} {x2 : Int32} {h : sv_H}, vt_W h0 h → sv_K h0 x0 = 4 → sv_K h0 x1 = 3 → vt_sm h0 (fn_X3_meetAll_7 n x0 x1 x2 h) (ab_X3_meetAll_7 n x0 x1 x2 (vt_ab h)) := by
  intro n
  induction n with
  | zero => intro x0 x1 x2 h w tx0 tx1; exact sm_no
  | succ n ih => intro x0 x1 x2 h w tx0 tx1; exact sm_X3_meetAll_7b (k7 := fn_X3_meetAll_7 n) (j7 := ab_X3_meetAll_7 n) (fun w tx0 tx1 => ih w tx0 tx1) w tx0 tx1
theorem sm_X3_meetAll_0 {h0 : sv_H} {x0 : Nat} {x1 : Nat} {h : sv_H} (w : vt_W h0 h) (tx0 : sv_K h0 x0 = 4) (tx1 : sv_K h0 x1 = 3) : vt_sm h0 (fn_X3_meetAll x0 x1 h) (ab_X3_meetAll x0 x1 (vt_ab h)) := by
  unfold fn_X3_meetAll ab_X3_meetAll
  obtain ⟨F, hF⟩ : ∃ F, sv_FP h = F := ⟨_, rfl⟩
  refine sm_kd w tx0 (by decide) ?_
  refine sm_pI w hF tx0 (by decide) (fun h w hF => ?_)
  exact sm_X3_meetAll_7 sv_fuel w tx0 tx1
theorem sm_X3_meetAll {x0 : Nat} {x1 : Nat} {h : sv_H} (g : vt_G h) (tx0 : sv_K h x0 = 4) (tx1 : sv_K h x1 = 3) : vt_sm h (fn_X3_meetAll x0 x1 h) (ab_X3_meetAll x0 x1 (vt_ab h)) := sm_X3_meetAll_0 ⟨g, vt_ko.refl h⟩ tx0 tx1

theorem sm_X9_rowOf_0 {h0 : sv_H} {x0 : Nat} {x1 : Int32} {x2 : Int32} {h : sv_H} (w : vt_W h0 h) (tx0 : sv_K h0 x0 = 10) : vt_sm h0 (fn_X9_rowOf x0 x1 x2 h) (ab_X9_rowOf x0 x1 x2 (vt_ab h)) := by
  unfold fn_X9_rowOf ab_X9_rowOf
  obtain ⟨F, hF⟩ : ∃ F, sv_FP h = F := ⟨_, rfl⟩
  refine sm_kd w tx0 (by decide) ?_
  refine sm_gI w tx0 (by decide) (fun v1 => ?_)
  refine sm_gP w tx0 tk_1000 rfl (fun v2 tv2 => ?_)
  refine sm_gA w hF tv2 tk_403 (by decide) (fun v3 av3 => ?_)
  refine sm_lJ w hF tv2 av3 tk_403 (fun _ => ?_)
  refine sm_gP w tx0 tk_1000 rfl (fun v5 tv5 => ?_)
  refine sm_gA w hF tv5 tk_402 (by decide) (fun v6 av6 => ?_)
  refine sm_lJ w hF tv5 av6 tk_402 (fun _ => ?_)
  refine sm_cl w (sm_J9_floorDiv_f86c9 w.1) (fun r8 h2 e w2 => ?_)
  have hF2 : sv_FP h2 = F := by rw [ro_J9_floorDiv_f86c9 e]; exact hF
  clear e w hF
  have hF := hF2
  have w := w2
  clear hF2 w2
  exact sm_rt w
theorem sm_X9_rowOf {x0 : Nat} {x1 : Int32} {x2 : Int32} {h : sv_H} (g : vt_G h) (tx0 : sv_K h x0 = 10) : vt_sm h (fn_X9_rowOf x0 x1 x2 h) (ab_X9_rowOf x0 x1 x2 (vt_ab h)) := sm_X9_rowOf_0 ⟨g, vt_ko.refl h⟩ tx0

theorem sm_X9_between_0 {h0 : sv_H} {x0 : Int64} {x2 : Int32} {x3 : Int32} {h : sv_H} (w : vt_W h0 h) : vt_sm h0 (fn_X9_between x0 x2 x3 h) (ab_X9_between x0 x2 x3 (vt_ab h)) := by
  unfold fn_X9_between ab_X9_between
  obtain ⟨F, hF⟩ : ∃ F, sv_FP h = F := ⟨_, rfl⟩
  refine sm_let (fun _ => ?_)
  refine sm_let (fun _ => ?_)
  exact sm_rt w
theorem sm_X9_between {x0 : Int64} {x2 : Int32} {x3 : Int32} {h : sv_H} (g : vt_G h) : vt_sm h (fn_X9_between x0 x2 x3 h) (ab_X9_between x0 x2 x3 (vt_ab h)) := sm_X9_between_0 ⟨g, vt_ko.refl h⟩

theorem sm_X2_texel_0 {h0 : sv_H} {x0 : Nat} {x1 : Int32} {x2 : Int64} {x4 : Int64} {h : sv_H} (w : vt_W h0 h) (tx0 : sv_K h0 x0 = 3) : vt_sm h0 (fn_X2_texel x0 x1 x2 x4 h) (ab_X2_texel x0 x1 x2 x4 (vt_ab h)) := by
  unfold fn_X2_texel ab_X2_texel
  obtain ⟨F, hF⟩ : ∃ F, sv_FP h = F := ⟨_, rfl⟩
  refine sm_kd w tx0 (by decide) ?_
  refine sm_if (fun _ => ?_) (fun _ => ?_)
  · exact sm_rt w
  · refine sm_gA w hF tx0 tk_304 (by decide) (fun v1 av1 => ?_)
    refine sm_lI w hF tx0 av1 tk_304 (fun _ => ?_)
    refine sm_gA w hF tx0 tk_305 (by decide) (fun v3 av3 => ?_)
    refine sm_lI w hF tx0 av3 tk_305 (fun _ => ?_)
    refine sm_gP w tx0 tk_300 rfl (fun v5 tv5 => ?_)
    refine sm_gA w hF tv5 tk_100 (by decide) (fun v6 av6 => ?_)
    refine sm_gA w hF tx0 tk_306 (by decide) (fun v7 av7 => ?_)
    refine sm_lI w hF tx0 av7 tk_306 (fun _ => ?_)
    refine sm_gA w hF tx0 tk_304 (by decide) (fun v9 av9 => ?_)
    refine sm_lI w hF tx0 av9 tk_304 (fun _ => ?_)
    refine sm_lI w hF tv5 av6 tk_100 (fun _ => ?_)
    exact sm_rt w
theorem sm_X2_texel {x0 : Nat} {x1 : Int32} {x2 : Int64} {x4 : Int64} {h : sv_H} (g : vt_G h) (tx0 : sv_K h x0 = 3) : vt_sm h (fn_X2_texel x0 x1 x2 x4 h) (ab_X2_texel x0 x1 x2 x4 (vt_ab h)) := sm_X2_texel_0 ⟨g, vt_ko.refl h⟩ tx0

theorem sm_X9_paintPlane_46 {h0 : sv_H} {k3 : Nat → Nat → Int32 → Int32 → Int32 → Int32 → Int32 → sv_H → Option (Unit × sv_H)} {j3 : Nat → Nat → Int32 → Int32 → Int32 → Int32 → Int32 → vt_S → Option (Unit × vt_S)} (hk3 : ∀ {x0 : Nat} {x1 : Nat} {x3 : Int32} {x4 : Int32} {x5 : Int32} {x6 : Int32} {x7 : Int32} {h : sv_H}, vt_W h0 h → sv_K h0 x0 = 10 → sv_K h0 x1 = 3 → vt_sm h0 (k3 x0 x1 x3 x4 x5 x6 x7 h) (j3 x0 x1 x3 x4 x5 x6 x7 (vt_ab h))) {x0 : Nat} {x1 : Nat} {x3 : Int32} {x4 : Int32} {x5 : Int32} {x6 : Int32} {x7 : Int32} {x8 : Int64} {x10 : Int64} {h : sv_H} (w : vt_W h0 h) (tx0 : sv_K h0 x0 = 10) (tx1 : sv_K h0 x1 = 3) : vt_sm h0 (fn_X9_paintPlane_46 k3 x0 x1 x3 x4 x5 x6 x7 x8 x10 h) (ab_X9_paintPlane_46 j3 x0 x1 x3 x4 x5 x6 x7 x8 x10 (vt_ab h)) := by
  unfold fn_X9_paintPlane_46 ab_X9_paintPlane_46
  obtain ⟨F, hF⟩ : ∃ F, sv_FP h = F := ⟨_, rfl⟩
  refine sm_gP w tx0 tk_1000 rfl (fun v1 tv1 => ?_)
  refine sm_gI w tv1 (by decide) (fun v2 => ?_)
  refine sm_gP w tx0 tk_1000 rfl (fun v3 tv3 => ?_)
  refine sm_gI w tv3 (by decide) (fun v4 => ?_)
  refine sm_cl w (sm_J9_floorDiv_f86c9 w.1) (fun r5 h2 e w2 => ?_)
  have hF2 : sv_FP h2 = F := by rw [ro_J9_floorDiv_f86c9 e]; exact hF
  clear e w hF
  have hF := hF2
  have w := w2
  clear hF2 w2
  refine sm_gP w tx0 tk_1000 rfl (fun v7 tv7 => ?_)
  refine sm_gI w tv7 (by decide) (fun v8 => ?_)
  refine sm_gP w tx0 tk_1000 rfl (fun v9 tv9 => ?_)
  refine sm_gI w tv9 (by decide) (fun v10 => ?_)
  refine sm_cl w (sm_J9_floorDiv_f86c9 w.1) (fun r11 h2 e w2 => ?_)
  have hF2 : sv_FP h2 = F := by rw [ro_J9_floorDiv_f86c9 e]; exact hF
  clear e w hF
  have hF := hF2
  have w := w2
  clear hF2 w2
  refine sm_cl w (sm_J9_floorDiv_f86c9 w.1) (fun r13 h2 e w2 => ?_)
  have hF2 : sv_FP h2 = F := by rw [ro_J9_floorDiv_f86c9 e]; exact hF
  clear e w hF
  have hF := hF2
  have w := w2
  clear hF2 w2
  refine sm_let (fun _ => ?_)
  refine sm_gA w hF tx0 tk_1002 (by decide) (fun v16 av16 => ?_)
  refine sm_cl w (sm_X2_texel w.1 (w.k tx1 (by decide))) (fun r17 h2 e w2 => ?_)
  have hF2 : sv_FP h2 = F := by rw [ro_X2_texel e]; exact hF
  clear e w hF
  have hF := hF2
  have w := w2
  clear hF2 w2
  refine sm_sI w hF tx0 av16 tk_1002 (fun h w hF => ?_)
  exact hk3 w tx0 tx1
theorem sm_X9_paintPlane_3b {h0 : sv_H} {k3 : Nat → Nat → Int32 → Int32 → Int32 → Int32 → Int32 → sv_H → Option (Unit × sv_H)} {j3 : Nat → Nat → Int32 → Int32 → Int32 → Int32 → Int32 → vt_S → Option (Unit × vt_S)} (hk3 : ∀ {x0 : Nat} {x1 : Nat} {x3 : Int32} {x4 : Int32} {x5 : Int32} {x6 : Int32} {x7 : Int32} {h : sv_H}, vt_W h0 h → sv_K h0 x0 = 10 → sv_K h0 x1 = 3 → vt_sm h0 (k3 x0 x1 x3 x4 x5 x6 x7 h) (j3 x0 x1 x3 x4 x5 x6 x7 (vt_ab h))) {x0 : Nat} {x1 : Nat} {x3 : Int32} {x4 : Int32} {x5 : Int32} {x6 : Int32} {x7 : Int32} {h : sv_H} (w : vt_W h0 h) (tx0 : sv_K h0 x0 = 10) (tx1 : sv_K h0 x1 = 3) : vt_sm h0 (fn_X9_paintPlane_3b k3 x0 x1 x3 x4 x5 x6 x7 h) (ab_X9_paintPlane_3b j3 x0 x1 x3 x4 x5 x6 x7 (vt_ab h)) := by
  unfold fn_X9_paintPlane_3b ab_X9_paintPlane_3b
  obtain ⟨F, hF⟩ : ∃ F, sv_FP h = F := ⟨_, rfl⟩
  refine sm_if (fun _ => ?_) (fun _ => ?_)
  · exact sm_rt w
  · refine sm_gI w tx0 (by decide) (fun v1 => ?_)
    refine sm_if (fun _ => ?_) (fun _ => ?_)
    · exact sm_X9_paintPlane_46 (k3 := k3) (j3 := j3) hk3 w tx0 tx1
    · exact sm_X9_paintPlane_46 (k3 := k3) (j3 := j3) hk3 w tx0 tx1
theorem sm_X9_paintPlane_3 {h0 : sv_H} : ∀ (n : Nat) {x0 : Nat} {x1 : Nat} {x3 : Int32} {x4 : Int32} {x5 : Int32} {x6 : Int32} {x7 : Int32} {h : sv_H}, vt_W h0 h → sv_K h0 x0 = 10 → sv_K h0 x1 = 3 → vt_sm h0 (fn_X9_paintPlane_3 n x0 x1 x3 x4 x5 x6 x7 h) (ab_X9_paintPlane_3 n x0 x1 x3 x4 x5 x6 x7 (vt_ab h)) := by
  intro n
  induction n with
  | zero => intro x0 x1 x3 x4 x5 x6 x7 h w tx0 tx1; exact sm_no
  | succ n ih => intro x0 x1 x3 x4 x5 x6 x7 h w tx0 tx1; exact sm_X9_paintPlane_3b (k3 := fn_X9_paintPlane_3 n) (j3 := ab_X9_paintPlane_3 n) (fun w tx0 tx1 => ih w tx0 tx1) w tx0 tx1
theorem sm_X9_paintPlane_0 {h0 : sv_H} {x0 : Nat} {x1 : Nat} {x2 : Int32} {x3 : Int32} {x4 : Int32} {x5 : Int32} {x6 : Int32} {h : sv_H} (w : vt_W h0 h) (tx0 : sv_K h0 x0 = 10) (tx1 : sv_K h0 x1 = 3) : vt_sm h0 (fn_X9_paintPlane x0 x1 x2 x3 x4 x5 x6 h) (ab_X9_paintPlane x0 x1 x2 x3 x4 x5 x6 (vt_ab h)) := by
  unfold fn_X9_paintPlane ab_X9_paintPlane
  obtain ⟨F, hF⟩ : ∃ F, sv_FP h = F := ⟨_, rfl⟩
  refine sm_kd w tx0 (by decide) ?_
  exact sm_X9_paintPlane_3 sv_fuel w tx0 tx1
theorem sm_X9_paintPlane {x0 : Nat} {x1 : Nat} {x2 : Int32} {x3 : Int32} {x4 : Int32} {x5 : Int32} {x6 : Int32} {h : sv_H} (g : vt_G h) (tx0 : sv_K h x0 = 10) (tx1 : sv_K h x1 = 3) : vt_sm h (fn_X9_paintPlane x0 x1 x2 x3 x4 x5 x6 h) (ab_X9_paintPlane x0 x1 x2 x3 x4 x5 x6 (vt_ab h)) := sm_X9_paintPlane_0 ⟨g, vt_ko.refl h⟩ tx0 tx1

theorem sm_X9_markRows_3b {h0 : sv_H} {k3 : Nat → Int32 → Int32 → Int32 → sv_H → Option (Unit × sv_H)} {j3 : Nat → Int32 → Int32 → Int32 → vt_S → Option (Unit × vt_S)} (hk3 : ∀ {x0 : Nat} {x2 : Int32} {x3 : Int32} {x4 : Int32} {h : sv_H}, vt_W h0 h → sv_K h0 x0 = 10 → vt_sm h0 (k3 x0 x2 x3 x4 h) (j3 x0 x2 x3 x4 (vt_ab h))) {x0 : Nat} {x2 : Int32} {x3 : Int32} {x4 : Int32} {h : sv_H} (w : vt_W h0 h) (tx0 : sv_K h0 x0 = 10) : vt_sm h0 (fn_X9_markRows_3b k3 x0 x2 x3 x4 h) (ab_X9_markRows_3b j3 x0 x2 x3 x4 (vt_ab h)) := by
  unfold fn_X9_markRows_3b ab_X9_markRows_3b
  obtain ⟨F, hF⟩ : ∃ F, sv_FP h = F := ⟨_, rfl⟩
  refine sm_if (fun _ => ?_) (fun _ => ?_)
  · exact sm_rt w
  · refine sm_gA w hF tx0 tk_1001 (by decide) (fun v1 av1 => ?_)
    refine sm_sI w hF tx0 av1 tk_1001 (fun h w hF => ?_)
    exact hk3 w tx0
theorem sm_X9_markRows_3 {h0 : sv_H} : ∀ (n : Nat) {x0 : Nat} {x2 : Int32} {x3 : Int32} {x4 : Int32} {h : sv_H}, vt_W h0 h → sv_K h0 x0 = 10 → vt_sm h0 (fn_X9_markRows_3 n x0 x2 x3 x4 h) (ab_X9_markRows_3 n x0 x2 x3 x4 (vt_ab h)) := by
  intro n
  induction n with
  | zero => intro x0 x2 x3 x4 h w tx0; exact sm_no
  | succ n ih => intro x0 x2 x3 x4 h w tx0; exact sm_X9_markRows_3b (k3 := fn_X9_markRows_3 n) (j3 := ab_X9_markRows_3 n) (fun w tx0 => ih w tx0) w tx0
theorem sm_X9_markRows_0 {h0 : sv_H} {x0 : Nat} {x1 : Int32} {x2 : Int32} {x3 : Int32} {h : sv_H} (w : vt_W h0 h) (tx0 : sv_K h0 x0 = 10) : vt_sm h0 (fn_X9_markRows x0 x1 x2 x3 h) (ab_X9_markRows x0 x1 x2 x3 (vt_ab h)) := by
  unfold fn_X9_markRows ab_X9_markRows
  obtain ⟨F, hF⟩ : ∃ F, sv_FP h = F := ⟨_, rfl⟩
  refine sm_kd w tx0 (by decide) ?_
  exact sm_X9_markRows_3 sv_fuel w tx0
theorem sm_X9_markRows {x0 : Nat} {x1 : Int32} {x2 : Int32} {x3 : Int32} {h : sv_H} (g : vt_G h) (tx0 : sv_K h x0 = 10) : vt_sm h (fn_X9_markRows x0 x1 x2 x3 h) (ab_X9_markRows x0 x1 x2 x3 (vt_ab h)) := sm_X9_markRows_0 ⟨g, vt_ko.refl h⟩ tx0

theorem sm_X9_paintCeiling_60b {h0 : sv_H} {k60 : Nat → Int32 → Int32 → Int32 → sv_H → Option (Unit × sv_H)} {j60 : Nat → Int32 → Int32 → Int32 → vt_S → Option (Unit × vt_S)} (hk60 : ∀ {x0 : Nat} {x2 : Int32} {x3 : Int32} {x6 : Int32} {h : sv_H}, vt_W h0 h → sv_K h0 x0 = 10 → vt_sm h0 (k60 x0 x2 x3 x6 h) (j60 x0 x2 x3 x6 (vt_ab h))) {x0 : Nat} {x2 : Int32} {x3 : Int32} {x6 : Int32} {h : sv_H} (w : vt_W h0 h) (tx0 : sv_K h0 x0 = 10) : vt_sm h0 (fn_X9_paintCeiling_60b k60 x0 x2 x3 x6 h) (ab_X9_paintCeiling_60b j60 x0 x2 x3 x6 (vt_ab h)) := by
  unfold fn_X9_paintCeiling_60b ab_X9_paintCeiling_60b
  obtain ⟨F, hF⟩ : ∃ F, sv_FP h = F := ⟨_, rfl⟩
  refine sm_if (fun _ => ?_) (fun _ => ?_)
  · refine sm_gI w tx0 (by decide) (fun v1 => ?_)
    refine sm_cl w (sm_X9_markRows w.1 (w.k tx0 (by decide))) (fun _ h2 e w2 => ?_)
    have hF2 : sv_FP h2 = F := (ow_X9_markRows sv_clT trivial e).2.1.1.trans hF
    clear e w hF
    have hF := hF2
    have w := w2
    clear hF2 w2
    exact sm_rt w
  · refine sm_gA w hF tx0 tk_1002 (by decide) (fun v3 av3 => ?_)
    refine sm_sI w hF tx0 av3 tk_1002 (fun h w hF => ?_)
    exact hk60 w tx0
theorem sm_X9_paintCeiling_60 {h0 : sv_H} : ∀ (n : Nat) {x0 : Nat} {x2 : Int32} {x3 : Int32} {x6 : Int32} {h : sv_H}, vt_W h0 h → sv_K h0 x0 = 10 → vt_sm h0 (fn_X9_paintCeiling_60 n x0 x2 x3 x6 h) (ab_X9_paintCeiling_60 n x0 x2 x3 x6 (vt_ab h)) := by
  intro n
  induction n with
  | zero => intro x0 x2 x3 x6 h w tx0; exact sm_no
  | succ n ih => intro x0 x2 x3 x6 h w tx0; exact sm_X9_paintCeiling_60b (k60 := fn_X9_paintCeiling_60 n) (j60 := ab_X9_paintCeiling_60 n) (fun w tx0 => ih w tx0) w tx0
theorem sm_X9_paintCeiling_0 {h0 : sv_H} {x0 : Nat} {x1 : Nat} {x2 : Int32} {x3 : Int32} {x4 : Int32} {h : sv_H} (w : vt_W h0 h) (tx0 : sv_K h0 x0 = 10) (tx1 : sv_K h0 x1 = 3) : vt_sm h0 (fn_X9_paintCeiling x0 x1 x2 x3 x4 h) (ab_X9_paintCeiling x0 x1 x2 x3 x4 (vt_ab h)) := by
  unfold fn_X9_paintCeiling ab_X9_paintCeiling
  obtain ⟨F, hF⟩ : ∃ F, sv_FP h = F := ⟨_, rfl⟩
  refine sm_kd w tx0 (by decide) ?_
  refine sm_gA w hF tx1 tk_307 (by decide) (fun v1 av1 => ?_)
  refine sm_lP (c := 7) w hF tx1 av1 tk_307 (by decide) (fun v2 tv2 => ?_)
  refine sm_gI w tv2 (by decide) (fun v3 => ?_)
  refine sm_if (fun _ => ?_) (fun _ => ?_)
  · refine sm_gI w tx0 (by decide) (fun v4 => ?_)
    exact sm_X9_paintCeiling_60 sv_fuel w tx0
  · refine sm_gI w tx0 (by decide) (fun v5 => ?_)
    refine sm_gI w tv2 (by decide) (fun v6 => ?_)
    refine sm_gI w tv2 (by decide) (fun v7 => ?_)
    refine sm_cl w (sm_X9_paintPlane w.1 (w.k tx0 (by decide)) (w.k tx1 (by decide))) (fun _ h2 e w2 => ?_)
    have hF2 : sv_FP h2 = F := (ow_X9_paintPlane sv_clT trivial trivial e).2.1.1.trans hF
    clear e w hF
    have hF := hF2
    have w := w2
    clear hF2 w2
    refine sm_gI w tx0 (by decide) (fun v9 => ?_)
    refine sm_cl w (sm_X9_markRows w.1 (w.k tx0 (by decide))) (fun _ h2 e w2 => ?_)
    have hF2 : sv_FP h2 = F := (ow_X9_markRows sv_clT trivial e).2.1.1.trans hF
    clear e w hF
    have hF := hF2
    have w := w2
    clear hF2 w2
    exact sm_rt w
theorem sm_X9_paintCeiling {x0 : Nat} {x1 : Nat} {x2 : Int32} {x3 : Int32} {x4 : Int32} {h : sv_H} (g : vt_G h) (tx0 : sv_K h x0 = 10) (tx1 : sv_K h x1 = 3) : vt_sm h (fn_X9_paintCeiling x0 x1 x2 x3 x4 h) (ab_X9_paintCeiling x0 x1 x2 x3 x4 (vt_ab h)) := sm_X9_paintCeiling_0 ⟨g, vt_ko.refl h⟩ tx0 tx1

theorem sm_X11_length_0 {h0 : sv_H} {x0 : Nat} {h : sv_H} (w : vt_W h0 h) (tx0 : sv_K h0 x0 = 12) : vt_sm h0 (fn_X11_length x0 h) (ab_X11_length x0 (vt_ab h)) := by
  unfold fn_X11_length ab_X11_length
  obtain ⟨F, hF⟩ : ∃ F, sv_FP h = F := ⟨_, rfl⟩
  refine sm_kd w tx0 (by decide) ?_
  refine sm_gI w tx0 (by decide) (fun v1 => ?_)
  refine sm_gI w tx0 (by decide) (fun v2 => ?_)
  refine sm_let (fun _ => ?_)
  refine sm_gI w tx0 (by decide) (fun v4 => ?_)
  refine sm_gI w tx0 (by decide) (fun v5 => ?_)
  refine sm_let (fun _ => ?_)
  refine sm_let (fun _ => ?_)
  exact sm_rt w
theorem sm_X11_length {x0 : Nat} {h : sv_H} (g : vt_G h) (tx0 : sv_K h x0 = 12) : vt_sm h (fn_X11_length x0 h) (ab_X11_length x0 (vt_ab h)) := sm_X11_length_0 ⟨g, vt_ko.refl h⟩ tx0

theorem sm_X9_acrossAt_33 {h0 : sv_H} {x0 : Nat} {x1 : Nat} {x2 : Int32} {s0 : Int64} {h : sv_H} (w : vt_W h0 h) (tx0 : sv_K h0 x0 = 10) (tx1 : sv_K h0 x1 = 12) : vt_sm h0 (fn_X9_acrossAt_33 x0 x1 x2 s0 h) (ab_X9_acrossAt_33 x0 x1 x2 s0 (vt_ab h)) := by
  unfold fn_X9_acrossAt_33 ab_X9_acrossAt_33
  obtain ⟨F, hF⟩ : ∃ F, sv_FP h = F := ⟨_, rfl⟩
  refine sm_cl w (sm_X11_length w.1 (w.k tx1 (by decide))) (fun r1 h2 e w2 => ?_)
  have hF2 : sv_FP h2 = F := by rw [ro_X11_length e]; exact hF
  clear e w hF
  have hF := hF2
  have w := w2
  clear hF2 w2
  refine sm_let (fun _ => ?_)
  refine sm_gP w tx0 tk_1000 rfl (fun v4 tv4 => ?_)
  refine sm_gA w hF tv4 tk_403 (by decide) (fun v5 av5 => ?_)
  refine sm_lJ w hF tv4 av5 tk_403 (fun _ => ?_)
  refine sm_if (fun _ => sm_no) (fun _ => ?_)
  exact sm_rt w
theorem sm_X9_acrossAt_0 {h0 : sv_H} {x0 : Nat} {x1 : Nat} {x2 : Int32} {h : sv_H} (w : vt_W h0 h) (tx0 : sv_K h0 x0 = 10) (tx1 : sv_K h0 x1 = 12) : vt_sm h0 (fn_X9_acrossAt x0 x1 x2 h) (ab_X9_acrossAt x0 x1 x2 (vt_ab h)) := by
  unfold fn_X9_acrossAt ab_X9_acrossAt
  obtain ⟨F, hF⟩ : ∃ F, sv_FP h = F := ⟨_, rfl⟩
  refine sm_kd w tx0 (by decide) ?_
  refine sm_gP w tx0 tk_1000 rfl (fun v1 tv1 => ?_)
  refine sm_gA w hF tv1 tk_401 (by decide) (fun v2 av2 => ?_)
  refine sm_lZ w hF tv1 av2 tk_401 (fun _ => ?_)
  refine sm_if (fun _ => ?_) (fun _ => ?_)
  · refine sm_gP w tx0 tk_1000 rfl (fun v4 tv4 => ?_)
    refine sm_gA w hF tv4 tk_405 (by decide) (fun v5 av5 => ?_)
    refine sm_lJ w hF tv4 av5 tk_405 (fun _ => ?_)
    exact sm_X9_acrossAt_33 w tx0 tx1
  · refine sm_gP w tx0 tk_1000 rfl (fun v7 tv7 => ?_)
    refine sm_gA w hF tv7 tk_404 (by decide) (fun v8 av8 => ?_)
    refine sm_lJ w hF tv7 av8 tk_404 (fun _ => ?_)
    exact sm_X9_acrossAt_33 w tx0 tx1
theorem sm_X9_acrossAt {x0 : Nat} {x1 : Nat} {x2 : Int32} {h : sv_H} (g : vt_G h) (tx0 : sv_K h x0 = 10) (tx1 : sv_K h x1 = 12) : vt_sm h (fn_X9_acrossAt x0 x1 x2 h) (ab_X9_acrossAt x0 x1 x2 (vt_ab h)) := sm_X9_acrossAt_0 ⟨g, vt_ko.refl h⟩ tx0 tx1

theorem sm_X2_heightOf_15 {h0 : sv_H} {s0 : Int32} {h : sv_H} (w : vt_W h0 h) : vt_sm h0 (fn_X2_heightOf_15 s0 h) (ab_X2_heightOf_15 s0 (vt_ab h)) := by
  unfold fn_X2_heightOf_15 ab_X2_heightOf_15
  obtain ⟨F, hF⟩ : ∃ F, sv_FP h = F := ⟨_, rfl⟩
  exact sm_rt w
theorem sm_X2_heightOf_0 {h0 : sv_H} {x0 : Nat} {x1 : Int32} {h : sv_H} (w : vt_W h0 h) (tx0 : sv_K h0 x0 = 3) : vt_sm h0 (fn_X2_heightOf x0 x1 h) (ab_X2_heightOf x0 x1 (vt_ab h)) := by
  unfold fn_X2_heightOf ab_X2_heightOf
  obtain ⟨F, hF⟩ : ∃ F, sv_FP h = F := ⟨_, rfl⟩
  refine sm_kd w tx0 (by decide) ?_
  refine sm_if (fun _ => ?_) (fun _ => ?_)
  · exact sm_X2_heightOf_15 w
  · refine sm_gA w hF tx0 tk_305 (by decide) (fun v1 av1 => ?_)
    refine sm_lI w hF tx0 av1 tk_305 (fun _ => ?_)
    exact sm_X2_heightOf_15 w
theorem sm_X2_heightOf {x0 : Nat} {x1 : Int32} {h : sv_H} (g : vt_G h) (tx0 : sv_K h x0 = 3) : vt_sm h (fn_X2_heightOf x0 x1 h) (ab_X2_heightOf x0 x1 (vt_ab h)) := sm_X2_heightOf_0 ⟨g, vt_ko.refl h⟩ tx0

theorem sm_X9_anchorOf_142 {h0 : sv_H} {s0 : Int32} {h : sv_H} (w : vt_W h0 h) : vt_sm h0 (fn_X9_anchorOf_142 s0 h) (ab_X9_anchorOf_142 s0 (vt_ab h)) := by
  unfold fn_X9_anchorOf_142 ab_X9_anchorOf_142
  obtain ⟨F, hF⟩ : ∃ F, sv_FP h = F := ⟨_, rfl⟩
  exact sm_rt w
theorem sm_X9_anchorOf_123 {h0 : sv_H} {s0 : Int32} {h : sv_H} (w : vt_W h0 h) : vt_sm h0 (fn_X9_anchorOf_123 s0 h) (ab_X9_anchorOf_123 s0 (vt_ab h)) := by
  unfold fn_X9_anchorOf_123 ab_X9_anchorOf_123
  obtain ⟨F, hF⟩ : ∃ F, sv_FP h = F := ⟨_, rfl⟩
  exact sm_rt w
theorem sm_X9_anchorOf_87 {h0 : sv_H} {x2 : Nat} {x3 : Int32} {x5 : Int32} {x6 : Nat} {x7 : Int32} {s0 : Nat} {s0o : Nat} {s1 : Nat} {s2 : Int32} {h : sv_H} (w : vt_W h0 h) (tx2 : sv_K h0 x2 = 12) (tx6 : sv_K h0 x6 = 7) (ts0 : sv_K h0 s0o = 3) (as0 : sv_FP h 307 s0o = s0) (ts1 : sv_K h0 s1 = 12) : vt_sm h0 (fn_X9_anchorOf_87 x2 x3 x5 x6 x7 s0 s1 s2 h) (ab_X9_anchorOf_87 x2 x3 x5 x6 x7 s0o s1 s2 (vt_ab h)) := by
  unfold fn_X9_anchorOf_87 ab_X9_anchorOf_87
  obtain ⟨F, hF⟩ : ∃ F, sv_FP h = F := ⟨_, rfl⟩
  rw [hF] at as0
  refine sm_cl w (sm_X11_sectorOn w.1 (w.k ts1 (by decide))) (fun r1 h2 e w2 => ?_)
  have hF2 : sv_FP h2 = F := by rw [ro_X11_sectorOn e]; exact hF
  clear e w hF
  have hF := hF2
  have w := w2
  clear hF2 w2
  refine sm_lP (c := 7) w hF ts0 as0 tk_307 (by decide) (fun v3 tv3 => ?_)
  refine sm_if (fun _ => ?_) (fun _ => ?_)
  · refine sm_gI w tx2 (by decide) (fun v6 => ?_)
    refine sm_if (fun _ => ?_) (fun _ => ?_)
    · refine sm_gI w tv3 (by decide) (fun v7 => ?_)
      exact sm_X9_anchorOf_123 w
    · refine sm_gI w tx6 (by decide) (fun v8 => ?_)
      exact sm_X9_anchorOf_123 w
  · refine sm_if (fun _ => ?_) (fun _ => ?_)
    · refine sm_gI w tv3 (by decide) (fun v4 => ?_)
      exact sm_X9_anchorOf_142 w
    · refine sm_gI w tx6 (by decide) (fun v5 => ?_)
      exact sm_X9_anchorOf_142 w
theorem sm_X9_anchorOf_63 {h0 : sv_H} {s0 : Int32} {h : sv_H} (w : vt_W h0 h) : vt_sm h0 (fn_X9_anchorOf_63 s0 h) (ab_X9_anchorOf_63 s0 (vt_ab h)) := by
  unfold fn_X9_anchorOf_63 ab_X9_anchorOf_63
  obtain ⟨F, hF⟩ : ∃ F, sv_FP h = F := ⟨_, rfl⟩
  exact sm_rt w
theorem sm_X9_anchorOf_35 {h0 : sv_H} {x0 : Nat} {x1 : Nat} {x2 : Nat} {x3 : Int32} {x4 : Int32} {x5 : Int32} {x6 : Nat} {s0 : Int32} {h : sv_H} (w : vt_W h0 h) (tx0 : sv_K h0 x0 = 10) (tx1 : sv_K h0 x1 = 3) (tx2 : sv_K h0 x2 = 12) (tx6 : sv_K h0 x6 = 7) : vt_sm h0 (fn_X9_anchorOf_35 x0 x1 x2 x3 x4 x5 x6 s0 h) (ab_X9_anchorOf_35 x0 x1 x2 x3 x4 x5 x6 s0 (vt_ab h)) := by
  unfold fn_X9_anchorOf_35 ab_X9_anchorOf_35
  obtain ⟨F, hF⟩ : ∃ F, sv_FP h = F := ⟨_, rfl⟩
  refine sm_if (fun _ => ?_) (fun _ => ?_)
  · refine sm_if (fun _ => ?_) (fun _ => ?_)
    · refine sm_gI w tx6 (by decide) (fun v5 => ?_)
      exact sm_X9_anchorOf_63 w
    · refine sm_gI w tx6 (by decide) (fun v6 => ?_)
      exact sm_X9_anchorOf_63 w
  · refine sm_gA w hF tx1 tk_307 (by decide) (fun v1 av1 => ?_)
    refine sm_gP w tx0 tk_1000 rfl (fun v2 tv2 => ?_)
    refine sm_gA w hF tv2 tk_401 (by decide) (fun v3 av3 => ?_)
    refine sm_lZ w hF tv2 av3 tk_401 (fun _ => ?_)
    refine sm_if (fun _ => ?_) (fun _ => ?_)
    · exact sm_X9_anchorOf_87 w tx2 tx6 tx1 (by rw [hF]; exact av1) tx2
    · exact sm_X9_anchorOf_87 w tx2 tx6 tx1 (by rw [hF]; exact av1) tx2
theorem sm_X9_anchorOf_0 {h0 : sv_H} {x0 : Nat} {x1 : Nat} {x2 : Nat} {x3 : Int32} {x4 : Int32} {x5 : Int32} {h : sv_H} (w : vt_W h0 h) (tx0 : sv_K h0 x0 = 10) (tx1 : sv_K h0 x1 = 3) (tx2 : sv_K h0 x2 = 12) : vt_sm h0 (fn_X9_anchorOf x0 x1 x2 x3 x4 x5 h) (ab_X9_anchorOf x0 x1 x2 x3 x4 x5 (vt_ab h)) := by
  unfold fn_X9_anchorOf ab_X9_anchorOf
  obtain ⟨F, hF⟩ : ∃ F, sv_FP h = F := ⟨_, rfl⟩
  refine sm_kd w tx0 (by decide) ?_
  refine sm_gA w hF tx1 tk_307 (by decide) (fun v1 av1 => ?_)
  refine sm_gP w tx0 tk_1000 rfl (fun v2 tv2 => ?_)
  refine sm_gA w hF tv2 tk_401 (by decide) (fun v3 av3 => ?_)
  refine sm_lZ w hF tv2 av3 tk_401 (fun _ => ?_)
  refine sm_cl w (sm_X11_sectorOn w.1 (w.k tx2 (by decide))) (fun r5 h2 e w2 => ?_)
  have hF2 : sv_FP h2 = F := by rw [ro_X11_sectorOn e]; exact hF
  clear e w hF
  have hF := hF2
  have w := w2
  clear hF2 w2
  refine sm_lP (c := 7) w hF tx1 av1 tk_307 (by decide) (fun v7 tv7 => ?_)
  refine sm_gI w tx2 (by decide) (fun v8 => ?_)
  refine sm_if (fun _ => ?_) (fun _ => ?_)
  · exact sm_X9_anchorOf_35 w tx0 tx1 tx2 tv7
  · exact sm_X9_anchorOf_35 w tx0 tx1 tx2 tv7
theorem sm_X9_anchorOf {x0 : Nat} {x1 : Nat} {x2 : Nat} {x3 : Int32} {x4 : Int32} {x5 : Int32} {h : sv_H} (g : vt_G h) (tx0 : sv_K h x0 = 10) (tx1 : sv_K h x1 = 3) (tx2 : sv_K h x2 = 12) : vt_sm h (fn_X9_anchorOf x0 x1 x2 x3 x4 x5 h) (ab_X9_anchorOf x0 x1 x2 x3 x4 x5 (vt_ab h)) := sm_X9_anchorOf_0 ⟨g, vt_ko.refl h⟩ tx0 tx1 tx2

theorem sm_X9_paintWall_159b {h0 : sv_H} {k159 : Nat → Nat → Int32 → Int32 → Int32 → Int32 → Int32 → Int64 → Int64 → Int64 → Int32 → sv_H → Option (Unit × sv_H)} {j159 : Nat → Nat → Int32 → Int32 → Int32 → Int32 → Int32 → Int64 → Int64 → Int64 → Int32 → vt_S → Option (Unit × vt_S)} (hk159 : ∀ {x0 : Nat} {x1 : Nat} {x2 : Int32} {x3 : Int32} {x4 : Int32} {x5 : Int32} {x9 : Int32} {x10 : Int64} {x12 : Int64} {x14 : Int64} {x16 : Int32} {h : sv_H}, vt_W h0 h → sv_K h0 x0 = 10 → sv_K h0 x1 = 3 → vt_sm h0 (k159 x0 x1 x2 x3 x4 x5 x9 x10 x12 x14 x16 h) (j159 x0 x1 x2 x3 x4 x5 x9 x10 x12 x14 x16 (vt_ab h))) {x0 : Nat} {x1 : Nat} {x2 : Int32} {x3 : Int32} {x4 : Int32} {x5 : Int32} {x9 : Int32} {x10 : Int64} {x12 : Int64} {x14 : Int64} {x16 : Int32} {h : sv_H} (w : vt_W h0 h) (tx0 : sv_K h0 x0 = 10) (tx1 : sv_K h0 x1 = 3) : vt_sm h0 (fn_X9_paintWall_159b k159 x0 x1 x2 x3 x4 x5 x9 x10 x12 x14 x16 h) (ab_X9_paintWall_159b j159 x0 x1 x2 x3 x4 x5 x9 x10 x12 x14 x16 (vt_ab h)) := by
  unfold fn_X9_paintWall_159b ab_X9_paintWall_159b
  obtain ⟨F, hF⟩ : ∃ F, sv_FP h = F := ⟨_, rfl⟩
  refine sm_if (fun _ => ?_) (fun _ => ?_)
  · refine sm_gP w tx0 tk_1000 rfl (fun v1 tv1 => ?_)
    refine sm_gA w hF tv1 tk_400 (by decide) (fun v2 av2 => ?_)
    refine sm_lI w hF tv1 av2 tk_400 (fun _ => ?_)
    refine sm_cl w (sm_X9_markRows w.1 (w.k tx0 (by decide))) (fun _ h2 e w2 => ?_)
    have hF2 : sv_FP h2 = F := (ow_X9_markRows sv_clT trivial e).2.1.1.trans hF
    clear e w hF
    have hF := hF2
    have w := w2
    clear hF2 w2
    exact sm_rt w
  · refine sm_gI w tx0 (by decide) (fun v5 => ?_)
    refine sm_gP w tx0 tk_1000 rfl (fun v6 tv6 => ?_)
    refine sm_gA w hF tv6 tk_402 (by decide) (fun v7 av7 => ?_)
    refine sm_lJ w hF tv6 av7 tk_402 (fun _ => ?_)
    refine sm_gP w tx0 tk_1000 rfl (fun v9 tv9 => ?_)
    refine sm_gA w hF tv9 tk_403 (by decide) (fun v10 av10 => ?_)
    refine sm_lJ w hF tv9 av10 tk_403 (fun _ => ?_)
    refine sm_cl w (sm_J9_floorDiv_f86c9 w.1) (fun r12 h2 e w2 => ?_)
    have hF2 : sv_FP h2 = F := by rw [ro_J9_floorDiv_f86c9 e]; exact hF
    clear e w hF
    have hF := hF2
    have w := w2
    clear hF2 w2
    refine sm_gA w hF tx0 tk_1002 (by decide) (fun v14 av14 => ?_)
    refine sm_cl w (sm_X2_texel w.1 (w.k tx1 (by decide))) (fun r15 h2 e w2 => ?_)
    have hF2 : sv_FP h2 = F := by rw [ro_X2_texel e]; exact hF
    clear e w hF
    have hF := hF2
    have w := w2
    clear hF2 w2
    refine sm_sI w hF tx0 av14 tk_1002 (fun h w hF => ?_)
    exact hk159 w tx0 tx1
theorem sm_X9_paintWall_159 {h0 : sv_H} : ∀ (n : Nat) {x0 : Nat} {x1 : Nat} {x2 : Int32} {x3 : Int32} {x4 : Int32} {x5 : Int32} {x9 : Int32} {x10 : Int64} {x12 : Int64} {x14 : Int64} {x16 : Int32} {h : sv_H}, vt_W h0 h → sv_K h0 x0 = 10 → sv_K h0 x1 = 3 → vt_sm h0 (fn_X9_paintWall_159 n x0 x1 x2 x3 x4 x5 x9 x10 x12 x14 x16 h) (ab_X9_paintWall_159 n x0 x1 x2 x3 x4 x5 x9 x10 x12 x14 x16 (vt_ab h)) := by
  intro n
  induction n with
  | zero => intro x0 x1 x2 x3 x4 x5 x9 x10 x12 x14 x16 h w tx0 tx1; exact sm_no
  | succ n ih => intro x0 x1 x2 x3 x4 x5 x9 x10 x12 x14 x16 h w tx0 tx1; exact sm_X9_paintWall_159b (k159 := fn_X9_paintWall_159 n) (j159 := ab_X9_paintWall_159 n) (fun w tx0 tx1 => ih w tx0 tx1) w tx0 tx1
theorem sm_X9_paintWall_73 {h0 : sv_H} {x0 : Nat} {x1 : Nat} {x2 : Int32} {x3 : Int32} {x4 : Int32} {x5 : Int32} {x6 : Int32} {x7 : Nat} {s0 : Nat} {s0o : Nat} {s1 : Int32} {h : sv_H} (w : vt_W h0 h) (tx0 : sv_K h0 x0 = 10) (tx1 : sv_K h0 x1 = 3) (tx7 : sv_K h0 x7 = 12) (ts0 : sv_K h0 s0o = 12) (as0 : sv_FP h 1211 s0o = s0) : vt_sm h0 (fn_X9_paintWall_73 x0 x1 x2 x3 x4 x5 x6 x7 s0 s1 h) (ab_X9_paintWall_73 x0 x1 x2 x3 x4 x5 x6 x7 s0o s1 (vt_ab h)) := by
  unfold fn_X9_paintWall_73 ab_X9_paintWall_73
  obtain ⟨F, hF⟩ : ∃ F, sv_FP h = F := ⟨_, rfl⟩
  rw [hF] at as0
  refine sm_lI w hF ts0 as0 tk_1211 (fun _ => ?_)
  refine sm_cl w (sm_X9_acrossAt w.1 (w.k tx0 (by decide)) (w.k tx7 (by decide))) (fun r2 h2 e w2 => ?_)
  have hF2 : sv_FP h2 = F := by rw [ro_X9_acrossAt e]; exact hF
  clear e w hF
  have hF := hF2
  have w := w2
  clear hF2 w2
  refine sm_gI w tx7 (by decide) (fun v4 => ?_)
  refine sm_cl w (sm_X2_heightOf w.1 (w.k tx1 (by decide))) (fun r5 h2 e w2 => ?_)
  have hF2 : sv_FP h2 = F := by rw [ro_X2_heightOf e]; exact hF
  clear e w hF
  have hF := hF2
  have w := w2
  clear hF2 w2
  refine sm_cl w (sm_X9_anchorOf w.1 (w.k tx0 (by decide)) (w.k tx1 (by decide)) (w.k tx7 (by decide))) (fun r7 h2 e w2 => ?_)
  have hF2 : sv_FP h2 = F := by rw [ro_X9_anchorOf e]; exact hF
  clear e w hF
  have hF := hF2
  have w := w2
  clear hF2 w2
  refine sm_gI w tx7 (by decide) (fun v9 => ?_)
  refine sm_gP w tx0 tk_1000 rfl (fun v10 tv10 => ?_)
  refine sm_gA w hF tv10 tk_402 (by decide) (fun v11 av11 => ?_)
  refine sm_lJ w hF tv10 av11 tk_402 (fun _ => ?_)
  refine sm_gP w tx0 tk_1000 rfl (fun v13 tv13 => ?_)
  refine sm_gA w hF tv13 tk_403 (by decide) (fun v14 av14 => ?_)
  refine sm_lJ w hF tv13 av14 tk_403 (fun _ => ?_)
  refine sm_if (fun _ => sm_no) (fun _ => ?_)
  refine sm_let (fun _ => ?_)
  exact sm_X9_paintWall_159 sv_fuel w tx0 tx1
theorem sm_X9_paintWall_44 {h0 : sv_H} {x0 : Nat} {x1 : Nat} {x2 : Int32} {x3 : Int32} {x4 : Int32} {x5 : Int32} {x6 : Int32} {x7 : Nat} {s0 : Int32} {h : sv_H} (w : vt_W h0 h) (tx0 : sv_K h0 x0 = 10) (tx1 : sv_K h0 x1 = 3) (tx7 : sv_K h0 x7 = 12) : vt_sm h0 (fn_X9_paintWall_44 x0 x1 x2 x3 x4 x5 x6 x7 s0 h) (ab_X9_paintWall_44 x0 x1 x2 x3 x4 x5 x6 x7 s0 (vt_ab h)) := by
  unfold fn_X9_paintWall_44 ab_X9_paintWall_44
  obtain ⟨F, hF⟩ : ∃ F, sv_FP h = F := ⟨_, rfl⟩
  refine sm_gA w hF tx7 tk_1211 (by decide) (fun v1 av1 => ?_)
  refine sm_gP w tx0 tk_1000 rfl (fun v2 tv2 => ?_)
  refine sm_gA w hF tv2 tk_401 (by decide) (fun v3 av3 => ?_)
  refine sm_lZ w hF tv2 av3 tk_401 (fun _ => ?_)
  refine sm_if (fun _ => ?_) (fun _ => ?_)
  · exact sm_X9_paintWall_73 w tx0 tx1 tx7 tx7 (by rw [hF]; exact av1)
  · exact sm_X9_paintWall_73 w tx0 tx1 tx7 tx7 (by rw [hF]; exact av1)
theorem sm_X9_paintWall_0 {h0 : sv_H} {x0 : Nat} {x1 : Nat} {x2 : Int32} {x3 : Int32} {x4 : Int32} {x5 : Int32} {x6 : Int32} {h : sv_H} (w : vt_W h0 h) (tx0 : sv_K h0 x0 = 10) (tx1 : sv_K h0 x1 = 3) : vt_sm h0 (fn_X9_paintWall x0 x1 x2 x3 x4 x5 x6 h) (ab_X9_paintWall x0 x1 x2 x3 x4 x5 x6 (vt_ab h)) := by
  unfold fn_X9_paintWall ab_X9_paintWall
  obtain ⟨F, hF⟩ : ∃ F, sv_FP h = F := ⟨_, rfl⟩
  refine sm_kd w tx0 (by decide) ?_
  refine sm_if (fun _ => ?_) (fun _ => ?_)
  · refine sm_gA w hF tx1 tk_308 (by decide) (fun v1 av1 => ?_)
    refine sm_gP w tx0 tk_1000 rfl (fun v2 tv2 => ?_)
    refine sm_gA w hF tv2 tk_400 (by decide) (fun v3 av3 => ?_)
    refine sm_lI w hF tv2 av3 tk_400 (fun _ => ?_)
    refine sm_lP (c := 12) w hF tx1 av1 tk_308 (by decide) (fun v5 tv5 => ?_)
    refine sm_if (fun _ => ?_) (fun _ => ?_)
    · exact sm_X9_paintWall_44 w tx0 tx1 tv5
    · refine sm_if (fun _ => ?_) (fun _ => ?_)
      · exact sm_X9_paintWall_44 w tx0 tx1 tv5
      · exact sm_X9_paintWall_44 w tx0 tx1 tv5
  · exact sm_rt w
theorem sm_X9_paintWall {x0 : Nat} {x1 : Nat} {x2 : Int32} {x3 : Int32} {x4 : Int32} {x5 : Int32} {x6 : Int32} {h : sv_H} (g : vt_G h) (tx0 : sv_K h x0 = 10) (tx1 : sv_K h x1 = 3) : vt_sm h (fn_X9_paintWall x0 x1 x2 x3 x4 x5 x6 h) (ab_X9_paintWall x0 x1 x2 x3 x4 x5 x6 (vt_ab h)) := sm_X9_paintWall_0 ⟨g, vt_ko.refl h⟩ tx0 tx1

theorem sm_X9_paintUpTo_258 {h0 : sv_H} {x0 : Nat} {x1 : Nat} {x2 : Int32} {x4 : Int32} {x7 : Int32} {x10 : Int32} {s0 : Int32} {h : sv_H} (w : vt_W h0 h) (tx0 : sv_K h0 x0 = 10) (tx1 : sv_K h0 x1 = 3) : vt_sm h0 (fn_X9_paintUpTo_258 x0 x1 x2 x4 x7 x10 s0 h) (ab_X9_paintUpTo_258 x0 x1 x2 x4 x7 x10 s0 (vt_ab h)) := by
  unfold fn_X9_paintUpTo_258 ab_X9_paintUpTo_258
  obtain ⟨F, hF⟩ : ∃ F, sv_FP h = F := ⟨_, rfl⟩
  refine sm_cl w (sm_X9_paintWall w.1 (w.k tx0 (by decide)) (w.k tx1 (by decide))) (fun _ h2 e w2 => ?_)
  have hF2 : sv_FP h2 = F := (ow_X9_paintWall sv_clT trivial trivial e).2.1.1.trans hF
  clear e w hF
  have hF := hF2
  have w := w2
  clear hF2 w2
  refine sm_pI w hF tx0 (by decide) (fun h w hF => ?_)
  refine sm_pI w hF tx0 (by decide) (fun h w hF => ?_)
  exact sm_rt w
theorem sm_X9_paintUpTo_208 {h0 : sv_H} {x0 : Nat} {x1 : Nat} {x2 : Int32} {x4 : Int32} {x5 : Nat} {x6 : Int32} {x7 : Int32} {x9 : Nat} {s0 : Int32} {h : sv_H} (w : vt_W h0 h) (tx0 : sv_K h0 x0 = 10) (tx1 : sv_K h0 x1 = 3) (tx5 : sv_K h0 x5 = 7) (tx9 : sv_K h0 x9 = 7) : vt_sm h0 (fn_X9_paintUpTo_208 x0 x1 x2 x4 x5 x6 x7 x9 s0 h) (ab_X9_paintUpTo_208 x0 x1 x2 x4 x5 x6 x7 x9 s0 (vt_ab h)) := by
  unfold fn_X9_paintUpTo_208 ab_X9_paintUpTo_208
  obtain ⟨F, hF⟩ : ∃ F, sv_FP h = F := ⟨_, rfl⟩
  refine sm_cl w (sm_X9_paintWall w.1 (w.k tx0 (by decide)) (w.k tx1 (by decide))) (fun _ h2 e w2 => ?_)
  have hF2 : sv_FP h2 = F := (ow_X9_paintWall sv_clT trivial trivial e).2.1.1.trans hF
  clear e w hF
  have hF := hF2
  have w := w2
  clear hF2 w2
  refine sm_gI w tx9 (by decide) (fun v2 => ?_)
  refine sm_gI w tx5 (by decide) (fun v3 => ?_)
  refine sm_if (fun _ => ?_) (fun _ => ?_)
  · exact sm_X9_paintUpTo_258 w tx0 tx1
  · refine sm_gI w tx9 (by decide) (fun v4 => ?_)
    refine sm_cl w (sm_X9_rowOf w.1 (w.k tx0 (by decide))) (fun r5 h2 e w2 => ?_)
    have hF2 : sv_FP h2 = F := by rw [ro_X9_rowOf e]; exact hF
    clear e w hF
    have hF := hF2
    have w := w2
    clear hF2 w2
    refine sm_cl w (sm_X9_between w.1) (fun r7 h2 e w2 => ?_)
    have hF2 : sv_FP h2 = F := by rw [ro_X9_between e]; exact hF
    clear e w hF
    have hF := hF2
    have w := w2
    clear hF2 w2
    exact sm_X9_paintUpTo_258 w tx0 tx1
theorem sm_X9_paintUpTo_131 {h0 : sv_H} {x0 : Nat} {x1 : Nat} {x2 : Int32} {x4 : Int32} {x5 : Nat} {x6 : Int32} {x7 : Int32} {s0 : Nat} {s1 : Int32} {h : sv_H} (w : vt_W h0 h) (tx0 : sv_K h0 x0 = 10) (tx1 : sv_K h0 x1 = 3) (tx5 : sv_K h0 x5 = 7) (ts0 : sv_K h0 s0 = 12) : vt_sm h0 (fn_X9_paintUpTo_131 x0 x1 x2 x4 x5 x6 x7 s0 s1 h) (ab_X9_paintUpTo_131 x0 x1 x2 x4 x5 x6 x7 s0 s1 (vt_ab h)) := by
  unfold fn_X9_paintUpTo_131 ab_X9_paintUpTo_131
  obtain ⟨F, hF⟩ : ∃ F, sv_FP h = F := ⟨_, rfl⟩
  refine sm_cl w (sm_X11_sectorOn w.1 (w.k ts0 (by decide))) (fun r1 h2 e w2 => ?_)
  have hF2 : sv_FP h2 = F := by rw [ro_X11_sectorOn e]; exact hF
  clear e w hF
  have hF := hF2
  have w := w2
  clear hF2 w2
  refine sm_if (fun _ => ?_) (fun _ => ?_)
  · refine sm_cl w (sm_X9_paintWall w.1 (w.k tx0 (by decide)) (w.k tx1 (by decide))) (fun _ h2 e w2 => ?_)
    have hF2 : sv_FP h2 = F := (ow_X9_paintWall sv_clT trivial trivial e).2.1.1.trans hF
    clear e w hF
    have hF := hF2
    have w := w2
    clear hF2 w2
    refine sm_gI w tx0 (by decide) (fun v13 => ?_)
    refine sm_pI w hF tx0 (by decide) (fun h w hF => ?_)
    exact sm_rt w
  · refine sm_gA w hF tx1 tk_307 (by decide) (fun v3 av3 => ?_)
    refine sm_lP (c := 7) w hF tx1 av3 tk_307 (by decide) (fun v4 tv4 => ?_)
    refine sm_gI w tv4 (by decide) (fun v5 => ?_)
    refine sm_gI w tx5 (by decide) (fun v6 => ?_)
    refine sm_if (fun _ => ?_) (fun _ => ?_)
    · exact sm_X9_paintUpTo_208 w tx0 tx1 tx5 tv4
    · refine sm_gI w tv4 (by decide) (fun v7 => ?_)
      refine sm_cl w (sm_X9_rowOf w.1 (w.k tx0 (by decide))) (fun r8 h2 e w2 => ?_)
      have hF2 : sv_FP h2 = F := by rw [ro_X9_rowOf e]; exact hF
      clear e w hF
      have hF := hF2
      have w := w2
      clear hF2 w2
      refine sm_cl w (sm_X9_between w.1) (fun r10 h2 e w2 => ?_)
      have hF2 : sv_FP h2 = F := by rw [ro_X9_between e]; exact hF
      clear e w hF
      have hF := hF2
      have w := w2
      clear hF2 w2
      exact sm_X9_paintUpTo_208 w tx0 tx1 tx5 tv4
theorem sm_X9_paintUpTo_0 {h0 : sv_H} {x0 : Nat} {x1 : Nat} {x2 : Int32} {x3 : Int32} {x4 : Int32} {h : sv_H} (w : vt_W h0 h) (tx0 : sv_K h0 x0 = 10) (tx1 : sv_K h0 x1 = 3) : vt_sm h0 (fn_X9_paintUpTo x0 x1 x2 x3 x4 h) (ab_X9_paintUpTo x0 x1 x2 x3 x4 (vt_ab h)) := by
  unfold fn_X9_paintUpTo ab_X9_paintUpTo
  obtain ⟨F, hF⟩ : ∃ F, sv_FP h = F := ⟨_, rfl⟩
  refine sm_kd w tx0 (by decide) ?_
  refine sm_gA w hF tx1 tk_307 (by decide) (fun v1 av1 => ?_)
  refine sm_lP (c := 7) w hF tx1 av1 tk_307 (by decide) (fun v2 tv2 => ?_)
  refine sm_gI w tv2 (by decide) (fun v3 => ?_)
  refine sm_cl w (sm_X9_rowOf w.1 (w.k tx0 (by decide))) (fun r4 h2 e w2 => ?_)
  have hF2 : sv_FP h2 = F := by rw [ro_X9_rowOf e]; exact hF
  clear e w hF
  have hF := hF2
  have w := w2
  clear hF2 w2
  refine sm_gI w tx0 (by decide) (fun v6 => ?_)
  refine sm_gI w tx0 (by decide) (fun v7 => ?_)
  refine sm_cl w (sm_X9_between w.1) (fun r8 h2 e w2 => ?_)
  have hF2 : sv_FP h2 = F := by rw [ro_X9_between e]; exact hF
  clear e w hF
  have hF := hF2
  have w := w2
  clear hF2 w2
  refine sm_gI w tv2 (by decide) (fun v10 => ?_)
  refine sm_cl w (sm_X9_rowOf w.1 (w.k tx0 (by decide))) (fun r11 h2 e w2 => ?_)
  have hF2 : sv_FP h2 = F := by rw [ro_X9_rowOf e]; exact hF
  clear e w hF
  have hF := hF2
  have w := w2
  clear hF2 w2
  refine sm_gI w tx0 (by decide) (fun v13 => ?_)
  refine sm_cl w (sm_X9_between w.1) (fun r14 h2 e w2 => ?_)
  have hF2 : sv_FP h2 = F := by rw [ro_X9_between e]; exact hF
  clear e w hF
  have hF := hF2
  have w := w2
  clear hF2 w2
  refine sm_cl w (sm_X9_paintCeiling w.1 (w.k tx0 (by decide)) (w.k tx1 (by decide))) (fun _ h2 e w2 => ?_)
  have hF2 : sv_FP h2 = F := (ow_X9_paintCeiling sv_clT trivial trivial e).2.1.1.trans hF
  clear e w hF
  have hF := hF2
  have w := w2
  clear hF2 w2
  refine sm_gI w tx0 (by decide) (fun v17 => ?_)
  refine sm_gI w tv2 (by decide) (fun v18 => ?_)
  refine sm_gI w tv2 (by decide) (fun v19 => ?_)
  refine sm_cl w (sm_X9_paintPlane w.1 (w.k tx0 (by decide)) (w.k tx1 (by decide))) (fun _ h2 e w2 => ?_)
  have hF2 : sv_FP h2 = F := (ow_X9_paintPlane sv_clT trivial trivial e).2.1.1.trans hF
  clear e w hF
  have hF := hF2
  have w := w2
  clear hF2 w2
  refine sm_gI w tx0 (by decide) (fun v21 => ?_)
  refine sm_cl w (sm_X9_markRows w.1 (w.k tx0 (by decide))) (fun _ h2 e w2 => ?_)
  have hF2 : sv_FP h2 = F := (ow_X9_markRows sv_clT trivial e).2.1.1.trans hF
  clear e w hF
  have hF := hF2
  have w := w2
  clear hF2 w2
  refine sm_gA w hF tx1 tk_308 (by decide) (fun v23 av23 => ?_)
  refine sm_gP w tx0 tk_1000 rfl (fun v24 tv24 => ?_)
  refine sm_gA w hF tv24 tk_400 (by decide) (fun v25 av25 => ?_)
  refine sm_lI w hF tv24 av25 tk_400 (fun _ => ?_)
  refine sm_lP (c := 12) w hF tx1 av23 tk_308 (by decide) (fun v27 tv27 => ?_)
  refine sm_gP w tx0 tk_1000 rfl (fun v28 tv28 => ?_)
  refine sm_gA w hF tv28 tk_401 (by decide) (fun v29 av29 => ?_)
  refine sm_lZ w hF tv28 av29 tk_401 (fun _ => ?_)
  refine sm_if (fun _ => ?_) (fun _ => ?_)
  · exact sm_X9_paintUpTo_131 w tx0 tx1 tv2 tv27
  · exact sm_X9_paintUpTo_131 w tx0 tx1 tv2 tv27
theorem sm_X9_paintUpTo {x0 : Nat} {x1 : Nat} {x2 : Int32} {x3 : Int32} {x4 : Int32} {h : sv_H} (g : vt_G h) (tx0 : sv_K h x0 = 10) (tx1 : sv_K h x1 = 3) : vt_sm h (fn_X9_paintUpTo x0 x1 x2 x3 x4 h) (ab_X9_paintUpTo x0 x1 x2 x3 x4 (vt_ab h)) := sm_X9_paintUpTo_0 ⟨g, vt_ko.refl h⟩ tx0 tx1

theorem sm_X9_look_244 {h0 : sv_H} {h : sv_H} (w : vt_W h0 h) : vt_sm h0 (fn_X9_look_244 h) (ab_X9_look_244 (vt_ab h)) := by
  unfold fn_X9_look_244 ab_X9_look_244
  obtain ⟨F, hF⟩ : ∃ F, sv_FP h = F := ⟨_, rfl⟩
  exact sm_rt w
theorem sm_X9_look_238 {h0 : sv_H} {k114 : Nat → Nat → Int32 → sv_H → Option (Unit × sv_H)} {j114 : Nat → Nat → Int32 → vt_S → Option (Unit × vt_S)} (hk114 : ∀ {x0 : Nat} {x1 : Nat} {x6 : Int32} {h : sv_H}, vt_W h0 h → sv_K h0 x0 = 10 → sv_K h0 x1 = 11 → vt_sm h0 (k114 x0 x1 x6 h) (j114 x0 x1 x6 (vt_ab h))) {x0 : Nat} {x1 : Nat} {x6 : Int32} {h : sv_H} (w : vt_W h0 h) (tx0 : sv_K h0 x0 = 10) (tx1 : sv_K h0 x1 = 11) : vt_sm h0 (fn_X9_look_238 k114 x0 x1 x6 h) (ab_X9_look_238 j114 x0 x1 x6 (vt_ab h)) := by
  unfold fn_X9_look_238 ab_X9_look_238
  obtain ⟨F, hF⟩ : ∃ F, sv_FP h = F := ⟨_, rfl⟩
  exact hk114 w tx0 tx1
theorem sm_X9_look_114b {h0 : sv_H} {k114 : Nat → Nat → Int32 → sv_H → Option (Unit × sv_H)} {j114 : Nat → Nat → Int32 → vt_S → Option (Unit × vt_S)} (hk114 : ∀ {x0 : Nat} {x1 : Nat} {x6 : Int32} {h : sv_H}, vt_W h0 h → sv_K h0 x0 = 10 → sv_K h0 x1 = 11 → vt_sm h0 (k114 x0 x1 x6 h) (j114 x0 x1 x6 (vt_ab h))) {x0 : Nat} {x1 : Nat} {x6 : Int32} {h : sv_H} (w : vt_W h0 h) (tx0 : sv_K h0 x0 = 10) (tx1 : sv_K h0 x1 = 11) : vt_sm h0 (fn_X9_look_114b k114 x0 x1 x6 h) (ab_X9_look_114b j114 x0 x1 x6 (vt_ab h)) := by
  unfold fn_X9_look_114b ab_X9_look_114b
  obtain ⟨F, hF⟩ : ∃ F, sv_FP h = F := ⟨_, rfl⟩
  refine sm_gP w tx0 tk_1000 rfl (fun v1 tv1 => ?_)
  refine sm_gI w tv1 (by decide) (fun v2 => ?_)
  refine sm_if (fun _ => ?_) (fun _ => ?_)
  · exact sm_X9_look_244 w
  · refine sm_gI w tx0 (by decide) (fun v3 => ?_)
    refine sm_gI w tx0 (by decide) (fun v4 => ?_)
    refine sm_if (fun _ => ?_) (fun _ => ?_)
    · exact sm_X9_look_244 w
    · refine sm_gP w tx1 tk_1101 rfl (fun v5 tv5 => ?_)
      refine sm_gA w hF tv5 tk_308 (by decide) (fun v6 av6 => ?_)
      refine sm_gP w tx0 tk_1000 rfl (fun v7 tv7 => ?_)
      refine sm_gA w hF tv7 tk_400 (by decide) (fun v8 av8 => ?_)
      refine sm_lI w hF tv7 av8 tk_400 (fun _ => ?_)
      refine sm_lP (c := 12) w hF tv5 av6 tk_308 (by decide) (fun v10 tv10 => ?_)
      refine sm_gP w tx0 tk_1000 rfl (fun v11 tv11 => ?_)
      refine sm_gA w hF tv11 tk_401 (by decide) (fun v12 av12 => ?_)
      refine sm_lZ w hF tv11 av12 tk_401 (fun _ => ?_)
      refine sm_cl w (sm_X11_sectorOn w.1 (w.k tv10 (by decide))) (fun r14 h2 e w2 => ?_)
      have hF2 : sv_FP h2 = F := by rw [ro_X11_sectorOn e]; exact hF
      clear e w hF
      have hF := hF2
      have w := w2
      clear hF2 w2
      refine sm_if (fun _ => ?_) (fun _ => ?_)
      · exact sm_X9_look_238 (k114 := k114) (j114 := j114) hk114 w tx0 tx1
      · refine sm_gA w hF tx0 tk_1003 (by decide) (fun v16 av16 => ?_)
        refine sm_gI w tx0 (by decide) (fun v17 => ?_)
        refine sm_gP w tx0 tk_1000 rfl (fun v18 tv18 => ?_)
        refine sm_gA w hF tv18 tk_400 (by decide) (fun v19 av19 => ?_)
        refine sm_lI w hF tv18 av19 tk_400 (fun _ => ?_)
        refine sm_sI w hF tx0 av16 tk_1003 (fun h w hF => ?_)
        refine sm_gI w tx0 (by decide) (fun v22 => ?_)
        refine sm_pI w hF tx0 (by decide) (fun h w hF => ?_)
        refine sm_gP w tx1 tk_1101 rfl (fun v24 tv24 => ?_)
        refine sm_gP w tx1 tk_1101 rfl (fun v25 tv25 => ?_)
        refine sm_gP w tx1 tk_1101 rfl (fun v26 tv26 => ?_)
        refine sm_gA w hF tv26 tk_307 (by decide) (fun v27 av27 => ?_)
        refine sm_lP (c := 7) w hF tv26 av27 tk_307 (by decide) (fun v28 tv28 => ?_)
        refine sm_gI w tx1 (by decide) (fun v29 => ?_)
        refine sm_cl w (sm_X2_lightIn w.1 (w.k tv25 (by decide)) (w.k tv28 (by decide))) (fun r30 h2 e w2 => ?_)
        have hF2 : sv_FP h2 = F := by rw [ro_X2_lightIn e]; exact hF
        clear e w hF
        have hF := hF2
        have w := w2
        clear hF2 w2
        refine sm_cl w (sm_X9_paintUpTo w.1 (w.k tx0 (by decide)) (w.k tv24 (by decide))) (fun _ h2 e w2 => ?_)
        have hF2 : sv_FP h2 = F := (ow_X9_paintUpTo sv_clT trivial trivial e).2.1.1.trans hF
        clear e w hF
        have hF := hF2
        have w := w2
        clear hF2 w2
        exact sm_X9_look_238 (k114 := k114) (j114 := j114) hk114 w tx0 tx1
theorem sm_X9_look_114 {h0 : sv_H} : ∀ (n : Nat) {x0 : Nat} {x1 : Nat} {x6 : Int32} {h : sv_H}, vt_W h0 h → sv_K h0 x0 = 10 → sv_K h0 x1 = 11 → vt_sm h0 (fn_X9_look_114 n x0 x1 x6 h) (ab_X9_look_114 n x0 x1 x6 (vt_ab h)) := by
  intro n
  induction n with
  | zero => intro x0 x1 x6 h w tx0 tx1; exact sm_no
  | succ n ih => intro x0 x1 x6 h w tx0 tx1; exact sm_X9_look_114b (k114 := fn_X9_look_114 n) (j114 := ab_X9_look_114 n) (fun w tx0 tx1 => ih w tx0 tx1) w tx0 tx1
theorem sm_X9_look_0 {h0 : sv_H} {x0 : Nat} {x1 : Nat} {x2 : Int32} {h : sv_H} (w : vt_W h0 h) (tx0 : sv_K h0 x0 = 10) (tx1 : sv_K h0 x1 = 11) : vt_sm h0 (fn_X9_look x0 x1 x2 h) (ab_X9_look x0 x1 x2 (vt_ab h)) := by
  unfold fn_X9_look ab_X9_look
  obtain ⟨F, hF⟩ : ∃ F, sv_FP h = F := ⟨_, rfl⟩
  refine sm_kd w tx0 (by decide) ?_
  refine sm_gI w tx1 (by decide) (fun v1 => ?_)
  refine sm_cl w (sm_X12_cosine w.1) (fun r2 h2 e w2 => ?_)
  have hF2 : sv_FP h2 = F := by rw [ro_X12_cosine e]; exact hF
  clear e w hF
  have hF := hF2
  have w := w2
  clear hF2 w2
  refine sm_gI w tx1 (by decide) (fun v4 => ?_)
  refine sm_cl w (sm_X12_sine w.1) (fun r5 h2 e w2 => ?_)
  have hF2 : sv_FP h2 = F := by rw [ro_X12_sine e]; exact hF
  clear e w hF
  have hF := hF2
  have w := w2
  clear hF2 w2
  refine sm_gP w tx0 tk_1000 rfl (fun v7 tv7 => ?_)
  refine sm_gI w tx1 (by decide) (fun v8 => ?_)
  refine sm_gI w tx1 (by decide) (fun v9 => ?_)
  refine sm_cl w (sm_X3_aim w.1 (w.k tv7 (by decide))) (fun _ h2 e w2 => ?_)
  have hF2 : sv_FP h2 = F := (ow_X3_aim sv_clT trivial e).2.1.1.trans hF
  clear e w hF
  have hF := hF2
  have w := w2
  clear hF2 w2
  refine sm_gP w tx0 tk_1000 rfl (fun v11 tv11 => ?_)
  refine sm_gP w tx1 tk_1101 rfl (fun v12 tv12 => ?_)
  refine sm_cl w (sm_X3_meetAll w.1 (w.k tv11 (by decide)) (w.k tv12 (by decide))) (fun _ h2 e w2 => ?_)
  have hF2 : sv_FP h2 = F := (ow_X3_meetAll sv_clT trivial trivial e).2.1.1.trans hF
  clear e w hF
  have hF := hF2
  have w := w2
  clear hF2 w2
  refine sm_gA w hF tx0 tk_1001 (by decide) (fun v14 av14 => ?_)
  refine sm_fl w hF tx0 av14 tk_1001 (fun h w hF => ?_)
  refine sm_gA w hF tx0 tk_1002 (by decide) (fun v16 av16 => ?_)
  refine sm_fl w hF tx0 av16 tk_1002 (fun h w hF => ?_)
  refine sm_cl w (sm_X10_eye w.1 (w.k tx1 (by decide))) (fun r18 h2 e w2 => ?_)
  have hF2 : sv_FP h2 = F := by rw [ro_X10_eye e]; exact hF
  clear e w hF
  have hF := hF2
  have w := w2
  clear hF2 w2
  refine sm_pI w hF tx0 (by decide) (fun h w hF => ?_)
  refine sm_pI w hF tx0 (by decide) (fun h w hF => ?_)
  refine sm_pI w hF tx0 (by decide) (fun h w hF => ?_)
  refine sm_pI w hF tx0 (by decide) (fun h w hF => ?_)
  exact sm_X9_look_114 sv_fuel w tx0 tx1
theorem sm_X9_look {x0 : Nat} {x1 : Nat} {x2 : Int32} {h : sv_H} (g : vt_G h) (tx0 : sv_K h x0 = 10) (tx1 : sv_K h x1 = 11) : vt_sm h (fn_X9_look x0 x1 x2 h) (ab_X9_look x0 x1 x2 (vt_ab h)) := sm_X9_look_0 ⟨g, vt_ko.refl h⟩ tx0 tx1

theorem sm_X12_pixelAt_18 {h0 : sv_H} {h : sv_H} (w : vt_W h0 h) : vt_sm h0 (fn_X12_pixelAt_18 h) (ab_X12_pixelAt_18 (vt_ab h)) := by
  unfold fn_X12_pixelAt_18 ab_X12_pixelAt_18
  obtain ⟨F, hF⟩ : ∃ F, sv_FP h = F := ⟨_, rfl⟩
  exact sm_rt w
theorem sm_X12_pixelAt_0 {h0 : sv_H} {x0 : Nat} {x1 : Int32} {x2 : Int32} {h : sv_H} (w : vt_W h0 h) (tx0 : sv_K h0 x0 = 13) : vt_sm h0 (fn_X12_pixelAt x0 x1 x2 h) (ab_X12_pixelAt x0 x1 x2 (vt_ab h)) := by
  unfold fn_X12_pixelAt ab_X12_pixelAt
  obtain ⟨F, hF⟩ : ∃ F, sv_FP h = F := ⟨_, rfl⟩
  refine sm_kd w tx0 (by decide) ?_
  refine sm_cl w (sm_X12_isSeen w.1 (w.k tx0 (by decide))) (fun r1 h2 e w2 => ?_)
  have hF2 : sv_FP h2 = F := by rw [ro_X12_isSeen e]; exact hF
  clear e w hF
  have hF := hF2
  have w := w2
  clear hF2 w2
  refine sm_if (fun _ => ?_) (fun _ => ?_)
  · exact sm_X12_pixelAt_18 w
  · refine sm_if (fun _ => ?_) (fun _ => ?_)
    · exact sm_X12_pixelAt_18 w
    · refine sm_if (fun _ => ?_) (fun _ => ?_)
      · refine sm_gP w tx0 tk_1305 rfl (fun v3 tv3 => ?_)
        refine sm_gP w tx0 tk_1304 rfl (fun v4 tv4 => ?_)
        refine sm_cl w (sm_X9_look w.1 (w.k tv3 (by decide)) (w.k tv4 (by decide))) (fun _ h2 e w2 => ?_)
        have hF2 : sv_FP h2 = F := (ow_X9_look sv_clT trivial trivial e).2.1.1.trans hF
        clear e w hF
        have hF := hF2
        have w := w2
        clear hF2 w2
        refine sm_gP w tx0 tk_1305 rfl (fun v6 tv6 => ?_)
        refine sm_gA w hF tv6 tk_1002 (by decide) (fun v7 av7 => ?_)
        refine sm_lI w hF tv6 av7 tk_1002 (fun _ => ?_)
        exact sm_rt w
      · exact sm_X12_pixelAt_18 w
theorem sm_X12_pixelAt {x0 : Nat} {x1 : Int32} {x2 : Int32} {h : sv_H} (g : vt_G h) (tx0 : sv_K h x0 = 13) : vt_sm h (fn_X12_pixelAt x0 x1 x2 h) (ab_X12_pixelAt x0 x1 x2 (vt_ab h)) := sm_X12_pixelAt_0 ⟨g, vt_ko.refl h⟩ tx0

theorem sm_X17_isPixel_32 {h0 : sv_H} {s0 : Int32} {h : sv_H} (w : vt_W h0 h) : vt_sm h0 (fn_X17_isPixel_32 s0 h) (ab_X17_isPixel_32 s0 (vt_ab h)) := by
  unfold fn_X17_isPixel_32 ab_X17_isPixel_32
  obtain ⟨F, hF⟩ : ∃ F, sv_FP h = F := ⟨_, rfl⟩
  exact sm_rz w
theorem sm_X17_isPixel_31 {h0 : sv_H} {h : sv_H} (w : vt_W h0 h) : vt_sm h0 (fn_X17_isPixel_31 h) (ab_X17_isPixel_31 (vt_ab h)) := by
  unfold fn_X17_isPixel_31 ab_X17_isPixel_31
  obtain ⟨F, hF⟩ : ∃ F, sv_FP h = F := ⟨_, rfl⟩
  exact sm_X17_isPixel_32 w
theorem sm_X17_isPixel_0 {h0 : sv_H} {x0 : Nat} {x1 : Int32} {x2 : Int32} {h : sv_H} (w : vt_W h0 h) (tx0 : sv_K h0 x0 = 18) : vt_sm h0 (fn_X17_isPixel x0 x1 x2 h) (ab_X17_isPixel x0 x1 x2 (vt_ab h)) := by
  unfold fn_X17_isPixel ab_X17_isPixel
  obtain ⟨F, hF⟩ : ∃ F, sv_FP h = F := ⟨_, rfl⟩
  refine sm_kd w tx0 (by decide) ?_
  refine sm_gI w tx0 (by decide) (fun v1 => ?_)
  refine sm_if (fun _ => ?_) (fun _ => ?_)
  · exact sm_X17_isPixel_31 w
  · refine sm_if (fun _ => ?_) (fun _ => ?_)
    · exact sm_X17_isPixel_31 w
    · refine sm_if (fun _ => ?_) (fun _ => ?_)
      · exact sm_X17_isPixel_31 w
      · refine sm_if (fun _ => ?_) (fun _ => ?_)
        · exact sm_X17_isPixel_31 w
        · refine sm_if (fun _ => ?_) (fun _ => ?_)
          · exact sm_X17_isPixel_31 w
          · exact sm_X17_isPixel_32 w
theorem sm_X17_isPixel {x0 : Nat} {x1 : Int32} {x2 : Int32} {h : sv_H} (g : vt_G h) (tx0 : sv_K h x0 = 18) : vt_sm h (fn_X17_isPixel x0 x1 x2 h) (ab_X17_isPixel x0 x1 x2 (vt_ab h)) := sm_X17_isPixel_0 ⟨g, vt_ko.refl h⟩ tx0

theorem sm_X17_rowOf_56 {h0 : sv_H} {s0 : Int32} {h : sv_H} (w : vt_W h0 h) : vt_sm h0 (fn_X17_rowOf_56 s0 h) (ab_X17_rowOf_56 s0 (vt_ab h)) := by
  unfold fn_X17_rowOf_56 ab_X17_rowOf_56
  obtain ⟨F, hF⟩ : ∃ F, sv_FP h = F := ⟨_, rfl⟩
  exact sm_rt w
theorem sm_X17_rowOf_0 {h0 : sv_H} {x0 : Nat} {x1 : Int32} {x2 : Int32} {x3 : Int32} {h : sv_H} (w : vt_W h0 h) (tx0 : sv_K h0 x0 = 18) : vt_sm h0 (fn_X17_rowOf x0 x1 x2 x3 h) (ab_X17_rowOf x0 x1 x2 x3 (vt_ab h)) := by
  unfold fn_X17_rowOf ab_X17_rowOf
  obtain ⟨F, hF⟩ : ∃ F, sv_FP h = F := ⟨_, rfl⟩
  refine sm_kd w tx0 (by decide) ?_
  refine sm_cl w (sm_X17_eye w.1 (w.k tx0 (by decide))) (fun r1 h2 e w2 => ?_)
  have hF2 : sv_FP h2 = F := by rw [ro_X17_eye e]; exact hF
  clear e w hF
  have hF := hF2
  have w := w2
  clear hF2 w2
  refine sm_gJ w tx0 (by decide) (fun v3 => ?_)
  refine sm_gJ w tx0 (by decide) (fun v4 => ?_)
  refine sm_cl w (sm_X17_down w.1) (fun r5 h2 e w2 => ?_)
  have hF2 : sv_FP h2 = F := by rw [ro_X17_down e]; exact hF
  clear e w hF
  have hF := hF2
  have w := w2
  clear hF2 w2
  refine sm_if (fun _ => ?_) (fun _ => ?_)
  · refine sm_if (fun _ => ?_) (fun _ => ?_)
    · exact sm_X17_rowOf_56 w
    · exact sm_X17_rowOf_56 w
  · exact sm_X17_rowOf_56 w
theorem sm_X17_rowOf {x0 : Nat} {x1 : Int32} {x2 : Int32} {x3 : Int32} {h : sv_H} (g : vt_G h) (tx0 : sv_K h x0 = 18) : vt_sm h (fn_X17_rowOf x0 x1 x2 x3 h) (ab_X17_rowOf x0 x1 x2 x3 (vt_ab h)) := sm_X17_rowOf_0 ⟨g, vt_ko.refl h⟩ tx0

theorem sm_X14_texture_13 {h0 : sv_H} {h : sv_H} (w : vt_W h0 h) : vt_sm h0 (fn_X14_texture_13 h) (ab_X14_texture_13 (vt_ab h)) := by
  unfold fn_X14_texture_13 ab_X14_texture_13
  obtain ⟨F, hF⟩ : ∃ F, sv_FP h = F := ⟨_, rfl⟩
  exact sm_rt w
theorem sm_X14_texture_111 {h0 : sv_H} {s0 : Int32} {h : sv_H} (w : vt_W h0 h) : vt_sm h0 (fn_X14_texture_111 s0 h) (ab_X14_texture_111 s0 (vt_ab h)) := by
  unfold fn_X14_texture_111 ab_X14_texture_111
  obtain ⟨F, hF⟩ : ∃ F, sv_FP h = F := ⟨_, rfl⟩
  exact sm_rt w
theorem sm_X14_texture_110 {h0 : sv_H} {h : sv_H} (w : vt_W h0 h) : vt_sm h0 (fn_X14_texture_110 h) (ab_X14_texture_110 (vt_ab h)) := by
  unfold fn_X14_texture_110 ab_X14_texture_110
  obtain ⟨F, hF⟩ : ∃ F, sv_FP h = F := ⟨_, rfl⟩
  exact sm_X14_texture_111 w
theorem sm_X14_texture_59 {h0 : sv_H} {s0 : Int32} {h : sv_H} (w : vt_W h0 h) : vt_sm h0 (fn_X14_texture_59 s0 h) (ab_X14_texture_59 s0 (vt_ab h)) := by
  unfold fn_X14_texture_59 ab_X14_texture_59
  obtain ⟨F, hF⟩ : ∃ F, sv_FP h = F := ⟨_, rfl⟩
  exact sm_rt w
theorem sm_X14_texture_0 {h0 : sv_H} {x0 : Nat} {x1 : Int32} {x2 : Int32} {h : sv_H} (w : vt_W h0 h) (tx0 : sv_K h0 x0 = 15) : vt_sm h0 (fn_X14_texture x0 x1 x2 h) (ab_X14_texture x0 x1 x2 (vt_ab h)) := by
  unfold fn_X14_texture ab_X14_texture
  obtain ⟨F, hF⟩ : ∃ F, sv_FP h = F := ⟨_, rfl⟩
  refine sm_kd w tx0 (by decide) ?_
  refine sm_cl w (sm_X14_has w.1 (w.k tx0 (by decide))) (fun r1 h2 e w2 => ?_)
  have hF2 : sv_FP h2 = F := by rw [ro_X14_has e]; exact hF
  clear e w hF
  have hF := hF2
  have w := w2
  clear hF2 w2
  refine sm_if (fun _ => ?_) (fun _ => ?_)
  · exact sm_X14_texture_13 w
  · refine sm_if (fun _ => ?_) (fun _ => ?_)
    · refine sm_cl w (sm_X14_textureAt w.1 (w.k tx0 (by decide))) (fun r3 h2 e w2 => ?_)
      have hF2 : sv_FP h2 = F := by rw [ro_X14_textureAt e]; exact hF
      clear e w hF
      have hF := hF2
      have w := w2
      clear hF2 w2
      refine sm_gA w hF tx0 tk_1502 (by decide) (fun v5 av5 => ?_)
      refine sm_lB w hF tx0 av5 tk_1502 (fun _ => ?_)
      refine sm_gA w hF tx0 tk_1502 (by decide) (fun v7 av7 => ?_)
      refine sm_lB w hF tx0 av7 tk_1502 (fun _ => ?_)
      refine sm_if (fun _ => ?_) (fun _ => ?_)
      · refine sm_if (fun _ => ?_) (fun _ => ?_)
        · exact sm_X14_texture_110 w
        · refine sm_if (fun _ => ?_) (fun _ => ?_)
          · exact sm_X14_texture_110 w
          · refine sm_gA w hF tx0 tk_1502 (by decide) (fun v9 av9 => ?_)
            refine sm_lB w hF tx0 av9 tk_1502 (fun _ => ?_)
            exact sm_X14_texture_111 w
      · refine sm_if (fun _ => ?_) (fun _ => ?_)
        · exact sm_X14_texture_59 w
        · exact sm_X14_texture_59 w
    · exact sm_X14_texture_13 w
theorem sm_X14_texture {x0 : Nat} {x1 : Int32} {x2 : Int32} {h : sv_H} (g : vt_G h) (tx0 : sv_K h x0 = 15) : vt_sm h (fn_X14_texture x0 x1 x2 h) (ab_X14_texture x0 x1 x2 (vt_ab h)) := sm_X14_texture_0 ⟨g, vt_ko.refl h⟩ tx0

theorem sm_X17_modulo_0 {h0 : sv_H} {x0 : Int64} {x2 : Int32} {h : sv_H} (w : vt_W h0 h) : vt_sm h0 (fn_X17_modulo x0 x2 h) (ab_X17_modulo x0 x2 (vt_ab h)) := by
  unfold fn_X17_modulo ab_X17_modulo
  obtain ⟨F, hF⟩ : ∃ F, sv_FP h = F := ⟨_, rfl⟩
  refine sm_if (fun _ => sm_no) (fun _ => ?_)
  refine sm_if (fun _ => sm_no) (fun _ => ?_)
  exact sm_rt w
theorem sm_X17_modulo {x0 : Int64} {x2 : Int32} {h : sv_H} (g : vt_G h) : vt_sm h (fn_X17_modulo x0 x2 h) (ab_X17_modulo x0 x2 (vt_ab h)) := sm_X17_modulo_0 ⟨g, vt_ko.refl h⟩

theorem sm_X17_texel_0 {h0 : sv_H} {x0 : Nat} {x1 : Int32} {x2 : Int64} {x4 : Int64} {h : sv_H} (w : vt_W h0 h) (tx0 : sv_K h0 x0 = 18) : vt_sm h0 (fn_X17_texel x0 x1 x2 x4 h) (ab_X17_texel x0 x1 x2 x4 (vt_ab h)) := by
  unfold fn_X17_texel ab_X17_texel
  obtain ⟨F, hF⟩ : ∃ F, sv_FP h = F := ⟨_, rfl⟩
  refine sm_kd w tx0 (by decide) ?_
  refine sm_if (fun _ => ?_) (fun _ => ?_)
  · exact sm_rt w
  · refine sm_gP w tx0 tk_1801 rfl (fun v1 tv1 => ?_)
    refine sm_cl w (sm_X14_texture w.1 (w.k tv1 (by decide))) (fun r2 h2 e w2 => ?_)
    have hF2 : sv_FP h2 = F := by rw [ro_X14_texture e]; exact hF
    clear e w hF
    have hF := hF2
    have w := w2
    clear hF2 w2
    refine sm_gP w tx0 tk_1801 rfl (fun v4 tv4 => ?_)
    refine sm_cl w (sm_X14_texture w.1 (w.k tv4 (by decide))) (fun r5 h2 e w2 => ?_)
    have hF2 : sv_FP h2 = F := by rw [ro_X14_texture e]; exact hF
    clear e w hF
    have hF := hF2
    have w := w2
    clear hF2 w2
    refine sm_gP w tx0 tk_1801 rfl (fun v7 tv7 => ?_)
    refine sm_cl w (sm_X17_modulo w.1) (fun r8 h2 e w2 => ?_)
    have hF2 : sv_FP h2 = F := by rw [ro_X17_modulo e]; exact hF
    clear e w hF
    have hF := hF2
    have w := w2
    clear hF2 w2
    refine sm_cl w (sm_X17_modulo w.1) (fun r10 h2 e w2 => ?_)
    have hF2 : sv_FP h2 = F := by rw [ro_X17_modulo e]; exact hF
    clear e w hF
    have hF := hF2
    have w := w2
    clear hF2 w2
    refine sm_cl w (sm_X14_texture w.1 (w.k tv7 (by decide))) (fun r12 h2 e w2 => ?_)
    have hF2 : sv_FP h2 = F := by rw [ro_X14_texture e]; exact hF
    clear e w hF
    have hF := hF2
    have w := w2
    clear hF2 w2
    exact sm_rt w
theorem sm_X17_texel {x0 : Nat} {x1 : Int32} {x2 : Int64} {x4 : Int64} {h : sv_H} (g : vt_G h) (tx0 : sv_K h x0 = 18) : vt_sm h (fn_X17_texel x0 x1 x2 x4 h) (ab_X17_texel x0 x1 x2 x4 (vt_ab h)) := sm_X17_texel_0 ⟨g, vt_ko.refl h⟩ tx0

theorem sm_X17_shade_28 {h0 : sv_H} {s0 : Int32} {h : sv_H} (w : vt_W h0 h) : vt_sm h0 (fn_X17_shade_28 s0 h) (ab_X17_shade_28 s0 (vt_ab h)) := by
  unfold fn_X17_shade_28 ab_X17_shade_28
  obtain ⟨F, hF⟩ : ∃ F, sv_FP h = F := ⟨_, rfl⟩
  exact sm_rt w
theorem sm_X17_shade_0 {h0 : sv_H} {x0 : Nat} {x1 : Int32} {x2 : Int64} {h : sv_H} (w : vt_W h0 h) (tx0 : sv_K h0 x0 = 18) : vt_sm h0 (fn_X17_shade x0 x1 x2 h) (ab_X17_shade x0 x1 x2 (vt_ab h)) := by
  unfold fn_X17_shade ab_X17_shade
  obtain ⟨F, hF⟩ : ∃ F, sv_FP h = F := ⟨_, rfl⟩
  refine sm_kd w tx0 (by decide) ?_
  refine sm_gP w tx0 tk_1803 rfl (fun v1 tv1 => ?_)
  refine sm_cl w (sm_X13_of w.1 (w.k tv1 (by decide))) (fun r2 h2 e w2 => ?_)
  have hF2 : sv_FP h2 = F := by rw [ro_X13_of e]; exact hF
  clear e w hF
  have hF := hF2
  have w := w2
  clear hF2 w2
  refine sm_if (fun _ => ?_) (fun _ => ?_)
  · exact sm_X17_shade_28 w
  · exact sm_X17_shade_28 w
theorem sm_X17_shade {x0 : Nat} {x1 : Int32} {x2 : Int64} {h : sv_H} (g : vt_G h) (tx0 : sv_K h x0 = 18) : vt_sm h (fn_X17_shade x0 x1 x2 h) (ab_X17_shade x0 x1 x2 (vt_ab h)) := sm_X17_shade_0 ⟨g, vt_ko.refl h⟩ tx0

theorem sm_X17_flat_293 {h0 : sv_H} {k80 : Nat → Int32 → Int32 → Int32 → Int32 → Int32 → Int64 → Int32 → sv_H → Option (Unit × sv_H)} {j80 : Nat → Int32 → Int32 → Int32 → Int32 → Int32 → Int64 → Int32 → vt_S → Option (Unit × vt_S)} (hk80 : ∀ {x0 : Nat} {x2 : Int32} {x3 : Int32} {x4 : Int32} {x5 : Int32} {x6 : Int32} {x7 : Int64} {x9 : Int32} {h : sv_H}, vt_W h0 h → sv_K h0 x0 = 18 → vt_sm h0 (k80 x0 x2 x3 x4 x5 x6 x7 x9 h) (j80 x0 x2 x3 x4 x5 x6 x7 x9 (vt_ab h))) {x0 : Nat} {x2 : Int32} {x3 : Int32} {x4 : Int32} {x5 : Int32} {x6 : Int32} {x7 : Int64} {x9 : Int32} {s0 : Nat} {s0o : Nat} {s1 : Int32} {s2 : Int32} {h : sv_H} (w : vt_W h0 h) (tx0 : sv_K h0 x0 = 18) (ts0 : sv_K h0 s0o = 18) (as0 : sv_FP h 1825 s0o = s0) : vt_sm h0 (fn_X17_flat_293 k80 x0 x2 x3 x4 x5 x6 x7 x9 s0 s1 s2 h) (ab_X17_flat_293 j80 x0 x2 x3 x4 x5 x6 x7 x9 s0o s1 s2 (vt_ab h)) := by
  unfold fn_X17_flat_293 ab_X17_flat_293
  obtain ⟨F, hF⟩ : ∃ F, sv_FP h = F := ⟨_, rfl⟩
  rw [hF] at as0
  refine sm_sI w hF ts0 as0 tk_1825 (fun h w hF => ?_)
  exact hk80 w tx0
theorem sm_X17_flat_289 {h0 : sv_H} {k80 : Nat → Int32 → Int32 → Int32 → Int32 → Int32 → Int64 → Int32 → sv_H → Option (Unit × sv_H)} {j80 : Nat → Int32 → Int32 → Int32 → Int32 → Int32 → Int64 → Int32 → vt_S → Option (Unit × vt_S)} (hk80 : ∀ {x0 : Nat} {x2 : Int32} {x3 : Int32} {x4 : Int32} {x5 : Int32} {x6 : Int32} {x7 : Int64} {x9 : Int32} {h : sv_H}, vt_W h0 h → sv_K h0 x0 = 18 → vt_sm h0 (k80 x0 x2 x3 x4 x5 x6 x7 x9 h) (j80 x0 x2 x3 x4 x5 x6 x7 x9 (vt_ab h))) {x0 : Nat} {x2 : Int32} {x3 : Int32} {x4 : Int32} {x5 : Int32} {x6 : Int32} {x7 : Int64} {x9 : Int32} {s0 : Nat} {s0o : Nat} {s1 : Int32} {s2 : Int32} {s3 : Nat} {s4 : Int32} {s5 : Int64} {h : sv_H} (w : vt_W h0 h) (tx0 : sv_K h0 x0 = 18) (ts0 : sv_K h0 s0o = 18) (as0 : sv_FP h 1825 s0o = s0) (ts3 : sv_K h0 s3 = 18) : vt_sm h0 (fn_X17_flat_289 k80 x0 x2 x3 x4 x5 x6 x7 x9 s0 s1 s2 s3 s4 s5 h) (ab_X17_flat_289 j80 x0 x2 x3 x4 x5 x6 x7 x9 s0o s1 s2 s3 s4 s5 (vt_ab h)) := by
  unfold fn_X17_flat_289 ab_X17_flat_289
  obtain ⟨F, hF⟩ : ∃ F, sv_FP h = F := ⟨_, rfl⟩
  rw [hF] at as0
  refine sm_cl w (sm_X17_shade w.1 (w.k ts3 (by decide))) (fun r1 h2 e w2 => ?_)
  have hF2 : sv_FP h2 = F := by rw [ro_X17_shade e]; exact hF
  clear e w hF
  have hF := hF2
  have w := w2
  clear hF2 w2
  exact sm_X17_flat_293 (k80 := k80) (j80 := j80) hk80 w tx0 ts0 (by rw [hF]; exact as0)
theorem sm_X17_flat_221 {h0 : sv_H} {k80 : Nat → Int32 → Int32 → Int32 → Int32 → Int32 → Int64 → Int32 → sv_H → Option (Unit × sv_H)} {j80 : Nat → Int32 → Int32 → Int32 → Int32 → Int32 → Int64 → Int32 → vt_S → Option (Unit × vt_S)} (hk80 : ∀ {x0 : Nat} {x2 : Int32} {x3 : Int32} {x4 : Int32} {x5 : Int32} {x6 : Int32} {x7 : Int64} {x9 : Int32} {h : sv_H}, vt_W h0 h → sv_K h0 x0 = 18 → vt_sm h0 (k80 x0 x2 x3 x4 x5 x6 x7 x9 h) (j80 x0 x2 x3 x4 x5 x6 x7 x9 (vt_ab h))) {x0 : Nat} {x2 : Int32} {x3 : Int32} {x4 : Int32} {x5 : Int32} {x6 : Int32} {x7 : Int64} {x9 : Int32} {x10 : Int64} {x12 : Int32} {x13 : Int64} {x15 : Int64} {s0 : Nat} {s0o : Nat} {s1 : Int32} {s2 : Int32} {s3 : Int32} {h : sv_H} (w : vt_W h0 h) (tx0 : sv_K h0 x0 = 18) (ts0 : sv_K h0 s0o = 18) (as0 : sv_FP h 1824 s0o = s0) : vt_sm h0 (fn_X17_flat_221 k80 x0 x2 x3 x4 x5 x6 x7 x9 x10 x12 x13 x15 s0 s1 s2 s3 h) (ab_X17_flat_221 j80 x0 x2 x3 x4 x5 x6 x7 x9 x10 x12 x13 x15 s0o s1 s2 s3 (vt_ab h)) := by
  unfold fn_X17_flat_221 ab_X17_flat_221
  obtain ⟨F, hF⟩ : ∃ F, sv_FP h = F := ⟨_, rfl⟩
  rw [hF] at as0
  refine sm_sI w hF ts0 as0 tk_1824 (fun h w hF => ?_)
  refine sm_gA w hF tx0 tk_1825 (by decide) (fun v2 av2 => ?_)
  refine sm_if (fun _ => ?_) (fun _ => ?_)
  · refine sm_cl w (sm_X17_texel w.1 (w.k tx0 (by decide))) (fun r3 h2 e w2 => ?_)
    have hF2 : sv_FP h2 = F := by rw [ro_X17_texel e]; exact hF
    clear e w hF
    have hF := hF2
    have w := w2
    clear hF2 w2
    refine sm_if (fun _ => ?_) (fun _ => ?_)
    · exact sm_X17_flat_289 (k80 := k80) (j80 := j80) hk80 w tx0 tx0 (by rw [hF]; exact av2) tx0
    · refine sm_cl w (sm_X17_down w.1) (fun r5 h2 e w2 => ?_)
      have hF2 : sv_FP h2 = F := by rw [ro_X17_down e]; exact hF
      clear e w hF
      have hF := hF2
      have w := w2
      clear hF2 w2
      exact sm_X17_flat_289 (k80 := k80) (j80 := j80) hk80 w tx0 tx0 (by rw [hF]; exact av2) tx0
  · exact sm_X17_flat_293 (k80 := k80) (j80 := j80) hk80 w tx0 tx0 (by rw [hF]; exact av2)
theorem sm_X17_flat_199 {h0 : sv_H} {k80 : Nat → Int32 → Int32 → Int32 → Int32 → Int32 → Int64 → Int32 → sv_H → Option (Unit × sv_H)} {j80 : Nat → Int32 → Int32 → Int32 → Int32 → Int32 → Int64 → Int32 → vt_S → Option (Unit × vt_S)} (hk80 : ∀ {x0 : Nat} {x2 : Int32} {x3 : Int32} {x4 : Int32} {x5 : Int32} {x6 : Int32} {x7 : Int64} {x9 : Int32} {h : sv_H}, vt_W h0 h → sv_K h0 x0 = 18 → vt_sm h0 (k80 x0 x2 x3 x4 x5 x6 x7 x9 h) (j80 x0 x2 x3 x4 x5 x6 x7 x9 (vt_ab h))) {x0 : Nat} {x2 : Int32} {x3 : Int32} {x4 : Int32} {x5 : Int32} {x6 : Int32} {x7 : Int64} {x9 : Int32} {x10 : Int64} {x12 : Int32} {x13 : Int64} {s0 : Int64} {h : sv_H} (w : vt_W h0 h) (tx0 : sv_K h0 x0 = 18) : vt_sm h0 (fn_X17_flat_199 k80 x0 x2 x3 x4 x5 x6 x7 x9 x10 x12 x13 s0 h) (ab_X17_flat_199 j80 x0 x2 x3 x4 x5 x6 x7 x9 x10 x12 x13 s0 (vt_ab h)) := by
  unfold fn_X17_flat_199 ab_X17_flat_199
  obtain ⟨F, hF⟩ : ∃ F, sv_FP h = F := ⟨_, rfl⟩
  refine sm_gA w hF tx0 tk_1824 (by decide) (fun v1 av1 => ?_)
  refine sm_if (fun _ => ?_) (fun _ => ?_)
  · exact sm_X17_flat_221 (k80 := k80) (j80 := j80) hk80 w tx0 tx0 (by rw [hF]; exact av1)
  · exact sm_X17_flat_221 (k80 := k80) (j80 := j80) hk80 w tx0 tx0 (by rw [hF]; exact av1)
theorem sm_X17_flat_166 {h0 : sv_H} {k80 : Nat → Int32 → Int32 → Int32 → Int32 → Int32 → Int64 → Int32 → sv_H → Option (Unit × sv_H)} {j80 : Nat → Int32 → Int32 → Int32 → Int32 → Int32 → Int64 → Int32 → vt_S → Option (Unit × vt_S)} (hk80 : ∀ {x0 : Nat} {x2 : Int32} {x3 : Int32} {x4 : Int32} {x5 : Int32} {x6 : Int32} {x7 : Int64} {x9 : Int32} {h : sv_H}, vt_W h0 h → sv_K h0 x0 = 18 → vt_sm h0 (k80 x0 x2 x3 x4 x5 x6 x7 x9 h) (j80 x0 x2 x3 x4 x5 x6 x7 x9 (vt_ab h))) {x0 : Nat} {x2 : Int32} {x3 : Int32} {x4 : Int32} {x5 : Int32} {x6 : Int32} {x7 : Int64} {x9 : Int32} {x10 : Int64} {x12 : Int32} {s0 : Int64} {h : sv_H} (w : vt_W h0 h) (tx0 : sv_K h0 x0 = 18) : vt_sm h0 (fn_X17_flat_166 k80 x0 x2 x3 x4 x5 x6 x7 x9 x10 x12 s0 h) (ab_X17_flat_166 j80 x0 x2 x3 x4 x5 x6 x7 x9 x10 x12 s0 (vt_ab h)) := by
  unfold fn_X17_flat_166 ab_X17_flat_166
  obtain ⟨F, hF⟩ : ∃ F, sv_FP h = F := ⟨_, rfl⟩
  refine sm_if (fun _ => ?_) (fun _ => ?_)
  · refine sm_gI w tx0 (by decide) (fun v1 => ?_)
    exact sm_X17_flat_199 (k80 := k80) (j80 := j80) hk80 w tx0
  · refine sm_gI w tx0 (by decide) (fun v2 => ?_)
    refine sm_gJ w tx0 (by decide) (fun v3 => ?_)
    refine sm_cl w (sm_X17_down w.1) (fun r4 h2 e w2 => ?_)
    have hF2 : sv_FP h2 = F := by rw [ro_X17_down e]; exact hF
    clear e w hF
    have hF := hF2
    have w := w2
    clear hF2 w2
    exact sm_X17_flat_199 (k80 := k80) (j80 := j80) hk80 w tx0
theorem sm_X17_flat_133 {h0 : sv_H} {k80 : Nat → Int32 → Int32 → Int32 → Int32 → Int32 → Int64 → Int32 → sv_H → Option (Unit × sv_H)} {j80 : Nat → Int32 → Int32 → Int32 → Int32 → Int32 → Int64 → Int32 → vt_S → Option (Unit × vt_S)} (hk80 : ∀ {x0 : Nat} {x2 : Int32} {x3 : Int32} {x4 : Int32} {x5 : Int32} {x6 : Int32} {x7 : Int64} {x9 : Int32} {h : sv_H}, vt_W h0 h → sv_K h0 x0 = 18 → vt_sm h0 (k80 x0 x2 x3 x4 x5 x6 x7 x9 h) (j80 x0 x2 x3 x4 x5 x6 x7 x9 (vt_ab h))) {x0 : Nat} {x2 : Int32} {x3 : Int32} {x4 : Int32} {x5 : Int32} {x6 : Int32} {x7 : Int64} {x9 : Int32} {x10 : Int64} {s0 : Int32} {h : sv_H} (w : vt_W h0 h) (tx0 : sv_K h0 x0 = 18) : vt_sm h0 (fn_X17_flat_133 k80 x0 x2 x3 x4 x5 x6 x7 x9 x10 s0 h) (ab_X17_flat_133 j80 x0 x2 x3 x4 x5 x6 x7 x9 x10 s0 (vt_ab h)) := by
  unfold fn_X17_flat_133 ab_X17_flat_133
  obtain ⟨F, hF⟩ : ∃ F, sv_FP h = F := ⟨_, rfl⟩
  refine sm_if (fun _ => ?_) (fun _ => ?_)
  · refine sm_gI w tx0 (by decide) (fun v1 => ?_)
    exact sm_X17_flat_166 (k80 := k80) (j80 := j80) hk80 w tx0
  · refine sm_gI w tx0 (by decide) (fun v2 => ?_)
    refine sm_gJ w tx0 (by decide) (fun v3 => ?_)
    refine sm_cl w (sm_X17_down w.1) (fun r4 h2 e w2 => ?_)
    have hF2 : sv_FP h2 = F := by rw [ro_X17_down e]; exact hF
    clear e w hF
    have hF := hF2
    have w := w2
    clear hF2 w2
    exact sm_X17_flat_166 (k80 := k80) (j80 := j80) hk80 w tx0
theorem sm_X17_flat_132 {h0 : sv_H} {k80 : Nat → Int32 → Int32 → Int32 → Int32 → Int32 → Int64 → Int32 → sv_H → Option (Unit × sv_H)} {j80 : Nat → Int32 → Int32 → Int32 → Int32 → Int32 → Int64 → Int32 → vt_S → Option (Unit × vt_S)} (hk80 : ∀ {x0 : Nat} {x2 : Int32} {x3 : Int32} {x4 : Int32} {x5 : Int32} {x6 : Int32} {x7 : Int64} {x9 : Int32} {h : sv_H}, vt_W h0 h → sv_K h0 x0 = 18 → vt_sm h0 (k80 x0 x2 x3 x4 x5 x6 x7 x9 h) (j80 x0 x2 x3 x4 x5 x6 x7 x9 (vt_ab h))) {x0 : Nat} {x2 : Int32} {x3 : Int32} {x4 : Int32} {x5 : Int32} {x6 : Int32} {x7 : Int64} {x9 : Int32} {x10 : Int64} {h : sv_H} (w : vt_W h0 h) (tx0 : sv_K h0 x0 = 18) : vt_sm h0 (fn_X17_flat_132 k80 x0 x2 x3 x4 x5 x6 x7 x9 x10 h) (ab_X17_flat_132 j80 x0 x2 x3 x4 x5 x6 x7 x9 x10 (vt_ab h)) := by
  unfold fn_X17_flat_132 ab_X17_flat_132
  obtain ⟨F, hF⟩ : ∃ F, sv_FP h = F := ⟨_, rfl⟩
  exact sm_X17_flat_133 (k80 := k80) (j80 := j80) hk80 w tx0
theorem sm_X17_flat_128 {h0 : sv_H} {k80 : Nat → Int32 → Int32 → Int32 → Int32 → Int32 → Int64 → Int32 → sv_H → Option (Unit × sv_H)} {j80 : Nat → Int32 → Int32 → Int32 → Int32 → Int32 → Int64 → Int32 → vt_S → Option (Unit × vt_S)} (hk80 : ∀ {x0 : Nat} {x2 : Int32} {x3 : Int32} {x4 : Int32} {x5 : Int32} {x6 : Int32} {x7 : Int64} {x9 : Int32} {h : sv_H}, vt_W h0 h → sv_K h0 x0 = 18 → vt_sm h0 (k80 x0 x2 x3 x4 x5 x6 x7 x9 h) (j80 x0 x2 x3 x4 x5 x6 x7 x9 (vt_ab h))) {x0 : Nat} {x2 : Int32} {x3 : Int32} {x4 : Int32} {x5 : Int32} {x6 : Int32} {x7 : Int64} {x9 : Int32} {x10 : Int64} {h : sv_H} (w : vt_W h0 h) (tx0 : sv_K h0 x0 = 18) : vt_sm h0 (fn_X17_flat_128 k80 x0 x2 x3 x4 x5 x6 x7 x9 x10 h) (ab_X17_flat_128 j80 x0 x2 x3 x4 x5 x6 x7 x9 x10 (vt_ab h)) := by
  unfold fn_X17_flat_128 ab_X17_flat_128
  obtain ⟨F, hF⟩ : ∃ F, sv_FP h = F := ⟨_, rfl⟩
  exact sm_X17_flat_133 (k80 := k80) (j80 := j80) hk80 w tx0
theorem sm_X17_flat_114 {h0 : sv_H} {k80 : Nat → Int32 → Int32 → Int32 → Int32 → Int32 → Int64 → Int32 → sv_H → Option (Unit × sv_H)} {j80 : Nat → Int32 → Int32 → Int32 → Int32 → Int32 → Int64 → Int32 → vt_S → Option (Unit × vt_S)} (hk80 : ∀ {x0 : Nat} {x2 : Int32} {x3 : Int32} {x4 : Int32} {x5 : Int32} {x6 : Int32} {x7 : Int64} {x9 : Int32} {h : sv_H}, vt_W h0 h → sv_K h0 x0 = 18 → vt_sm h0 (k80 x0 x2 x3 x4 x5 x6 x7 x9 h) (j80 x0 x2 x3 x4 x5 x6 x7 x9 (vt_ab h))) {x0 : Nat} {x2 : Int32} {x3 : Int32} {x4 : Int32} {x5 : Int32} {x6 : Int32} {x7 : Int64} {x9 : Int32} {x10 : Int64} {h : sv_H} (w : vt_W h0 h) (tx0 : sv_K h0 x0 = 18) : vt_sm h0 (fn_X17_flat_114 k80 x0 x2 x3 x4 x5 x6 x7 x9 x10 h) (ab_X17_flat_114 j80 x0 x2 x3 x4 x5 x6 x7 x9 x10 (vt_ab h)) := by
  unfold fn_X17_flat_114 ab_X17_flat_114
  obtain ⟨F, hF⟩ : ∃ F, sv_FP h = F := ⟨_, rfl⟩
  refine sm_if (fun _ => ?_) (fun _ => ?_)
  · exact sm_X17_flat_132 (k80 := k80) (j80 := j80) hk80 w tx0
  · refine sm_if (fun _ => ?_) (fun _ => ?_)
    · exact sm_X17_flat_132 (k80 := k80) (j80 := j80) hk80 w tx0
    · exact sm_X17_flat_128 (k80 := k80) (j80 := j80) hk80 w tx0
theorem sm_X17_flat_80b {h0 : sv_H} {k80 : Nat → Int32 → Int32 → Int32 → Int32 → Int32 → Int64 → Int32 → sv_H → Option (Unit × sv_H)} {j80 : Nat → Int32 → Int32 → Int32 → Int32 → Int32 → Int64 → Int32 → vt_S → Option (Unit × vt_S)} (hk80 : ∀ {x0 : Nat} {x2 : Int32} {x3 : Int32} {x4 : Int32} {x5 : Int32} {x6 : Int32} {x7 : Int64} {x9 : Int32} {h : sv_H}, vt_W h0 h → sv_K h0 x0 = 18 → vt_sm h0 (k80 x0 x2 x3 x4 x5 x6 x7 x9 h) (j80 x0 x2 x3 x4 x5 x6 x7 x9 (vt_ab h))) {x0 : Nat} {x2 : Int32} {x3 : Int32} {x4 : Int32} {x5 : Int32} {x6 : Int32} {x7 : Int64} {x9 : Int32} {h : sv_H} (w : vt_W h0 h) (tx0 : sv_K h0 x0 = 18) : vt_sm h0 (fn_X17_flat_80b k80 x0 x2 x3 x4 x5 x6 x7 x9 h) (ab_X17_flat_80b j80 x0 x2 x3 x4 x5 x6 x7 x9 (vt_ab h)) := by
  unfold fn_X17_flat_80b ab_X17_flat_80b
  obtain ⟨F, hF⟩ : ∃ F, sv_FP h = F := ⟨_, rfl⟩
  refine sm_if (fun _ => ?_) (fun _ => ?_)
  · exact sm_rt w
  · refine sm_if (fun _ => ?_) (fun _ => ?_)
    · exact sm_X17_flat_114 (k80 := k80) (j80 := j80) hk80 w tx0
    · refine sm_if (fun _ => ?_) (fun _ => ?_)
      · exact sm_X17_flat_128 (k80 := k80) (j80 := j80) hk80 w tx0
      · exact sm_X17_flat_114 (k80 := k80) (j80 := j80) hk80 w tx0
theorem sm_X17_flat_80 {h0 : sv_H} : ∀ (n : Nat) {x0 : Nat} {x2 : Int32} {x3 : Int32} {x4 : Int32} {x5 : Int32} {x6 : Int32} {x7 : Int64} {x9 : Int32} {h : sv_H}, vt_W h0 h → sv_K h0 x0 = 18 → vt_sm h0 (fn_X17_flat_80 n x0 x2 x3 x4 x5 x6 x7 x9 h) (ab_X17_flat_80 n x0 x2 x3 x4 x5 x6 x7 x9 (vt_ab h)) := by
  intro n
  induction n with
  | zero => intro x0 x2 x3 x4 x5 x6 x7 x9 h w tx0; exact sm_no
  | succ n ih => intro x0 x2 x3 x4 x5 x6 x7 x9 h w tx0; exact sm_X17_flat_80b (k80 := fn_X17_flat_80 n) (j80 := ab_X17_flat_80 n) (fun w tx0 => ih w tx0) w tx0
theorem sm_X17_flat_69 {h0 : sv_H} {x0 : Nat} {x1 : Int32} {x2 : Int32} {x3 : Int32} {x4 : Int32} {x5 : Int32} {x6 : Int32} {s0 : Int32} {h : sv_H} (w : vt_W h0 h) (tx0 : sv_K h0 x0 = 18) : vt_sm h0 (fn_X17_flat_69 x0 x1 x2 x3 x4 x5 x6 s0 h) (ab_X17_flat_69 x0 x1 x2 x3 x4 x5 x6 s0 (vt_ab h)) := by
  unfold fn_X17_flat_69 ab_X17_flat_69
  obtain ⟨F, hF⟩ : ∃ F, sv_FP h = F := ⟨_, rfl⟩
  refine sm_cl w (sm_X17_eye w.1 (w.k tx0 (by decide))) (fun r1 h2 e w2 => ?_)
  have hF2 : sv_FP h2 = F := by rw [ro_X17_eye e]; exact hF
  clear e w hF
  have hF := hF2
  have w := w2
  clear hF2 w2
  exact sm_X17_flat_80 sv_fuel w tx0
theorem sm_X17_flat_39 {h0 : sv_H} {x0 : Nat} {x1 : Int32} {x2 : Int32} {x3 : Int32} {x4 : Int32} {x5 : Int32} {s0 : Int32} {h : sv_H} (w : vt_W h0 h) (tx0 : sv_K h0 x0 = 18) : vt_sm h0 (fn_X17_flat_39 x0 x1 x2 x3 x4 x5 s0 h) (ab_X17_flat_39 x0 x1 x2 x3 x4 x5 s0 (vt_ab h)) := by
  unfold fn_X17_flat_39 ab_X17_flat_39
  obtain ⟨F, hF⟩ : ∃ F, sv_FP h = F := ⟨_, rfl⟩
  refine sm_if (fun _ => ?_) (fun _ => ?_)
  · refine sm_gP w tx0 tk_1803 rfl (fun v4 tv4 => ?_)
    refine sm_gA w hF tv4 tk_1409 (by decide) (fun v5 av5 => ?_)
    refine sm_lI w hF tv4 av5 tk_1409 (fun _ => ?_)
    exact sm_X17_flat_69 w tx0
  · refine sm_gP w tx0 tk_1803 rfl (fun v1 tv1 => ?_)
    refine sm_gA w hF tv1 tk_1408 (by decide) (fun v2 av2 => ?_)
    refine sm_lI w hF tv1 av2 tk_1408 (fun _ => ?_)
    exact sm_X17_flat_69 w tx0
theorem sm_X17_flat_38 {h0 : sv_H} {x0 : Nat} {x1 : Int32} {x2 : Int32} {x3 : Int32} {x4 : Int32} {x5 : Int32} {h : sv_H} (w : vt_W h0 h) (tx0 : sv_K h0 x0 = 18) : vt_sm h0 (fn_X17_flat_38 x0 x1 x2 x3 x4 x5 h) (ab_X17_flat_38 x0 x1 x2 x3 x4 x5 (vt_ab h)) := by
  unfold fn_X17_flat_38 ab_X17_flat_38
  obtain ⟨F, hF⟩ : ∃ F, sv_FP h = F := ⟨_, rfl⟩
  exact sm_X17_flat_39 w tx0
theorem sm_X17_flat_16 {h0 : sv_H} {x0 : Nat} {x1 : Int32} {x2 : Int32} {x3 : Int32} {x4 : Int32} {s0 : Nat} {s1 : Int32} {s2 : Int32} {h : sv_H} (w : vt_W h0 h) (tx0 : sv_K h0 x0 = 18) (ts0 : sv_K h0 s0 = 15) : vt_sm h0 (fn_X17_flat_16 x0 x1 x2 x3 x4 s0 s1 s2 h) (ab_X17_flat_16 x0 x1 x2 x3 x4 s0 s1 s2 (vt_ab h)) := by
  unfold fn_X17_flat_16 ab_X17_flat_16
  obtain ⟨F, hF⟩ : ∃ F, sv_FP h = F := ⟨_, rfl⟩
  refine sm_cl w (sm_X14_sector w.1 (w.k ts0 (by decide))) (fun r1 h2 e w2 => ?_)
  have hF2 : sv_FP h2 = F := by rw [ro_X14_sector e]; exact hF
  clear e w hF
  have hF := hF2
  have w := w2
  clear hF2 w2
  refine sm_if (fun _ => ?_) (fun _ => ?_)
  · refine sm_if (fun _ => ?_) (fun _ => ?_)
    · exact sm_X17_flat_39 w tx0
    · exact sm_X17_flat_38 w tx0
  · exact sm_X17_flat_38 w tx0
theorem sm_X17_flat_0 {h0 : sv_H} {x0 : Nat} {x1 : Int32} {x2 : Int32} {x3 : Int32} {x4 : Int32} {h : sv_H} (w : vt_W h0 h) (tx0 : sv_K h0 x0 = 18) : vt_sm h0 (fn_X17_flat x0 x1 x2 x3 x4 h) (ab_X17_flat x0 x1 x2 x3 x4 (vt_ab h)) := by
  unfold fn_X17_flat ab_X17_flat
  obtain ⟨F, hF⟩ : ∃ F, sv_FP h = F := ⟨_, rfl⟩
  refine sm_kd w tx0 (by decide) ?_
  refine sm_gP w tx0 tk_1801 rfl (fun v1 tv1 => ?_)
  refine sm_if (fun _ => ?_) (fun _ => ?_)
  · exact sm_X17_flat_16 w tx0 tv1
  · exact sm_X17_flat_16 w tx0 tv1
theorem sm_X17_flat {x0 : Nat} {x1 : Int32} {x2 : Int32} {x3 : Int32} {x4 : Int32} {h : sv_H} (g : vt_G h) (tx0 : sv_K h x0 = 18) : vt_sm h (fn_X17_flat x0 x1 x2 x3 x4 h) (ab_X17_flat x0 x1 x2 x3 x4 (vt_ab h)) := sm_X17_flat_0 ⟨g, vt_ko.refl h⟩ tx0

theorem sm_X17_part_393b {h0 : sv_H} {k393 : Nat → Int32 → Int32 → Int32 → Int32 → Int32 → Int64 → Int32 → Int32 → sv_H → Option (Unit × sv_H)} {j393 : Nat → Int32 → Int32 → Int32 → Int32 → Int32 → Int64 → Int32 → Int32 → vt_S → Option (Unit × vt_S)} (hk393 : ∀ {x0 : Nat} {x2 : Int32} {x3 : Int32} {x4 : Int32} {x7 : Int32} {x11 : Int32} {x18 : Int64} {x20 : Int32} {x21 : Int32} {h : sv_H}, vt_W h0 h → sv_K h0 x0 = 18 → vt_sm h0 (k393 x0 x2 x3 x4 x7 x11 x18 x20 x21 h) (j393 x0 x2 x3 x4 x7 x11 x18 x20 x21 (vt_ab h))) {x0 : Nat} {x2 : Int32} {x3 : Int32} {x4 : Int32} {x7 : Int32} {x11 : Int32} {x18 : Int64} {x20 : Int32} {x21 : Int32} {h : sv_H} (w : vt_W h0 h) (tx0 : sv_K h0 x0 = 18) : vt_sm h0 (fn_X17_part_393b k393 x0 x2 x3 x4 x7 x11 x18 x20 x21 h) (ab_X17_part_393b j393 x0 x2 x3 x4 x7 x11 x18 x20 x21 (vt_ab h)) := by
  unfold fn_X17_part_393b ab_X17_part_393b
  obtain ⟨F, hF⟩ : ∃ F, sv_FP h = F := ⟨_, rfl⟩
  refine sm_if (fun _ => ?_) (fun _ => ?_)
  · exact sm_rt w
  · refine sm_cl w (sm_X17_eye w.1 (w.k tx0 (by decide))) (fun r1 h2 e w2 => ?_)
    have hF2 : sv_FP h2 = F := by rw [ro_X17_eye e]; exact hF
    clear e w hF
    have hF := hF2
    have w := w2
    clear hF2 w2
    refine sm_gJ w tx0 (by decide) (fun v3 => ?_)
    refine sm_gJ w tx0 (by decide) (fun v4 => ?_)
    refine sm_cl w (sm_X17_down w.1) (fun r5 h2 e w2 => ?_)
    have hF2 : sv_FP h2 = F := by rw [ro_X17_down e]; exact hF
    clear e w hF
    have hF := hF2
    have w := w2
    clear hF2 w2
    refine sm_gA w hF tx0 tk_1824 (by decide) (fun v7 av7 => ?_)
    refine sm_sI w hF tx0 av7 tk_1824 (fun h w hF => ?_)
    refine sm_gA w hF tx0 tk_1825 (by decide) (fun v9 av9 => ?_)
    refine sm_cl w (sm_X17_wallPart w.1 (w.k tx0 (by decide))) (fun r10 h2 e w2 => ?_)
    have hF2 : sv_FP h2 = F := by rw [ro_X17_wallPart e]; exact hF
    clear e w hF
    have hF := hF2
    have w := w2
    clear hF2 w2
    refine sm_cl w (sm_X17_texel w.1 (w.k tx0 (by decide))) (fun r12 h2 e w2 => ?_)
    have hF2 : sv_FP h2 = F := by rw [ro_X17_texel e]; exact hF
    clear e w hF
    have hF := hF2
    have w := w2
    clear hF2 w2
    refine sm_sI w hF tx0 av9 tk_1825 (fun h w hF => ?_)
    exact hk393 w tx0
theorem sm_X17_part_393 {h0 : sv_H} : ∀ (n : Nat) {x0 : Nat} {x2 : Int32} {x3 : Int32} {x4 : Int32} {x7 : Int32} {x11 : Int32} {x18 : Int64} {x20 : Int32} {x21 : Int32} {h : sv_H}, vt_W h0 h → sv_K h0 x0 = 18 → vt_sm h0 (fn_X17_part_393 n x0 x2 x3 x4 x7 x11 x18 x20 x21 h) (ab_X17_part_393 n x0 x2 x3 x4 x7 x11 x18 x20 x21 (vt_ab h)) := by
  intro n
  induction n with
  | zero => intro x0 x2 x3 x4 x7 x11 x18 x20 x21 h w tx0; exact sm_no
  | succ n ih => intro x0 x2 x3 x4 x7 x11 x18 x20 x21 h w tx0; exact sm_X17_part_393b (k393 := fn_X17_part_393 n) (j393 := ab_X17_part_393 n) (fun w tx0 => ih w tx0) w tx0
theorem sm_X17_part_355 {h0 : sv_H} {x0 : Nat} {x1 : Int32} {x2 : Int32} {x3 : Int32} {x4 : Int32} {x5 : Int32} {x7 : Int32} {x11 : Int32} {s0 : Int64} {h : sv_H} (w : vt_W h0 h) (tx0 : sv_K h0 x0 = 18) : vt_sm h0 (fn_X17_part_355 x0 x1 x2 x3 x4 x5 x7 x11 s0 h) (ab_X17_part_355 x0 x1 x2 x3 x4 x5 x7 x11 s0 (vt_ab h)) := by
  unfold fn_X17_part_355 ab_X17_part_355
  obtain ⟨F, hF⟩ : ∃ F, sv_FP h = F := ⟨_, rfl⟩
  refine sm_cl w (sm_X17_wallPart w.1 (w.k tx0 (by decide))) (fun r1 h2 e w2 => ?_)
  have hF2 : sv_FP h2 = F := by rw [ro_X17_wallPart e]; exact hF
  clear e w hF
  have hF := hF2
  have w := w2
  clear hF2 w2
  refine sm_gJ w tx0 (by decide) (fun v3 => ?_)
  refine sm_gJ w tx0 (by decide) (fun v4 => ?_)
  refine sm_cl w (sm_X17_down w.1) (fun r5 h2 e w2 => ?_)
  have hF2 : sv_FP h2 = F := by rw [ro_X17_down e]; exact hF
  clear e w hF
  have hF := hF2
  have w := w2
  clear hF2 w2
  refine sm_cl w (sm_X17_shade w.1 (w.k tx0 (by decide))) (fun r7 h2 e w2 => ?_)
  have hF2 : sv_FP h2 = F := by rw [ro_X17_shade e]; exact hF
  clear e w hF
  have hF := hF2
  have w := w2
  clear hF2 w2
  exact sm_X17_part_393 sv_fuel w tx0
theorem sm_X17_part_305 {h0 : sv_H} {x0 : Nat} {x1 : Int32} {x2 : Int32} {x3 : Int32} {x4 : Int32} {x5 : Int32} {x7 : Int32} {x11 : Int32} {s0 : Int64} {h : sv_H} (w : vt_W h0 h) (tx0 : sv_K h0 x0 = 18) : vt_sm h0 (fn_X17_part_305 x0 x1 x2 x3 x4 x5 x7 x11 s0 h) (ab_X17_part_305 x0 x1 x2 x3 x4 x5 x7 x11 s0 (vt_ab h)) := by
  unfold fn_X17_part_305 ab_X17_part_305
  obtain ⟨F, hF⟩ : ∃ F, sv_FP h = F := ⟨_, rfl⟩
  refine sm_gI w tx0 (by decide) (fun v1 => ?_)
  refine sm_if (fun _ => ?_) (fun _ => ?_)
  · refine sm_gJ w tx0 (by decide) (fun v2 => ?_)
    refine sm_gJ w tx0 (by decide) (fun v3 => ?_)
    refine sm_gJ w tx0 (by decide) (fun v4 => ?_)
    refine sm_cl w (sm_X17_down w.1) (fun r5 h2 e w2 => ?_)
    have hF2 : sv_FP h2 = F := by rw [ro_X17_down e]; exact hF
    clear e w hF
    have hF := hF2
    have w := w2
    clear hF2 w2
    exact sm_X17_part_355 w tx0
  · refine sm_gJ w tx0 (by decide) (fun v7 => ?_)
    refine sm_gJ w tx0 (by decide) (fun v8 => ?_)
    refine sm_gJ w tx0 (by decide) (fun v9 => ?_)
    refine sm_cl w (sm_X17_down w.1) (fun r10 h2 e w2 => ?_)
    have hF2 : sv_FP h2 = F := by rw [ro_X17_down e]; exact hF
    clear e w hF
    have hF := hF2
    have w := w2
    clear hF2 w2
    exact sm_X17_part_355 w tx0
theorem sm_X17_part_288 {h0 : sv_H} {x0 : Nat} {x1 : Int32} {x2 : Int32} {x3 : Int32} {x4 : Int32} {x5 : Int32} {x7 : Int32} {x11 : Int32} {x12 : Int64} {s0 : Int64} {h : sv_H} (w : vt_W h0 h) (tx0 : sv_K h0 x0 = 18) : vt_sm h0 (fn_X17_part_288 x0 x1 x2 x3 x4 x5 x7 x11 x12 s0 h) (ab_X17_part_288 x0 x1 x2 x3 x4 x5 x7 x11 x12 s0 (vt_ab h)) := by
  unfold fn_X17_part_288 ab_X17_part_288
  obtain ⟨F, hF⟩ : ∃ F, sv_FP h = F := ⟨_, rfl⟩
  refine sm_if (fun _ => ?_) (fun _ => ?_)
  · exact sm_X17_part_305 w tx0
  · exact sm_X17_part_305 w tx0
theorem sm_X17_part_271 {h0 : sv_H} {x0 : Nat} {x1 : Int32} {x2 : Int32} {x3 : Int32} {x4 : Int32} {x5 : Int32} {x7 : Int32} {x11 : Int32} {x14 : Int64} {s0 : Int64} {h : sv_H} (w : vt_W h0 h) (tx0 : sv_K h0 x0 = 18) : vt_sm h0 (fn_X17_part_271 x0 x1 x2 x3 x4 x5 x7 x11 x14 s0 h) (ab_X17_part_271 x0 x1 x2 x3 x4 x5 x7 x11 x14 s0 (vt_ab h)) := by
  unfold fn_X17_part_271 ab_X17_part_271
  obtain ⟨F, hF⟩ : ∃ F, sv_FP h = F := ⟨_, rfl⟩
  refine sm_if (fun _ => ?_) (fun _ => ?_)
  · exact sm_X17_part_288 w tx0
  · exact sm_X17_part_288 w tx0
theorem sm_X17_part_206 {h0 : sv_H} {x0 : Nat} {x1 : Int32} {x2 : Int32} {x3 : Int32} {x4 : Int32} {x5 : Int32} {x7 : Int32} {s0 : Int32} {h : sv_H} (w : vt_W h0 h) (tx0 : sv_K h0 x0 = 18) : vt_sm h0 (fn_X17_part_206 x0 x1 x2 x3 x4 x5 x7 s0 h) (ab_X17_part_206 x0 x1 x2 x3 x4 x5 x7 s0 (vt_ab h)) := by
  unfold fn_X17_part_206 ab_X17_part_206
  obtain ⟨F, hF⟩ : ∃ F, sv_FP h = F := ⟨_, rfl⟩
  refine sm_gP w tx0 tk_1804 rfl (fun v1 tv1 => ?_)
  refine sm_gA w hF tv1 tk_1703 (by decide) (fun v2 av2 => ?_)
  refine sm_lI w hF tv1 av2 tk_1703 (fun _ => ?_)
  refine sm_gP w tx0 tk_1804 rfl (fun v4 tv4 => ?_)
  refine sm_gA w hF tv4 tk_1701 (by decide) (fun v5 av5 => ?_)
  refine sm_lI w hF tv4 av5 tk_1701 (fun _ => ?_)
  refine sm_gP w tx0 tk_1804 rfl (fun v7 tv7 => ?_)
  refine sm_gA w hF tv7 tk_1704 (by decide) (fun v8 av8 => ?_)
  refine sm_lI w hF tv7 av8 tk_1704 (fun _ => ?_)
  refine sm_gP w tx0 tk_1804 rfl (fun v10 tv10 => ?_)
  refine sm_gA w hF tv10 tk_1702 (by decide) (fun v11 av11 => ?_)
  refine sm_lI w hF tv10 av11 tk_1702 (fun _ => ?_)
  refine sm_if (fun _ => ?_) (fun _ => ?_)
  · exact sm_X17_part_271 w tx0
  · exact sm_X17_part_271 w tx0
theorem sm_X17_part_110 {h0 : sv_H} {x0 : Nat} {x1 : Int32} {x2 : Int32} {x3 : Int32} {x4 : Int32} {x5 : Int32} {x6 : Int32} {x7 : Int32} {x8 : Int32} {s0 : Int32} {h : sv_H} (w : vt_W h0 h) (tx0 : sv_K h0 x0 = 18) : vt_sm h0 (fn_X17_part_110 x0 x1 x2 x3 x4 x5 x6 x7 x8 s0 h) (ab_X17_part_110 x0 x1 x2 x3 x4 x5 x6 x7 x8 s0 (vt_ab h)) := by
  unfold fn_X17_part_110 ab_X17_part_110
  obtain ⟨F, hF⟩ : ∃ F, sv_FP h = F := ⟨_, rfl⟩
  refine sm_gP w tx0 tk_1803 rfl (fun v1 tv1 => ?_)
  refine sm_gA w hF tv1 tk_1409 (by decide) (fun v2 av2 => ?_)
  refine sm_lI w hF tv1 av2 tk_1409 (fun _ => ?_)
  refine sm_if (fun _ => ?_) (fun _ => ?_)
  · refine sm_if (fun _ => ?_) (fun _ => ?_)
    · refine sm_gP w tx0 tk_1803 rfl (fun v10 tv10 => ?_)
      refine sm_gA w hF tv10 tk_1409 (by decide) (fun v11 av11 => ?_)
      refine sm_lI w hF tv10 av11 tk_1409 (fun _ => ?_)
      exact sm_X17_part_206 w tx0
    · exact sm_X17_part_206 w tx0
  · refine sm_if (fun _ => ?_) (fun _ => ?_)
    · refine sm_if (fun _ => ?_) (fun _ => ?_)
      · exact sm_X17_part_206 w tx0
      · refine sm_gP w tx0 tk_1803 rfl (fun v7 tv7 => ?_)
        refine sm_gA w hF tv7 tk_1408 (by decide) (fun v8 av8 => ?_)
        refine sm_lI w hF tv7 av8 tk_1408 (fun _ => ?_)
        exact sm_X17_part_206 w tx0
    · refine sm_if (fun _ => ?_) (fun _ => ?_)
      · refine sm_gP w tx0 tk_1803 rfl (fun v4 tv4 => ?_)
        refine sm_gA w hF tv4 tk_1408 (by decide) (fun v5 av5 => ?_)
        refine sm_lI w hF tv4 av5 tk_1408 (fun _ => ?_)
        exact sm_X17_part_206 w tx0
      · exact sm_X17_part_206 w tx0
theorem sm_X17_part_101 {h0 : sv_H} {x0 : Nat} {x1 : Int32} {x2 : Int32} {x3 : Int32} {x4 : Int32} {x5 : Int32} {x6 : Int32} {x7 : Int32} {x8 : Int32} {s0 : Int32} {s1 : Int32} {h : sv_H} (w : vt_W h0 h) (tx0 : sv_K h0 x0 = 18) : vt_sm h0 (fn_X17_part_101 x0 x1 x2 x3 x4 x5 x6 x7 x8 s0 s1 h) (ab_X17_part_101 x0 x1 x2 x3 x4 x5 x6 x7 x8 s0 s1 (vt_ab h)) := by
  unfold fn_X17_part_101 ab_X17_part_101
  obtain ⟨F, hF⟩ : ∃ F, sv_FP h = F := ⟨_, rfl⟩
  refine sm_if (fun _ => ?_) (fun _ => ?_)
  · exact sm_X17_part_110 w tx0
  · exact sm_X17_part_110 w tx0
theorem sm_X17_part_81 {h0 : sv_H} {x0 : Nat} {x1 : Int32} {x2 : Int32} {x3 : Int32} {x4 : Int32} {x5 : Int32} {x6 : Int32} {x7 : Int32} {s0 : Int32} {h : sv_H} (w : vt_W h0 h) (tx0 : sv_K h0 x0 = 18) : vt_sm h0 (fn_X17_part_81 x0 x1 x2 x3 x4 x5 x6 x7 s0 h) (ab_X17_part_81 x0 x1 x2 x3 x4 x5 x6 x7 s0 (vt_ab h)) := by
  unfold fn_X17_part_81 ab_X17_part_81
  obtain ⟨F, hF⟩ : ∃ F, sv_FP h = F := ⟨_, rfl⟩
  refine sm_cl w (sm_X17_wallPart w.1 (w.k tx0 (by decide))) (fun r1 h2 e w2 => ?_)
  have hF2 : sv_FP h2 = F := by rw [ro_X17_wallPart e]; exact hF
  clear e w hF
  have hF := hF2
  have w := w2
  clear hF2 w2
  refine sm_if (fun _ => ?_) (fun _ => ?_)
  · exact sm_X17_part_101 w tx0
  · exact sm_X17_part_101 w tx0
theorem sm_X17_part_53 {h0 : sv_H} {x0 : Nat} {x1 : Int32} {x2 : Int32} {x3 : Int32} {x4 : Int32} {x5 : Int32} {x6 : Int32} {s0 : Nat} {s1 : Int32} {s2 : Int32} {s3 : Int32} {h : sv_H} (w : vt_W h0 h) (tx0 : sv_K h0 x0 = 18) (ts0 : sv_K h0 s0 = 18) : vt_sm h0 (fn_X17_part_53 x0 x1 x2 x3 x4 x5 x6 s0 s1 s2 s3 h) (ab_X17_part_53 x0 x1 x2 x3 x4 x5 x6 s0 s1 s2 s3 (vt_ab h)) := by
  unfold fn_X17_part_53 ab_X17_part_53
  obtain ⟨F, hF⟩ : ∃ F, sv_FP h = F := ⟨_, rfl⟩
  refine sm_cl w (sm_X17_wallPart w.1 (w.k ts0 (by decide))) (fun r1 h2 e w2 => ?_)
  have hF2 : sv_FP h2 = F := by rw [ro_X17_wallPart e]; exact hF
  clear e w hF
  have hF := hF2
  have w := w2
  clear hF2 w2
  refine sm_if (fun _ => ?_) (fun _ => ?_)
  · exact sm_X17_part_81 w tx0
  · refine sm_gP w tx0 tk_1801 rfl (fun v3 tv3 => ?_)
    refine sm_cl w (sm_X14_texture w.1 (w.k tv3 (by decide))) (fun r4 h2 e w2 => ?_)
    have hF2 : sv_FP h2 = F := by rw [ro_X14_texture e]; exact hF
    clear e w hF
    have hF := hF2
    have w := w2
    clear hF2 w2
    exact sm_X17_part_81 w tx0
theorem sm_X17_part_34 {h0 : sv_H} {x0 : Nat} {x1 : Int32} {x2 : Int32} {x3 : Int32} {x4 : Int32} {x5 : Int32} {x6 : Int32} {s0 : Nat} {s1 : Int32} {s2 : Int32} {h : sv_H} (w : vt_W h0 h) (tx0 : sv_K h0 x0 = 18) (ts0 : sv_K h0 s0 = 18) : vt_sm h0 (fn_X17_part_34 x0 x1 x2 x3 x4 x5 x6 s0 s1 s2 h) (ab_X17_part_34 x0 x1 x2 x3 x4 x5 x6 s0 s1 s2 (vt_ab h)) := by
  unfold fn_X17_part_34 ab_X17_part_34
  obtain ⟨F, hF⟩ : ∃ F, sv_FP h = F := ⟨_, rfl⟩
  refine sm_if (fun _ => ?_) (fun _ => ?_)
  · exact sm_X17_part_53 w tx0 ts0
  · refine sm_if (fun _ => ?_) (fun _ => ?_)
    · exact sm_X17_part_53 w tx0 ts0
    · exact sm_X17_part_53 w tx0 ts0
theorem sm_X17_part_0 {h0 : sv_H} {x0 : Nat} {x1 : Int32} {x2 : Int32} {x3 : Int32} {x4 : Int32} {h : sv_H} (w : vt_W h0 h) (tx0 : sv_K h0 x0 = 18) : vt_sm h0 (fn_X17_part x0 x1 x2 x3 x4 h) (ab_X17_part x0 x1 x2 x3 x4 (vt_ab h)) := by
  unfold fn_X17_part ab_X17_part
  obtain ⟨F, hF⟩ : ∃ F, sv_FP h = F := ⟨_, rfl⟩
  refine sm_kd w tx0 (by decide) ?_
  refine sm_cl w (sm_X17_sideOf w.1 (w.k tx0 (by decide))) (fun r1 h2 e w2 => ?_)
  have hF2 : sv_FP h2 = F := by rw [ro_X17_sideOf e]; exact hF
  clear e w hF
  have hF := hF2
  have w := w2
  clear hF2 w2
  refine sm_cl w (sm_X17_sideOf w.1 (w.k tx0 (by decide))) (fun r3 h2 e w2 => ?_)
  have hF2 : sv_FP h2 = F := by rw [ro_X17_sideOf e]; exact hF
  clear e w hF
  have hF := hF2
  have w := w2
  clear hF2 w2
  refine sm_gI w tx0 (by decide) (fun v5 => ?_)
  refine sm_if (fun _ => ?_) (fun _ => ?_)
  · exact sm_X17_part_34 w tx0 tx0
  · exact sm_X17_part_34 w tx0 tx0
theorem sm_X17_part {x0 : Nat} {x1 : Int32} {x2 : Int32} {x3 : Int32} {x4 : Int32} {h : sv_H} (g : vt_G h) (tx0 : sv_K h x0 = 18) : vt_sm h (fn_X17_part x0 x1 x2 x3 x4 h) (ab_X17_part x0 x1 x2 x3 x4 (vt_ab h)) := sm_X17_part_0 ⟨g, vt_ko.refl h⟩ tx0

theorem sm_X17_column_399 {h0 : sv_H} {h : sv_H} (w : vt_W h0 h) : vt_sm h0 (fn_X17_column_399 h) (ab_X17_column_399 (vt_ab h)) := by
  unfold fn_X17_column_399 ab_X17_column_399
  obtain ⟨F, hF⟩ : ∃ F, sv_FP h = F := ⟨_, rfl⟩
  exact sm_rt w
theorem sm_X17_column_393 {h0 : sv_H} {k113 : Nat → Int32 → Int32 → Int32 → sv_H → Option (Unit × sv_H)} {j113 : Nat → Int32 → Int32 → Int32 → vt_S → Option (Unit × vt_S)} (hk113 : ∀ {x0 : Nat} {x2 : Int32} {x3 : Int32} {x4 : Int32} {h : sv_H}, vt_W h0 h → sv_K h0 x0 = 18 → vt_sm h0 (k113 x0 x2 x3 x4 h) (j113 x0 x2 x3 x4 (vt_ab h))) {x0 : Nat} {x2 : Int32} {x3 : Int32} {x4 : Int32} {h : sv_H} (w : vt_W h0 h) (tx0 : sv_K h0 x0 = 18) : vt_sm h0 (fn_X17_column_393 k113 x0 x2 x3 x4 h) (ab_X17_column_393 j113 x0 x2 x3 x4 (vt_ab h)) := by
  unfold fn_X17_column_393 ab_X17_column_393
  obtain ⟨F, hF⟩ : ∃ F, sv_FP h = F := ⟨_, rfl⟩
  exact hk113 w tx0
theorem sm_X17_column_363 {h0 : sv_H} {k113 : Nat → Int32 → Int32 → Int32 → sv_H → Option (Unit × sv_H)} {j113 : Nat → Int32 → Int32 → Int32 → vt_S → Option (Unit × vt_S)} (hk113 : ∀ {x0 : Nat} {x2 : Int32} {x3 : Int32} {x4 : Int32} {h : sv_H}, vt_W h0 h → sv_K h0 x0 = 18 → vt_sm h0 (k113 x0 x2 x3 x4 h) (j113 x0 x2 x3 x4 (vt_ab h))) {x0 : Nat} {x4 : Int32} {x5 : Int32} {x9 : Int32} {x10 : Int32} {x11 : Int32} {s0 : Int32} {h : sv_H} (w : vt_W h0 h) (tx0 : sv_K h0 x0 = 18) : vt_sm h0 (fn_X17_column_363 k113 x0 x4 x5 x9 x10 x11 s0 h) (ab_X17_column_363 j113 x0 x4 x5 x9 x10 x11 s0 (vt_ab h)) := by
  unfold fn_X17_column_363 ab_X17_column_363
  obtain ⟨F, hF⟩ : ∃ F, sv_FP h = F := ⟨_, rfl⟩
  refine sm_cl w (sm_X17_part w.1 (w.k tx0 (by decide))) (fun _ h2 e w2 => ?_)
  have hF2 : sv_FP h2 = F := (ow_X17_part sv_clT trivial e).2.1.1.trans hF
  clear e w hF
  have hF := hF2
  have w := w2
  clear hF2 w2
  refine sm_cl w (sm_X17_part w.1 (w.k tx0 (by decide))) (fun _ h2 e w2 => ?_)
  have hF2 : sv_FP h2 = F := (ow_X17_part sv_clT trivial e).2.1.1.trans hF
  clear e w hF
  have hF := hF2
  have w := w2
  clear hF2 w2
  exact sm_X17_column_393 (k113 := k113) (j113 := j113) hk113 w tx0
theorem sm_X17_column_315 {h0 : sv_H} {k113 : Nat → Int32 → Int32 → Int32 → sv_H → Option (Unit × sv_H)} {j113 : Nat → Int32 → Int32 → Int32 → vt_S → Option (Unit × vt_S)} (hk113 : ∀ {x0 : Nat} {x2 : Int32} {x3 : Int32} {x4 : Int32} {h : sv_H}, vt_W h0 h → sv_K h0 x0 = 18 → vt_sm h0 (k113 x0 x2 x3 x4 h) (j113 x0 x2 x3 x4 (vt_ab h))) {x0 : Nat} {x4 : Int32} {x5 : Int32} {x7 : Int32} {x8 : Int32} {x9 : Int32} {x10 : Int32} {s0 : Int32} {h : sv_H} (w : vt_W h0 h) (tx0 : sv_K h0 x0 = 18) : vt_sm h0 (fn_X17_column_315 k113 x0 x4 x5 x7 x8 x9 x10 s0 h) (ab_X17_column_315 j113 x0 x4 x5 x7 x8 x9 x10 s0 (vt_ab h)) := by
  unfold fn_X17_column_315 ab_X17_column_315
  obtain ⟨F, hF⟩ : ∃ F, sv_FP h = F := ⟨_, rfl⟩
  refine sm_gP w tx0 tk_1803 rfl (fun v1 tv1 => ?_)
  refine sm_gA w hF tv1 tk_1408 (by decide) (fun v2 av2 => ?_)
  refine sm_lI w hF tv1 av2 tk_1408 (fun _ => ?_)
  refine sm_gP w tx0 tk_1803 rfl (fun v4 tv4 => ?_)
  refine sm_gA w hF tv4 tk_1408 (by decide) (fun v5 av5 => ?_)
  refine sm_lI w hF tv4 av5 tk_1408 (fun _ => ?_)
  refine sm_if (fun _ => ?_) (fun _ => ?_)
  · exact sm_X17_column_363 (k113 := k113) (j113 := j113) hk113 w tx0
  · refine sm_gP w tx0 tk_1803 rfl (fun v7 tv7 => ?_)
    refine sm_gA w hF tv7 tk_1408 (by decide) (fun v8 av8 => ?_)
    refine sm_lI w hF tv7 av8 tk_1408 (fun _ => ?_)
    refine sm_cl w (sm_X17_rowOf w.1 (w.k tx0 (by decide))) (fun r10 h2 e w2 => ?_)
    have hF2 : sv_FP h2 = F := by rw [ro_X17_rowOf e]; exact hF
    clear e w hF
    have hF := hF2
    have w := w2
    clear hF2 w2
    exact sm_X17_column_363 (k113 := k113) (j113 := j113) hk113 w tx0
theorem sm_X17_column_113b {h0 : sv_H} {k113 : Nat → Int32 → Int32 → Int32 → sv_H → Option (Unit × sv_H)} {j113 : Nat → Int32 → Int32 → Int32 → vt_S → Option (Unit × vt_S)} (hk113 : ∀ {x0 : Nat} {x2 : Int32} {x3 : Int32} {x4 : Int32} {h : sv_H}, vt_W h0 h → sv_K h0 x0 = 18 → vt_sm h0 (k113 x0 x2 x3 x4 h) (j113 x0 x2 x3 x4 (vt_ab h))) {x0 : Nat} {x2 : Int32} {x3 : Int32} {x4 : Int32} {h : sv_H} (w : vt_W h0 h) (tx0 : sv_K h0 x0 = 18) : vt_sm h0 (fn_X17_column_113b k113 x0 x2 x3 x4 h) (ab_X17_column_113b j113 x0 x2 x3 x4 (vt_ab h)) := by
  unfold fn_X17_column_113b ab_X17_column_113b
  obtain ⟨F, hF⟩ : ∃ F, sv_FP h = F := ⟨_, rfl⟩
  refine sm_gI w tx0 (by decide) (fun v1 => ?_)
  refine sm_if (fun _ => ?_) (fun _ => ?_)
  · exact sm_X17_column_399 w
  · refine sm_if (fun _ => ?_) (fun _ => ?_)
    · exact sm_X17_column_399 w
    · refine sm_gA w hF tx0 tk_1820 (by decide) (fun v2 av2 => ?_)
      refine sm_lI w hF tx0 av2 tk_1820 (fun _ => ?_)
      refine sm_cl w (sm_X17_meets w.1 (w.k tx0 (by decide))) (fun r4 h2 e w2 => ?_)
      have hF2 : sv_FP h2 = F := (ow_X17_meets sv_clT trivial e).2.1.1.trans hF
      clear e w hF
      have hF := hF2
      have w := w2
      clear hF2 w2
      refine sm_cl w (sm_X17_sideOf w.1 (w.k tx0 (by decide))) (fun r6 h2 e w2 => ?_)
      have hF2 : sv_FP h2 = F := by rw [ro_X17_sideOf e]; exact hF
      clear e w hF
      have hF := hF2
      have w := w2
      clear hF2 w2
      refine sm_cl w (sm_X17_sideOf w.1 (w.k tx0 (by decide))) (fun r8 h2 e w2 => ?_)
      have hF2 : sv_FP h2 = F := by rw [ro_X17_sideOf e]; exact hF
      clear e w hF
      have hF := hF2
      have w := w2
      clear hF2 w2
      refine sm_if (fun _ => ?_) (fun _ => ?_)
      · refine sm_gA w hF tx0 tk_1822 (by decide) (fun v10 av10 => ?_)
        refine sm_gI w tx0 (by decide) (fun v11 => ?_)
        refine sm_sI w hF tx0 av10 tk_1822 (fun h w hF => ?_)
        refine sm_gI w tx0 (by decide) (fun v13 => ?_)
        refine sm_pI w hF tx0 (by decide) (fun h w hF => ?_)
        refine sm_gP w tx0 tk_1803 rfl (fun v15 tv15 => ?_)
        refine sm_gA w hF tv15 tk_1409 (by decide) (fun v16 av16 => ?_)
        refine sm_lI w hF tv15 av16 tk_1409 (fun _ => ?_)
        refine sm_cl w (sm_X17_rowOf w.1 (w.k tx0 (by decide))) (fun r18 h2 e w2 => ?_)
        have hF2 : sv_FP h2 = F := by rw [ro_X17_rowOf e]; exact hF
        clear e w hF
        have hF := hF2
        have w := w2
        clear hF2 w2
        refine sm_gP w tx0 tk_1803 rfl (fun v20 tv20 => ?_)
        refine sm_gA w hF tv20 tk_1408 (by decide) (fun v21 av21 => ?_)
        refine sm_lI w hF tv20 av21 tk_1408 (fun _ => ?_)
        refine sm_cl w (sm_X17_rowOf w.1 (w.k tx0 (by decide))) (fun r23 h2 e w2 => ?_)
        have hF2 : sv_FP h2 = F := by rw [ro_X17_rowOf e]; exact hF
        clear e w hF
        have hF := hF2
        have w := w2
        clear hF2 w2
        refine sm_cl w (sm_X17_flat w.1 (w.k tx0 (by decide))) (fun _ h2 e w2 => ?_)
        have hF2 : sv_FP h2 = F := (ow_X17_flat sv_clT trivial e).2.1.1.trans hF
        clear e w hF
        have hF := hF2
        have w := w2
        clear hF2 w2
        refine sm_cl w (sm_X17_flat w.1 (w.k tx0 (by decide))) (fun _ h2 e w2 => ?_)
        have hF2 : sv_FP h2 = F := (ow_X17_flat sv_clT trivial e).2.1.1.trans hF
        clear e w hF
        have hF := hF2
        have w := w2
        clear hF2 w2
        refine sm_if (fun _ => ?_) (fun _ => ?_)
        · refine sm_gP w tx0 tk_1803 rfl (fun v27 tv27 => ?_)
          refine sm_gA w hF tv27 tk_1409 (by decide) (fun v28 av28 => ?_)
          refine sm_lI w hF tv27 av28 tk_1409 (fun _ => ?_)
          refine sm_gP w tx0 tk_1803 rfl (fun v30 tv30 => ?_)
          refine sm_gA w hF tv30 tk_1409 (by decide) (fun v31 av31 => ?_)
          refine sm_lI w hF tv30 av31 tk_1409 (fun _ => ?_)
          refine sm_if (fun _ => ?_) (fun _ => ?_)
          · exact sm_X17_column_315 (k113 := k113) (j113 := j113) hk113 w tx0
          · refine sm_gP w tx0 tk_1803 rfl (fun v33 tv33 => ?_)
            refine sm_gA w hF tv33 tk_1409 (by decide) (fun v34 av34 => ?_)
            refine sm_lI w hF tv33 av34 tk_1409 (fun _ => ?_)
            refine sm_cl w (sm_X17_rowOf w.1 (w.k tx0 (by decide))) (fun r36 h2 e w2 => ?_)
            have hF2 : sv_FP h2 = F := by rw [ro_X17_rowOf e]; exact hF
            clear e w hF
            have hF := hF2
            have w := w2
            clear hF2 w2
            exact sm_X17_column_315 (k113 := k113) (j113 := j113) hk113 w tx0
        · refine sm_cl w (sm_X17_part w.1 (w.k tx0 (by decide))) (fun _ h2 e w2 => ?_)
          have hF2 : sv_FP h2 = F := (ow_X17_part sv_clT trivial e).2.1.1.trans hF
          clear e w hF
          have hF := hF2
          have w := w2
          clear hF2 w2
          exact sm_X17_column_393 (k113 := k113) (j113 := j113) hk113 w tx0
      · exact sm_X17_column_393 (k113 := k113) (j113 := j113) hk113 w tx0
theorem sm_X17_column_113 {h0 : sv_H} : ∀ (n : Nat) {x0 : Nat} {x2 : Int32} {x3 : Int32} {x4 : Int32} {h : sv_H}, vt_W h0 h → sv_K h0 x0 = 18 → vt_sm h0 (fn_X17_column_113 n x0 x2 x3 x4 h) (ab_X17_column_113 n x0 x2 x3 x4 (vt_ab h)) := by
  intro n
  induction n with
  | zero => intro x0 x2 x3 x4 h w tx0; exact sm_no
  | succ n ih => intro x0 x2 x3 x4 h w tx0; exact sm_X17_column_113b (k113 := fn_X17_column_113 n) (j113 := ab_X17_column_113 n) (fun w tx0 => ih w tx0) w tx0
theorem sm_X17_column_81b {h0 : sv_H} {k81 : Nat → Int32 → Int32 → Int32 → sv_H → Option (Unit × sv_H)} {j81 : Nat → Int32 → Int32 → Int32 → vt_S → Option (Unit × vt_S)} (hk81 : ∀ {x0 : Nat} {x2 : Int32} {x3 : Int32} {x4 : Int32} {h : sv_H}, vt_W h0 h → sv_K h0 x0 = 18 → vt_sm h0 (k81 x0 x2 x3 x4 h) (j81 x0 x2 x3 x4 (vt_ab h))) {x0 : Nat} {x2 : Int32} {x3 : Int32} {x4 : Int32} {h : sv_H} (w : vt_W h0 h) (tx0 : sv_K h0 x0 = 18) : vt_sm h0 (fn_X17_column_81b k81 x0 x2 x3 x4 h) (ab_X17_column_81b j81 x0 x2 x3 x4 (vt_ab h)) := by
  unfold fn_X17_column_81b ab_X17_column_81b
  obtain ⟨F, hF⟩ : ∃ F, sv_FP h = F := ⟨_, rfl⟩
  refine sm_if (fun _ => ?_) (fun _ => ?_)
  · exact sm_X17_column_113 sv_fuel w tx0
  · refine sm_gA w hF tx0 tk_1824 (by decide) (fun v1 av1 => ?_)
    refine sm_sI w hF tx0 av1 tk_1824 (fun h w hF => ?_)
    refine sm_gA w hF tx0 tk_1825 (by decide) (fun v3 av3 => ?_)
    refine sm_sI w hF tx0 av3 tk_1825 (fun h w hF => ?_)
    exact hk81 w tx0
theorem sm_X17_column_81 {h0 : sv_H} : ∀ (n : Nat) {x0 : Nat} {x2 : Int32} {x3 : Int32} {x4 : Int32} {h : sv_H}, vt_W h0 h → sv_K h0 x0 = 18 → vt_sm h0 (fn_X17_column_81 n x0 x2 x3 x4 h) (ab_X17_column_81 n x0 x2 x3 x4 (vt_ab h)) := by
  intro n
  induction n with
  | zero => intro x0 x2 x3 x4 h w tx0; exact sm_no
  | succ n ih => intro x0 x2 x3 x4 h w tx0; exact sm_X17_column_81b (k81 := fn_X17_column_81 n) (j81 := ab_X17_column_81 n) (fun w tx0 => ih w tx0) w tx0
theorem sm_X17_column_0 {h0 : sv_H} {x0 : Nat} {x1 : Int32} {h : sv_H} (w : vt_W h0 h) (tx0 : sv_K h0 x0 = 18) : vt_sm h0 (fn_X17_column x0 x1 h) (ab_X17_column x0 x1 (vt_ab h)) := by
  unfold fn_X17_column ab_X17_column
  obtain ⟨F, hF⟩ : ∃ F, sv_FP h = F := ⟨_, rfl⟩
  refine sm_kd w tx0 (by decide) ?_
  refine sm_gI w tx0 (by decide) (fun v1 => ?_)
  refine sm_cl w (sm_X17_cosine w.1) (fun r2 h2 e w2 => ?_)
  have hF2 : sv_FP h2 = F := by rw [ro_X17_cosine e]; exact hF
  clear e w hF
  have hF := hF2
  have w := w2
  clear hF2 w2
  refine sm_gI w tx0 (by decide) (fun v4 => ?_)
  refine sm_cl w (sm_X17_sine w.1) (fun r5 h2 e w2 => ?_)
  have hF2 : sv_FP h2 = F := by rw [ro_X17_sine e]; exact hF
  clear e w hF
  have hF := hF2
  have w := w2
  clear hF2 w2
  refine sm_gI w tx0 (by decide) (fun v7 => ?_)
  refine sm_cl w (sm_X17_sine w.1) (fun r8 h2 e w2 => ?_)
  have hF2 : sv_FP h2 = F := by rw [ro_X17_sine e]; exact hF
  clear e w hF
  have hF := hF2
  have w := w2
  clear hF2 w2
  refine sm_gI w tx0 (by decide) (fun v10 => ?_)
  refine sm_cl w (sm_X17_cosine w.1) (fun r11 h2 e w2 => ?_)
  have hF2 : sv_FP h2 = F := by rw [ro_X17_cosine e]; exact hF
  clear e w hF
  have hF := hF2
  have w := w2
  clear hF2 w2
  refine sm_cl w (sm_X17_gather w.1 (w.k tx0 (by decide))) (fun _ h2 e w2 => ?_)
  have hF2 : sv_FP h2 = F := (ow_X17_gather sv_clT trivial e).2.1.1.trans hF
  clear e w hF
  have hF := hF2
  have w := w2
  clear hF2 w2
  refine sm_pI w hF tx0 (by decide) (fun h w hF => ?_)
  exact sm_X17_column_81 sv_fuel w tx0
theorem sm_X17_column {x0 : Nat} {x1 : Int32} {h : sv_H} (g : vt_G h) (tx0 : sv_K h x0 = 18) : vt_sm h (fn_X17_column x0 x1 h) (ab_X17_column x0 x1 (vt_ab h)) := sm_X17_column_0 ⟨g, vt_ko.refl h⟩ tx0

theorem sm_X17_pixelAt_0 {h0 : sv_H} {x0 : Nat} {x1 : Int32} {x2 : Int32} {h : sv_H} (w : vt_W h0 h) (tx0 : sv_K h0 x0 = 18) : vt_sm h0 (fn_X17_pixelAt x0 x1 x2 h) (ab_X17_pixelAt x0 x1 x2 (vt_ab h)) := by
  unfold fn_X17_pixelAt ab_X17_pixelAt
  obtain ⟨F, hF⟩ : ∃ F, sv_FP h = F := ⟨_, rfl⟩
  refine sm_kd w tx0 (by decide) ?_
  refine sm_pI w hF tx0 (by decide) (fun h w hF => ?_)
  refine sm_cl w (sm_X17_isPixel w.1 (w.k tx0 (by decide))) (fun r2 h2 e w2 => ?_)
  have hF2 : sv_FP h2 = F := by rw [ro_X17_isPixel e]; exact hF
  clear e w hF
  have hF := hF2
  have w := w2
  clear hF2 w2
  refine sm_if (fun _ => ?_) (fun _ => ?_)
  · exact sm_rt w
  · refine sm_cl w (sm_X17_column w.1 (w.k tx0 (by decide))) (fun _ h2 e w2 => ?_)
    have hF2 : sv_FP h2 = F := (ow_X17_column sv_clT trivial e).2.1.1.trans hF
    clear e w hF
    have hF := hF2
    have w := w2
    clear hF2 w2
    refine sm_gA w hF tx0 tk_1825 (by decide) (fun v5 av5 => ?_)
    refine sm_lI w hF tx0 av5 tk_1825 (fun _ => ?_)
    exact sm_rt w
theorem sm_X17_pixelAt {x0 : Nat} {x1 : Int32} {x2 : Int32} {h : sv_H} (g : vt_G h) (tx0 : sv_K h x0 = 18) : vt_sm h (fn_X17_pixelAt x0 x1 x2 h) (ab_X17_pixelAt x0 x1 x2 (vt_ab h)) := sm_X17_pixelAt_0 ⟨g, vt_ko.refl h⟩ tx0

theorem sm_X12_surfaceAt_18 {h0 : sv_H} {h : sv_H} (w : vt_W h0 h) : vt_sm h0 (fn_X12_surfaceAt_18 h) (ab_X12_surfaceAt_18 (vt_ab h)) := by
  unfold fn_X12_surfaceAt_18 ab_X12_surfaceAt_18
  obtain ⟨F, hF⟩ : ∃ F, sv_FP h = F := ⟨_, rfl⟩
  exact sm_rt w
theorem sm_X12_surfaceAt_0 {h0 : sv_H} {x0 : Nat} {x1 : Int32} {x2 : Int32} {h : sv_H} (w : vt_W h0 h) (tx0 : sv_K h0 x0 = 13) : vt_sm h0 (fn_X12_surfaceAt x0 x1 x2 h) (ab_X12_surfaceAt x0 x1 x2 (vt_ab h)) := by
  unfold fn_X12_surfaceAt ab_X12_surfaceAt
  obtain ⟨F, hF⟩ : ∃ F, sv_FP h = F := ⟨_, rfl⟩
  refine sm_kd w tx0 (by decide) ?_
  refine sm_cl w (sm_X12_isSeen w.1 (w.k tx0 (by decide))) (fun r1 h2 e w2 => ?_)
  have hF2 : sv_FP h2 = F := by rw [ro_X12_isSeen e]; exact hF
  clear e w hF
  have hF := hF2
  have w := w2
  clear hF2 w2
  refine sm_if (fun _ => ?_) (fun _ => ?_)
  · exact sm_X12_surfaceAt_18 w
  · refine sm_if (fun _ => ?_) (fun _ => ?_)
    · exact sm_X12_surfaceAt_18 w
    · refine sm_if (fun _ => ?_) (fun _ => ?_)
      · refine sm_gP w tx0 tk_1305 rfl (fun v3 tv3 => ?_)
        refine sm_gP w tx0 tk_1304 rfl (fun v4 tv4 => ?_)
        refine sm_cl w (sm_X9_look w.1 (w.k tv3 (by decide)) (w.k tv4 (by decide))) (fun _ h2 e w2 => ?_)
        have hF2 : sv_FP h2 = F := (ow_X9_look sv_clT trivial trivial e).2.1.1.trans hF
        clear e w hF
        have hF := hF2
        have w := w2
        clear hF2 w2
        refine sm_gP w tx0 tk_1305 rfl (fun v6 tv6 => ?_)
        refine sm_gA w hF tv6 tk_1001 (by decide) (fun v7 av7 => ?_)
        refine sm_lI w hF tv6 av7 tk_1001 (fun _ => ?_)
        exact sm_rt w
      · exact sm_X12_surfaceAt_18 w
theorem sm_X12_surfaceAt {x0 : Nat} {x1 : Int32} {x2 : Int32} {h : sv_H} (g : vt_G h) (tx0 : sv_K h x0 = 13) : vt_sm h (fn_X12_surfaceAt x0 x1 x2 h) (ab_X12_surfaceAt x0 x1 x2 (vt_ab h)) := sm_X12_surfaceAt_0 ⟨g, vt_ko.refl h⟩ tx0

theorem sm_X17_surfaceAt_0 {h0 : sv_H} {x0 : Nat} {x1 : Int32} {x2 : Int32} {h : sv_H} (w : vt_W h0 h) (tx0 : sv_K h0 x0 = 18) : vt_sm h0 (fn_X17_surfaceAt x0 x1 x2 h) (ab_X17_surfaceAt x0 x1 x2 (vt_ab h)) := by
  unfold fn_X17_surfaceAt ab_X17_surfaceAt
  obtain ⟨F, hF⟩ : ∃ F, sv_FP h = F := ⟨_, rfl⟩
  refine sm_kd w tx0 (by decide) ?_
  refine sm_pI w hF tx0 (by decide) (fun h w hF => ?_)
  refine sm_cl w (sm_X17_isPixel w.1 (w.k tx0 (by decide))) (fun r2 h2 e w2 => ?_)
  have hF2 : sv_FP h2 = F := by rw [ro_X17_isPixel e]; exact hF
  clear e w hF
  have hF := hF2
  have w := w2
  clear hF2 w2
  refine sm_if (fun _ => ?_) (fun _ => ?_)
  · exact sm_rt w
  · refine sm_cl w (sm_X17_column w.1 (w.k tx0 (by decide))) (fun _ h2 e w2 => ?_)
    have hF2 : sv_FP h2 = F := (ow_X17_column sv_clT trivial e).2.1.1.trans hF
    clear e w hF
    have hF := hF2
    have w := w2
    clear hF2 w2
    refine sm_gA w hF tx0 tk_1824 (by decide) (fun v5 av5 => ?_)
    refine sm_lI w hF tx0 av5 tk_1824 (fun _ => ?_)
    exact sm_rt w
theorem sm_X17_surfaceAt {x0 : Nat} {x1 : Int32} {x2 : Int32} {h : sv_H} (g : vt_G h) (tx0 : sv_K h x0 = 18) : vt_sm h (fn_X17_surfaceAt x0 x1 x2 h) (ab_X17_surfaceAt x0 x1 x2 (vt_ab h)) := sm_X17_surfaceAt_0 ⟨g, vt_ko.refl h⟩ tx0

theorem sm_X12_metAt_12 {h0 : sv_H} {h : sv_H} (w : vt_W h0 h) : vt_sm h0 (fn_X12_metAt_12 h) (ab_X12_metAt_12 (vt_ab h)) := by
  unfold fn_X12_metAt_12 ab_X12_metAt_12
  obtain ⟨F, hF⟩ : ∃ F, sv_FP h = F := ⟨_, rfl⟩
  exact sm_rt w
theorem sm_X12_metAt_50 {h0 : sv_H} {s0 : Int32} {h : sv_H} (w : vt_W h0 h) : vt_sm h0 (fn_X12_metAt_50 s0 h) (ab_X12_metAt_50 s0 (vt_ab h)) := by
  unfold fn_X12_metAt_50 ab_X12_metAt_50
  obtain ⟨F, hF⟩ : ∃ F, sv_FP h = F := ⟨_, rfl⟩
  exact sm_rt w
theorem sm_X12_metAt_0 {h0 : sv_H} {x0 : Nat} {x1 : Int32} {x2 : Int32} {h : sv_H} (w : vt_W h0 h) (tx0 : sv_K h0 x0 = 13) : vt_sm h0 (fn_X12_metAt x0 x1 x2 h) (ab_X12_metAt x0 x1 x2 (vt_ab h)) := by
  unfold fn_X12_metAt ab_X12_metAt
  obtain ⟨F, hF⟩ : ∃ F, sv_FP h = F := ⟨_, rfl⟩
  refine sm_kd w tx0 (by decide) ?_
  refine sm_cl w (sm_X12_isSeen w.1 (w.k tx0 (by decide))) (fun r1 h2 e w2 => ?_)
  have hF2 : sv_FP h2 = F := by rw [ro_X12_isSeen e]; exact hF
  clear e w hF
  have hF := hF2
  have w := w2
  clear hF2 w2
  refine sm_if (fun _ => ?_) (fun _ => ?_)
  · exact sm_X12_metAt_12 w
  · refine sm_if (fun _ => ?_) (fun _ => ?_)
    · refine sm_gP w tx0 tk_1305 rfl (fun v3 tv3 => ?_)
      refine sm_gP w tx0 tk_1304 rfl (fun v4 tv4 => ?_)
      refine sm_cl w (sm_X9_look w.1 (w.k tv3 (by decide)) (w.k tv4 (by decide))) (fun _ h2 e w2 => ?_)
      have hF2 : sv_FP h2 = F := (ow_X9_look sv_clT trivial trivial e).2.1.1.trans hF
      clear e w hF
      have hF := hF2
      have w := w2
      clear hF2 w2
      refine sm_gP w tx0 tk_1305 rfl (fun v6 tv6 => ?_)
      refine sm_gI w tv6 (by decide) (fun v7 => ?_)
      refine sm_if (fun _ => ?_) (fun _ => ?_)
      · exact sm_X12_metAt_50 w
      · refine sm_gP w tx0 tk_1305 rfl (fun v8 tv8 => ?_)
        refine sm_gA w hF tv8 tk_1003 (by decide) (fun v9 av9 => ?_)
        refine sm_lI w hF tv8 av9 tk_1003 (fun _ => ?_)
        exact sm_X12_metAt_50 w
    · exact sm_X12_metAt_12 w
theorem sm_X12_metAt {x0 : Nat} {x1 : Int32} {x2 : Int32} {h : sv_H} (g : vt_G h) (tx0 : sv_K h x0 = 13) : vt_sm h (fn_X12_metAt x0 x1 x2 h) (ab_X12_metAt x0 x1 x2 (vt_ab h)) := sm_X12_metAt_0 ⟨g, vt_ko.refl h⟩ tx0

theorem sm_X17_metAt_43 {h0 : sv_H} {s0 : Int32} {h : sv_H} (w : vt_W h0 h) : vt_sm h0 (fn_X17_metAt_43 s0 h) (ab_X17_metAt_43 s0 (vt_ab h)) := by
  unfold fn_X17_metAt_43 ab_X17_metAt_43
  obtain ⟨F, hF⟩ : ∃ F, sv_FP h = F := ⟨_, rfl⟩
  exact sm_rt w
theorem sm_X17_metAt_42 {h0 : sv_H} {h : sv_H} (w : vt_W h0 h) : vt_sm h0 (fn_X17_metAt_42 h) (ab_X17_metAt_42 (vt_ab h)) := by
  unfold fn_X17_metAt_42 ab_X17_metAt_42
  obtain ⟨F, hF⟩ : ∃ F, sv_FP h = F := ⟨_, rfl⟩
  exact sm_X17_metAt_43 w
theorem sm_X17_metAt_0 {h0 : sv_H} {x0 : Nat} {x1 : Int32} {x2 : Int32} {h : sv_H} (w : vt_W h0 h) (tx0 : sv_K h0 x0 = 18) : vt_sm h0 (fn_X17_metAt x0 x1 x2 h) (ab_X17_metAt x0 x1 x2 (vt_ab h)) := by
  unfold fn_X17_metAt ab_X17_metAt
  obtain ⟨F, hF⟩ : ∃ F, sv_FP h = F := ⟨_, rfl⟩
  refine sm_kd w tx0 (by decide) ?_
  refine sm_pI w hF tx0 (by decide) (fun h w hF => ?_)
  refine sm_cl w (sm_X17_isPixel w.1 (w.k tx0 (by decide))) (fun r2 h2 e w2 => ?_)
  have hF2 : sv_FP h2 = F := by rw [ro_X17_isPixel e]; exact hF
  clear e w hF
  have hF := hF2
  have w := w2
  clear hF2 w2
  refine sm_if (fun _ => ?_) (fun _ => ?_)
  · exact sm_rt w
  · refine sm_cl w (sm_X17_column w.1 (w.k tx0 (by decide))) (fun _ h2 e w2 => ?_)
    have hF2 : sv_FP h2 = F := (ow_X17_column sv_clT trivial e).2.1.1.trans hF
    clear e w hF
    have hF := hF2
    have w := w2
    clear hF2 w2
    refine sm_if (fun _ => ?_) (fun _ => ?_)
    · exact sm_X17_metAt_42 w
    · refine sm_gI w tx0 (by decide) (fun v5 => ?_)
      refine sm_if (fun _ => ?_) (fun _ => ?_)
      · exact sm_X17_metAt_42 w
      · refine sm_gA w hF tx0 tk_1822 (by decide) (fun v6 av6 => ?_)
        refine sm_lI w hF tx0 av6 tk_1822 (fun _ => ?_)
        exact sm_X17_metAt_43 w
theorem sm_X17_metAt {x0 : Nat} {x1 : Int32} {x2 : Int32} {h : sv_H} (g : vt_G h) (tx0 : sv_K h x0 = 18) : vt_sm h (fn_X17_metAt x0 x1 x2 h) (ab_X17_metAt x0 x1 x2 (vt_ab h)) := sm_X17_metAt_0 ⟨g, vt_ko.refl h⟩ tx0

theorem sm_X12_frameOf_62b {h0 : sv_H} {k36 : Nat → Int64 → Int64 → Int32 → sv_H → Option (Int64 × sv_H)} {j36 : Nat → Int64 → Int64 → Int32 → vt_S → Option (Int64 × vt_S)} (hk36 : ∀ {x0 : Nat} {x1 : Int64} {x3 : Int64} {x5 : Int32} {h : sv_H}, vt_W h0 h → sv_K h0 x0 = 13 → vt_sm h0 (k36 x0 x1 x3 x5 h) (j36 x0 x1 x3 x5 (vt_ab h))) {k62 : Nat → Int64 → Int64 → Int32 → Int64 → Int32 → sv_H → Option (Int64 × sv_H)} {j62 : Nat → Int64 → Int64 → Int32 → Int64 → Int32 → vt_S → Option (Int64 × vt_S)} (hk62 : ∀ {x0 : Nat} {x1 : Int64} {x3 : Int64} {x5 : Int32} {x6 : Int64} {x8 : Int32} {h : sv_H}, vt_W h0 h → sv_K h0 x0 = 13 → vt_sm h0 (k62 x0 x1 x3 x5 x6 x8 h) (j62 x0 x1 x3 x5 x6 x8 (vt_ab h))) {x0 : Nat} {x1 : Int64} {x3 : Int64} {x5 : Int32} {x6 : Int64} {x8 : Int32} {h : sv_H} (w : vt_W h0 h) (tx0 : sv_K h0 x0 = 13) : vt_sm h0 (fn_X12_frameOf_62b k36 k62 x0 x1 x3 x5 x6 x8 h) (ab_X12_frameOf_62b j36 j62 x0 x1 x3 x5 x6 x8 (vt_ab h)) := by
  unfold fn_X12_frameOf_62b ab_X12_frameOf_62b
  obtain ⟨F, hF⟩ : ∃ F, sv_FP h = F := ⟨_, rfl⟩
  refine sm_if (fun _ => ?_) (fun _ => ?_)
  · exact hk36 w tx0
  · refine sm_gP w tx0 tk_1305 rfl (fun v1 tv1 => ?_)
    refine sm_gA w hF tv1 tk_1002 (by decide) (fun v2 av2 => ?_)
    refine sm_lI w hF tv1 av2 tk_1002 (fun _ => ?_)
    exact hk62 w tx0
theorem sm_X12_frameOf_62 {h0 : sv_H} {k36 : Nat → Int64 → Int64 → Int32 → sv_H → Option (Int64 × sv_H)} {j36 : Nat → Int64 → Int64 → Int32 → vt_S → Option (Int64 × vt_S)} (hk36 : ∀ {x0 : Nat} {x1 : Int64} {x3 : Int64} {x5 : Int32} {h : sv_H}, vt_W h0 h → sv_K h0 x0 = 13 → vt_sm h0 (k36 x0 x1 x3 x5 h) (j36 x0 x1 x3 x5 (vt_ab h))) : ∀ (n : Nat) {x0 : Nat} {x1 : Int64} {x3 : Int64} {x5 : Int32} {x6 : Int64} {x8 : Int32} {h : sv_H}, vt_W h0 h → sv_K h0 x0 = 13 → vt_sm h0 (fn_X12_frameOf_62 k36 n x0 x1 x3 x5 x6 x8 h) (ab_X12_frameOf_62 j36 n x0 x1 x3 x5 x6 x8 (vt_ab h)) := by
  intro n
  induction n with
  | zero => intro x0 x1 x3 x5 x6 x8 h w tx0; exact sm_no
  | succ n ih => intro x0 x1 x3 x5 x6 x8 h w tx0; exact sm_X12_frameOf_62b (k36 := k36) (j36 := j36) (k62 := fn_X12_frameOf_62 k36 n) (j62 := ab_X12_frameOf_62 j36 n) hk36 (fun w tx0 => ih w tx0) w tx0
theorem sm_X12_frameOf_36b {h0 : sv_H} {k36 : Nat → Int64 → Int64 → Int32 → sv_H → Option (Int64 × sv_H)} {j36 : Nat → Int64 → Int64 → Int32 → vt_S → Option (Int64 × vt_S)} (hk36 : ∀ {x0 : Nat} {x1 : Int64} {x3 : Int64} {x5 : Int32} {h : sv_H}, vt_W h0 h → sv_K h0 x0 = 13 → vt_sm h0 (k36 x0 x1 x3 x5 h) (j36 x0 x1 x3 x5 (vt_ab h))) {x0 : Nat} {x1 : Int64} {x3 : Int64} {x5 : Int32} {h : sv_H} (w : vt_W h0 h) (tx0 : sv_K h0 x0 = 13) : vt_sm h0 (fn_X12_frameOf_36b k36 x0 x1 x3 x5 h) (ab_X12_frameOf_36b j36 x0 x1 x3 x5 (vt_ab h)) := by
  unfold fn_X12_frameOf_36b ab_X12_frameOf_36b
  obtain ⟨F, hF⟩ : ∃ F, sv_FP h = F := ⟨_, rfl⟩
  refine sm_if (fun _ => ?_) (fun _ => ?_)
  · exact sm_rt w
  · refine sm_gP w tx0 tk_1305 rfl (fun v1 tv1 => ?_)
    refine sm_gP w tx0 tk_1304 rfl (fun v2 tv2 => ?_)
    refine sm_cl w (sm_X9_look w.1 (w.k tv1 (by decide)) (w.k tv2 (by decide))) (fun _ h2 e w2 => ?_)
    have hF2 : sv_FP h2 = F := (ow_X9_look sv_clT trivial trivial e).2.1.1.trans hF
    clear e w hF
    have hF := hF2
    have w := w2
    clear hF2 w2
    exact sm_X12_frameOf_62 (k36 := k36) (j36 := j36) hk36 sv_fuel w tx0
theorem sm_X12_frameOf_36 {h0 : sv_H} : ∀ (n : Nat) {x0 : Nat} {x1 : Int64} {x3 : Int64} {x5 : Int32} {h : sv_H}, vt_W h0 h → sv_K h0 x0 = 13 → vt_sm h0 (fn_X12_frameOf_36 n x0 x1 x3 x5 h) (ab_X12_frameOf_36 n x0 x1 x3 x5 (vt_ab h)) := by
  intro n
  induction n with
  | zero => intro x0 x1 x3 x5 h w tx0; exact sm_no
  | succ n ih => intro x0 x1 x3 x5 h w tx0; exact sm_X12_frameOf_36b (k36 := fn_X12_frameOf_36 n) (j36 := ab_X12_frameOf_36 n) (fun w tx0 => ih w tx0) w tx0
theorem sm_X12_frameOf_13b {h0 : sv_H} {k13 : Nat → Int64 → Int32 → sv_H → Option (Int64 × sv_H)} {j13 : Nat → Int64 → Int32 → vt_S → Option (Int64 × vt_S)} (hk13 : ∀ {x0 : Nat} {x1 : Int64} {x3 : Int32} {h : sv_H}, vt_W h0 h → sv_K h0 x0 = 13 → vt_sm h0 (k13 x0 x1 x3 h) (j13 x0 x1 x3 (vt_ab h))) {x0 : Nat} {x1 : Int64} {x3 : Int32} {h : sv_H} (w : vt_W h0 h) (tx0 : sv_K h0 x0 = 13) : vt_sm h0 (fn_X12_frameOf_13b k13 x0 x1 x3 h) (ab_X12_frameOf_13b j13 x0 x1 x3 (vt_ab h)) := by
  unfold fn_X12_frameOf_13b ab_X12_frameOf_13b
  obtain ⟨F, hF⟩ : ∃ F, sv_FP h = F := ⟨_, rfl⟩
  refine sm_if (fun _ => ?_) (fun _ => ?_)
  · exact sm_X12_frameOf_36 sv_fuel w tx0
  · exact hk13 w tx0
theorem sm_X12_frameOf_13 {h0 : sv_H} : ∀ (n : Nat) {x0 : Nat} {x1 : Int64} {x3 : Int32} {h : sv_H}, vt_W h0 h → sv_K h0 x0 = 13 → vt_sm h0 (fn_X12_frameOf_13 n x0 x1 x3 h) (ab_X12_frameOf_13 n x0 x1 x3 (vt_ab h)) := by
  intro n
  induction n with
  | zero => intro x0 x1 x3 h w tx0; exact sm_no
  | succ n ih => intro x0 x1 x3 h w tx0; exact sm_X12_frameOf_13b (k13 := fn_X12_frameOf_13 n) (j13 := ab_X12_frameOf_13 n) (fun w tx0 => ih w tx0) w tx0
theorem sm_X12_frameOf_0 {h0 : sv_H} {x0 : Nat} {h : sv_H} (w : vt_W h0 h) (tx0 : sv_K h0 x0 = 13) : vt_sm h0 (fn_X12_frameOf x0 h) (ab_X12_frameOf x0 (vt_ab h)) := by
  unfold fn_X12_frameOf ab_X12_frameOf
  obtain ⟨F, hF⟩ : ∃ F, sv_FP h = F := ⟨_, rfl⟩
  refine sm_kd w tx0 (by decide) ?_
  refine sm_cl w (sm_X12_hasMap w.1 (w.k tx0 (by decide))) (fun r1 h2 e w2 => ?_)
  have hF2 : sv_FP h2 = F := by rw [ro_X12_hasMap e]; exact hF
  clear e w hF
  have hF := hF2
  have w := w2
  clear hF2 w2
  refine sm_if (fun _ => ?_) (fun _ => ?_)
  · exact sm_rt w
  · exact sm_X12_frameOf_13 sv_fuel w tx0
theorem sm_X12_frameOf {x0 : Nat} {h : sv_H} (g : vt_G h) (tx0 : sv_K h x0 = 13) : vt_sm h (fn_X12_frameOf x0 h) (ab_X12_frameOf x0 (vt_ab h)) := sm_X12_frameOf_0 ⟨g, vt_ko.refl h⟩ tx0

theorem sm_X17_frameOf_68b {h0 : sv_H} {k68 : Nat → Int64 → Int32 → sv_H → Option (Int64 × sv_H)} {j68 : Nat → Int64 → Int32 → vt_S → Option (Int64 × vt_S)} (hk68 : ∀ {x0 : Nat} {x1 : Int64} {x3 : Int32} {h : sv_H}, vt_W h0 h → sv_K h0 x0 = 18 → vt_sm h0 (k68 x0 x1 x3 h) (j68 x0 x1 x3 (vt_ab h))) {x0 : Nat} {x1 : Int64} {x3 : Int32} {h : sv_H} (w : vt_W h0 h) (tx0 : sv_K h0 x0 = 18) : vt_sm h0 (fn_X17_frameOf_68b k68 x0 x1 x3 h) (ab_X17_frameOf_68b j68 x0 x1 x3 (vt_ab h)) := by
  unfold fn_X17_frameOf_68b ab_X17_frameOf_68b
  obtain ⟨F, hF⟩ : ∃ F, sv_FP h = F := ⟨_, rfl⟩
  refine sm_if (fun _ => ?_) (fun _ => ?_)
  · exact sm_rt w
  · refine sm_gA w hF tx0 tk_1826 (by decide) (fun v1 av1 => ?_)
    refine sm_lI w hF tx0 av1 tk_1826 (fun _ => ?_)
    exact hk68 w tx0
theorem sm_X17_frameOf_68 {h0 : sv_H} : ∀ (n : Nat) {x0 : Nat} {x1 : Int64} {x3 : Int32} {h : sv_H}, vt_W h0 h → sv_K h0 x0 = 18 → vt_sm h0 (fn_X17_frameOf_68 n x0 x1 x3 h) (ab_X17_frameOf_68 n x0 x1 x3 (vt_ab h)) := by
  intro n
  induction n with
  | zero => intro x0 x1 x3 h w tx0; exact sm_no
  | succ n ih => intro x0 x1 x3 h w tx0; exact sm_X17_frameOf_68b (k68 := fn_X17_frameOf_68 n) (j68 := ab_X17_frameOf_68 n) (fun w tx0 => ih w tx0) w tx0
theorem sm_X17_frameOf_29b {h0 : sv_H} {k16 : Nat → Int32 → sv_H → Option (Int64 × sv_H)} {j16 : Nat → Int32 → vt_S → Option (Int64 × vt_S)} (hk16 : ∀ {x0 : Nat} {x1 : Int32} {h : sv_H}, vt_W h0 h → sv_K h0 x0 = 18 → vt_sm h0 (k16 x0 x1 h) (j16 x0 x1 (vt_ab h))) {k29 : Nat → Int32 → Int32 → sv_H → Option (Int64 × sv_H)} {j29 : Nat → Int32 → Int32 → vt_S → Option (Int64 × vt_S)} (hk29 : ∀ {x0 : Nat} {x1 : Int32} {x2 : Int32} {h : sv_H}, vt_W h0 h → sv_K h0 x0 = 18 → vt_sm h0 (k29 x0 x1 x2 h) (j29 x0 x1 x2 (vt_ab h))) {x0 : Nat} {x1 : Int32} {x2 : Int32} {h : sv_H} (w : vt_W h0 h) (tx0 : sv_K h0 x0 = 18) : vt_sm h0 (fn_X17_frameOf_29b k16 k29 x0 x1 x2 h) (ab_X17_frameOf_29b j16 j29 x0 x1 x2 (vt_ab h)) := by
  unfold fn_X17_frameOf_29b ab_X17_frameOf_29b
  obtain ⟨F, hF⟩ : ∃ F, sv_FP h = F := ⟨_, rfl⟩
  refine sm_if (fun _ => ?_) (fun _ => ?_)
  · exact hk16 w tx0
  · refine sm_gA w hF tx0 tk_1826 (by decide) (fun v1 av1 => ?_)
    refine sm_gA w hF tx0 tk_1825 (by decide) (fun v2 av2 => ?_)
    refine sm_lI w hF tx0 av2 tk_1825 (fun _ => ?_)
    refine sm_sI w hF tx0 av1 tk_1826 (fun h w hF => ?_)
    exact hk29 w tx0
theorem sm_X17_frameOf_29 {h0 : sv_H} {k16 : Nat → Int32 → sv_H → Option (Int64 × sv_H)} {j16 : Nat → Int32 → vt_S → Option (Int64 × vt_S)} (hk16 : ∀ {x0 : Nat} {x1 : Int32} {h : sv_H}, vt_W h0 h → sv_K h0 x0 = 18 → vt_sm h0 (k16 x0 x1 h) (j16 x0 x1 (vt_ab h))) : ∀ (n : Nat) {x0 : Nat} {x1 : Int32} {x2 : Int32} {h : sv_H}, vt_W h0 h → sv_K h0 x0 = 18 → vt_sm h0 (fn_X17_frameOf_29 k16 n x0 x1 x2 h) (ab_X17_frameOf_29 j16 n x0 x1 x2 (vt_ab h)) := by
  intro n
  induction n with
  | zero => intro x0 x1 x2 h w tx0; exact sm_no
  | succ n ih => intro x0 x1 x2 h w tx0; exact sm_X17_frameOf_29b (k16 := k16) (j16 := j16) (k29 := fn_X17_frameOf_29 k16 n) (j29 := ab_X17_frameOf_29 j16 n) hk16 (fun w tx0 => ih w tx0) w tx0
theorem sm_X17_frameOf_16b {h0 : sv_H} {k16 : Nat → Int32 → sv_H → Option (Int64 × sv_H)} {j16 : Nat → Int32 → vt_S → Option (Int64 × vt_S)} (hk16 : ∀ {x0 : Nat} {x1 : Int32} {h : sv_H}, vt_W h0 h → sv_K h0 x0 = 18 → vt_sm h0 (k16 x0 x1 h) (j16 x0 x1 (vt_ab h))) {x0 : Nat} {x1 : Int32} {h : sv_H} (w : vt_W h0 h) (tx0 : sv_K h0 x0 = 18) : vt_sm h0 (fn_X17_frameOf_16b k16 x0 x1 h) (ab_X17_frameOf_16b j16 x0 x1 (vt_ab h)) := by
  unfold fn_X17_frameOf_16b ab_X17_frameOf_16b
  obtain ⟨F, hF⟩ : ∃ F, sv_FP h = F := ⟨_, rfl⟩
  refine sm_if (fun _ => ?_) (fun _ => ?_)
  · exact sm_X17_frameOf_68 sv_fuel w tx0
  · refine sm_cl w (sm_X17_column w.1 (w.k tx0 (by decide))) (fun _ h2 e w2 => ?_)
    have hF2 : sv_FP h2 = F := (ow_X17_column sv_clT trivial e).2.1.1.trans hF
    clear e w hF
    have hF := hF2
    have w := w2
    clear hF2 w2
    exact sm_X17_frameOf_29 (k16 := k16) (j16 := j16) hk16 sv_fuel w tx0
theorem sm_X17_frameOf_16 {h0 : sv_H} : ∀ (n : Nat) {x0 : Nat} {x1 : Int32} {h : sv_H}, vt_W h0 h → sv_K h0 x0 = 18 → vt_sm h0 (fn_X17_frameOf_16 n x0 x1 h) (ab_X17_frameOf_16 n x0 x1 (vt_ab h)) := by
  intro n
  induction n with
  | zero => intro x0 x1 h w tx0; exact sm_no
  | succ n ih => intro x0 x1 h w tx0; exact sm_X17_frameOf_16b (k16 := fn_X17_frameOf_16 n) (j16 := ab_X17_frameOf_16 n) (fun w tx0 => ih w tx0) w tx0
theorem sm_X17_frameOf_0 {h0 : sv_H} {x0 : Nat} {h : sv_H} (w : vt_W h0 h) (tx0 : sv_K h0 x0 = 18) : vt_sm h0 (fn_X17_frameOf x0 h) (ab_X17_frameOf x0 (vt_ab h)) := by
  unfold fn_X17_frameOf ab_X17_frameOf
  obtain ⟨F, hF⟩ : ∃ F, sv_FP h = F := ⟨_, rfl⟩
  refine sm_kd w tx0 (by decide) ?_
  refine sm_pI w hF tx0 (by decide) (fun h w hF => ?_)
  refine sm_gI w tx0 (by decide) (fun v2 => ?_)
  refine sm_if (fun _ => ?_) (fun _ => ?_)
  · exact sm_rt w
  · exact sm_X17_frameOf_16 sv_fuel w tx0
theorem sm_X17_frameOf {x0 : Nat} {h : sv_H} (g : vt_G h) (tx0 : sv_K h x0 = 18) : vt_sm h (fn_X17_frameOf x0 h) (ab_X17_frameOf x0 (vt_ab h)) := sm_X17_frameOf_0 ⟨g, vt_ko.refl h⟩ tx0

theorem sm_X12_nodeOf_22 {h0 : sv_H} {h : sv_H} (w : vt_W h0 h) : vt_sm h0 (fn_X12_nodeOf_22 h) (ab_X12_nodeOf_22 (vt_ab h)) := by
  unfold fn_X12_nodeOf_22 ab_X12_nodeOf_22
  obtain ⟨F, hF⟩ : ∃ F, sv_FP h = F := ⟨_, rfl⟩
  exact sm_rt w
theorem sm_X12_nodeOf_0 {h0 : sv_H} {x0 : Nat} {x1 : Int32} {x2 : Int32} {h : sv_H} (w : vt_W h0 h) (tx0 : sv_K h0 x0 = 13) : vt_sm h0 (fn_X12_nodeOf x0 x1 x2 h) (ab_X12_nodeOf x0 x1 x2 (vt_ab h)) := by
  unfold fn_X12_nodeOf ab_X12_nodeOf
  obtain ⟨F, hF⟩ : ∃ F, sv_FP h = F := ⟨_, rfl⟩
  refine sm_kd w tx0 (by decide) ?_
  refine sm_cl w (sm_X12_hasMap w.1 (w.k tx0 (by decide))) (fun r1 h2 e w2 => ?_)
  have hF2 : sv_FP h2 = F := by rw [ro_X12_hasMap e]; exact hF
  clear e w hF
  have hF := hF2
  have w := w2
  clear hF2 w2
  refine sm_if (fun _ => ?_) (fun _ => ?_)
  · exact sm_X12_nodeOf_22 w
  · refine sm_if (fun _ => ?_) (fun _ => ?_)
    · exact sm_X12_nodeOf_22 w
    · refine sm_gP w tx0 tk_1303 rfl (fun v3 tv3 => ?_)
      refine sm_gI w tv3 (by decide) (fun v4 => ?_)
      refine sm_if (fun _ => ?_) (fun _ => ?_)
      · refine sm_if (fun _ => ?_) (fun _ => ?_)
        · refine sm_gP w tx0 tk_1303 rfl (fun v5 tv5 => ?_)
          refine sm_gA w hF tv5 tk_901 (by decide) (fun v6 av6 => ?_)
          refine sm_lI w hF tv5 av6 tk_901 (fun _ => ?_)
          exact sm_rt w
        refine sm_if (fun _ => ?_) (fun _ => ?_)
        · refine sm_gP w tx0 tk_1303 rfl (fun v8 tv8 => ?_)
          refine sm_gA w hF tv8 tk_902 (by decide) (fun v9 av9 => ?_)
          refine sm_lI w hF tv8 av9 tk_902 (fun _ => ?_)
          refine sm_let (fun _ => ?_)
          exact sm_rt w
        refine sm_if (fun _ => ?_) (fun _ => ?_)
        · refine sm_gP w tx0 tk_1303 rfl (fun v12 tv12 => ?_)
          refine sm_gA w hF tv12 tk_903 (by decide) (fun v13 av13 => ?_)
          refine sm_lI w hF tv12 av13 tk_903 (fun _ => ?_)
          refine sm_let (fun _ => ?_)
          exact sm_rt w
        refine sm_if (fun _ => ?_) (fun _ => ?_)
        · refine sm_gP w tx0 tk_1303 rfl (fun v16 tv16 => ?_)
          refine sm_gA w hF tv16 tk_904 (by decide) (fun v17 av17 => ?_)
          refine sm_lI w hF tv16 av17 tk_904 (fun _ => ?_)
          exact sm_rt w
        refine sm_if (fun _ => ?_) (fun _ => ?_)
        · refine sm_gP w tx0 tk_1303 rfl (fun v19 tv19 => ?_)
          refine sm_gA w hF tv19 tk_905 (by decide) (fun v20 av20 => ?_)
          refine sm_lI w hF tv19 av20 tk_905 (fun _ => ?_)
          exact sm_rt w
        refine sm_if (fun _ => ?_) (fun _ => ?_)
        · refine sm_gP w tx0 tk_1303 rfl (fun v22 tv22 => ?_)
          refine sm_gA w hF tv22 tk_906 (by decide) (fun v23 av23 => ?_)
          refine sm_lI w hF tv22 av23 tk_906 (fun _ => ?_)
          exact sm_rt w
        exact sm_rt w
      · exact sm_X12_nodeOf_22 w
theorem sm_X12_nodeOf {x0 : Nat} {x1 : Int32} {x2 : Int32} {h : sv_H} (g : vt_G h) (tx0 : sv_K h x0 = 13) : vt_sm h (fn_X12_nodeOf x0 x1 x2 h) (ab_X12_nodeOf x0 x1 x2 (vt_ab h)) := sm_X12_nodeOf_0 ⟨g, vt_ko.refl h⟩ tx0

theorem sm_X16_piece_0 {h0 : sv_H} {x0 : Nat} {x1 : Int32} {x2 : Int64} {x4 : Int64} {x6 : Int64} {x8 : Int64} {h : sv_H} (w : vt_W h0 h) (tx0 : sv_K h0 x0 = 17) : vt_sm h0 (fn_X16_piece x0 x1 x2 x4 x6 x8 h) (ab_X16_piece x0 x1 x2 x4 x6 x8 (vt_ab h)) := by
  unfold fn_X16_piece ab_X16_piece
  obtain ⟨F, hF⟩ : ∃ F, sv_FP h = F := ⟨_, rfl⟩
  refine sm_kd w tx0 (by decide) ?_
  refine sm_gA w hF tx0 tk_1706 (by decide) (fun v1 av1 => ?_)
  refine sm_gI w tx0 (by decide) (fun v2 => ?_)
  refine sm_sI w hF tx0 av1 tk_1706 (fun h w hF => ?_)
  refine sm_gA w hF tx0 tk_1707 (by decide) (fun v4 av4 => ?_)
  refine sm_gI w tx0 (by decide) (fun v5 => ?_)
  refine sm_sJ w hF tx0 av4 tk_1707 (fun h w hF => ?_)
  refine sm_gA w hF tx0 tk_1708 (by decide) (fun v7 av7 => ?_)
  refine sm_gI w tx0 (by decide) (fun v8 => ?_)
  refine sm_sJ w hF tx0 av7 tk_1708 (fun h w hF => ?_)
  refine sm_gA w hF tx0 tk_1709 (by decide) (fun v10 av10 => ?_)
  refine sm_gI w tx0 (by decide) (fun v11 => ?_)
  refine sm_sJ w hF tx0 av10 tk_1709 (fun h w hF => ?_)
  refine sm_gA w hF tx0 tk_1710 (by decide) (fun v13 av13 => ?_)
  refine sm_gI w tx0 (by decide) (fun v14 => ?_)
  refine sm_sJ w hF tx0 av13 tk_1710 (fun h w hF => ?_)
  refine sm_gI w tx0 (by decide) (fun v16 => ?_)
  refine sm_pI w hF tx0 (by decide) (fun h w hF => ?_)
  refine sm_gI w tx0 (by decide) (fun v18 => ?_)
  exact sm_rt w
theorem sm_X16_piece {x0 : Nat} {x1 : Int32} {x2 : Int64} {x4 : Int64} {x6 : Int64} {x8 : Int64} {h : sv_H} (g : vt_G h) (tx0 : sv_K h x0 = 17) : vt_sm h (fn_X16_piece x0 x1 x2 x4 x6 x8 h) (ab_X16_piece x0 x1 x2 x4 x6 x8 (vt_ab h)) := sm_X16_piece_0 ⟨g, vt_ko.refl h⟩ tx0

theorem sm_X16_push_0 {h0 : sv_H} {x0 : Nat} {x1 : Int32} {x2 : Int32} {x3 : Int32} {x4 : Int32} {h : sv_H} (w : vt_W h0 h) (tx0 : sv_K h0 x0 = 17) : vt_sm h0 (fn_X16_push x0 x1 x2 x3 x4 h) (ab_X16_push x0 x1 x2 x3 x4 (vt_ab h)) := by
  unfold fn_X16_push ab_X16_push
  obtain ⟨F, hF⟩ : ∃ F, sv_FP h = F := ⟨_, rfl⟩
  refine sm_kd w tx0 (by decide) ?_
  refine sm_gA w hF tx0 tk_1713 (by decide) (fun v1 av1 => ?_)
  refine sm_gI w tx0 (by decide) (fun v2 => ?_)
  refine sm_sI w hF tx0 av1 tk_1713 (fun h w hF => ?_)
  refine sm_gA w hF tx0 tk_1714 (by decide) (fun v4 av4 => ?_)
  refine sm_gI w tx0 (by decide) (fun v5 => ?_)
  refine sm_sI w hF tx0 av4 tk_1714 (fun h w hF => ?_)
  refine sm_gA w hF tx0 tk_1715 (by decide) (fun v7 av7 => ?_)
  refine sm_gI w tx0 (by decide) (fun v8 => ?_)
  refine sm_sI w hF tx0 av7 tk_1715 (fun h w hF => ?_)
  refine sm_gA w hF tx0 tk_1716 (by decide) (fun v10 av10 => ?_)
  refine sm_gI w tx0 (by decide) (fun v11 => ?_)
  refine sm_sI w hF tx0 av10 tk_1716 (fun h w hF => ?_)
  refine sm_gI w tx0 (by decide) (fun v13 => ?_)
  refine sm_pI w hF tx0 (by decide) (fun h w hF => ?_)
  exact sm_rt w
theorem sm_X16_push {x0 : Nat} {x1 : Int32} {x2 : Int32} {x3 : Int32} {x4 : Int32} {h : sv_H} (g : vt_G h) (tx0 : sv_K h x0 = 17) : vt_sm h (fn_X16_push x0 x1 x2 x3 x4 h) (ab_X16_push x0 x1 x2 x3 x4 (vt_ab h)) := sm_X16_push_0 ⟨g, vt_ko.refl h⟩ tx0

theorem sm_X16_cross_0 {h0 : sv_H} {x0 : Int64} {x2 : Int64} {x4 : Int64} {x6 : Int64} {h : sv_H} (w : vt_W h0 h) : vt_sm h0 (fn_X16_cross x0 x2 x4 x6 h) (ab_X16_cross x0 x2 x4 x6 (vt_ab h)) := by
  unfold fn_X16_cross ab_X16_cross
  obtain ⟨F, hF⟩ : ∃ F, sv_FP h = F := ⟨_, rfl⟩
  exact sm_rt w
theorem sm_X16_cross {x0 : Int64} {x2 : Int64} {x4 : Int64} {x6 : Int64} {h : sv_H} (g : vt_G h) : vt_sm h (fn_X16_cross x0 x2 x4 x6 h) (ab_X16_cross x0 x2 x4 x6 (vt_ab h)) := sm_X16_cross_0 ⟨g, vt_ko.refl h⟩

theorem sm_X16_sideOf_0 {h0 : sv_H} {x0 : Nat} {x1 : Int32} {x2 : Int64} {x4 : Int64} {h : sv_H} (w : vt_W h0 h) (tx0 : sv_K h0 x0 = 17) : vt_sm h0 (fn_X16_sideOf x0 x1 x2 x4 h) (ab_X16_sideOf x0 x1 x2 x4 (vt_ab h)) := by
  unfold fn_X16_sideOf ab_X16_sideOf
  obtain ⟨F, hF⟩ : ∃ F, sv_FP h = F := ⟨_, rfl⟩
  refine sm_kd w tx0 (by decide) ?_
  refine sm_gA w hF tx0 tk_1703 (by decide) (fun v1 av1 => ?_)
  refine sm_lI w hF tx0 av1 tk_1703 (fun _ => ?_)
  refine sm_gA w hF tx0 tk_1701 (by decide) (fun v3 av3 => ?_)
  refine sm_lI w hF tx0 av3 tk_1701 (fun _ => ?_)
  refine sm_gA w hF tx0 tk_1704 (by decide) (fun v5 av5 => ?_)
  refine sm_lI w hF tx0 av5 tk_1704 (fun _ => ?_)
  refine sm_gA w hF tx0 tk_1702 (by decide) (fun v7 av7 => ?_)
  refine sm_lI w hF tx0 av7 tk_1702 (fun _ => ?_)
  refine sm_gA w hF tx0 tk_1701 (by decide) (fun v9 av9 => ?_)
  refine sm_lI w hF tx0 av9 tk_1701 (fun _ => ?_)
  refine sm_gA w hF tx0 tk_1702 (by decide) (fun v11 av11 => ?_)
  refine sm_lI w hF tx0 av11 tk_1702 (fun _ => ?_)
  refine sm_cl w (sm_X16_cross w.1) (fun r13 h2 e w2 => ?_)
  have hF2 : sv_FP h2 = F := by rw [ro_X16_cross e]; exact hF
  clear e w hF
  have hF := hF2
  have w := w2
  clear hF2 w2
  exact sm_rt w
theorem sm_X16_sideOf {x0 : Nat} {x1 : Int32} {x2 : Int64} {x4 : Int64} {h : sv_H} (g : vt_G h) (tx0 : sv_K h x0 = 17) : vt_sm h (fn_X16_sideOf x0 x1 x2 x4 h) (ab_X16_sideOf x0 x1 x2 x4 (vt_ab h)) := sm_X16_sideOf_0 ⟨g, vt_ko.refl h⟩ tx0

theorem sm_X16_sideAt_0 {h0 : sv_H} {x0 : Nat} {x1 : Int32} {x2 : Int32} {x3 : Int64} {x5 : Int64} {h : sv_H} (w : vt_W h0 h) (tx0 : sv_K h0 x0 = 17) : vt_sm h0 (fn_X16_sideAt x0 x1 x2 x3 x5 h) (ab_X16_sideAt x0 x1 x2 x3 x5 (vt_ab h)) := by
  unfold fn_X16_sideAt ab_X16_sideAt
  obtain ⟨F, hF⟩ : ∃ F, sv_FP h = F := ⟨_, rfl⟩
  refine sm_kd w tx0 (by decide) ?_
  refine sm_gA w hF tx0 tk_1701 (by decide) (fun v1 av1 => ?_)
  refine sm_lI w hF tx0 av1 tk_1701 (fun _ => ?_)
  refine sm_gA w hF tx0 tk_1702 (by decide) (fun v3 av3 => ?_)
  refine sm_lI w hF tx0 av3 tk_1702 (fun _ => ?_)
  refine sm_cl w (sm_X16_sideOf w.1 (w.k tx0 (by decide))) (fun r5 h2 e w2 => ?_)
  have hF2 : sv_FP h2 = F := by rw [ro_X16_sideOf e]; exact hF
  clear e w hF
  have hF := hF2
  have w := w2
  clear hF2 w2
  refine sm_gA w hF tx0 tk_1703 (by decide) (fun v7 av7 => ?_)
  refine sm_lI w hF tx0 av7 tk_1703 (fun _ => ?_)
  refine sm_gA w hF tx0 tk_1704 (by decide) (fun v9 av9 => ?_)
  refine sm_lI w hF tx0 av9 tk_1704 (fun _ => ?_)
  refine sm_cl w (sm_X16_sideOf w.1 (w.k tx0 (by decide))) (fun r11 h2 e w2 => ?_)
  have hF2 : sv_FP h2 = F := by rw [ro_X16_sideOf e]; exact hF
  clear e w hF
  have hF := hF2
  have w := w2
  clear hF2 w2
  refine sm_cl w (sm_X16_order w.1) (fun r13 h2 e w2 => ?_)
  have hF2 : sv_FP h2 = F := by rw [ro_X16_order e]; exact hF
  clear e w hF
  have hF := hF2
  have w := w2
  clear hF2 w2
  exact sm_rt w
theorem sm_X16_sideAt {x0 : Nat} {x1 : Int32} {x2 : Int32} {x3 : Int64} {x5 : Int64} {h : sv_H} (g : vt_G h) (tx0 : sv_K h x0 = 17) : vt_sm h (fn_X16_sideAt x0 x1 x2 x3 x5 h) (ab_X16_sideAt x0 x1 x2 x3 x5 (vt_ab h)) := sm_X16_sideAt_0 ⟨g, vt_ko.refl h⟩ tx0

theorem sm_X16_lieOf_71 {h0 : sv_H} {s0 : Int32} {h : sv_H} (w : vt_W h0 h) : vt_sm h0 (fn_X16_lieOf_71 s0 h) (ab_X16_lieOf_71 s0 (vt_ab h)) := by
  unfold fn_X16_lieOf_71 ab_X16_lieOf_71
  obtain ⟨F, hF⟩ : ∃ F, sv_FP h = F := ⟨_, rfl⟩
  exact sm_rt w
theorem sm_X16_lieOf_0 {h0 : sv_H} {x0 : Nat} {x1 : Int32} {x2 : Int32} {h : sv_H} (w : vt_W h0 h) (tx0 : sv_K h0 x0 = 17) : vt_sm h0 (fn_X16_lieOf x0 x1 x2 h) (ab_X16_lieOf x0 x1 x2 (vt_ab h)) := by
  unfold fn_X16_lieOf ab_X16_lieOf
  obtain ⟨F, hF⟩ : ∃ F, sv_FP h = F := ⟨_, rfl⟩
  refine sm_kd w tx0 (by decide) ?_
  refine sm_gA w hF tx0 tk_1706 (by decide) (fun v1 av1 => ?_)
  refine sm_lI w hF tx0 av1 tk_1706 (fun _ => ?_)
  refine sm_gA w hF tx0 tk_1707 (by decide) (fun v3 av3 => ?_)
  refine sm_lJ w hF tx0 av3 tk_1707 (fun _ => ?_)
  refine sm_gA w hF tx0 tk_1708 (by decide) (fun v5 av5 => ?_)
  refine sm_lJ w hF tx0 av5 tk_1708 (fun _ => ?_)
  refine sm_cl w (sm_X16_sideAt w.1 (w.k tx0 (by decide))) (fun r7 h2 e w2 => ?_)
  have hF2 : sv_FP h2 = F := by rw [ro_X16_sideAt e]; exact hF
  clear e w hF
  have hF := hF2
  have w := w2
  clear hF2 w2
  refine sm_gA w hF tx0 tk_1709 (by decide) (fun v9 av9 => ?_)
  refine sm_lJ w hF tx0 av9 tk_1709 (fun _ => ?_)
  refine sm_gA w hF tx0 tk_1710 (by decide) (fun v11 av11 => ?_)
  refine sm_lJ w hF tx0 av11 tk_1710 (fun _ => ?_)
  refine sm_cl w (sm_X16_sideAt w.1 (w.k tx0 (by decide))) (fun r13 h2 e w2 => ?_)
  have hF2 : sv_FP h2 = F := by rw [ro_X16_sideAt e]; exact hF
  clear e w hF
  have hF := hF2
  have w := w2
  clear hF2 w2
  refine sm_if (fun _ => ?_) (fun _ => ?_)
  · refine sm_if (fun _ => ?_) (fun _ => ?_)
    · exact sm_X16_lieOf_71 w
    · exact sm_X16_lieOf_71 w
  · exact sm_X16_lieOf_71 w
theorem sm_X16_lieOf {x0 : Nat} {x1 : Int32} {x2 : Int32} {h : sv_H} (g : vt_G h) (tx0 : sv_K h x0 = 17) : vt_sm h (fn_X16_lieOf x0 x1 x2 h) (ab_X16_lieOf x0 x1 x2 (vt_ab h)) := sm_X16_lieOf_0 ⟨g, vt_ko.refl h⟩ tx0

theorem sm_X16_bestOf_149 {h0 : sv_H} {x3 : Int32} {h : sv_H} (w : vt_W h0 h) : vt_sm h0 (fn_X16_bestOf_149 x3 h) (ab_X16_bestOf_149 x3 (vt_ab h)) := by
  unfold fn_X16_bestOf_149 ab_X16_bestOf_149
  obtain ⟨F, hF⟩ : ∃ F, sv_FP h = F := ⟨_, rfl⟩
  exact sm_rt w
theorem sm_X16_bestOf_143 {h0 : sv_H} {k9 : Nat → Int32 → Int32 → Int32 → Int32 → Int32 → sv_H → Option (Int32 × sv_H)} {j9 : Nat → Int32 → Int32 → Int32 → Int32 → Int32 → vt_S → Option (Int32 × vt_S)} (hk9 : ∀ {x0 : Nat} {x1 : Int32} {x2 : Int32} {x3 : Int32} {x4 : Int32} {x5 : Int32} {h : sv_H}, vt_W h0 h → sv_K h0 x0 = 17 → vt_sm h0 (k9 x0 x1 x2 x3 x4 x5 h) (j9 x0 x1 x2 x3 x4 x5 (vt_ab h))) {x0 : Nat} {x1 : Int32} {x2 : Int32} {x3 : Int32} {x4 : Int32} {x5 : Int32} {h : sv_H} (w : vt_W h0 h) (tx0 : sv_K h0 x0 = 17) : vt_sm h0 (fn_X16_bestOf_143 k9 x0 x1 x2 x3 x4 x5 h) (ab_X16_bestOf_143 j9 x0 x1 x2 x3 x4 x5 (vt_ab h)) := by
  unfold fn_X16_bestOf_143 ab_X16_bestOf_143
  obtain ⟨F, hF⟩ : ∃ F, sv_FP h = F := ⟨_, rfl⟩
  exact hk9 w tx0
theorem sm_X16_bestOf_126 {h0 : sv_H} {k9 : Nat → Int32 → Int32 → Int32 → Int32 → Int32 → sv_H → Option (Int32 × sv_H)} {j9 : Nat → Int32 → Int32 → Int32 → Int32 → Int32 → vt_S → Option (Int32 × vt_S)} (hk9 : ∀ {x0 : Nat} {x1 : Int32} {x2 : Int32} {x3 : Int32} {x4 : Int32} {x5 : Int32} {h : sv_H}, vt_W h0 h → sv_K h0 x0 = 17 → vt_sm h0 (k9 x0 x1 x2 x3 x4 x5 h) (j9 x0 x1 x2 x3 x4 x5 (vt_ab h))) {x0 : Nat} {x1 : Int32} {x2 : Int32} {x3 : Int32} {x4 : Int32} {x5 : Int32} {x6 : Int32} {s0 : Int32} {s1 : Int32} {h : sv_H} (w : vt_W h0 h) (tx0 : sv_K h0 x0 = 17) : vt_sm h0 (fn_X16_bestOf_126 k9 x0 x1 x2 x3 x4 x5 x6 s0 s1 h) (ab_X16_bestOf_126 j9 x0 x1 x2 x3 x4 x5 x6 s0 s1 (vt_ab h)) := by
  unfold fn_X16_bestOf_126 ab_X16_bestOf_126
  obtain ⟨F, hF⟩ : ∃ F, sv_FP h = F := ⟨_, rfl⟩
  refine sm_if (fun _ => ?_) (fun _ => ?_)
  · exact sm_X16_bestOf_143 (k9 := k9) (j9 := j9) hk9 w tx0
  · exact sm_X16_bestOf_143 (k9 := k9) (j9 := j9) hk9 w tx0
theorem sm_X16_bestOf_100 {h0 : sv_H} {k9 : Nat → Int32 → Int32 → Int32 → Int32 → Int32 → sv_H → Option (Int32 × sv_H)} {j9 : Nat → Int32 → Int32 → Int32 → Int32 → Int32 → vt_S → Option (Int32 × vt_S)} (hk9 : ∀ {x0 : Nat} {x1 : Int32} {x2 : Int32} {x3 : Int32} {x4 : Int32} {x5 : Int32} {h : sv_H}, vt_W h0 h → sv_K h0 x0 = 17 → vt_sm h0 (k9 x0 x1 x2 x3 x4 x5 h) (j9 x0 x1 x2 x3 x4 x5 (vt_ab h))) {k47 : Nat → Int32 → Int32 → Int32 → Int32 → Int32 → Int32 → Int32 → Int32 → Int32 → sv_H → Option (Int32 × sv_H)} {j47 : Nat → Int32 → Int32 → Int32 → Int32 → Int32 → Int32 → Int32 → Int32 → Int32 → vt_S → Option (Int32 × vt_S)} (hk47 : ∀ {x0 : Nat} {x1 : Int32} {x2 : Int32} {x3 : Int32} {x4 : Int32} {x5 : Int32} {x6 : Int32} {x7 : Int32} {x8 : Int32} {x9 : Int32} {h : sv_H}, vt_W h0 h → sv_K h0 x0 = 17 → vt_sm h0 (k47 x0 x1 x2 x3 x4 x5 x6 x7 x8 x9 h) (j47 x0 x1 x2 x3 x4 x5 x6 x7 x8 x9 (vt_ab h))) {x0 : Nat} {x1 : Int32} {x2 : Int32} {x3 : Int32} {x4 : Int32} {x5 : Int32} {x6 : Int32} {x7 : Int32} {x9 : Int32} {s0 : Int32} {s1 : Int32} {h : sv_H} (w : vt_W h0 h) (tx0 : sv_K h0 x0 = 17) : vt_sm h0 (fn_X16_bestOf_100 k9 k47 x0 x1 x2 x3 x4 x5 x6 x7 x9 s0 s1 h) (ab_X16_bestOf_100 j9 j47 x0 x1 x2 x3 x4 x5 x6 x7 x9 s0 s1 (vt_ab h)) := by
  unfold fn_X16_bestOf_100 ab_X16_bestOf_100
  obtain ⟨F, hF⟩ : ∃ F, sv_FP h = F := ⟨_, rfl⟩
  exact hk47 w tx0
theorem sm_X16_bestOf_83 {h0 : sv_H} {k9 : Nat → Int32 → Int32 → Int32 → Int32 → Int32 → sv_H → Option (Int32 × sv_H)} {j9 : Nat → Int32 → Int32 → Int32 → Int32 → Int32 → vt_S → Option (Int32 × vt_S)} (hk9 : ∀ {x0 : Nat} {x1 : Int32} {x2 : Int32} {x3 : Int32} {x4 : Int32} {x5 : Int32} {h : sv_H}, vt_W h0 h → sv_K h0 x0 = 17 → vt_sm h0 (k9 x0 x1 x2 x3 x4 x5 h) (j9 x0 x1 x2 x3 x4 x5 (vt_ab h))) {k47 : Nat → Int32 → Int32 → Int32 → Int32 → Int32 → Int32 → Int32 → Int32 → Int32 → sv_H → Option (Int32 × sv_H)} {j47 : Nat → Int32 → Int32 → Int32 → Int32 → Int32 → Int32 → Int32 → Int32 → Int32 → vt_S → Option (Int32 × vt_S)} (hk47 : ∀ {x0 : Nat} {x1 : Int32} {x2 : Int32} {x3 : Int32} {x4 : Int32} {x5 : Int32} {x6 : Int32} {x7 : Int32} {x8 : Int32} {x9 : Int32} {h : sv_H}, vt_W h0 h → sv_K h0 x0 = 17 → vt_sm h0 (k47 x0 x1 x2 x3 x4 x5 x6 x7 x8 x9 h) (j47 x0 x1 x2 x3 x4 x5 x6 x7 x8 x9 (vt_ab h))) {x0 : Nat} {x1 : Int32} {x2 : Int32} {x3 : Int32} {x4 : Int32} {x5 : Int32} {x6 : Int32} {x8 : Int32} {x9 : Int32} {x10 : Int32} {s0 : Int32} {s1 : Int32} {h : sv_H} (w : vt_W h0 h) (tx0 : sv_K h0 x0 = 17) : vt_sm h0 (fn_X16_bestOf_83 k9 k47 x0 x1 x2 x3 x4 x5 x6 x8 x9 x10 s0 s1 h) (ab_X16_bestOf_83 j9 j47 x0 x1 x2 x3 x4 x5 x6 x8 x9 x10 s0 s1 (vt_ab h)) := by
  unfold fn_X16_bestOf_83 ab_X16_bestOf_83
  obtain ⟨F, hF⟩ : ∃ F, sv_FP h = F := ⟨_, rfl⟩
  refine sm_if (fun _ => ?_) (fun _ => ?_)
  · exact sm_X16_bestOf_100 (k9 := k9) (j9 := j9) (k47 := k47) (j47 := j47) hk9 hk47 w tx0
  · exact sm_X16_bestOf_100 (k9 := k9) (j9 := j9) (k47 := k47) (j47 := j47) hk9 hk47 w tx0
theorem sm_X16_bestOf_47b {h0 : sv_H} {k9 : Nat → Int32 → Int32 → Int32 → Int32 → Int32 → sv_H → Option (Int32 × sv_H)} {j9 : Nat → Int32 → Int32 → Int32 → Int32 → Int32 → vt_S → Option (Int32 × vt_S)} (hk9 : ∀ {x0 : Nat} {x1 : Int32} {x2 : Int32} {x3 : Int32} {x4 : Int32} {x5 : Int32} {h : sv_H}, vt_W h0 h → sv_K h0 x0 = 17 → vt_sm h0 (k9 x0 x1 x2 x3 x4 x5 h) (j9 x0 x1 x2 x3 x4 x5 (vt_ab h))) {k47 : Nat → Int32 → Int32 → Int32 → Int32 → Int32 → Int32 → Int32 → Int32 → Int32 → sv_H → Option (Int32 × sv_H)} {j47 : Nat → Int32 → Int32 → Int32 → Int32 → Int32 → Int32 → Int32 → Int32 → Int32 → vt_S → Option (Int32 × vt_S)} (hk47 : ∀ {x0 : Nat} {x1 : Int32} {x2 : Int32} {x3 : Int32} {x4 : Int32} {x5 : Int32} {x6 : Int32} {x7 : Int32} {x8 : Int32} {x9 : Int32} {h : sv_H}, vt_W h0 h → sv_K h0 x0 = 17 → vt_sm h0 (k47 x0 x1 x2 x3 x4 x5 x6 x7 x8 x9 h) (j47 x0 x1 x2 x3 x4 x5 x6 x7 x8 x9 (vt_ab h))) {x0 : Nat} {x1 : Int32} {x2 : Int32} {x3 : Int32} {x4 : Int32} {x5 : Int32} {x6 : Int32} {x7 : Int32} {x8 : Int32} {x9 : Int32} {h : sv_H} (w : vt_W h0 h) (tx0 : sv_K h0 x0 = 17) : vt_sm h0 (fn_X16_bestOf_47b k9 k47 x0 x1 x2 x3 x4 x5 x6 x7 x8 x9 h) (ab_X16_bestOf_47b j9 j47 x0 x1 x2 x3 x4 x5 x6 x7 x8 x9 (vt_ab h)) := by
  unfold fn_X16_bestOf_47b ab_X16_bestOf_47b
  obtain ⟨F, hF⟩ : ∃ F, sv_FP h = F := ⟨_, rfl⟩
  refine sm_if (fun _ => ?_) (fun _ => ?_)
  · refine sm_if (fun _ => ?_) (fun _ => ?_)
    · exact sm_X16_bestOf_126 (k9 := k9) (j9 := j9) hk9 w tx0
    · exact sm_X16_bestOf_126 (k9 := k9) (j9 := j9) hk9 w tx0
  · refine sm_gA w hF tx0 tk_1712 (by decide) (fun v1 av1 => ?_)
    refine sm_lI w hF tx0 av1 tk_1712 (fun _ => ?_)
    refine sm_cl w (sm_X16_lieOf w.1 (w.k tx0 (by decide))) (fun r3 h2 e w2 => ?_)
    have hF2 : sv_FP h2 = F := by rw [ro_X16_lieOf e]; exact hF
    clear e w hF
    have hF := hF2
    have w := w2
    clear hF2 w2
    refine sm_if (fun _ => ?_) (fun _ => ?_)
    · exact sm_X16_bestOf_83 (k9 := k9) (j9 := j9) (k47 := k47) (j47 := j47) hk9 hk47 w tx0
    · exact sm_X16_bestOf_83 (k9 := k9) (j9 := j9) (k47 := k47) (j47 := j47) hk9 hk47 w tx0
theorem sm_X16_bestOf_47 {h0 : sv_H} {k9 : Nat → Int32 → Int32 → Int32 → Int32 → Int32 → sv_H → Option (Int32 × sv_H)} {j9 : Nat → Int32 → Int32 → Int32 → Int32 → Int32 → vt_S → Option (Int32 × vt_S)} (hk9 : ∀ {x0 : Nat} {x1 : Int32} {x2 : Int32} {x3 : Int32} {x4 : Int32} {x5 : Int32} {h : sv_H}, vt_W h0 h → sv_K h0 x0 = 17 → vt_sm h0 (k9 x0 x1 x2 x3 x4 x5 h) (j9 x0 x1 x2 x3 x4 x5 (vt_ab h))) : ∀ (n : Nat) {x0 : Nat} {x1 : Int32} {x2 : Int32} {x3 : Int32} {x4 : Int32} {x5 : Int32} {x6 : Int32} {x7 : Int32} {x8 : Int32} {x9 : Int32} {h : sv_H}, vt_W h0 h → sv_K h0 x0 = 17 → vt_sm h0 (fn_X16_bestOf_47 k9 n x0 x1 x2 x3 x4 x5 x6 x7 x8 x9 h) (ab_X16_bestOf_47 j9 n x0 x1 x2 x3 x4 x5 x6 x7 x8 x9 (vt_ab h)) := by
  intro n
  induction n with
  | zero => intro x0 x1 x2 x3 x4 x5 x6 x7 x8 x9 h w tx0; exact sm_no
  | succ n ih => intro x0 x1 x2 x3 x4 x5 x6 x7 x8 x9 h w tx0; exact sm_X16_bestOf_47b (k9 := k9) (j9 := j9) (k47 := fn_X16_bestOf_47 k9 n) (j47 := ab_X16_bestOf_47 j9 n) hk9 (fun w tx0 => ih w tx0) w tx0
theorem sm_X16_bestOf_9b {h0 : sv_H} {k9 : Nat → Int32 → Int32 → Int32 → Int32 → Int32 → sv_H → Option (Int32 × sv_H)} {j9 : Nat → Int32 → Int32 → Int32 → Int32 → Int32 → vt_S → Option (Int32 × vt_S)} (hk9 : ∀ {x0 : Nat} {x1 : Int32} {x2 : Int32} {x3 : Int32} {x4 : Int32} {x5 : Int32} {h : sv_H}, vt_W h0 h → sv_K h0 x0 = 17 → vt_sm h0 (k9 x0 x1 x2 x3 x4 x5 h) (j9 x0 x1 x2 x3 x4 x5 (vt_ab h))) {x0 : Nat} {x1 : Int32} {x2 : Int32} {x3 : Int32} {x4 : Int32} {x5 : Int32} {h : sv_H} (w : vt_W h0 h) (tx0 : sv_K h0 x0 = 17) : vt_sm h0 (fn_X16_bestOf_9b k9 x0 x1 x2 x3 x4 x5 h) (ab_X16_bestOf_9b j9 x0 x1 x2 x3 x4 x5 (vt_ab h)) := by
  unfold fn_X16_bestOf_9b ab_X16_bestOf_9b
  obtain ⟨F, hF⟩ : ∃ F, sv_FP h = F := ⟨_, rfl⟩
  refine sm_if (fun _ => ?_) (fun _ => ?_)
  · exact sm_X16_bestOf_149 w
  · refine sm_if (fun _ => ?_) (fun _ => ?_)
    · exact sm_X16_bestOf_149 w
    · refine sm_gA w hF tx0 tk_1706 (by decide) (fun v1 av1 => ?_)
      refine sm_gA w hF tx0 tk_1712 (by decide) (fun v2 av2 => ?_)
      refine sm_lI w hF tx0 av2 tk_1712 (fun _ => ?_)
      refine sm_lI w hF tx0 av1 tk_1706 (fun _ => ?_)
      exact sm_X16_bestOf_47 (k9 := k9) (j9 := j9) hk9 sv_fuel w tx0
theorem sm_X16_bestOf_9 {h0 : sv_H} : ∀ (n : Nat) {x0 : Nat} {x1 : Int32} {x2 : Int32} {x3 : Int32} {x4 : Int32} {x5 : Int32} {h : sv_H}, vt_W h0 h → sv_K h0 x0 = 17 → vt_sm h0 (fn_X16_bestOf_9 n x0 x1 x2 x3 x4 x5 h) (ab_X16_bestOf_9 n x0 x1 x2 x3 x4 x5 (vt_ab h)) := by
  intro n
  induction n with
  | zero => intro x0 x1 x2 x3 x4 x5 h w tx0; exact sm_no
  | succ n ih => intro x0 x1 x2 x3 x4 x5 h w tx0; exact sm_X16_bestOf_9b (k9 := fn_X16_bestOf_9 n) (j9 := ab_X16_bestOf_9 n) (fun w tx0 => ih w tx0) w tx0
theorem sm_X16_bestOf_0 {h0 : sv_H} {x0 : Nat} {x1 : Int32} {x2 : Int32} {h : sv_H} (w : vt_W h0 h) (tx0 : sv_K h0 x0 = 17) : vt_sm h0 (fn_X16_bestOf x0 x1 x2 h) (ab_X16_bestOf x0 x1 x2 (vt_ab h)) := by
  unfold fn_X16_bestOf ab_X16_bestOf
  obtain ⟨F, hF⟩ : ∃ F, sv_FP h = F := ⟨_, rfl⟩
  refine sm_kd w tx0 (by decide) ?_
  exact sm_X16_bestOf_9 sv_fuel w tx0
theorem sm_X16_bestOf {x0 : Nat} {x1 : Int32} {x2 : Int32} {h : sv_H} (g : vt_G h) (tx0 : sv_K h x0 = 17) : vt_sm h (fn_X16_bestOf x0 x1 x2 h) (ab_X16_bestOf x0 x1 x2 (vt_ab h)) := sm_X16_bestOf_0 ⟨g, vt_ko.refl h⟩ tx0

theorem sm_X16_part_156 {h0 : sv_H} {s0 : Int32} {h : sv_H} (w : vt_W h0 h) : vt_sm h0 (fn_X16_part_156 s0 h) (ab_X16_part_156 s0 (vt_ab h)) := by
  unfold fn_X16_part_156 ab_X16_part_156
  obtain ⟨F, hF⟩ : ∃ F, sv_FP h = F := ⟨_, rfl⟩
  exact sm_rt w
theorem sm_X16_part_102 {h0 : sv_H} {x0 : Nat} {x1 : Int32} {x4 : Int32} {x5 : Int64} {x7 : Int64} {s0 : Int32} {h : sv_H} (w : vt_W h0 h) (tx0 : sv_K h0 x0 = 17) : vt_sm h0 (fn_X16_part_102 x0 x1 x4 x5 x7 s0 h) (ab_X16_part_102 x0 x1 x4 x5 x7 s0 (vt_ab h)) := by
  unfold fn_X16_part_102 ab_X16_part_102
  obtain ⟨F, hF⟩ : ∃ F, sv_FP h = F := ⟨_, rfl⟩
  refine sm_if (fun _ => ?_) (fun _ => ?_)
  · refine sm_gA w hF tx0 tk_1709 (by decide) (fun v1 av1 => ?_)
    refine sm_lJ w hF tx0 av1 tk_1709 (fun _ => ?_)
    refine sm_gA w hF tx0 tk_1710 (by decide) (fun v3 av3 => ?_)
    refine sm_lJ w hF tx0 av3 tk_1710 (fun _ => ?_)
    refine sm_cl w (sm_X16_piece w.1 (w.k tx0 (by decide))) (fun r5 h2 e w2 => ?_)
    have hF2 : sv_FP h2 = F := (ow_X16_piece sv_clT trivial e).2.1.1.trans hF
    clear e w hF
    have hF := hF2
    have w := w2
    clear hF2 w2
    exact sm_X16_part_156 w
  · refine sm_gA w hF tx0 tk_1707 (by decide) (fun v7 av7 => ?_)
    refine sm_lJ w hF tx0 av7 tk_1707 (fun _ => ?_)
    refine sm_gA w hF tx0 tk_1708 (by decide) (fun v9 av9 => ?_)
    refine sm_lJ w hF tx0 av9 tk_1708 (fun _ => ?_)
    refine sm_cl w (sm_X16_piece w.1 (w.k tx0 (by decide))) (fun r11 h2 e w2 => ?_)
    have hF2 : sv_FP h2 = F := (ow_X16_piece sv_clT trivial e).2.1.1.trans hF
    clear e w hF
    have hF := hF2
    have w := w2
    clear hF2 w2
    exact sm_X16_part_156 w
theorem sm_X16_part_74 {h0 : sv_H} {x0 : Nat} {x1 : Int32} {x2 : Int32} {x3 : Int32} {x4 : Int32} {x5 : Int64} {x7 : Int64} {h : sv_H} (w : vt_W h0 h) (tx0 : sv_K h0 x0 = 17) : vt_sm h0 (fn_X16_part_74 x0 x1 x2 x3 x4 x5 x7 h) (ab_X16_part_74 x0 x1 x2 x3 x4 x5 x7 (vt_ab h)) := by
  unfold fn_X16_part_74 ab_X16_part_74
  obtain ⟨F, hF⟩ : ∃ F, sv_FP h = F := ⟨_, rfl⟩
  refine sm_gA w hF tx0 tk_1707 (by decide) (fun v1 av1 => ?_)
  refine sm_lJ w hF tx0 av1 tk_1707 (fun _ => ?_)
  refine sm_gA w hF tx0 tk_1708 (by decide) (fun v3 av3 => ?_)
  refine sm_lJ w hF tx0 av3 tk_1708 (fun _ => ?_)
  refine sm_cl w (sm_X16_sideAt w.1 (w.k tx0 (by decide))) (fun r5 h2 e w2 => ?_)
  have hF2 : sv_FP h2 = F := by rw [ro_X16_sideAt e]; exact hF
  clear e w hF
  have hF := hF2
  have w := w2
  clear hF2 w2
  refine sm_if (fun _ => ?_) (fun _ => ?_)
  · exact sm_X16_part_102 w tx0
  · exact sm_X16_part_102 w tx0
theorem sm_X16_part_0 {h0 : sv_H} {x0 : Nat} {x1 : Int32} {x2 : Int32} {x3 : Int32} {h : sv_H} (w : vt_W h0 h) (tx0 : sv_K h0 x0 = 17) : vt_sm h0 (fn_X16_part x0 x1 x2 x3 h) (ab_X16_part x0 x1 x2 x3 (vt_ab h)) := by
  unfold fn_X16_part ab_X16_part
  obtain ⟨F, hF⟩ : ∃ F, sv_FP h = F := ⟨_, rfl⟩
  refine sm_kd w tx0 (by decide) ?_
  refine sm_gA w hF tx0 tk_1706 (by decide) (fun v1 av1 => ?_)
  refine sm_lI w hF tx0 av1 tk_1706 (fun _ => ?_)
  refine sm_gA w hF tx0 tk_1701 (by decide) (fun v3 av3 => ?_)
  refine sm_lI w hF tx0 av3 tk_1701 (fun _ => ?_)
  refine sm_gA w hF tx0 tk_1702 (by decide) (fun v5 av5 => ?_)
  refine sm_lI w hF tx0 av5 tk_1702 (fun _ => ?_)
  refine sm_cl w (sm_X16_sideOf w.1 (w.k tx0 (by decide))) (fun r7 h2 e w2 => ?_)
  have hF2 : sv_FP h2 = F := by rw [ro_X16_sideOf e]; exact hF
  clear e w hF
  have hF := hF2
  have w := w2
  clear hF2 w2
  refine sm_gA w hF tx0 tk_1703 (by decide) (fun v9 av9 => ?_)
  refine sm_lI w hF tx0 av9 tk_1703 (fun _ => ?_)
  refine sm_gA w hF tx0 tk_1704 (by decide) (fun v11 av11 => ?_)
  refine sm_lI w hF tx0 av11 tk_1704 (fun _ => ?_)
  refine sm_cl w (sm_X16_sideOf w.1 (w.k tx0 (by decide))) (fun r13 h2 e w2 => ?_)
  have hF2 : sv_FP h2 = F := by rw [ro_X16_sideOf e]; exact hF
  clear e w hF
  have hF := hF2
  have w := w2
  clear hF2 w2
  refine sm_if (fun _ => ?_) (fun _ => ?_)
  · exact sm_X16_part_74 w tx0
  · exact sm_X16_part_74 w tx0
theorem sm_X16_part {x0 : Nat} {x1 : Int32} {x2 : Int32} {x3 : Int32} {h : sv_H} (g : vt_G h) (tx0 : sv_K h x0 = 17) : vt_sm h (fn_X16_part x0 x1 x2 x3 h) (ab_X16_part x0 x1 x2 x3 (vt_ab h)) := sm_X16_part_0 ⟨g, vt_ko.refl h⟩ tx0

theorem sm_X16_collect_78 {h0 : sv_H} {k6 : Nat → Int32 → Int32 → Int32 → Int32 → Int32 → Int32 → Int32 → sv_H → Option (Int32 × sv_H)} {j6 : Nat → Int32 → Int32 → Int32 → Int32 → Int32 → Int32 → Int32 → vt_S → Option (Int32 × vt_S)} (hk6 : ∀ {x0 : Nat} {x1 : Int32} {x2 : Int32} {x3 : Int32} {x4 : Int32} {x5 : Int32} {x6 : Int32} {x7 : Int32} {h : sv_H}, vt_W h0 h → sv_K h0 x0 = 17 → vt_sm h0 (k6 x0 x1 x2 x3 x4 x5 x6 x7 h) (j6 x0 x1 x2 x3 x4 x5 x6 x7 (vt_ab h))) {x0 : Nat} {x1 : Int32} {x2 : Int32} {x3 : Int32} {x4 : Int32} {x5 : Int32} {x6 : Int32} {x7 : Int32} {h : sv_H} (w : vt_W h0 h) (tx0 : sv_K h0 x0 = 17) : vt_sm h0 (fn_X16_collect_78 k6 x0 x1 x2 x3 x4 x5 x6 x7 h) (ab_X16_collect_78 j6 x0 x1 x2 x3 x4 x5 x6 x7 (vt_ab h)) := by
  unfold fn_X16_collect_78 ab_X16_collect_78
  obtain ⟨F, hF⟩ : ∃ F, sv_FP h = F := ⟨_, rfl⟩
  exact hk6 w tx0
theorem sm_X16_collect_74 {h0 : sv_H} {k6 : Nat → Int32 → Int32 → Int32 → Int32 → Int32 → Int32 → Int32 → sv_H → Option (Int32 × sv_H)} {j6 : Nat → Int32 → Int32 → Int32 → Int32 → Int32 → Int32 → Int32 → vt_S → Option (Int32 × vt_S)} (hk6 : ∀ {x0 : Nat} {x1 : Int32} {x2 : Int32} {x3 : Int32} {x4 : Int32} {x5 : Int32} {x6 : Int32} {x7 : Int32} {h : sv_H}, vt_W h0 h → sv_K h0 x0 = 17 → vt_sm h0 (k6 x0 x1 x2 x3 x4 x5 x6 x7 h) (j6 x0 x1 x2 x3 x4 x5 x6 x7 (vt_ab h))) {x0 : Nat} {x1 : Int32} {x2 : Int32} {x3 : Int32} {x4 : Int32} {x5 : Int32} {x6 : Int32} {x7 : Int32} {s0 : Nat} {s0o : Nat} {s1 : Int32} {s2 : Int32} {h : sv_H} (w : vt_W h0 h) (tx0 : sv_K h0 x0 = 17) (ts0 : sv_K h0 s0o = 17) (as0 : sv_FP h 1712 s0o = s0) : vt_sm h0 (fn_X16_collect_74 k6 x0 x1 x2 x3 x4 x5 x6 x7 s0 s1 s2 h) (ab_X16_collect_74 j6 x0 x1 x2 x3 x4 x5 x6 x7 s0o s1 s2 (vt_ab h)) := by
  unfold fn_X16_collect_74 ab_X16_collect_74
  obtain ⟨F, hF⟩ : ∃ F, sv_FP h = F := ⟨_, rfl⟩
  rw [hF] at as0
  refine sm_sI w hF ts0 as0 tk_1712 (fun h w hF => ?_)
  exact sm_X16_collect_78 (k6 := k6) (j6 := j6) hk6 w tx0
theorem sm_X16_collect_45 {h0 : sv_H} {k6 : Nat → Int32 → Int32 → Int32 → Int32 → Int32 → Int32 → Int32 → sv_H → Option (Int32 × sv_H)} {j6 : Nat → Int32 → Int32 → Int32 → Int32 → Int32 → Int32 → Int32 → vt_S → Option (Int32 × vt_S)} (hk6 : ∀ {x0 : Nat} {x1 : Int32} {x2 : Int32} {x3 : Int32} {x4 : Int32} {x5 : Int32} {x6 : Int32} {x7 : Int32} {h : sv_H}, vt_W h0 h → sv_K h0 x0 = 17 → vt_sm h0 (k6 x0 x1 x2 x3 x4 x5 x6 x7 h) (j6 x0 x1 x2 x3 x4 x5 x6 x7 (vt_ab h))) {x0 : Nat} {x1 : Int32} {x2 : Int32} {x3 : Int32} {x4 : Int32} {x5 : Int32} {x6 : Int32} {x7 : Int32} {x8 : Int32} {x9 : Int32} {h : sv_H} (w : vt_W h0 h) (tx0 : sv_K h0 x0 = 17) : vt_sm h0 (fn_X16_collect_45 k6 x0 x1 x2 x3 x4 x5 x6 x7 x8 x9 h) (ab_X16_collect_45 j6 x0 x1 x2 x3 x4 x5 x6 x7 x8 x9 (vt_ab h)) := by
  unfold fn_X16_collect_45 ab_X16_collect_45
  obtain ⟨F, hF⟩ : ∃ F, sv_FP h = F := ⟨_, rfl⟩
  refine sm_gA w hF tx0 tk_1712 (by decide) (fun v1 av1 => ?_)
  refine sm_if (fun _ => ?_) (fun _ => ?_)
  · refine sm_cl w (sm_X16_part w.1 (w.k tx0 (by decide))) (fun r2 h2 e w2 => ?_)
    have hF2 : sv_FP h2 = F := (ow_X16_part sv_clT trivial e).2.1.1.trans hF
    clear e w hF
    have hF := hF2
    have w := w2
    clear hF2 w2
    exact sm_X16_collect_74 (k6 := k6) (j6 := j6) hk6 w tx0 tx0 (by rw [hF]; exact av1)
  · exact sm_X16_collect_74 (k6 := k6) (j6 := j6) hk6 w tx0 tx0 (by rw [hF]; exact av1)
theorem sm_X16_collect_6b {h0 : sv_H} {k6 : Nat → Int32 → Int32 → Int32 → Int32 → Int32 → Int32 → Int32 → sv_H → Option (Int32 × sv_H)} {j6 : Nat → Int32 → Int32 → Int32 → Int32 → Int32 → Int32 → Int32 → vt_S → Option (Int32 × vt_S)} (hk6 : ∀ {x0 : Nat} {x1 : Int32} {x2 : Int32} {x3 : Int32} {x4 : Int32} {x5 : Int32} {x6 : Int32} {x7 : Int32} {h : sv_H}, vt_W h0 h → sv_K h0 x0 = 17 → vt_sm h0 (k6 x0 x1 x2 x3 x4 x5 x6 x7 h) (j6 x0 x1 x2 x3 x4 x5 x6 x7 (vt_ab h))) {x0 : Nat} {x1 : Int32} {x2 : Int32} {x3 : Int32} {x4 : Int32} {x5 : Int32} {x6 : Int32} {x7 : Int32} {h : sv_H} (w : vt_W h0 h) (tx0 : sv_K h0 x0 = 17) : vt_sm h0 (fn_X16_collect_6b k6 x0 x1 x2 x3 x4 x5 x6 x7 h) (ab_X16_collect_6b j6 x0 x1 x2 x3 x4 x5 x6 x7 (vt_ab h)) := by
  unfold fn_X16_collect_6b ab_X16_collect_6b
  obtain ⟨F, hF⟩ : ∃ F, sv_FP h = F := ⟨_, rfl⟩
  refine sm_if (fun _ => ?_) (fun _ => ?_)
  · exact sm_rt w
  · refine sm_gA w hF tx0 tk_1712 (by decide) (fun v1 av1 => ?_)
    refine sm_lI w hF tx0 av1 tk_1712 (fun _ => ?_)
    refine sm_cl w (sm_X16_lieOf w.1 (w.k tx0 (by decide))) (fun r3 h2 e w2 => ?_)
    have hF2 : sv_FP h2 = F := by rw [ro_X16_lieOf e]; exact hF
    clear e w hF
    have hF := hF2
    have w := w2
    clear hF2 w2
    refine sm_if (fun _ => ?_) (fun _ => ?_)
    · exact sm_X16_collect_45 (k6 := k6) (j6 := j6) hk6 w tx0
    · refine sm_if (fun _ => ?_) (fun _ => ?_)
      · exact sm_X16_collect_45 (k6 := k6) (j6 := j6) hk6 w tx0
      · exact sm_X16_collect_78 (k6 := k6) (j6 := j6) hk6 w tx0
theorem sm_X16_collect_6 {h0 : sv_H} : ∀ (n : Nat) {x0 : Nat} {x1 : Int32} {x2 : Int32} {x3 : Int32} {x4 : Int32} {x5 : Int32} {x6 : Int32} {x7 : Int32} {h : sv_H}, vt_W h0 h → sv_K h0 x0 = 17 → vt_sm h0 (fn_X16_collect_6 n x0 x1 x2 x3 x4 x5 x6 x7 h) (ab_X16_collect_6 n x0 x1 x2 x3 x4 x5 x6 x7 (vt_ab h)) := by
  intro n
  induction n with
  | zero => intro x0 x1 x2 x3 x4 x5 x6 x7 h w tx0; exact sm_no
  | succ n ih => intro x0 x1 x2 x3 x4 x5 x6 x7 h w tx0; exact sm_X16_collect_6b (k6 := fn_X16_collect_6 n) (j6 := ab_X16_collect_6 n) (fun w tx0 => ih w tx0) w tx0
theorem sm_X16_collect_0 {h0 : sv_H} {x0 : Nat} {x1 : Int32} {x2 : Int32} {x3 : Int32} {x4 : Int32} {x5 : Int32} {h : sv_H} (w : vt_W h0 h) (tx0 : sv_K h0 x0 = 17) : vt_sm h0 (fn_X16_collect x0 x1 x2 x3 x4 x5 h) (ab_X16_collect x0 x1 x2 x3 x4 x5 (vt_ab h)) := by
  unfold fn_X16_collect ab_X16_collect
  obtain ⟨F, hF⟩ : ∃ F, sv_FP h = F := ⟨_, rfl⟩
  refine sm_kd w tx0 (by decide) ?_
  exact sm_X16_collect_6 sv_fuel w tx0
theorem sm_X16_collect {x0 : Nat} {x1 : Int32} {x2 : Int32} {x3 : Int32} {x4 : Int32} {x5 : Int32} {h : sv_H} (g : vt_G h) (tx0 : sv_K h x0 = 17) : vt_sm h (fn_X16_collect x0 x1 x2 x3 x4 x5 h) (ab_X16_collect x0 x1 x2 x3 x4 x5 (vt_ab h)) := sm_X16_collect_0 ⟨g, vt_ko.refl h⟩ tx0

theorem sm_X16_divide_188 {h0 : sv_H} {k136 : Nat → Int32 → Int32 → Int32 → Int32 → Int32 → sv_H → Option (Unit × sv_H)} {j136 : Nat → Int32 → Int32 → Int32 → Int32 → Int32 → vt_S → Option (Unit × vt_S)} (hk136 : ∀ {x0 : Nat} {x1 : Int32} {x2 : Int32} {x6 : Int32} {x7 : Int32} {x8 : Int32} {h : sv_H}, vt_W h0 h → sv_K h0 x0 = 17 → vt_sm h0 (k136 x0 x1 x2 x6 x7 x8 h) (j136 x0 x1 x2 x6 x7 x8 (vt_ab h))) {x0 : Nat} {x1 : Int32} {x2 : Int32} {x6 : Int32} {x7 : Int32} {x8 : Int32} {h : sv_H} (w : vt_W h0 h) (tx0 : sv_K h0 x0 = 17) : vt_sm h0 (fn_X16_divide_188 k136 x0 x1 x2 x6 x7 x8 h) (ab_X16_divide_188 j136 x0 x1 x2 x6 x7 x8 (vt_ab h)) := by
  unfold fn_X16_divide_188 ab_X16_divide_188
  obtain ⟨F, hF⟩ : ∃ F, sv_FP h = F := ⟨_, rfl⟩
  exact hk136 w tx0
theorem sm_X16_divide_136b {h0 : sv_H} {k136 : Nat → Int32 → Int32 → Int32 → Int32 → Int32 → sv_H → Option (Unit × sv_H)} {j136 : Nat → Int32 → Int32 → Int32 → Int32 → Int32 → vt_S → Option (Unit × vt_S)} (hk136 : ∀ {x0 : Nat} {x1 : Int32} {x2 : Int32} {x6 : Int32} {x7 : Int32} {x8 : Int32} {h : sv_H}, vt_W h0 h → sv_K h0 x0 = 17 → vt_sm h0 (k136 x0 x1 x2 x6 x7 x8 h) (j136 x0 x1 x2 x6 x7 x8 (vt_ab h))) {x0 : Nat} {x1 : Int32} {x2 : Int32} {x6 : Int32} {x7 : Int32} {x8 : Int32} {h : sv_H} (w : vt_W h0 h) (tx0 : sv_K h0 x0 = 17) : vt_sm h0 (fn_X16_divide_136b k136 x0 x1 x2 x6 x7 x8 h) (ab_X16_divide_136b j136 x0 x1 x2 x6 x7 x8 (vt_ab h)) := by
  unfold fn_X16_divide_136b ab_X16_divide_136b
  obtain ⟨F, hF⟩ : ∃ F, sv_FP h = F := ⟨_, rfl⟩
  refine sm_if (fun _ => ?_) (fun _ => ?_)
  · refine sm_gA w hF tx0 tk_1723 (by decide) (fun v1 av1 => ?_)
    refine sm_gI w tx0 (by decide) (fun v2 => ?_)
    refine sm_gA w hF tx0 tk_1722 (by decide) (fun v3 av3 => ?_)
    refine sm_lI w hF tx0 av3 tk_1722 (fun _ => ?_)
    refine sm_sI w hF tx0 av1 tk_1723 (fun h w hF => ?_)
    refine sm_cl w (sm_X16_collect w.1 (w.k tx0 (by decide))) (fun r6 h2 e w2 => ?_)
    have hF2 : sv_FP h2 = F := (ow_X16_collect sv_clT trivial e).2.1.1.trans hF
    clear e w hF
    have hF := hF2
    have w := w2
    clear hF2 w2
    refine sm_cl w (sm_X16_collect w.1 (w.k tx0 (by decide))) (fun r8 h2 e w2 => ?_)
    have hF2 : sv_FP h2 = F := (ow_X16_collect sv_clT trivial e).2.1.1.trans hF
    clear e w hF
    have hF := hF2
    have w := w2
    clear hF2 w2
    refine sm_cl w (sm_X16_push w.1 (w.k tx0 (by decide))) (fun _ h2 e w2 => ?_)
    have hF2 : sv_FP h2 = F := (ow_X16_push sv_clT trivial e).2.1.1.trans hF
    clear e w hF
    have hF := hF2
    have w := w2
    clear hF2 w2
    refine sm_cl w (sm_X16_push w.1 (w.k tx0 (by decide))) (fun _ h2 e w2 => ?_)
    have hF2 : sv_FP h2 = F := (ow_X16_push sv_clT trivial e).2.1.1.trans hF
    clear e w hF
    have hF := hF2
    have w := w2
    clear hF2 w2
    exact sm_rt w
  · refine sm_gA w hF tx0 tk_1712 (by decide) (fun v12 av12 => ?_)
    refine sm_lI w hF tx0 av12 tk_1712 (fun _ => ?_)
    refine sm_cl w (sm_X16_lieOf w.1 (w.k tx0 (by decide))) (fun r14 h2 e w2 => ?_)
    have hF2 : sv_FP h2 = F := by rw [ro_X16_lieOf e]; exact hF
    clear e w hF
    have hF := hF2
    have w := w2
    clear hF2 w2
    refine sm_if (fun _ => ?_) (fun _ => ?_)
    · refine sm_gA w hF tx0 tk_1724 (by decide) (fun v16 av16 => ?_)
      refine sm_gI w tx0 (by decide) (fun v17 => ?_)
      refine sm_gA w hF tx0 tk_1712 (by decide) (fun v18 av18 => ?_)
      refine sm_lI w hF tx0 av18 tk_1712 (fun _ => ?_)
      refine sm_sI w hF tx0 av16 tk_1724 (fun h w hF => ?_)
      refine sm_gI w tx0 (by decide) (fun v21 => ?_)
      refine sm_pI w hF tx0 (by decide) (fun h w hF => ?_)
      exact sm_X16_divide_188 (k136 := k136) (j136 := j136) hk136 w tx0
    · exact sm_X16_divide_188 (k136 := k136) (j136 := j136) hk136 w tx0
theorem sm_X16_divide_136 {h0 : sv_H} : ∀ (n : Nat) {x0 : Nat} {x1 : Int32} {x2 : Int32} {x6 : Int32} {x7 : Int32} {x8 : Int32} {h : sv_H}, vt_W h0 h → sv_K h0 x0 = 17 → vt_sm h0 (fn_X16_divide_136 n x0 x1 x2 x6 x7 x8 h) (ab_X16_divide_136 n x0 x1 x2 x6 x7 x8 (vt_ab h)) := by
  intro n
  induction n with
  | zero => intro x0 x1 x2 x6 x7 x8 h w tx0; exact sm_no
  | succ n ih => intro x0 x1 x2 x6 x7 x8 h w tx0; exact sm_X16_divide_136b (k136 := fn_X16_divide_136 n) (j136 := ab_X16_divide_136 n) (fun w tx0 => ih w tx0) w tx0
theorem sm_X16_divide_121 {h0 : sv_H} {x0 : Nat} {x1 : Int32} {x2 : Int32} {x6 : Int32} {x7 : Int32} {s0 : Nat} {s0o : Nat} {s1 : Int32} {s2 : Int32} {h : sv_H} (w : vt_W h0 h) (tx0 : sv_K h0 x0 = 17) (ts0 : sv_K h0 s0o = 17) (as0 : sv_FP h 1721 s0o = s0) : vt_sm h0 (fn_X16_divide_121 x0 x1 x2 x6 x7 s0 s1 s2 h) (ab_X16_divide_121 x0 x1 x2 x6 x7 s0o s1 s2 (vt_ab h)) := by
  unfold fn_X16_divide_121 ab_X16_divide_121
  obtain ⟨F, hF⟩ : ∃ F, sv_FP h = F := ⟨_, rfl⟩
  rw [hF] at as0
  refine sm_sI w hF ts0 as0 tk_1721 (fun h w hF => ?_)
  refine sm_gA w hF tx0 tk_1722 (by decide) (fun v2 av2 => ?_)
  refine sm_gI w tx0 (by decide) (fun v3 => ?_)
  refine sm_sI w hF tx0 av2 tk_1722 (fun h w hF => ?_)
  exact sm_X16_divide_136 sv_fuel w tx0
theorem sm_X16_divide_51 {h0 : sv_H} {x0 : Nat} {x1 : Int32} {x2 : Int32} {x3 : Int32} {h : sv_H} (w : vt_W h0 h) (tx0 : sv_K h0 x0 = 17) : vt_sm h0 (fn_X16_divide_51 x0 x1 x2 x3 h) (ab_X16_divide_51 x0 x1 x2 x3 (vt_ab h)) := by
  unfold fn_X16_divide_51 ab_X16_divide_51
  obtain ⟨F, hF⟩ : ∃ F, sv_FP h = F := ⟨_, rfl⟩
  refine sm_if (fun _ => ?_) (fun _ => ?_)
  · refine sm_gI w tx0 (by decide) (fun v11 => ?_)
    refine sm_pI w hF tx0 (by decide) (fun h w hF => ?_)
    exact sm_rt w
  · refine sm_gI w tx0 (by decide) (fun v1 => ?_)
    refine sm_gI w tx0 (by decide) (fun v2 => ?_)
    refine sm_pI w hF tx0 (by decide) (fun h w hF => ?_)
    refine sm_cl w (sm_X16_bestOf w.1 (w.k tx0 (by decide))) (fun r4 h2 e w2 => ?_)
    have hF2 : sv_FP h2 = F := by rw [ro_X16_bestOf e]; exact hF
    clear e w hF
    have hF := hF2
    have w := w2
    clear hF2 w2
    refine sm_gA w hF tx0 tk_1718 (by decide) (fun v6 av6 => ?_)
    refine sm_sI w hF tx0 av6 tk_1718 (fun h w hF => ?_)
    refine sm_gA w hF tx0 tk_1721 (by decide) (fun v8 av8 => ?_)
    refine sm_if (fun _ => ?_) (fun _ => ?_)
    · refine sm_gA w hF tx0 tk_1721 (by decide) (fun v9 av9 => ?_)
      refine sm_lI w hF tx0 av9 tk_1721 (fun _ => ?_)
      exact sm_X16_divide_121 w tx0 tx0 (by rw [hF]; exact av8)
    · exact sm_X16_divide_121 w tx0 tx0 (by rw [hF]; exact av8)
theorem sm_X16_divide_39 {h0 : sv_H} {x0 : Nat} {x1 : Int32} {x2 : Int32} {x3 : Int32} {x5 : Int32} {h : sv_H} (w : vt_W h0 h) (tx0 : sv_K h0 x0 = 17) : vt_sm h0 (fn_X16_divide_39 x0 x1 x2 x3 x5 h) (ab_X16_divide_39 x0 x1 x2 x3 x5 (vt_ab h)) := by
  unfold fn_X16_divide_39 ab_X16_divide_39
  obtain ⟨F, hF⟩ : ∃ F, sv_FP h = F := ⟨_, rfl⟩
  refine sm_if (fun _ => ?_) (fun _ => ?_)
  · exact sm_X16_divide_51 w tx0
  · refine sm_gA w hF tx0 tk_1720 (by decide) (fun v1 av1 => ?_)
    refine sm_sI w hF tx0 av1 tk_1720 (fun h w hF => ?_)
    exact sm_X16_divide_51 w tx0
theorem sm_X16_divide_17 {h0 : sv_H} {x0 : Nat} {x1 : Int32} {x2 : Int32} {x3 : Int32} {x4 : Int32} {s0 : Int32} {h : sv_H} (w : vt_W h0 h) (tx0 : sv_K h0 x0 = 17) : vt_sm h0 (fn_X16_divide_17 x0 x1 x2 x3 x4 s0 h) (ab_X16_divide_17 x0 x1 x2 x3 x4 s0 (vt_ab h)) := by
  unfold fn_X16_divide_17 ab_X16_divide_17
  obtain ⟨F, hF⟩ : ∃ F, sv_FP h = F := ⟨_, rfl⟩
  refine sm_if (fun _ => ?_) (fun _ => ?_)
  · exact sm_X16_divide_39 w tx0
  · refine sm_if (fun _ => ?_) (fun _ => ?_)
    · refine sm_gA w hF tx0 tk_1719 (by decide) (fun v1 av1 => ?_)
      refine sm_sI w hF tx0 av1 tk_1719 (fun h w hF => ?_)
      exact sm_X16_divide_51 w tx0
    · exact sm_X16_divide_39 w tx0
theorem sm_X16_divide_0 {h0 : sv_H} {x0 : Nat} {x1 : Int32} {x2 : Int32} {x3 : Int32} {x4 : Int32} {h : sv_H} (w : vt_W h0 h) (tx0 : sv_K h0 x0 = 17) : vt_sm h0 (fn_X16_divide x0 x1 x2 x3 x4 h) (ab_X16_divide x0 x1 x2 x3 x4 (vt_ab h)) := by
  unfold fn_X16_divide ab_X16_divide
  obtain ⟨F, hF⟩ : ∃ F, sv_FP h = F := ⟨_, rfl⟩
  refine sm_kd w tx0 (by decide) ?_
  refine sm_if (fun _ => ?_) (fun _ => ?_)
  · refine sm_gI w tx0 (by decide) (fun v2 => ?_)
    exact sm_X16_divide_17 w tx0
  · refine sm_gI w tx0 (by decide) (fun v1 => ?_)
    exact sm_X16_divide_17 w tx0
theorem sm_X16_divide {x0 : Nat} {x1 : Int32} {x2 : Int32} {x3 : Int32} {x4 : Int32} {h : sv_H} (g : vt_G h) (tx0 : sv_K h x0 = 17) : vt_sm h (fn_X16_divide x0 x1 x2 x3 x4 h) (ab_X16_divide x0 x1 x2 x3 x4 (vt_ab h)) := sm_X16_divide_0 ⟨g, vt_ko.refl h⟩ tx0

theorem sm_X16_make_77b {h0 : sv_H} {k77 : Nat → sv_H → Option (Unit × sv_H)} {j77 : Nat → vt_S → Option (Unit × vt_S)} (hk77 : ∀ {x0 : Nat} {h : sv_H}, vt_W h0 h → sv_K h0 x0 = 17 → vt_sm h0 (k77 x0 h) (j77 x0 (vt_ab h))) {x0 : Nat} {h : sv_H} (w : vt_W h0 h) (tx0 : sv_K h0 x0 = 17) : vt_sm h0 (fn_X16_make_77b k77 x0 h) (ab_X16_make_77b j77 x0 (vt_ab h)) := by
  unfold fn_X16_make_77b ab_X16_make_77b
  obtain ⟨F, hF⟩ : ∃ F, sv_FP h = F := ⟨_, rfl⟩
  refine sm_gI w tx0 (by decide) (fun v1 => ?_)
  refine sm_if (fun _ => ?_) (fun _ => ?_)
  · exact sm_rt w
  · refine sm_gI w tx0 (by decide) (fun v2 => ?_)
    refine sm_pI w hF tx0 (by decide) (fun h w hF => ?_)
    refine sm_gA w hF tx0 tk_1713 (by decide) (fun v4 av4 => ?_)
    refine sm_gI w tx0 (by decide) (fun v5 => ?_)
    refine sm_lI w hF tx0 av4 tk_1713 (fun _ => ?_)
    refine sm_gA w hF tx0 tk_1714 (by decide) (fun v7 av7 => ?_)
    refine sm_gI w tx0 (by decide) (fun v8 => ?_)
    refine sm_lI w hF tx0 av7 tk_1714 (fun _ => ?_)
    refine sm_gA w hF tx0 tk_1715 (by decide) (fun v10 av10 => ?_)
    refine sm_gI w tx0 (by decide) (fun v11 => ?_)
    refine sm_lI w hF tx0 av10 tk_1715 (fun _ => ?_)
    refine sm_gA w hF tx0 tk_1716 (by decide) (fun v13 av13 => ?_)
    refine sm_gI w tx0 (by decide) (fun v14 => ?_)
    refine sm_lI w hF tx0 av13 tk_1716 (fun _ => ?_)
    refine sm_cl w (sm_X16_divide w.1 (w.k tx0 (by decide))) (fun _ h2 e w2 => ?_)
    have hF2 : sv_FP h2 = F := (ow_X16_divide sv_clT trivial e).2.1.1.trans hF
    clear e w hF
    have hF := hF2
    have w := w2
    clear hF2 w2
    exact hk77 w tx0
theorem sm_X16_make_77 {h0 : sv_H} : ∀ (n : Nat) {x0 : Nat} {h : sv_H}, vt_W h0 h → sv_K h0 x0 = 17 → vt_sm h0 (fn_X16_make_77 n x0 h) (ab_X16_make_77 n x0 (vt_ab h)) := by
  intro n
  induction n with
  | zero => intro x0 h w tx0; exact sm_no
  | succ n ih => intro x0 h w tx0; exact sm_X16_make_77b (k77 := fn_X16_make_77 n) (j77 := ab_X16_make_77 n) (fun w tx0 => ih w tx0) w tx0
theorem sm_X16_make_63 {h0 : sv_H} {k29 : Nat → Int32 → Int32 → sv_H → Option (Unit × sv_H)} {j29 : Nat → Int32 → Int32 → vt_S → Option (Unit × vt_S)} (hk29 : ∀ {x0 : Nat} {x1 : Int32} {x2 : Int32} {h : sv_H}, vt_W h0 h → sv_K h0 x0 = 17 → vt_sm h0 (k29 x0 x1 x2 h) (j29 x0 x1 x2 (vt_ab h))) {x0 : Nat} {x1 : Int32} {x2 : Int32} {h : sv_H} (w : vt_W h0 h) (tx0 : sv_K h0 x0 = 17) : vt_sm h0 (fn_X16_make_63 k29 x0 x1 x2 h) (ab_X16_make_63 j29 x0 x1 x2 (vt_ab h)) := by
  unfold fn_X16_make_63 ab_X16_make_63
  obtain ⟨F, hF⟩ : ∃ F, sv_FP h = F := ⟨_, rfl⟩
  exact hk29 w tx0
theorem sm_X16_make_29b {h0 : sv_H} {k29 : Nat → Int32 → Int32 → sv_H → Option (Unit × sv_H)} {j29 : Nat → Int32 → Int32 → vt_S → Option (Unit × vt_S)} (hk29 : ∀ {x0 : Nat} {x1 : Int32} {x2 : Int32} {h : sv_H}, vt_W h0 h → sv_K h0 x0 = 17 → vt_sm h0 (k29 x0 x1 x2 h) (j29 x0 x1 x2 (vt_ab h))) {x0 : Nat} {x1 : Int32} {x2 : Int32} {h : sv_H} (w : vt_W h0 h) (tx0 : sv_K h0 x0 = 17) : vt_sm h0 (fn_X16_make_29b k29 x0 x1 x2 h) (ab_X16_make_29b j29 x0 x1 x2 (vt_ab h)) := by
  unfold fn_X16_make_29b ab_X16_make_29b
  obtain ⟨F, hF⟩ : ∃ F, sv_FP h = F := ⟨_, rfl⟩
  refine sm_if (fun _ => ?_) (fun _ => ?_)
  · refine sm_cl w (sm_X16_push w.1 (w.k tx0 (by decide))) (fun _ h2 e w2 => ?_)
    have hF2 : sv_FP h2 = F := (ow_X16_push sv_clT trivial e).2.1.1.trans hF
    clear e w hF
    have hF := hF2
    have w := w2
    clear hF2 w2
    exact sm_X16_make_77 sv_fuel w tx0
  · refine sm_gA w hF tx0 tk_1700 (by decide) (fun v2 av2 => ?_)
    refine sm_lZ w hF tx0 av2 tk_1700 (fun _ => ?_)
    refine sm_if (fun _ => ?_) (fun _ => ?_)
    · exact sm_X16_make_63 (k29 := k29) (j29 := j29) hk29 w tx0
    · refine sm_gA w hF tx0 tk_1712 (by decide) (fun v4 av4 => ?_)
      refine sm_cl w (sm_X16_piece w.1 (w.k tx0 (by decide))) (fun r5 h2 e w2 => ?_)
      have hF2 : sv_FP h2 = F := (ow_X16_piece sv_clT trivial e).2.1.1.trans hF
      clear e w hF
      have hF := hF2
      have w := w2
      clear hF2 w2
      refine sm_sI w hF tx0 av4 tk_1712 (fun h w hF => ?_)
      exact sm_X16_make_63 (k29 := k29) (j29 := j29) hk29 w tx0
theorem sm_X16_make_29 {h0 : sv_H} : ∀ (n : Nat) {x0 : Nat} {x1 : Int32} {x2 : Int32} {h : sv_H}, vt_W h0 h → sv_K h0 x0 = 17 → vt_sm h0 (fn_X16_make_29 n x0 x1 x2 h) (ab_X16_make_29 n x0 x1 x2 (vt_ab h)) := by
  intro n
  induction n with
  | zero => intro x0 x1 x2 h w tx0; exact sm_no
  | succ n ih => intro x0 x1 x2 h w tx0; exact sm_X16_make_29b (k29 := fn_X16_make_29 n) (j29 := ab_X16_make_29 n) (fun w tx0 => ih w tx0) w tx0
theorem sm_X16_make_0 {h0 : sv_H} {x0 : Nat} {h : sv_H} (w : vt_W h0 h) (tx0 : sv_K h0 x0 = 17) : vt_sm h0 (fn_X16_make x0 h) (ab_X16_make x0 (vt_ab h)) := by
  unfold fn_X16_make ab_X16_make
  obtain ⟨F, hF⟩ : ∃ F, sv_FP h = F := ⟨_, rfl⟩
  refine sm_kd w tx0 (by decide) ?_
  refine sm_pI w hF tx0 (by decide) (fun h w hF => ?_)
  refine sm_pI w hF tx0 (by decide) (fun h w hF => ?_)
  refine sm_pI w hF tx0 (by decide) (fun h w hF => ?_)
  refine sm_pI w hF tx0 (by decide) (fun h w hF => ?_)
  refine sm_pI w hF tx0 (by decide) (fun h w hF => ?_)
  exact sm_X16_make_29 sv_fuel w tx0
theorem sm_X16_make {x0 : Nat} {h : sv_H} (g : vt_G h) (tx0 : sv_K h x0 = 17) : vt_sm h (fn_X16_make x0 h) (ab_X16_make x0 (vt_ab h)) := sm_X16_make_0 ⟨g, vt_ko.refl h⟩ tx0

theorem sm_X16_know_16 {h0 : sv_H} {h : sv_H} (w : vt_W h0 h) : vt_sm h0 (fn_X16_know_16 h) (ab_X16_know_16 (vt_ab h)) := by
  unfold fn_X16_know_16 ab_X16_know_16
  obtain ⟨F, hF⟩ : ∃ F, sv_FP h = F := ⟨_, rfl⟩
  exact sm_rt w
theorem sm_X16_know_0 {h0 : sv_H} {x0 : Nat} {h : sv_H} (w : vt_W h0 h) (tx0 : sv_K h0 x0 = 17) : vt_sm h0 (fn_X16_know x0 h) (ab_X16_know x0 (vt_ab h)) := by
  unfold fn_X16_know ab_X16_know
  obtain ⟨F, hF⟩ : ∃ F, sv_FP h = F := ⟨_, rfl⟩
  refine sm_kd w tx0 (by decide) ?_
  refine sm_gI w tx0 (by decide) (fun v1 => ?_)
  refine sm_if (fun _ => ?_) (fun _ => ?_)
  · refine sm_cl w (sm_X16_make w.1 (w.k tx0 (by decide))) (fun _ h2 e w2 => ?_)
    have hF2 : sv_FP h2 = F := (ow_X16_make sv_clT trivial e).2.1.1.trans hF
    clear e w hF
    have hF := hF2
    have w := w2
    clear hF2 w2
    refine sm_pZ w hF tx0 (by decide) (fun h w hF => ?_)
    exact sm_X16_know_16 w
  · exact sm_X16_know_16 w
theorem sm_X16_know {x0 : Nat} {h : sv_H} (g : vt_G h) (tx0 : sv_K h x0 = 17) : vt_sm h (fn_X16_know x0 h) (ab_X16_know x0 (vt_ab h)) := sm_X16_know_0 ⟨g, vt_ko.refl h⟩ tx0

theorem sm_X16_isNode_21 {h0 : sv_H} {s0 : Int32} {h : sv_H} (w : vt_W h0 h) : vt_sm h0 (fn_X16_isNode_21 s0 h) (ab_X16_isNode_21 s0 (vt_ab h)) := by
  unfold fn_X16_isNode_21 ab_X16_isNode_21
  obtain ⟨F, hF⟩ : ∃ F, sv_FP h = F := ⟨_, rfl⟩
  exact sm_rz w
theorem sm_X16_isNode_20 {h0 : sv_H} {h : sv_H} (w : vt_W h0 h) : vt_sm h0 (fn_X16_isNode_20 h) (ab_X16_isNode_20 (vt_ab h)) := by
  unfold fn_X16_isNode_20 ab_X16_isNode_20
  obtain ⟨F, hF⟩ : ∃ F, sv_FP h = F := ⟨_, rfl⟩
  exact sm_X16_isNode_21 w
theorem sm_X16_isNode_0 {h0 : sv_H} {x0 : Nat} {x1 : Int32} {h : sv_H} (w : vt_W h0 h) (tx0 : sv_K h0 x0 = 17) : vt_sm h0 (fn_X16_isNode x0 x1 h) (ab_X16_isNode x0 x1 (vt_ab h)) := by
  unfold fn_X16_isNode ab_X16_isNode
  obtain ⟨F, hF⟩ : ∃ F, sv_FP h = F := ⟨_, rfl⟩
  refine sm_kd w tx0 (by decide) ?_
  refine sm_cl w (sm_X16_know w.1 (w.k tx0 (by decide))) (fun _ h2 e w2 => ?_)
  have hF2 : sv_FP h2 = F := (ow_X16_know sv_clT trivial e).2.1.1.trans hF
  clear e w hF
  have hF := hF2
  have w := w2
  clear hF2 w2
  refine sm_if (fun _ => ?_) (fun _ => ?_)
  · exact sm_X16_isNode_20 w
  · refine sm_gI w tx0 (by decide) (fun v2 => ?_)
    refine sm_if (fun _ => ?_) (fun _ => ?_)
    · exact sm_X16_isNode_20 w
    · exact sm_X16_isNode_21 w
theorem sm_X16_isNode {x0 : Nat} {x1 : Int32} {h : sv_H} (g : vt_G h) (tx0 : sv_K h x0 = 17) : vt_sm h (fn_X16_isNode x0 x1 h) (ab_X16_isNode x0 x1 (vt_ab h)) := sm_X16_isNode_0 ⟨g, vt_ko.refl h⟩ tx0

theorem sm_X16_within_33 {h0 : sv_H} {x1 : Int32} {x2 : Int32} {h : sv_H} (w : vt_W h0 h) : vt_sm h0 (fn_X16_within_33 x1 x2 h) (ab_X16_within_33 x1 x2 (vt_ab h)) := by
  unfold fn_X16_within_33 ab_X16_within_33
  obtain ⟨F, hF⟩ : ∃ F, sv_FP h = F := ⟨_, rfl⟩
  exact sm_rt w
theorem sm_X16_within_4b {h0 : sv_H} {k4 : Nat → Int32 → Int32 → sv_H → Option (Int32 × sv_H)} {j4 : Nat → Int32 → Int32 → vt_S → Option (Int32 × vt_S)} (hk4 : ∀ {x0 : Nat} {x1 : Int32} {x2 : Int32} {h : sv_H}, vt_W h0 h → sv_K h0 x0 = 17 → vt_sm h0 (k4 x0 x1 x2 h) (j4 x0 x1 x2 (vt_ab h))) {x0 : Nat} {x1 : Int32} {x2 : Int32} {h : sv_H} (w : vt_W h0 h) (tx0 : sv_K h0 x0 = 17) : vt_sm h0 (fn_X16_within_4b k4 x0 x1 x2 h) (ab_X16_within_4b j4 x0 x1 x2 (vt_ab h)) := by
  unfold fn_X16_within_4b ab_X16_within_4b
  obtain ⟨F, hF⟩ : ∃ F, sv_FP h = F := ⟨_, rfl⟩
  refine sm_gI w tx0 (by decide) (fun v1 => ?_)
  refine sm_if (fun _ => ?_) (fun _ => ?_)
  · exact sm_X16_within_33 w
  · refine sm_gA w hF tx0 tk_1721 (by decide) (fun v2 av2 => ?_)
    refine sm_lI w hF tx0 av2 tk_1721 (fun _ => ?_)
    refine sm_gA w hF tx0 tk_1721 (by decide) (fun v4 av4 => ?_)
    refine sm_lI w hF tx0 av4 tk_1721 (fun _ => ?_)
    refine sm_if (fun _ => ?_) (fun _ => ?_)
    · exact sm_X16_within_33 w
    · exact hk4 w tx0
theorem sm_X16_within_4 {h0 : sv_H} : ∀ (n : Nat) {x0 : Nat} {x1 : Int32} {x2 : Int32} {h : sv_H}, vt_W h0 h → sv_K h0 x0 = 17 → vt_sm h0 (fn_X16_within_4 n x0 x1 x2 h) (ab_X16_within_4 n x0 x1 x2 (vt_ab h)) := by
  intro n
  induction n with
  | zero => intro x0 x1 x2 h w tx0; exact sm_no
  | succ n ih => intro x0 x1 x2 h w tx0; exact sm_X16_within_4b (k4 := fn_X16_within_4 n) (j4 := ab_X16_within_4 n) (fun w tx0 => ih w tx0) w tx0
theorem sm_X16_within_0 {h0 : sv_H} {x0 : Nat} {x1 : Int32} {h : sv_H} (w : vt_W h0 h) (tx0 : sv_K h0 x0 = 17) : vt_sm h0 (fn_X16_within x0 x1 h) (ab_X16_within x0 x1 (vt_ab h)) := by
  unfold fn_X16_within ab_X16_within
  obtain ⟨F, hF⟩ : ∃ F, sv_FP h = F := ⟨_, rfl⟩
  refine sm_kd w tx0 (by decide) ?_
  exact sm_X16_within_4 sv_fuel w tx0
theorem sm_X16_within {x0 : Nat} {x1 : Int32} {h : sv_H} (g : vt_G h) (tx0 : sv_K h x0 = 17) : vt_sm h (fn_X16_within x0 x1 h) (ab_X16_within x0 x1 (vt_ab h)) := sm_X16_within_0 ⟨g, vt_ko.refl h⟩ tx0

theorem sm_X16_node_74 {h0 : sv_H} {s0 : Int32} {h : sv_H} (w : vt_W h0 h) : vt_sm h0 (fn_X16_node_74 s0 h) (ab_X16_node_74 s0 (vt_ab h)) := by
  unfold fn_X16_node_74 ab_X16_node_74
  obtain ⟨F, hF⟩ : ∃ F, sv_FP h = F := ⟨_, rfl⟩
  exact sm_rt w
theorem sm_X16_node_94 {h0 : sv_H} {s0 : Int32} {h : sv_H} (w : vt_W h0 h) : vt_sm h0 (fn_X16_node_94 s0 h) (ab_X16_node_94 s0 (vt_ab h)) := by
  unfold fn_X16_node_94 ab_X16_node_94
  obtain ⟨F, hF⟩ : ∃ F, sv_FP h = F := ⟨_, rfl⟩
  exact sm_rt w
theorem sm_X16_node_0 {h0 : sv_H} {x0 : Nat} {x1 : Int32} {x2 : Int32} {h : sv_H} (w : vt_W h0 h) (tx0 : sv_K h0 x0 = 17) : vt_sm h0 (fn_X16_node x0 x1 x2 h) (ab_X16_node x0 x1 x2 (vt_ab h)) := by
  unfold fn_X16_node ab_X16_node
  obtain ⟨F, hF⟩ : ∃ F, sv_FP h = F := ⟨_, rfl⟩
  refine sm_kd w tx0 (by decide) ?_
  refine sm_cl w (sm_X16_isNode w.1 (w.k tx0 (by decide))) (fun r1 h2 e w2 => ?_)
  have hF2 : sv_FP h2 = F := (ow_X16_isNode sv_clT trivial e).2.1.1.trans hF
  clear e w hF
  have hF := hF2
  have w := w2
  clear hF2 w2
  refine sm_if (fun _ => ?_) (fun _ => ?_)
  · exact sm_rt w
  · refine sm_if (fun _ => ?_) (fun _ => ?_)
    · refine sm_gA w hF tx0 tk_1718 (by decide) (fun v3 av3 => ?_)
      refine sm_lI w hF tx0 av3 tk_1718 (fun _ => ?_)
      exact sm_rt w
    refine sm_if (fun _ => ?_) (fun _ => ?_)
    · refine sm_gA w hF tx0 tk_1719 (by decide) (fun v5 av5 => ?_)
      refine sm_lI w hF tx0 av5 tk_1719 (fun _ => ?_)
      refine sm_if (fun _ => ?_) (fun _ => ?_)
      · refine sm_gA w hF tx0 tk_1719 (by decide) (fun v7 av7 => ?_)
        refine sm_lI w hF tx0 av7 tk_1719 (fun _ => ?_)
        exact sm_X16_node_74 w
      · exact sm_X16_node_74 w
    refine sm_if (fun _ => ?_) (fun _ => ?_)
    · refine sm_gA w hF tx0 tk_1720 (by decide) (fun v9 av9 => ?_)
      refine sm_lI w hF tx0 av9 tk_1720 (fun _ => ?_)
      refine sm_if (fun _ => ?_) (fun _ => ?_)
      · refine sm_gA w hF tx0 tk_1720 (by decide) (fun v11 av11 => ?_)
        refine sm_lI w hF tx0 av11 tk_1720 (fun _ => ?_)
        exact sm_X16_node_94 w
      · exact sm_X16_node_94 w
    refine sm_if (fun _ => ?_) (fun _ => ?_)
    · refine sm_gA w hF tx0 tk_1723 (by decide) (fun v13 av13 => ?_)
      refine sm_lI w hF tx0 av13 tk_1723 (fun _ => ?_)
      exact sm_rt w
    refine sm_if (fun _ => ?_) (fun _ => ?_)
    · refine sm_cl w (sm_X16_within w.1 (w.k tx0 (by decide))) (fun r15 h2 e w2 => ?_)
      have hF2 : sv_FP h2 = F := by rw [ro_X16_within e]; exact hF
      clear e w hF
      have hF := hF2
      have w := w2
      clear hF2 w2
      exact sm_rt w
    refine sm_if (fun _ => ?_) (fun _ => ?_)
    · refine sm_gA w hF tx0 tk_1721 (by decide) (fun v17 av17 => ?_)
      refine sm_lI w hF tx0 av17 tk_1721 (fun _ => ?_)
      exact sm_rt w
    exact sm_rt w
theorem sm_X16_node {x0 : Nat} {x1 : Int32} {x2 : Int32} {h : sv_H} (g : vt_G h) (tx0 : sv_K h x0 = 17) : vt_sm h (fn_X16_node x0 x1 x2 h) (ab_X16_node x0 x1 x2 (vt_ab h)) := sm_X16_node_0 ⟨g, vt_ko.refl h⟩ tx0

theorem sm_X17_nodeOf_25 {h0 : sv_H} {s0 : Int32} {h : sv_H} (w : vt_W h0 h) : vt_sm h0 (fn_X17_nodeOf_25 s0 h) (ab_X17_nodeOf_25 s0 (vt_ab h)) := by
  unfold fn_X17_nodeOf_25 ab_X17_nodeOf_25
  obtain ⟨F, hF⟩ : ∃ F, sv_FP h = F := ⟨_, rfl⟩
  exact sm_rt w
theorem sm_X17_nodeOf_0 {h0 : sv_H} {x0 : Nat} {x1 : Int32} {x2 : Int32} {h : sv_H} (w : vt_W h0 h) (tx0 : sv_K h0 x0 = 18) : vt_sm h0 (fn_X17_nodeOf x0 x1 x2 h) (ab_X17_nodeOf x0 x1 x2 (vt_ab h)) := by
  unfold fn_X17_nodeOf ab_X17_nodeOf
  obtain ⟨F, hF⟩ : ∃ F, sv_FP h = F := ⟨_, rfl⟩
  refine sm_kd w tx0 (by decide) ?_
  refine sm_pI w hF tx0 (by decide) (fun h w hF => ?_)
  refine sm_gI w tx0 (by decide) (fun v2 => ?_)
  refine sm_if (fun _ => ?_) (fun _ => ?_)
  · exact sm_X17_nodeOf_25 w
  · refine sm_gP w tx0 tk_1804 rfl (fun v3 tv3 => ?_)
    refine sm_cl w (sm_X16_node w.1 (w.k tv3 (by decide))) (fun r4 h2 e w2 => ?_)
    have hF2 : sv_FP h2 = F := (ow_X16_node sv_clT trivial e).2.1.1.trans hF
    clear e w hF
    have hF := hF2
    have w := w2
    clear hF2 w2
    exact sm_X17_nodeOf_25 w
theorem sm_X17_nodeOf {x0 : Nat} {x1 : Int32} {x2 : Int32} {h : sv_H} (g : vt_G h) (tx0 : sv_K h x0 = 18) : vt_sm h (fn_X17_nodeOf x0 x1 x2 h) (ab_X17_nodeOf x0 x1 x2 (vt_ab h)) := sm_X17_nodeOf_0 ⟨g, vt_ko.refl h⟩ tx0

theorem sm_X8_leafAround_90 {h0 : sv_H} {x4 : Int32} {h : sv_H} (w : vt_W h0 h) : vt_sm h0 (fn_X8_leafAround_90 x4 h) (ab_X8_leafAround_90 x4 (vt_ab h)) := by
  unfold fn_X8_leafAround_90 ab_X8_leafAround_90
  obtain ⟨F, hF⟩ : ∃ F, sv_FP h = F := ⟨_, rfl⟩
  exact sm_rt w
theorem sm_X8_leafAround_82 {h0 : sv_H} {k17 : Nat → Nat → Int32 → Int32 → Int32 → Int32 → sv_H → Option (Int32 × sv_H)} {j17 : Nat → Nat → Int32 → Int32 → Int32 → Int32 → vt_S → Option (Int32 × vt_S)} (hk17 : ∀ {x0 : Nat} {x1 : Nat} {x2 : Int32} {x3 : Int32} {x4 : Int32} {x5 : Int32} {h : sv_H}, vt_W h0 h → sv_K h0 x0 = 9 → sv_K h0 x1 = 3 → vt_sm h0 (k17 x0 x1 x2 x3 x4 x5 h) (j17 x0 x1 x2 x3 x4 x5 (vt_ab h))) {x0 : Nat} {x1 : Nat} {x2 : Int32} {x3 : Int32} {x5 : Int32} {s0 : Int32} {h : sv_H} (w : vt_W h0 h) (tx0 : sv_K h0 x0 = 9) (tx1 : sv_K h0 x1 = 3) : vt_sm h0 (fn_X8_leafAround_82 k17 x0 x1 x2 x3 x5 s0 h) (ab_X8_leafAround_82 j17 x0 x1 x2 x3 x5 s0 (vt_ab h)) := by
  unfold fn_X8_leafAround_82 ab_X8_leafAround_82
  obtain ⟨F, hF⟩ : ∃ F, sv_FP h = F := ⟨_, rfl⟩
  exact hk17 w tx0 tx1
theorem sm_X8_leafAround_58 {h0 : sv_H} {k17 : Nat → Nat → Int32 → Int32 → Int32 → Int32 → sv_H → Option (Int32 × sv_H)} {j17 : Nat → Nat → Int32 → Int32 → Int32 → Int32 → vt_S → Option (Int32 × vt_S)} (hk17 : ∀ {x0 : Nat} {x1 : Nat} {x2 : Int32} {x3 : Int32} {x4 : Int32} {x5 : Int32} {h : sv_H}, vt_W h0 h → sv_K h0 x0 = 9 → sv_K h0 x1 = 3 → vt_sm h0 (k17 x0 x1 x2 x3 x4 x5 h) (j17 x0 x1 x2 x3 x4 x5 (vt_ab h))) {x0 : Nat} {x1 : Nat} {x2 : Int32} {x3 : Int32} {x4 : Int32} {x5 : Int32} {s0 : Int32} {h : sv_H} (w : vt_W h0 h) (tx0 : sv_K h0 x0 = 9) (tx1 : sv_K h0 x1 = 3) : vt_sm h0 (fn_X8_leafAround_58 k17 x0 x1 x2 x3 x4 x5 s0 h) (ab_X8_leafAround_58 j17 x0 x1 x2 x3 x4 x5 s0 (vt_ab h)) := by
  unfold fn_X8_leafAround_58 ab_X8_leafAround_58
  obtain ⟨F, hF⟩ : ∃ F, sv_FP h = F := ⟨_, rfl⟩
  refine sm_if (fun _ => ?_) (fun _ => ?_)
  · refine sm_gA w hF tx0 tk_903 (by decide) (fun v1 av1 => ?_)
    refine sm_lI w hF tx0 av1 tk_903 (fun _ => ?_)
    exact sm_X8_leafAround_82 (k17 := k17) (j17 := j17) hk17 w tx0 tx1
  · refine sm_gA w hF tx0 tk_902 (by decide) (fun v3 av3 => ?_)
    refine sm_lI w hF tx0 av3 tk_902 (fun _ => ?_)
    exact sm_X8_leafAround_82 (k17 := k17) (j17 := j17) hk17 w tx0 tx1
theorem sm_X8_leafAround_17b {h0 : sv_H} {k17 : Nat → Nat → Int32 → Int32 → Int32 → Int32 → sv_H → Option (Int32 × sv_H)} {j17 : Nat → Nat → Int32 → Int32 → Int32 → Int32 → vt_S → Option (Int32 × vt_S)} (hk17 : ∀ {x0 : Nat} {x1 : Nat} {x2 : Int32} {x3 : Int32} {x4 : Int32} {x5 : Int32} {h : sv_H}, vt_W h0 h → sv_K h0 x0 = 9 → sv_K h0 x1 = 3 → vt_sm h0 (k17 x0 x1 x2 x3 x4 x5 h) (j17 x0 x1 x2 x3 x4 x5 (vt_ab h))) {x0 : Nat} {x1 : Nat} {x2 : Int32} {x3 : Int32} {x4 : Int32} {x5 : Int32} {h : sv_H} (w : vt_W h0 h) (tx0 : sv_K h0 x0 = 9) (tx1 : sv_K h0 x1 = 3) : vt_sm h0 (fn_X8_leafAround_17b k17 x0 x1 x2 x3 x4 x5 h) (ab_X8_leafAround_17b j17 x0 x1 x2 x3 x4 x5 (vt_ab h)) := by
  unfold fn_X8_leafAround_17b ab_X8_leafAround_17b
  obtain ⟨F, hF⟩ : ∃ F, sv_FP h = F := ⟨_, rfl⟩
  refine sm_gI w tx0 (by decide) (fun v1 => ?_)
  refine sm_if (fun _ => ?_) (fun _ => ?_)
  · exact sm_X8_leafAround_90 w
  · refine sm_if (fun _ => ?_) (fun _ => ?_)
    · exact sm_X8_leafAround_90 w
    · refine sm_gA w hF tx1 tk_308 (by decide) (fun v2 av2 => ?_)
      refine sm_gA w hF tx0 tk_901 (by decide) (fun v3 av3 => ?_)
      refine sm_lI w hF tx0 av3 tk_901 (fun _ => ?_)
      refine sm_lP (c := 12) w hF tx1 av2 tk_308 (by decide) (fun v5 tv5 => ?_)
      refine sm_cl w (sm_X11_sideOf w.1 (w.k tv5 (by decide))) (fun r6 h2 e w2 => ?_)
      have hF2 : sv_FP h2 = F := by rw [ro_X11_sideOf e]; exact hF
      clear e w hF
      have hF := hF2
      have w := w2
      clear hF2 w2
      refine sm_if (fun _ => ?_) (fun _ => ?_)
      · exact sm_X8_leafAround_58 (k17 := k17) (j17 := j17) hk17 w tx0 tx1
      · exact sm_X8_leafAround_58 (k17 := k17) (j17 := j17) hk17 w tx0 tx1
theorem sm_X8_leafAround_17 {h0 : sv_H} : ∀ (n : Nat) {x0 : Nat} {x1 : Nat} {x2 : Int32} {x3 : Int32} {x4 : Int32} {x5 : Int32} {h : sv_H}, vt_W h0 h → sv_K h0 x0 = 9 → sv_K h0 x1 = 3 → vt_sm h0 (fn_X8_leafAround_17 n x0 x1 x2 x3 x4 x5 h) (ab_X8_leafAround_17 n x0 x1 x2 x3 x4 x5 (vt_ab h)) := by
  intro n
  induction n with
  | zero => intro x0 x1 x2 x3 x4 x5 h w tx0 tx1; exact sm_no
  | succ n ih => intro x0 x1 x2 x3 x4 x5 h w tx0 tx1; exact sm_X8_leafAround_17b (k17 := fn_X8_leafAround_17 n) (j17 := ab_X8_leafAround_17 n) (fun w tx0 tx1 => ih w tx0 tx1) w tx0 tx1
theorem sm_X8_leafAround_12 {h0 : sv_H} {x0 : Nat} {x1 : Nat} {x2 : Int32} {x3 : Int32} {s0 : Int32} {h : sv_H} (w : vt_W h0 h) (tx0 : sv_K h0 x0 = 9) (tx1 : sv_K h0 x1 = 3) : vt_sm h0 (fn_X8_leafAround_12 x0 x1 x2 x3 s0 h) (ab_X8_leafAround_12 x0 x1 x2 x3 s0 (vt_ab h)) := by
  unfold fn_X8_leafAround_12 ab_X8_leafAround_12
  obtain ⟨F, hF⟩ : ∃ F, sv_FP h = F := ⟨_, rfl⟩
  exact sm_X8_leafAround_17 sv_fuel w tx0 tx1
theorem sm_X8_leafAround_0 {h0 : sv_H} {x0 : Nat} {x1 : Nat} {x2 : Int32} {x3 : Int32} {h : sv_H} (w : vt_W h0 h) (tx0 : sv_K h0 x0 = 9) (tx1 : sv_K h0 x1 = 3) : vt_sm h0 (fn_X8_leafAround x0 x1 x2 x3 h) (ab_X8_leafAround x0 x1 x2 x3 (vt_ab h)) := by
  unfold fn_X8_leafAround ab_X8_leafAround
  obtain ⟨F, hF⟩ : ∃ F, sv_FP h = F := ⟨_, rfl⟩
  refine sm_kd w tx0 (by decide) ?_
  refine sm_gI w tx0 (by decide) (fun v1 => ?_)
  refine sm_if (fun _ => ?_) (fun _ => ?_)
  · exact sm_X8_leafAround_12 w tx0 tx1
  · exact sm_X8_leafAround_12 w tx0 tx1
theorem sm_X8_leafAround {x0 : Nat} {x1 : Nat} {x2 : Int32} {x3 : Int32} {h : sv_H} (g : vt_G h) (tx0 : sv_K h x0 = 9) (tx1 : sv_K h x1 = 3) : vt_sm h (fn_X8_leafAround x0 x1 x2 x3 h) (ab_X8_leafAround x0 x1 x2 x3 (vt_ab h)) := sm_X8_leafAround_0 ⟨g, vt_ko.refl h⟩ tx0 tx1

theorem sm_X12_leafOf_15 {h0 : sv_H} {h : sv_H} (w : vt_W h0 h) : vt_sm h0 (fn_X12_leafOf_15 h) (ab_X12_leafOf_15 (vt_ab h)) := by
  unfold fn_X12_leafOf_15 ab_X12_leafOf_15
  obtain ⟨F, hF⟩ : ∃ F, sv_FP h = F := ⟨_, rfl⟩
  exact sm_rt w
theorem sm_X12_leafOf_0 {h0 : sv_H} {x0 : Nat} {x1 : Int32} {x2 : Int32} {h : sv_H} (w : vt_W h0 h) (tx0 : sv_K h0 x0 = 13) : vt_sm h0 (fn_X12_leafOf x0 x1 x2 h) (ab_X12_leafOf x0 x1 x2 (vt_ab h)) := by
  unfold fn_X12_leafOf ab_X12_leafOf
  obtain ⟨F, hF⟩ : ∃ F, sv_FP h = F := ⟨_, rfl⟩
  refine sm_kd w tx0 (by decide) ?_
  refine sm_cl w (sm_X12_hasMap w.1 (w.k tx0 (by decide))) (fun r1 h2 e w2 => ?_)
  have hF2 : sv_FP h2 = F := by rw [ro_X12_hasMap e]; exact hF
  clear e w hF
  have hF := hF2
  have w := w2
  clear hF2 w2
  refine sm_if (fun _ => ?_) (fun _ => ?_)
  · exact sm_X12_leafOf_15 w
  · refine sm_cl w (sm_X12_isPlace w.1) (fun r3 h2 e w2 => ?_)
    have hF2 : sv_FP h2 = F := by rw [ro_X12_isPlace e]; exact hF
    clear e w hF
    have hF := hF2
    have w := w2
    clear hF2 w2
    refine sm_if (fun _ => ?_) (fun _ => ?_)
    · exact sm_X12_leafOf_15 w
    · refine sm_gP w tx0 tk_1303 rfl (fun v5 tv5 => ?_)
      refine sm_gP w tx0 tk_1306 rfl (fun v6 tv6 => ?_)
      refine sm_cl w (sm_X8_leafAround w.1 (w.k tv5 (by decide)) (w.k tv6 (by decide))) (fun r7 h2 e w2 => ?_)
      have hF2 : sv_FP h2 = F := by rw [ro_X8_leafAround e]; exact hF
      clear e w hF
      have hF := hF2
      have w := w2
      clear hF2 w2
      exact sm_rt w
theorem sm_X12_leafOf {x0 : Nat} {x1 : Int32} {x2 : Int32} {h : sv_H} (g : vt_G h) (tx0 : sv_K h x0 = 13) : vt_sm h (fn_X12_leafOf x0 x1 x2 h) (ab_X12_leafOf x0 x1 x2 (vt_ab h)) := sm_X12_leafOf_0 ⟨g, vt_ko.refl h⟩ tx0

theorem sm_X16_isPlace_19 {h0 : sv_H} {s0 : Int32} {h : sv_H} (w : vt_W h0 h) : vt_sm h0 (fn_X16_isPlace_19 s0 h) (ab_X16_isPlace_19 s0 (vt_ab h)) := by
  unfold fn_X16_isPlace_19 ab_X16_isPlace_19
  obtain ⟨F, hF⟩ : ∃ F, sv_FP h = F := ⟨_, rfl⟩
  exact sm_rz w
theorem sm_X16_isPlace_18 {h0 : sv_H} {h : sv_H} (w : vt_W h0 h) : vt_sm h0 (fn_X16_isPlace_18 h) (ab_X16_isPlace_18 (vt_ab h)) := by
  unfold fn_X16_isPlace_18 ab_X16_isPlace_18
  obtain ⟨F, hF⟩ : ∃ F, sv_FP h = F := ⟨_, rfl⟩
  exact sm_X16_isPlace_19 w
theorem sm_X16_isPlace_0 {h0 : sv_H} {x0 : Int32} {h : sv_H} (w : vt_W h0 h) : vt_sm h0 (fn_X16_isPlace x0 h) (ab_X16_isPlace x0 (vt_ab h)) := by
  unfold fn_X16_isPlace ab_X16_isPlace
  obtain ⟨F, hF⟩ : ∃ F, sv_FP h = F := ⟨_, rfl⟩
  refine sm_if (fun _ => ?_) (fun _ => ?_)
  · exact sm_X16_isPlace_18 w
  · refine sm_if (fun _ => ?_) (fun _ => ?_)
    · exact sm_X16_isPlace_18 w
    · exact sm_X16_isPlace_19 w
theorem sm_X16_isPlace {x0 : Int32} {h : sv_H} (g : vt_G h) : vt_sm h (fn_X16_isPlace x0 h) (ab_X16_isPlace x0 (vt_ab h)) := sm_X16_isPlace_0 ⟨g, vt_ko.refl h⟩

theorem sm_X16_isLeft_24 {h0 : sv_H} {s0 : Int32} {h : sv_H} (w : vt_W h0 h) : vt_sm h0 (fn_X16_isLeft_24 s0 h) (ab_X16_isLeft_24 s0 (vt_ab h)) := by
  unfold fn_X16_isLeft_24 ab_X16_isLeft_24
  obtain ⟨F, hF⟩ : ∃ F, sv_FP h = F := ⟨_, rfl⟩
  exact sm_rz w
theorem sm_X16_isLeft_0 {h0 : sv_H} {x0 : Nat} {x1 : Int32} {x2 : Int32} {x3 : Int32} {h : sv_H} (w : vt_W h0 h) (tx0 : sv_K h0 x0 = 17) : vt_sm h0 (fn_X16_isLeft x0 x1 x2 x3 h) (ab_X16_isLeft x0 x1 x2 x3 (vt_ab h)) := by
  unfold fn_X16_isLeft ab_X16_isLeft
  obtain ⟨F, hF⟩ : ∃ F, sv_FP h = F := ⟨_, rfl⟩
  refine sm_kd w tx0 (by decide) ?_
  refine sm_gA w hF tx0 tk_1718 (by decide) (fun v1 av1 => ?_)
  refine sm_lI w hF tx0 av1 tk_1718 (fun _ => ?_)
  refine sm_cl w (sm_X16_sideOf w.1 (w.k tx0 (by decide))) (fun r3 h2 e w2 => ?_)
  have hF2 : sv_FP h2 = F := by rw [ro_X16_sideOf e]; exact hF
  clear e w hF
  have hF := hF2
  have w := w2
  clear hF2 w2
  refine sm_if (fun _ => ?_) (fun _ => ?_)
  · exact sm_X16_isLeft_24 w
  · exact sm_X16_isLeft_24 w
theorem sm_X16_isLeft {x0 : Nat} {x1 : Int32} {x2 : Int32} {x3 : Int32} {h : sv_H} (g : vt_G h) (tx0 : sv_K h x0 = 17) : vt_sm h (fn_X16_isLeft x0 x1 x2 x3 h) (ab_X16_isLeft x0 x1 x2 x3 (vt_ab h)) := sm_X16_isLeft_0 ⟨g, vt_ko.refl h⟩ tx0

theorem sm_X16_leaf_14 {h0 : sv_H} {h : sv_H} (w : vt_W h0 h) : vt_sm h0 (fn_X16_leaf_14 h) (ab_X16_leaf_14 (vt_ab h)) := by
  unfold fn_X16_leaf_14 ab_X16_leaf_14
  obtain ⟨F, hF⟩ : ∃ F, sv_FP h = F := ⟨_, rfl⟩
  exact sm_rt w
theorem sm_X16_leaf_62 {h0 : sv_H} {k33 : Nat → Int32 → Int32 → Int32 → sv_H → Option (Int32 × sv_H)} {j33 : Nat → Int32 → Int32 → Int32 → vt_S → Option (Int32 × vt_S)} (hk33 : ∀ {x0 : Nat} {x1 : Int32} {x2 : Int32} {x3 : Int32} {h : sv_H}, vt_W h0 h → sv_K h0 x0 = 17 → vt_sm h0 (k33 x0 x1 x2 x3 h) (j33 x0 x1 x2 x3 (vt_ab h))) {x0 : Nat} {x1 : Int32} {x2 : Int32} {s0 : Int32} {h : sv_H} (w : vt_W h0 h) (tx0 : sv_K h0 x0 = 17) : vt_sm h0 (fn_X16_leaf_62 k33 x0 x1 x2 s0 h) (ab_X16_leaf_62 j33 x0 x1 x2 s0 (vt_ab h)) := by
  unfold fn_X16_leaf_62 ab_X16_leaf_62
  obtain ⟨F, hF⟩ : ∃ F, sv_FP h = F := ⟨_, rfl⟩
  exact hk33 w tx0
theorem sm_X16_leaf_33b {h0 : sv_H} {k33 : Nat → Int32 → Int32 → Int32 → sv_H → Option (Int32 × sv_H)} {j33 : Nat → Int32 → Int32 → Int32 → vt_S → Option (Int32 × vt_S)} (hk33 : ∀ {x0 : Nat} {x1 : Int32} {x2 : Int32} {x3 : Int32} {h : sv_H}, vt_W h0 h → sv_K h0 x0 = 17 → vt_sm h0 (k33 x0 x1 x2 x3 h) (j33 x0 x1 x2 x3 (vt_ab h))) {x0 : Nat} {x1 : Int32} {x2 : Int32} {x3 : Int32} {h : sv_H} (w : vt_W h0 h) (tx0 : sv_K h0 x0 = 17) : vt_sm h0 (fn_X16_leaf_33b k33 x0 x1 x2 x3 h) (ab_X16_leaf_33b j33 x0 x1 x2 x3 (vt_ab h)) := by
  unfold fn_X16_leaf_33b ab_X16_leaf_33b
  obtain ⟨F, hF⟩ : ∃ F, sv_FP h = F := ⟨_, rfl⟩
  refine sm_if (fun _ => ?_) (fun _ => ?_)
  · exact sm_rt w
  · refine sm_cl w (sm_X16_isLeft w.1 (w.k tx0 (by decide))) (fun r1 h2 e w2 => ?_)
    have hF2 : sv_FP h2 = F := by rw [ro_X16_isLeft e]; exact hF
    clear e w hF
    have hF := hF2
    have w := w2
    clear hF2 w2
    refine sm_if (fun _ => ?_) (fun _ => ?_)
    · refine sm_gA w hF tx0 tk_1720 (by decide) (fun v3 av3 => ?_)
      refine sm_lI w hF tx0 av3 tk_1720 (fun _ => ?_)
      exact sm_X16_leaf_62 (k33 := k33) (j33 := j33) hk33 w tx0
    · refine sm_gA w hF tx0 tk_1719 (by decide) (fun v5 av5 => ?_)
      refine sm_lI w hF tx0 av5 tk_1719 (fun _ => ?_)
      exact sm_X16_leaf_62 (k33 := k33) (j33 := j33) hk33 w tx0
theorem sm_X16_leaf_33 {h0 : sv_H} : ∀ (n : Nat) {x0 : Nat} {x1 : Int32} {x2 : Int32} {x3 : Int32} {h : sv_H}, vt_W h0 h → sv_K h0 x0 = 17 → vt_sm h0 (fn_X16_leaf_33 n x0 x1 x2 x3 h) (ab_X16_leaf_33 n x0 x1 x2 x3 (vt_ab h)) := by
  intro n
  induction n with
  | zero => intro x0 x1 x2 x3 h w tx0; exact sm_no
  | succ n ih => intro x0 x1 x2 x3 h w tx0; exact sm_X16_leaf_33b (k33 := fn_X16_leaf_33 n) (j33 := ab_X16_leaf_33 n) (fun w tx0 => ih w tx0) w tx0
theorem sm_X16_leaf_32 {h0 : sv_H} {x0 : Nat} {x1 : Int32} {x2 : Int32} {s0 : Int32} {h : sv_H} (w : vt_W h0 h) (tx0 : sv_K h0 x0 = 17) : vt_sm h0 (fn_X16_leaf_32 x0 x1 x2 s0 h) (ab_X16_leaf_32 x0 x1 x2 s0 (vt_ab h)) := by
  unfold fn_X16_leaf_32 ab_X16_leaf_32
  obtain ⟨F, hF⟩ : ∃ F, sv_FP h = F := ⟨_, rfl⟩
  exact sm_X16_leaf_33 sv_fuel w tx0
theorem sm_X16_leaf_0 {h0 : sv_H} {x0 : Nat} {x1 : Int32} {x2 : Int32} {h : sv_H} (w : vt_W h0 h) (tx0 : sv_K h0 x0 = 17) : vt_sm h0 (fn_X16_leaf x0 x1 x2 h) (ab_X16_leaf x0 x1 x2 (vt_ab h)) := by
  unfold fn_X16_leaf ab_X16_leaf
  obtain ⟨F, hF⟩ : ∃ F, sv_FP h = F := ⟨_, rfl⟩
  refine sm_kd w tx0 (by decide) ?_
  refine sm_cl w (sm_X16_isPlace w.1) (fun r1 h2 e w2 => ?_)
  have hF2 : sv_FP h2 = F := by rw [ro_X16_isPlace e]; exact hF
  clear e w hF
  have hF := hF2
  have w := w2
  clear hF2 w2
  refine sm_if (fun _ => ?_) (fun _ => ?_)
  · exact sm_X16_leaf_14 w
  · refine sm_cl w (sm_X16_isPlace w.1) (fun r3 h2 e w2 => ?_)
    have hF2 : sv_FP h2 = F := by rw [ro_X16_isPlace e]; exact hF
    clear e w hF
    have hF := hF2
    have w := w2
    clear hF2 w2
    refine sm_if (fun _ => ?_) (fun _ => ?_)
    · exact sm_X16_leaf_14 w
    · refine sm_cl w (sm_X16_know w.1 (w.k tx0 (by decide))) (fun _ h2 e w2 => ?_)
      have hF2 : sv_FP h2 = F := (ow_X16_know sv_clT trivial e).2.1.1.trans hF
      clear e w hF
      have hF := hF2
      have w := w2
      clear hF2 w2
      refine sm_gI w tx0 (by decide) (fun v6 => ?_)
      refine sm_if (fun _ => ?_) (fun _ => ?_)
      · exact sm_X16_leaf_32 w tx0
      · exact sm_X16_leaf_32 w tx0
theorem sm_X16_leaf {x0 : Nat} {x1 : Int32} {x2 : Int32} {h : sv_H} (g : vt_G h) (tx0 : sv_K h x0 = 17) : vt_sm h (fn_X16_leaf x0 x1 x2 h) (ab_X16_leaf x0 x1 x2 (vt_ab h)) := sm_X16_leaf_0 ⟨g, vt_ko.refl h⟩ tx0

theorem sm_X17_leafOf_25 {h0 : sv_H} {s0 : Int32} {h : sv_H} (w : vt_W h0 h) : vt_sm h0 (fn_X17_leafOf_25 s0 h) (ab_X17_leafOf_25 s0 (vt_ab h)) := by
  unfold fn_X17_leafOf_25 ab_X17_leafOf_25
  obtain ⟨F, hF⟩ : ∃ F, sv_FP h = F := ⟨_, rfl⟩
  exact sm_rt w
theorem sm_X17_leafOf_0 {h0 : sv_H} {x0 : Nat} {x1 : Int32} {x2 : Int32} {h : sv_H} (w : vt_W h0 h) (tx0 : sv_K h0 x0 = 18) : vt_sm h0 (fn_X17_leafOf x0 x1 x2 h) (ab_X17_leafOf x0 x1 x2 (vt_ab h)) := by
  unfold fn_X17_leafOf ab_X17_leafOf
  obtain ⟨F, hF⟩ : ∃ F, sv_FP h = F := ⟨_, rfl⟩
  refine sm_kd w tx0 (by decide) ?_
  refine sm_pI w hF tx0 (by decide) (fun h w hF => ?_)
  refine sm_gI w tx0 (by decide) (fun v2 => ?_)
  refine sm_if (fun _ => ?_) (fun _ => ?_)
  · exact sm_X17_leafOf_25 w
  · refine sm_gP w tx0 tk_1804 rfl (fun v3 tv3 => ?_)
    refine sm_cl w (sm_X16_leaf w.1 (w.k tv3 (by decide))) (fun r4 h2 e w2 => ?_)
    have hF2 : sv_FP h2 = F := (ow_X16_leaf sv_clT trivial e).2.1.1.trans hF
    clear e w hF
    have hF := hF2
    have w := w2
    clear hF2 w2
    exact sm_X17_leafOf_25 w
theorem sm_X17_leafOf {x0 : Nat} {x1 : Int32} {x2 : Int32} {h : sv_H} (g : vt_G h) (tx0 : sv_K h x0 = 18) : vt_sm h (fn_X17_leafOf x0 x1 x2 h) (ab_X17_leafOf x0 x1 x2 (vt_ab h)) := sm_X17_leafOf_0 ⟨g, vt_ko.refl h⟩ tx0

theorem sm_X12_byteOf_38 {h0 : sv_H} {s0 : Int32} {h : sv_H} (w : vt_W h0 h) : vt_sm h0 (fn_X12_byteOf_38 s0 h) (ab_X12_byteOf_38 s0 (vt_ab h)) := by
  unfold fn_X12_byteOf_38 ab_X12_byteOf_38
  obtain ⟨F, hF⟩ : ∃ F, sv_FP h = F := ⟨_, rfl⟩
  exact sm_rt w
theorem sm_X12_byteOf_37 {h0 : sv_H} {h : sv_H} (w : vt_W h0 h) : vt_sm h0 (fn_X12_byteOf_37 h) (ab_X12_byteOf_37 (vt_ab h)) := by
  unfold fn_X12_byteOf_37 ab_X12_byteOf_37
  obtain ⟨F, hF⟩ : ∃ F, sv_FP h = F := ⟨_, rfl⟩
  exact sm_X12_byteOf_38 w
theorem sm_X12_byteOf_15 {h0 : sv_H} {x1 : Int32} {s0 : Nat} {h : sv_H} (w : vt_W h0 h) (ts0 : sv_K h0 s0 = 1) : vt_sm h0 (fn_X12_byteOf_15 x1 s0 h) (ab_X12_byteOf_15 x1 s0 (vt_ab h)) := by
  unfold fn_X12_byteOf_15 ab_X12_byteOf_15
  obtain ⟨F, hF⟩ : ∃ F, sv_FP h = F := ⟨_, rfl⟩
  refine sm_if (fun _ => ?_) (fun _ => ?_)
  · exact sm_X12_byteOf_37 w
  · refine sm_gI w ts0 (by decide) (fun v1 => ?_)
    refine sm_if (fun _ => ?_) (fun _ => ?_)
    · exact sm_X12_byteOf_37 w
    · refine sm_gA w hF ts0 tk_100 (by decide) (fun v2 av2 => ?_)
      refine sm_lI w hF ts0 av2 tk_100 (fun _ => ?_)
      exact sm_X12_byteOf_38 w
theorem sm_X12_byteOf_0 {h0 : sv_H} {x0 : Nat} {x1 : Int32} {x2 : Int32} {h : sv_H} (w : vt_W h0 h) (tx0 : sv_K h0 x0 = 13) : vt_sm h0 (fn_X12_byteOf x0 x1 x2 h) (ab_X12_byteOf x0 x1 x2 (vt_ab h)) := by
  unfold fn_X12_byteOf ab_X12_byteOf
  obtain ⟨F, hF⟩ : ∃ F, sv_FP h = F := ⟨_, rfl⟩
  refine sm_kd w tx0 (by decide) ?_
  refine sm_if (fun _ => ?_) (fun _ => ?_)
  · refine sm_gP w tx0 tk_1301 rfl (fun v1 tv1 => ?_)
    exact sm_X12_byteOf_15 w tv1
  · refine sm_gP w tx0 tk_1300 rfl (fun v2 tv2 => ?_)
    exact sm_X12_byteOf_15 w tv2
theorem sm_X12_byteOf {x0 : Nat} {x1 : Int32} {x2 : Int32} {h : sv_H} (g : vt_G h) (tx0 : sv_K h x0 = 13) : vt_sm h (fn_X12_byteOf x0 x1 x2 h) (ab_X12_byteOf x0 x1 x2 (vt_ab h)) := sm_X12_byteOf_0 ⟨g, vt_ko.refl h⟩ tx0

theorem sm_X17_byteOf_31 {h0 : sv_H} {h : sv_H} (w : vt_W h0 h) : vt_sm h0 (fn_X17_byteOf_31 h) (ab_X17_byteOf_31 (vt_ab h)) := by
  unfold fn_X17_byteOf_31 ab_X17_byteOf_31
  obtain ⟨F, hF⟩ : ∃ F, sv_FP h = F := ⟨_, rfl⟩
  exact sm_rt w
theorem sm_X17_byteOf_59 {h0 : sv_H} {s0 : Int32} {h : sv_H} (w : vt_W h0 h) : vt_sm h0 (fn_X17_byteOf_59 s0 h) (ab_X17_byteOf_59 s0 (vt_ab h)) := by
  unfold fn_X17_byteOf_59 ab_X17_byteOf_59
  obtain ⟨F, hF⟩ : ∃ F, sv_FP h = F := ⟨_, rfl⟩
  exact sm_rt w
theorem sm_X17_byteOf_28 {h0 : sv_H} {x0 : Nat} {x1 : Int32} {x2 : Int32} {s0 : Int32} {s1 : Int32} {h : sv_H} (w : vt_W h0 h) (tx0 : sv_K h0 x0 = 18) : vt_sm h0 (fn_X17_byteOf_28 x0 x1 x2 s0 s1 h) (ab_X17_byteOf_28 x0 x1 x2 s0 s1 (vt_ab h)) := by
  unfold fn_X17_byteOf_28 ab_X17_byteOf_28
  obtain ⟨F, hF⟩ : ∃ F, sv_FP h = F := ⟨_, rfl⟩
  refine sm_if (fun _ => ?_) (fun _ => ?_)
  · refine sm_if (fun _ => ?_) (fun _ => ?_)
    · refine sm_gA w hF tx0 tk_1805 (by decide) (fun v1 av1 => ?_)
      refine sm_lI w hF tx0 av1 tk_1805 (fun _ => ?_)
      exact sm_X17_byteOf_59 w
    · refine sm_gP w tx0 tk_1801 rfl (fun v3 tv3 => ?_)
      refine sm_gA w hF tv3 tk_1500 (by decide) (fun v4 av4 => ?_)
      refine sm_lB w hF tv3 av4 tk_1500 (fun _ => ?_)
      exact sm_X17_byteOf_59 w
  · exact sm_X17_byteOf_31 w
theorem sm_X17_byteOf_0 {h0 : sv_H} {x0 : Nat} {x1 : Int32} {x2 : Int32} {h : sv_H} (w : vt_W h0 h) (tx0 : sv_K h0 x0 = 18) : vt_sm h0 (fn_X17_byteOf x0 x1 x2 h) (ab_X17_byteOf x0 x1 x2 (vt_ab h)) := by
  unfold fn_X17_byteOf ab_X17_byteOf
  obtain ⟨F, hF⟩ : ∃ F, sv_FP h = F := ⟨_, rfl⟩
  refine sm_kd w tx0 (by decide) ?_
  refine sm_pI w hF tx0 (by decide) (fun h w hF => ?_)
  refine sm_if (fun _ => ?_) (fun _ => ?_)
  · exact sm_X17_byteOf_31 w
  · refine sm_if (fun _ => ?_) (fun _ => ?_)
    · refine sm_gI w tx0 (by decide) (fun v2 => ?_)
      exact sm_X17_byteOf_28 w tx0
    · refine sm_gP w tx0 tk_1801 rfl (fun v3 tv3 => ?_)
      refine sm_gI w tv3 (by decide) (fun v4 => ?_)
      exact sm_X17_byteOf_28 w tx0
theorem sm_X17_byteOf {x0 : Nat} {x1 : Int32} {x2 : Int32} {h : sv_H} (g : vt_G h) (tx0 : sv_K h x0 = 18) : vt_sm h (fn_X17_byteOf x0 x1 x2 h) (ab_X17_byteOf x0 x1 x2 (vt_ab h)) := sm_X17_byteOf_0 ⟨g, vt_ko.refl h⟩ tx0

theorem sm_X12_lookAt_86 {h0 : sv_H} {s0 : Int32} {h : sv_H} (w : vt_W h0 h) : vt_sm h0 (fn_X12_lookAt_86 s0 h) (ab_X12_lookAt_86 s0 (vt_ab h)) := by
  unfold fn_X12_lookAt_86 ab_X12_lookAt_86
  obtain ⟨F, hF⟩ : ∃ F, sv_FP h = F := ⟨_, rfl⟩
  exact sm_rt w
theorem sm_X12_lookAt_105 {h0 : sv_H} {s0 : Int32} {h : sv_H} (w : vt_W h0 h) : vt_sm h0 (fn_X12_lookAt_105 s0 h) (ab_X12_lookAt_105 s0 (vt_ab h)) := by
  unfold fn_X12_lookAt_105 ab_X12_lookAt_105
  obtain ⟨F, hF⟩ : ∃ F, sv_FP h = F := ⟨_, rfl⟩
  exact sm_rt w
theorem sm_X12_lookAt_124 {h0 : sv_H} {s0 : Int32} {h : sv_H} (w : vt_W h0 h) : vt_sm h0 (fn_X12_lookAt_124 s0 h) (ab_X12_lookAt_124 s0 (vt_ab h)) := by
  unfold fn_X12_lookAt_124 ab_X12_lookAt_124
  obtain ⟨F, hF⟩ : ∃ F, sv_FP h = F := ⟨_, rfl⟩
  exact sm_rt w
theorem sm_X12_lookAt_143 {h0 : sv_H} {s0 : Int32} {h : sv_H} (w : vt_W h0 h) : vt_sm h0 (fn_X12_lookAt_143 s0 h) (ab_X12_lookAt_143 s0 (vt_ab h)) := by
  unfold fn_X12_lookAt_143 ab_X12_lookAt_143
  obtain ⟨F, hF⟩ : ∃ F, sv_FP h = F := ⟨_, rfl⟩
  exact sm_rt w
theorem sm_X12_lookAt_202 {h0 : sv_H} {s0 : Int32} {h : sv_H} (w : vt_W h0 h) : vt_sm h0 (fn_X12_lookAt_202 s0 h) (ab_X12_lookAt_202 s0 (vt_ab h)) := by
  unfold fn_X12_lookAt_202 ab_X12_lookAt_202
  obtain ⟨F, hF⟩ : ∃ F, sv_FP h = F := ⟨_, rfl⟩
  exact sm_rt w
theorem sm_X12_lookAt_221 {h0 : sv_H} {s0 : Int32} {h : sv_H} (w : vt_W h0 h) : vt_sm h0 (fn_X12_lookAt_221 s0 h) (ab_X12_lookAt_221 s0 (vt_ab h)) := by
  unfold fn_X12_lookAt_221 ab_X12_lookAt_221
  obtain ⟨F, hF⟩ : ∃ F, sv_FP h = F := ⟨_, rfl⟩
  exact sm_rt w
theorem sm_X12_lookAt_240 {h0 : sv_H} {s0 : Int32} {h : sv_H} (w : vt_W h0 h) : vt_sm h0 (fn_X12_lookAt_240 s0 h) (ab_X12_lookAt_240 s0 (vt_ab h)) := by
  unfold fn_X12_lookAt_240 ab_X12_lookAt_240
  obtain ⟨F, hF⟩ : ∃ F, sv_FP h = F := ⟨_, rfl⟩
  exact sm_rt w
theorem sm_X12_lookAt_0 {h0 : sv_H} {x0 : Nat} {x1 : Int32} {h : sv_H} (w : vt_W h0 h) (tx0 : sv_K h0 x0 = 13) : vt_sm h0 (fn_X12_lookAt x0 x1 h) (ab_X12_lookAt x0 x1 (vt_ab h)) := by
  unfold fn_X12_lookAt ab_X12_lookAt
  obtain ⟨F, hF⟩ : ∃ F, sv_FP h = F := ⟨_, rfl⟩
  refine sm_kd w tx0 (by decide) ?_
  refine sm_if (fun _ => ?_) (fun _ => ?_)
  · refine sm_cl w (sm_X12_hasMap w.1 (w.k tx0 (by decide))) (fun r1 h2 e w2 => ?_)
    have hF2 : sv_FP h2 = F := by rw [ro_X12_hasMap e]; exact hF
    clear e w hF
    have hF := hF2
    have w := w2
    clear hF2 w2
    refine sm_if (fun _ => ?_) (fun _ => ?_)
    · exact sm_X12_lookAt_86 w
    · refine sm_gP w tx0 tk_1306 rfl (fun v3 tv3 => ?_)
      refine sm_gI w tv3 (by decide) (fun v4 => ?_)
      exact sm_X12_lookAt_86 w
  refine sm_if (fun _ => ?_) (fun _ => ?_)
  · refine sm_cl w (sm_X12_hasMap w.1 (w.k tx0 (by decide))) (fun r5 h2 e w2 => ?_)
    have hF2 : sv_FP h2 = F := by rw [ro_X12_hasMap e]; exact hF
    clear e w hF
    have hF := hF2
    have w := w2
    clear hF2 w2
    refine sm_if (fun _ => ?_) (fun _ => ?_)
    · exact sm_X12_lookAt_105 w
    · refine sm_gP w tx0 tk_1306 rfl (fun v7 tv7 => ?_)
      refine sm_gI w tv7 (by decide) (fun v8 => ?_)
      exact sm_X12_lookAt_105 w
  refine sm_if (fun _ => ?_) (fun _ => ?_)
  · refine sm_cl w (sm_X12_hasMap w.1 (w.k tx0 (by decide))) (fun r9 h2 e w2 => ?_)
    have hF2 : sv_FP h2 = F := by rw [ro_X12_hasMap e]; exact hF
    clear e w hF
    have hF := hF2
    have w := w2
    clear hF2 w2
    refine sm_if (fun _ => ?_) (fun _ => ?_)
    · exact sm_X12_lookAt_124 w
    · refine sm_gP w tx0 tk_1306 rfl (fun v11 tv11 => ?_)
      refine sm_gI w tv11 (by decide) (fun v12 => ?_)
      exact sm_X12_lookAt_124 w
  refine sm_if (fun _ => ?_) (fun _ => ?_)
  · refine sm_cl w (sm_X12_hasMap w.1 (w.k tx0 (by decide))) (fun r13 h2 e w2 => ?_)
    have hF2 : sv_FP h2 = F := by rw [ro_X12_hasMap e]; exact hF
    clear e w hF
    have hF := hF2
    have w := w2
    clear hF2 w2
    refine sm_if (fun _ => ?_) (fun _ => ?_)
    · exact sm_X12_lookAt_143 w
    · refine sm_gP w tx0 tk_1306 rfl (fun v15 tv15 => ?_)
      refine sm_gI w tv15 (by decide) (fun v16 => ?_)
      exact sm_X12_lookAt_143 w
  refine sm_if (fun _ => ?_) (fun _ => ?_)
  · refine sm_gP w tx0 tk_1308 rfl (fun v17 tv17 => ?_)
    refine sm_gI w tv17 (by decide) (fun v18 => ?_)
    exact sm_rt w
  refine sm_if (fun _ => ?_) (fun _ => ?_)
  · refine sm_gP w tx0 tk_1300 rfl (fun v19 tv19 => ?_)
    refine sm_gI w tv19 (by decide) (fun v20 => ?_)
    exact sm_rt w
  refine sm_if (fun _ => ?_) (fun _ => ?_)
  · refine sm_gP w tx0 tk_1301 rfl (fun v21 tv21 => ?_)
    refine sm_gI w tv21 (by decide) (fun v22 => ?_)
    exact sm_rt w
  refine sm_if (fun _ => ?_) (fun _ => ?_)
  · refine sm_gP w tx0 tk_1302 rfl (fun v23 tv23 => ?_)
    refine sm_gI w tv23 (by decide) (fun v24 => ?_)
    exact sm_rt w
  refine sm_if (fun _ => ?_) (fun _ => ?_)
  · refine sm_gP w tx0 tk_1302 rfl (fun v25 tv25 => ?_)
    refine sm_gI w tv25 (by decide) (fun v26 => ?_)
    exact sm_rt w
  refine sm_if (fun _ => ?_) (fun _ => ?_)
  · refine sm_cl w (sm_X12_hasMap w.1 (w.k tx0 (by decide))) (fun r27 h2 e w2 => ?_)
    have hF2 : sv_FP h2 = F := by rw [ro_X12_hasMap e]; exact hF
    clear e w hF
    have hF := hF2
    have w := w2
    clear hF2 w2
    refine sm_if (fun _ => ?_) (fun _ => ?_)
    · exact sm_X12_lookAt_202 w
    · refine sm_gP w tx0 tk_1303 rfl (fun v29 tv29 => ?_)
      refine sm_gI w tv29 (by decide) (fun v30 => ?_)
      exact sm_X12_lookAt_202 w
  refine sm_if (fun _ => ?_) (fun _ => ?_)
  · refine sm_cl w (sm_X12_hasMap w.1 (w.k tx0 (by decide))) (fun r31 h2 e w2 => ?_)
    have hF2 : sv_FP h2 = F := by rw [ro_X12_hasMap e]; exact hF
    clear e w hF
    have hF := hF2
    have w := w2
    clear hF2 w2
    refine sm_if (fun _ => ?_) (fun _ => ?_)
    · exact sm_X12_lookAt_221 w
    · refine sm_gP w tx0 tk_1303 rfl (fun v33 tv33 => ?_)
      refine sm_gI w tv33 (by decide) (fun v34 => ?_)
      exact sm_X12_lookAt_221 w
  refine sm_if (fun _ => ?_) (fun _ => ?_)
  · refine sm_cl w (sm_X12_hasMap w.1 (w.k tx0 (by decide))) (fun r35 h2 e w2 => ?_)
    have hF2 : sv_FP h2 = F := by rw [ro_X12_hasMap e]; exact hF
    clear e w hF
    have hF := hF2
    have w := w2
    clear hF2 w2
    refine sm_if (fun _ => ?_) (fun _ => ?_)
    · exact sm_X12_lookAt_240 w
    · refine sm_gP w tx0 tk_1306 rfl (fun v37 tv37 => ?_)
      refine sm_cl w (sm_X2_moverCount w.1 (w.k tv37 (by decide))) (fun r38 h2 e w2 => ?_)
      have hF2 : sv_FP h2 = F := by rw [ro_X2_moverCount e]; exact hF
      clear e w hF
      have hF := hF2
      have w := w2
      clear hF2 w2
      exact sm_X12_lookAt_240 w
  refine sm_if (fun _ => ?_) (fun _ => ?_)
  · refine sm_gI w tx0 (by decide) (fun v40 => ?_)
    exact sm_rt w
  exact sm_rt w
theorem sm_X12_lookAt {x0 : Nat} {x1 : Int32} {h : sv_H} (g : vt_G h) (tx0 : sv_K h x0 = 13) : vt_sm h (fn_X12_lookAt x0 x1 h) (ab_X12_lookAt x0 x1 (vt_ab h)) := sm_X12_lookAt_0 ⟨g, vt_ko.refl h⟩ tx0

