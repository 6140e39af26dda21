theorem ow_J7_fill_53178_5b {O : Nat → Prop} {f0 : Nat} {h0 : sv_H} (oc : sv_cl O h0) {k5 : Nat → Int32 → Int32 → Int32 → sv_H → Option (Unit × sv_H)} (hk5 : ∀ {x0 : Nat} {x1 : Int32} {x2 : Int32} {x3 : Int32} {h : sv_H}, sv_rl f0 O h0 x0 → sv_ow [] [f0] O h0 h → sv_fr (sv_ow [] [f0] O) h0 (k5 x0 x1 x2 x3 h)) {x0 : Nat} {x1 : Int32} {x2 : Int32} {x3 : Int32} {h : sv_H} (ox0 : sv_rl f0 O h0 x0) (hs : sv_ow [] [f0] O h0 h) : sv_fr (sv_ow [] [f0] O) h0 (fn_J7_fill_53178_5b k5 x0 x1 x2 x3 h) := by
  unfold fn_J7_fill_53178_5b
  refine fr_if ?_ ?_
  · exact fr_rt hs
  · refine fr_st (fun _ e => ow_sI hs ox0 (by simp) e) (fun h hs => ?_)
    exact hk5 ox0 hs
theorem ow_J7_fill_53178_5 {O : Nat → Prop} {f0 : Nat} {h0 : sv_H} (oc : sv_cl O h0) : ∀ (n : Nat) {x0 : Nat} {x1 : Int32} {x2 : Int32} {x3 : Int32} {h : sv_H}, sv_rl f0 O h0 x0 → sv_ow [] [f0] O h0 h → sv_fr (sv_ow [] [f0] O) h0 (fn_J7_fill_53178_5 n x0 x1 x2 x3 h) := by
  intro n
  induction n with
  | zero => intro x0 x1 x2 x3 h ox0 hs r hE e; cases (show (none : Option (Unit × sv_H)) = some (r, hE) from e)
  | succ n ih => intro x0 x1 x2 x3 h ox0 hs; exact ow_J7_fill_53178_5b oc (fun ox0 hs => ih ox0 hs) ox0 hs
theorem ow_J7_fill_53178_0 {O : Nat → Prop} {f0 : Nat} {h0 : sv_H} (oc : sv_cl O h0) {x0 : Nat} {x1 : Int32} {h : sv_H} (ox0 : sv_rl f0 O h0 x0) (hs : sv_ow [] [f0] O h0 h) : sv_fr (sv_ow [] [f0] O) h0 (fn_J7_fill_53178 x0 x1 h) := by
  unfold fn_J7_fill_53178
  refine fr_bd (fun _ => ?_)
  exact ow_J7_fill_53178_5 oc sv_fuel ox0 hs
theorem ow_J7_fill_53178 {O : Nat → Prop} {f0 : Nat} {x0 : Nat} {x1 : Int32} {h : sv_H} {r : Unit} {hE : sv_H} (oc : sv_cl O h) (ox0 : sv_rl f0 O h x0) (hw : fn_J7_fill_53178 x0 x1 h = some (r, hE)) : sv_ow [] [f0] O h hE := ow_J7_fill_53178_0 oc ox0 (sv_ow.refl h) r hE hw

theorem ow_X6_init_0 {O : Nat → Prop} {h0 : sv_H} (oc : sv_cl O h0) {x0 : Nat} {h : sv_H} (ox0 : O x0) (hs : sv_ow [709] [] O h0 h) : sv_fr (sv_ow [709] [] O) h0 (fn_X6_init x0 h) := by
  unfold fn_X6_init
  refine fr_if ?_ fr_no
  refine fr_st (fun _ e => ow_pI hs (by decide) ox0 e) (fun h hs => ?_)
  exact fr_rt hs
theorem ow_X6_init {O : Nat → Prop} {x0 : Nat} {h : sv_H} {r : Unit} {hE : sv_H} (oc : sv_cl O h) (ox0 : O x0) (hw : fn_X6_init x0 h = some (r, hE)) : sv_ow [709] [] O h hE := ow_X6_init_0 oc ox0 (sv_ow.refl h) r hE hw

theorem ow_X17_giveBytes_31 {O : Nat → Prop} {h0 : sv_H} (oc : sv_cl O h0) {h : sv_H} (hs : sv_ow [1501, 1800] [1500] O h0 h) : sv_fr (sv_ow [1501, 1800] [1500] O) h0 (fn_X17_giveBytes_31 h) := by
  unfold fn_X17_giveBytes_31
  exact fr_rt hs
theorem ow_X17_giveBytes_38b {O : Nat → Prop} {h0 : sv_H} (oc : sv_cl O h0) {k38 : Nat → Int64 → Int32 → sv_H → Option (Int32 × sv_H)} (hk38 : ∀ {x0 : Nat} {x1 : Int64} {x4 : Int32} {h : sv_H}, O x0 → sv_ow [1501, 1800] [1500] O h0 h → sv_fr (sv_ow [1501, 1800] [1500] O) h0 (k38 x0 x1 x4 h)) {x0 : Nat} {x1 : Int64} {x4 : Int32} {h : sv_H} (ox0 : O x0) (hs : sv_ow [1501, 1800] [1500] O h0 h) : sv_fr (sv_ow [1501, 1800] [1500] O) h0 (fn_X17_giveBytes_38b k38 x0 x1 x4 h) := by
  unfold fn_X17_giveBytes_38b
  refine fr_if ?_ ?_
  · exact fr_rt hs
  · refine fr_be (fun v1 e => ?_)
    have ov1 := ow_gO oc hs ox0 e
    clear e
    refine fr_be (fun v2 e => ?_)
    have ov2 := ow_gR hs ov1 e
    clear e
    refine fr_be (fun v3 e => ?_)
    have ov3 := ow_gO oc hs ox0 e
    clear e
    refine fr_bd (fun _ => ?_)
    refine fr_st (fun _ e => ow_sB hs ov2 (by decide) e) (fun h hs => ?_)
    refine fr_be (fun v6 e => ?_)
    have ov6 := ow_gO oc hs ox0 e
    clear e
    refine fr_bd (fun _ => ?_)
    refine fr_st (fun _ e => ow_pI hs (by decide) ov6 e) (fun h hs => ?_)
    exact hk38 ox0 hs
theorem ow_X17_giveBytes_38 {O : Nat → Prop} {h0 : sv_H} (oc : sv_cl O h0) : ∀ (n : Nat) {x0 : Nat} {x1 : Int64} {x4 : Int32} {h : sv_H}, O x0 → sv_ow [1501, 1800] [1500] O h0 h → sv_fr (sv_ow [1501, 1800] [1500] O) h0 (fn_X17_giveBytes_38 n x0 x1 x4 h) := by
  intro n
  induction n with
  | zero => intro x0 x1 x4 h ox0 hs r hE e; cases (show (none : Option (Int32 × sv_H)) = some (r, hE) from e)
  | succ n ih => intro x0 x1 x4 h ox0 hs; exact ow_X17_giveBytes_38b oc (fun ox0 hs => ih ox0 hs) ox0 hs
theorem ow_X17_giveBytes_0 {O : Nat → Prop} {h0 : sv_H} (oc : sv_cl O h0) {x0 : Nat} {x1 : Int64} {x3 : Int32} {h : sv_H} (ox0 : O x0) (hs : sv_ow [1501, 1800] [1500] O h0 h) : sv_fr (sv_ow [1501, 1800] [1500] O) h0 (fn_X17_giveBytes x0 x1 x3 h) := by
  unfold fn_X17_giveBytes
  refine fr_if ?_ fr_no
  refine fr_st (fun _ e => ow_pI hs (by decide) ox0 e) (fun h hs => ?_)
  refine fr_if ?_ ?_
  · exact ow_X17_giveBytes_31 oc hs
  · refine fr_if ?_ ?_
    · exact ow_X17_giveBytes_31 oc hs
    · refine fr_be (fun v2 e => ?_)
      have ov2 := ow_gO oc hs ox0 e
      clear e
      refine fr_bd (fun _ => ?_)
      refine fr_if ?_ ?_
      · exact ow_X17_giveBytes_38 oc sv_fuel ox0 hs
      · exact ow_X17_giveBytes_31 oc hs
theorem ow_X17_giveBytes {O : Nat → Prop} {x0 : Nat} {x1 : Int64} {x3 : Int32} {h : sv_H} {r : Int32} {hE : sv_H} (oc : sv_cl O h) (ox0 : O x0) (hw : fn_X17_giveBytes x0 x1 x3 h = some (r, hE)) : sv_ow [1501, 1800] [1500] O h hE := ow_X17_giveBytes_0 oc ox0 (sv_ow.refl h) r hE hw

theorem ow_X12_cutBytes_15 {O : Nat → Prop} {h0 : sv_H} (oc : sv_cl O h0) {h : sv_H} (hs : sv_ow [101] [] O h0 h) : sv_fr (sv_ow [101] [] O) h0 (fn_X12_cutBytes_15 h) := by
  unfold fn_X12_cutBytes_15
  exact fr_rt hs
theorem ow_X12_cutBytes_0 {O : Nat → Prop} {h0 : sv_H} (oc : sv_cl O h0) {x0 : Nat} {x1 : Int32} {h : sv_H} (ox0 : O x0) (hs : sv_ow [101] [] O h0 h) : sv_fr (sv_ow [101] [] O) h0 (fn_X12_cutBytes x0 x1 h) := by
  unfold fn_X12_cutBytes
  refine fr_if ?_ fr_no
  refine fr_if ?_ ?_
  · exact ow_X12_cutBytes_15 oc hs
  · refine fr_be (fun v1 e => ?_)
    have ov1 := ow_gO oc hs ox0 e
    clear e
    refine fr_bd (fun _ => ?_)
    refine fr_if ?_ ?_
    · refine fr_be (fun v3 e => ?_)
      have ov3 := ow_gO oc hs ox0 e
      clear e
      refine fr_st (fun _ e => ow_pI hs (by decide) ov3 e) (fun h hs => ?_)
      exact fr_rt hs
    · exact ow_X12_cutBytes_15 oc hs
theorem ow_X12_cutBytes {O : Nat → Prop} {x0 : Nat} {x1 : Int32} {h : sv_H} {r : Int32} {hE : sv_H} (oc : sv_cl O h) (ox0 : O x0) (hw : fn_X12_cutBytes x0 x1 h = some (r, hE)) : sv_ow [101] [] O h hE := ow_X12_cutBytes_0 oc ox0 (sv_ow.refl h) r hE hw

theorem ow_X17_cutBytes_20 {O : Nat → Prop} {h0 : sv_H} (oc : sv_cl O h0) {h : sv_H} (hs : sv_ow [1501, 1800] [] O h0 h) : sv_fr (sv_ow [1501, 1800] [] O) h0 (fn_X17_cutBytes_20 h) := by
  unfold fn_X17_cutBytes_20
  exact fr_rt hs
theorem ow_X17_cutBytes_0 {O : Nat → Prop} {h0 : sv_H} (oc : sv_cl O h0) {x0 : Nat} {x1 : Int32} {h : sv_H} (ox0 : O x0) (hs : sv_ow [1501, 1800] [] O h0 h) : sv_fr (sv_ow [1501, 1800] [] O) h0 (fn_X17_cutBytes x0 x1 h) := by
  unfold fn_X17_cutBytes
  refine fr_if ?_ fr_no
  refine fr_st (fun _ e => ow_pI hs (by decide) ox0 e) (fun h hs => ?_)
  refine fr_if ?_ ?_
  · exact ow_X17_cutBytes_20 oc hs
  · refine fr_be (fun v2 e => ?_)
    have ov2 := ow_gO oc hs ox0 e
    clear e
    refine fr_bd (fun _ => ?_)
    refine fr_if ?_ ?_
    · refine fr_be (fun v4 e => ?_)
      have ov4 := ow_gO oc hs ox0 e
      clear e
      refine fr_st (fun _ e => ow_pI hs (by decide) ov4 e) (fun h hs => ?_)
      exact fr_rt hs
    · exact ow_X17_cutBytes_20 oc hs
theorem ow_X17_cutBytes {O : Nat → Prop} {x0 : Nat} {x1 : Int32} {h : sv_H} {r : Int32} {hE : sv_H} (oc : sv_cl O h) (ox0 : O x0) (hw : fn_X17_cutBytes x0 x1 h = some (r, hE)) : sv_ow [1501, 1800] [] O h hE := ow_X17_cutBytes_0 oc ox0 (sv_ow.refl h) r hE hw

theorem ow_X12_pokeByte_15 {O : Nat → Prop} {h0 : sv_H} (oc : sv_cl O h0) {h : sv_H} (hs : sv_ow [] [100] O h0 h) : sv_fr (sv_ow [] [100] O) h0 (fn_X12_pokeByte_15 h) := by
  unfold fn_X12_pokeByte_15
  exact fr_rt hs
theorem ow_X12_pokeByte_0 {O : Nat → Prop} {h0 : sv_H} (oc : sv_cl O h0) {x0 : Nat} {x1 : Int32} {x2 : Int32} {h : sv_H} (ox0 : O x0) (hs : sv_ow [] [100] O h0 h) : sv_fr (sv_ow [] [100] O) h0 (fn_X12_pokeByte x0 x1 x2 h) := by
  unfold fn_X12_pokeByte
  refine fr_if ?_ fr_no
  refine fr_if ?_ ?_
  · exact ow_X12_pokeByte_15 oc hs
  · refine fr_be (fun v1 e => ?_)
    have ov1 := ow_gO oc hs ox0 e
    clear e
    refine fr_bd (fun _ => ?_)
    refine fr_if ?_ ?_
    · refine fr_be (fun v3 e => ?_)
      have ov3 := ow_gO oc hs ox0 e
      clear e
      refine fr_be (fun v4 e => ?_)
      have ov4 := ow_gR hs ov3 e
      clear e
      refine fr_st (fun _ e => ow_sI hs ov4 (by decide) e) (fun h hs => ?_)
      exact fr_rt hs
    · exact ow_X12_pokeByte_15 oc hs
theorem ow_X12_pokeByte {O : Nat → Prop} {x0 : Nat} {x1 : Int32} {x2 : Int32} {h : sv_H} {r : Int32} {hE : sv_H} (oc : sv_cl O h) (ox0 : O x0) (hw : fn_X12_pokeByte x0 x1 x2 h = some (r, hE)) : sv_ow [] [100] O h hE := ow_X12_pokeByte_0 oc ox0 (sv_ow.refl h) r hE hw

theorem ow_X17_pokeByte_20 {O : Nat → Prop} {h0 : sv_H} (oc : sv_cl O h0) {h : sv_H} (hs : sv_ow [1800] [1500] O h0 h) : sv_fr (sv_ow [1800] [1500] O) h0 (fn_X17_pokeByte_20 h) := by
  unfold fn_X17_pokeByte_20
  exact fr_rt hs
theorem ow_X17_pokeByte_0 {O : Nat → Prop} {h0 : sv_H} (oc : sv_cl O h0) {x0 : Nat} {x1 : Int32} {x2 : Int32} {h : sv_H} (ox0 : O x0) (hs : sv_ow [1800] [1500] O h0 h) : sv_fr (sv_ow [1800] [1500] O) h0 (fn_X17_pokeByte x0 x1 x2 h) := by
  unfold fn_X17_pokeByte
  refine fr_if ?_ fr_no
  refine fr_st (fun _ e => ow_pI hs (by decide) ox0 e) (fun h hs => ?_)
  refine fr_if ?_ ?_
  · exact ow_X17_pokeByte_20 oc hs
  · refine fr_be (fun v2 e => ?_)
    have ov2 := ow_gO oc hs ox0 e
    clear e
    refine fr_bd (fun _ => ?_)
    refine fr_if ?_ ?_
    · refine fr_be (fun v4 e => ?_)
      have ov4 := ow_gO oc hs ox0 e
      clear e
      refine fr_be (fun v5 e => ?_)
      have ov5 := ow_gR hs ov4 e
      clear e
      refine fr_st (fun _ e => ow_sB hs ov5 (by decide) e) (fun h hs => ?_)
      exact fr_rt hs
    · exact ow_X17_pokeByte_20 oc hs
theorem ow_X17_pokeByte {O : Nat → Prop} {x0 : Nat} {x1 : Int32} {x2 : Int32} {h : sv_H} {r : Int32} {hE : sv_H} (oc : sv_cl O h) (ox0 : O x0) (hw : fn_X17_pokeByte x0 x1 x2 h = some (r, hE)) : sv_ow [1800] [1500] O h hE := ow_X17_pokeByte_0 oc ox0 (sv_ow.refl h) r hE hw

theorem ow_X4_begin_0 {O : Nat → Prop} {h0 : sv_H} (oc : sv_cl O h0) {x0 : Nat} {h : sv_H} (ox0 : O x0) (hs : sv_ow [501, 502, 503] [] O h0 h) : sv_fr (sv_ow [501, 502, 503] [] O) h0 (fn_X4_begin x0 h) := by
  unfold fn_X4_begin
  refine fr_if ?_ fr_no
  refine fr_st (fun _ e => ow_pI hs (by decide) ox0 e) (fun h hs => ?_)
  refine fr_st (fun _ e => ow_pI hs (by decide) ox0 e) (fun h hs => ?_)
  refine fr_st (fun _ e => ow_pI hs (by decide) ox0 e) (fun h hs => ?_)
  exact fr_rt hs
theorem ow_X4_begin {O : Nat → Prop} {x0 : Nat} {h : sv_H} {r : Unit} {hE : sv_H} (oc : sv_cl O h) (ox0 : O x0) (hw : fn_X4_begin x0 h = some (r, hE)) : sv_ow [501, 502, 503] [] O h hE := ow_X4_begin_0 oc ox0 (sv_ow.refl h) r hE hw

theorem ow_X4_blame_17 {O : Nat → Prop} {h0 : sv_H} (oc : sv_cl O h0) {h : sv_H} (hs : sv_ow [502, 503] [] O h0 h) : sv_fr (sv_ow [502, 503] [] O) h0 (fn_X4_blame_17 h) := by
  unfold fn_X4_blame_17
  exact fr_rt hs
theorem ow_X4_blame_0 {O : Nat → Prop} {h0 : sv_H} (oc : sv_cl O h0) {x0 : Nat} {x1 : Int32} {x2 : Int32} {h : sv_H} (ox0 : O x0) (hs : sv_ow [502, 503] [] O h0 h) : sv_fr (sv_ow [502, 503] [] O) h0 (fn_X4_blame x0 x1 x2 h) := by
  unfold fn_X4_blame
  refine fr_if ?_ fr_no
  refine fr_bd (fun _ => ?_)
  refine fr_if ?_ ?_
  · refine fr_st (fun _ e => ow_pI hs (by decide) ox0 e) (fun h hs => ?_)
    refine fr_st (fun _ e => ow_pI hs (by decide) ox0 e) (fun h hs => ?_)
    exact ow_X4_blame_17 oc hs
  · exact ow_X4_blame_17 oc hs
theorem ow_X4_blame {O : Nat → Prop} {x0 : Nat} {x1 : Int32} {x2 : Int32} {h : sv_H} {r : Unit} {hE : sv_H} (oc : sv_cl O h) (ox0 : O x0) (hw : fn_X4_blame x0 x1 x2 h = some (r, hE)) : sv_ow [502, 503] [] O h hE := ow_X4_blame_0 oc ox0 (sv_ow.refl h) r hE hw

theorem ow_X4_one_0 {O : Nat → Prop} {h0 : sv_H} (oc : sv_cl O h0) {x0 : Nat} {h : sv_H} (ox0 : O x0) (hs : sv_ow [501, 502, 503] [] O h0 h) : sv_fr (sv_ow [501, 502, 503] [] O) h0 (fn_X4_one x0 h) := by
  unfold fn_X4_one
  refine fr_if ?_ fr_no
  refine fr_bd (fun _ => ?_)
  refine fr_if ?_ ?_
  · refine fr_bd (fun _ => ?_)
    refine fr_be (fun v3 e => ?_)
    have ov3 := ow_gO oc hs ox0 e
    clear e
    refine fr_bd (fun _ => ?_)
    refine fr_if ?_ ?_
    · refine fr_be (fun v5 e => ?_)
      have ov5 := ow_gO oc hs ox0 e
      clear e
      refine fr_be (fun v6 e => ?_)
      have ov6 := ow_gR hs ov5 e
      clear e
      refine fr_bd (fun _ => ?_)
      refine fr_bd (fun _ => ?_)
      refine fr_bd (fun _ => ?_)
      refine fr_st (fun _ e => ow_pI hs (by decide) ox0 e) (fun h hs => ?_)
      exact fr_rt hs
    · refine fr_be (fun v11 e => ?_)
      have ov11 := ow_gO oc hs ox0 e
      clear e
      refine fr_bd (fun _ => ?_)
      refine fr_cl (fun _ _ e => (hs.trans ((ow_X4_blame (oc.of hs) ox0 e).weak (by decide) (by decide)))) (fun _ h hs => ?_)
      exact fr_rt hs
  · exact fr_rt hs
theorem ow_X4_one {O : Nat → Prop} {x0 : Nat} {h : sv_H} {r : Int32} {hE : sv_H} (oc : sv_cl O h) (ox0 : O x0) (hw : fn_X4_one x0 h = some (r, hE)) : sv_ow [501, 502, 503] [] O h hE := ow_X4_one_0 oc ox0 (sv_ow.refl h) r hE hw

theorem ow_X4_expect_19 {O : Nat → Prop} {h0 : sv_H} (oc : sv_cl O h0) {h : sv_H} (hs : sv_ow [501, 502, 503] [] O h0 h) : sv_fr (sv_ow [501, 502, 503] [] O) h0 (fn_X4_expect_19 h) := by
  unfold fn_X4_expect_19
  exact fr_rt hs
theorem ow_X4_expect_0 {O : Nat → Prop} {h0 : sv_H} (oc : sv_cl O h0) {x0 : Nat} {x1 : Int32} {x2 : Int32} {h : sv_H} (ox0 : O x0) (hs : sv_ow [501, 502, 503] [] O h0 h) : sv_fr (sv_ow [501, 502, 503] [] O) h0 (fn_X4_expect x0 x1 x2 h) := by
  unfold fn_X4_expect
  refine fr_if ?_ fr_no
  refine fr_bd (fun _ => ?_)
  refine fr_cl (fun _ _ e => (hs.trans ((ow_X4_one (oc.of hs) ox0 e).weak (by decide) (by decide)))) (fun _ h hs => ?_)
  refine fr_if ?_ ?_
  · exact ow_X4_expect_19 oc hs
  · refine fr_cl (fun _ _ e => (hs.trans ((ow_X4_blame (oc.of hs) ox0 e).weak (by decide) (by decide)))) (fun _ h hs => ?_)
    exact ow_X4_expect_19 oc hs
theorem ow_X4_expect {O : Nat → Prop} {x0 : Nat} {x1 : Int32} {x2 : Int32} {h : sv_H} {r : Unit} {hE : sv_H} (oc : sv_cl O h) (ox0 : O x0) (hw : fn_X4_expect x0 x1 x2 h = some (r, hE)) : sv_ow [501, 502, 503] [] O h hE := ow_X4_expect_0 oc ox0 (sv_ow.refl h) r hE hw

theorem ow_X4_bounded_29 {O : Nat → Prop} {h0 : sv_H} (oc : sv_cl O h0) {s0 : Int32} {h : sv_H} (hs : sv_ow [502, 503] [] O h0 h) : sv_fr (sv_ow [502, 503] [] O) h0 (fn_X4_bounded_29 s0 h) := by
  unfold fn_X4_bounded_29
  exact fr_rt hs
theorem ow_X4_bounded_17 {O : Nat → Prop} {h0 : sv_H} (oc : sv_cl O h0) {x0 : Nat} {x1 : Int32} {x2 : Int32} {h : sv_H} (ox0 : O x0) (hs : sv_ow [502, 503] [] O h0 h) : sv_fr (sv_ow [502, 503] [] O) h0 (fn_X4_bounded_17 x0 x1 x2 h) := by
  unfold fn_X4_bounded_17
  refine fr_bd (fun _ => ?_)
  refine fr_if ?_ ?_
  · exact ow_X4_bounded_29 oc hs
  · exact ow_X4_bounded_29 oc hs
theorem ow_X4_bounded_10 {O : Nat → Prop} {h0 : sv_H} (oc : sv_cl O h0) {x0 : Nat} {x1 : Int32} {x2 : Int32} {x4 : Int32} {h : sv_H} (ox0 : O x0) (hs : sv_ow [502, 503] [] O h0 h) : sv_fr (sv_ow [502, 503] [] O) h0 (fn_X4_bounded_10 x0 x1 x2 x4 h) := by
  unfold fn_X4_bounded_10
  refine fr_cl (fun _ _ e => (hs.trans ((ow_X4_blame (oc.of hs) ox0 e).weak (by decide) (by decide)))) (fun _ h hs => ?_)
  exact ow_X4_bounded_17 oc ox0 hs
theorem ow_X4_bounded_0 {O : Nat → Prop} {h0 : sv_H} (oc : sv_cl O h0) {x0 : Nat} {x1 : Int32} {x2 : Int32} {x3 : Int32} {x4 : Int32} {h : sv_H} (ox0 : O x0) (hs : sv_ow [502, 503] [] O h0 h) : sv_fr (sv_ow [502, 503] [] O) h0 (fn_X4_bounded x0 x1 x2 x3 x4 h) := by
  unfold fn_X4_bounded
  refine fr_if ?_ fr_no
  refine fr_if ?_ ?_
  · exact ow_X4_bounded_10 oc ox0 hs
  · refine fr_if ?_ ?_
    · exact ow_X4_bounded_17 oc ox0 hs
    · exact ow_X4_bounded_10 oc ox0 hs
theorem ow_X4_bounded {O : Nat → Prop} {x0 : Nat} {x1 : Int32} {x2 : Int32} {x3 : Int32} {x4 : Int32} {h : sv_H} {r : Int32} {hE : sv_H} (oc : sv_cl O h) (ox0 : O x0) (hw : fn_X4_bounded x0 x1 x2 x3 x4 h = some (r, hE)) : sv_ow [502, 503] [] O h hE := ow_X4_bounded_0 oc ox0 (sv_ow.refl h) r hE hw

theorem ow_X4_within_0 {O : Nat → Prop} {h0 : sv_H} (oc : sv_cl O h0) {x0 : Nat} {x1 : Int32} {x2 : Int32} {h : sv_H} (ox0 : O x0) (hs : sv_ow [501, 502, 503] [] O h0 h) : sv_fr (sv_ow [501, 502, 503] [] O) h0 (fn_X4_within x0 x1 x2 h) := by
  unfold fn_X4_within
  refine fr_if ?_ fr_no
  refine fr_bd (fun _ => ?_)
  refine fr_cl (fun _ _ e => (hs.trans ((ow_X4_one (oc.of hs) ox0 e).weak (by decide) (by decide)))) (fun _ h hs => ?_)
  refine fr_cl (fun _ _ e => (hs.trans ((ow_X4_bounded (oc.of hs) ox0 e).weak (by decide) (by decide)))) (fun _ h hs => ?_)
  exact fr_rt hs
theorem ow_X4_within {O : Nat → Prop} {x0 : Nat} {x1 : Int32} {x2 : Int32} {h : sv_H} {r : Int32} {hE : sv_H} (oc : sv_cl O h) (ox0 : O x0) (hw : fn_X4_within x0 x1 x2 h = some (r, hE)) : sv_ow [501, 502, 503] [] O h hE := ow_X4_within_0 oc ox0 (sv_ow.refl h) r hE hw

theorem ow_X4_pair_0 {O : Nat → Prop} {h0 : sv_H} (oc : sv_cl O h0) {x0 : Nat} {h : sv_H} (ox0 : O x0) (hs : sv_ow [501, 502, 503] [] O h0 h) : sv_fr (sv_ow [501, 502, 503] [] O) h0 (fn_X4_pair x0 h) := by
  unfold fn_X4_pair
  refine fr_if ?_ fr_no
  refine fr_cl (fun _ _ e => (hs.trans ((ow_X4_one (oc.of hs) ox0 e).weak (by decide) (by decide)))) (fun _ h hs => ?_)
  refine fr_cl (fun _ _ e => (hs.trans ((ow_X4_one (oc.of hs) ox0 e).weak (by decide) (by decide)))) (fun _ h hs => ?_)
  exact fr_rt hs
theorem ow_X4_pair {O : Nat → Prop} {x0 : Nat} {h : sv_H} {r : Int32} {hE : sv_H} (oc : sv_cl O h) (ox0 : O x0) (hw : fn_X4_pair x0 h = some (r, hE)) : sv_ow [501, 502, 503] [] O h hE := ow_X4_pair_0 oc ox0 (sv_ow.refl h) r hE hw

theorem ow_X2_readVertex_56 {O : Nat → Prop} {h0 : sv_H} (oc : sv_cl O h0) {k20 : Nat → Nat → Int32 → Int32 → Int32 → Int32 → Int32 → sv_H → Option (Unit × sv_H)} (hk20 : ∀ {x0 : Nat} {x1 : Nat} {x2 : Int32} {x3 : Int32} {x4 : Int32} {x5 : Int32} {x6 : Int32} {h : sv_H}, O x0 → O x1 → sv_ow [501, 502, 503] [302, 303] O h0 h → sv_fr (sv_ow [501, 502, 503] [302, 303] O) h0 (k20 x0 x1 x2 x3 x4 x5 x6 h)) {x0 : Nat} {x1 : Nat} {x2 : Int32} {x3 : Int32} {x4 : Int32} {x5 : Int32} {x6 : Int32} {h : sv_H} (ox0 : O x0) (ox1 : O x1) (hs : sv_ow [501, 502, 503] [302, 303] O h0 h) : sv_fr (sv_ow [501, 502, 503] [302, 303] O) h0 (fn_X2_readVertex_56 k20 x0 x1 x2 x3 x4 x5 x6 h) := by
  unfold fn_X2_readVertex_56
  exact hk20 ox0 ox1 hs
theorem ow_X2_readVertex_20b {O : Nat → Prop} {h0 : sv_H} (oc : sv_cl O h0) {k20 : Nat → Nat → Int32 → Int32 → Int32 → Int32 → Int32 → sv_H → Option (Unit × sv_H)} (hk20 : ∀ {x0 : Nat} {x1 : Nat} {x2 : Int32} {x3 : Int32} {x4 : Int32} {x5 : Int32} {x6 : Int32} {h : sv_H}, O x0 → O x1 → sv_ow [501, 502, 503] [302, 303] O h0 h → sv_fr (sv_ow [501, 502, 503] [302, 303] O) h0 (k20 x0 x1 x2 x3 x4 x5 x6 h)) {x0 : Nat} {x1 : Nat} {x2 : Int32} {x3 : Int32} {x4 : Int32} {x5 : Int32} {x6 : Int32} {h : sv_H} (ox0 : O x0) (ox1 : O x1) (hs : sv_ow [501, 502, 503] [302, 303] O h0 h) : sv_fr (sv_ow [501, 502, 503] [302, 303] O) h0 (fn_X2_readVertex_20b k20 x0 x1 x2 x3 x4 x5 x6 h) := by
  unfold fn_X2_readVertex_20b
  refine fr_if ?_ ?_
  · refine fr_be (fun v1 e => ?_)
    have ov1 := ow_gR hs ox0 e
    clear e
    refine fr_st (fun _ e => ow_sI hs ov1 (by decide) e) (fun h hs => ?_)
    refine fr_be (fun v3 e => ?_)
    have ov3 := ow_gR hs ox0 e
    clear e
    refine fr_st (fun _ e => ow_sI hs ov3 (by decide) e) (fun h hs => ?_)
    exact fr_rt hs
  · refine fr_be (fun v5 e => ?_)
    have ov5 := ow_gR hs ox0 e
    clear e
    refine fr_bd (fun _ => ?_)
    refine fr_if ?_ ?_
    · refine fr_be (fun v7 e => ?_)
      have ov7 := ow_gR hs ox0 e
      clear e
      refine fr_bd (fun _ => ?_)
      refine fr_if ?_ ?_
      · refine fr_cl (fun _ _ e => (hs.trans ((ow_X4_blame (oc.of hs) ox1 e).weak (by decide) (by decide)))) (fun _ h hs => ?_)
        exact ow_X2_readVertex_56 oc hk20 ox0 ox1 hs
      · exact ow_X2_readVertex_56 oc hk20 ox0 ox1 hs
    · exact ow_X2_readVertex_56 oc hk20 ox0 ox1 hs
theorem ow_X2_readVertex_20 {O : Nat → Prop} {h0 : sv_H} (oc : sv_cl O h0) : ∀ (n : Nat) {x0 : Nat} {x1 : Nat} {x2 : Int32} {x3 : Int32} {x4 : Int32} {x5 : Int32} {x6 : Int32} {h : sv_H}, O x0 → O x1 → sv_ow [501, 502, 503] [302, 303] O h0 h → sv_fr (sv_ow [501, 502, 503] [302, 303] O) h0 (fn_X2_readVertex_20 n x0 x1 x2 x3 x4 x5 x6 h) := by
  intro n
  induction n with
  | zero => intro x0 x1 x2 x3 x4 x5 x6 h ox0 ox1 hs r hE e; cases (show (none : Option (Unit × sv_H)) = some (r, hE) from e)
  | succ n ih => intro x0 x1 x2 x3 x4 x5 x6 h ox0 ox1 hs; exact ow_X2_readVertex_20b oc (fun ox0 ox1 hs => ih ox0 ox1 hs) ox0 ox1 hs
theorem ow_X2_readVertex_0 {O : Nat → Prop} {h0 : sv_H} (oc : sv_cl O h0) {x0 : Nat} {x1 : Nat} {x2 : Int32} {h : sv_H} (ox0 : O x0) (ox1 : O x1) (hs : sv_ow [501, 502, 503] [302, 303] O h0 h) : sv_fr (sv_ow [501, 502, 503] [302, 303] O) h0 (fn_X2_readVertex x0 x1 x2 h) := by
  unfold fn_X2_readVertex
  refine fr_if ?_ fr_no
  refine fr_cl (fun _ _ e => (hs.trans ((ow_X4_pair (oc.of hs) ox1 e).weak (by decide) (by decide)))) (fun _ h hs => ?_)
  refine fr_bd (fun _ => ?_)
  refine fr_cl (fun _ _ e => (hs.trans ((ow_X4_pair (oc.of hs) ox1 e).weak (by decide) (by decide)))) (fun _ h hs => ?_)
  exact ow_X2_readVertex_20 oc sv_fuel ox0 ox1 hs
theorem ow_X2_readVertex {O : Nat → Prop} {x0 : Nat} {x1 : Nat} {x2 : Int32} {h : sv_H} {r : Unit} {hE : sv_H} (oc : sv_cl O h) (ox0 : O x0) (ox1 : O x1) (hw : fn_X2_readVertex x0 x1 x2 h = some (r, hE)) : sv_ow [501, 502, 503] [302, 303] O h hE := ow_X2_readVertex_0 oc ox0 ox1 (sv_ow.refl h) r hE hw

theorem ow_X2_readTexture_78 {O : Nat → Prop} {h0 : sv_H} (oc : sv_cl O h0) {h : sv_H} (hs : sv_ow [501, 502, 503] [304, 305, 306] O h0 h) : sv_fr (sv_ow [501, 502, 503] [304, 305, 306] O) h0 (fn_X2_readTexture_78 h) := by
  unfold fn_X2_readTexture_78
  exact fr_rt hs
theorem ow_X2_readTexture_40b {O : Nat → Prop} {h0 : sv_H} (oc : sv_cl O h0) {k40 : Nat → Nat → Int32 → Int32 → sv_H → Option (Unit × sv_H)} (hk40 : ∀ {x0 : Nat} {x1 : Nat} {x2 : Int32} {x3 : Int32} {h : sv_H}, O x0 → O x1 → sv_ow [501, 502, 503] [304, 305, 306] O h0 h → sv_fr (sv_ow [501, 502, 503] [304, 305, 306] O) h0 (k40 x0 x1 x2 x3 h)) {x0 : Nat} {x1 : Nat} {x2 : Int32} {x3 : Int32} {h : sv_H} (ox0 : O x0) (ox1 : O x1) (hs : sv_ow [501, 502, 503] [304, 305, 306] O h0 h) : sv_fr (sv_ow [501, 502, 503] [304, 305, 306] O) h0 (fn_X2_readTexture_40b k40 x0 x1 x2 x3 h) := by
  unfold fn_X2_readTexture_40b
  refine fr_be (fun v1 e => ?_)
  have ov1 := ow_gR hs ox0 e
  clear e
  refine fr_bd (fun _ => ?_)
  refine fr_be (fun v3 e => ?_)
  have ov3 := ow_gR hs ox0 e
  clear e
  refine fr_bd (fun _ => ?_)
  refine fr_if ?_ ?_
  · exact ow_X2_readTexture_78 oc hs
  · refine fr_cl (fun _ _ e => (by rw [ro_X4_well e]; exact hs)) (fun _ h hs => ?_)
    refine fr_if ?_ ?_
    · exact ow_X2_readTexture_78 oc hs
    · refine fr_cl (fun _ _ e => (hs.trans ((ow_X4_within (oc.of hs) ox1 e).weak (by decide) (by decide)))) (fun _ h hs => ?_)
      exact hk40 ox0 ox1 hs
theorem ow_X2_readTexture_40 {O : Nat → Prop} {h0 : sv_H} (oc : sv_cl O h0) : ∀ (n : Nat) {x0 : Nat} {x1 : Nat} {x2 : Int32} {x3 : Int32} {h : sv_H}, O x0 → O x1 → sv_ow [501, 502, 503] [304, 305, 306] O h0 h → sv_fr (sv_ow [501, 502, 503] [304, 305, 306] O) h0 (fn_X2_readTexture_40 n x0 x1 x2 x3 h) := by
  intro n
  induction n with
  | zero => intro x0 x1 x2 x3 h ox0 ox1 hs r hE e; cases (show (none : Option (Unit × sv_H)) = some (r, hE) from e)
  | succ n ih => intro x0 x1 x2 x3 h ox0 ox1 hs; exact ow_X2_readTexture_40b oc (fun ox0 ox1 hs => ih ox0 ox1 hs) ox0 ox1 hs
theorem ow_X2_readTexture_0 {O : Nat → Prop} {h0 : sv_H} (oc : sv_cl O h0) {x0 : Nat} {x1 : Nat} {x2 : Int32} {h : sv_H} (ox0 : O x0) (ox1 : O x1) (hs : sv_ow [501, 502, 503] [304, 305, 306] O h0 h) : sv_fr (sv_ow [501, 502, 503] [304, 305, 306] O) h0 (fn_X2_readTexture x0 x1 x2 h) := by
  unfold fn_X2_readTexture
  refine fr_if ?_ fr_no
  refine fr_be (fun v1 e => ?_)
  have ov1 := ow_gR hs ox0 e
  clear e
  refine fr_cl (fun _ _ e => (hs.trans ((ow_X4_within (oc.of hs) ox1 e).weak (by decide) (by decide)))) (fun _ h hs => ?_)
  refine fr_st (fun _ e => ow_sI hs ov1 (by decide) e) (fun h hs => ?_)
  refine fr_be (fun v5 e => ?_)
  have ov5 := ow_gR hs ox0 e
  clear e
  refine fr_cl (fun _ _ e => (hs.trans ((ow_X4_within (oc.of hs) ox1 e).weak (by decide) (by decide)))) (fun _ h hs => ?_)
  refine fr_st (fun _ e => ow_sI hs ov5 (by decide) e) (fun h hs => ?_)
  refine fr_be (fun v9 e => ?_)
  have ov9 := ow_gR hs ox0 e
  clear e
  refine fr_bd (fun _ => ?_)
  refine fr_st (fun _ e => ow_sI hs ov9 (by decide) e) (fun h hs => ?_)
  exact ow_X2_readTexture_40 oc sv_fuel ox0 ox1 hs
theorem ow_X2_readTexture {O : Nat → Prop} {x0 : Nat} {x1 : Nat} {x2 : Int32} {h : sv_H} {r : Unit} {hE : sv_H} (oc : sv_cl O h) (ox0 : O x0) (ox1 : O x1) (hw : fn_X2_readTexture x0 x1 x2 h = some (r, hE)) : sv_ow [501, 502, 503] [304, 305, 306] O h hE := ow_X2_readTexture_0 oc ox0 ox1 (sv_ow.refl h) r hE hw

theorem ow_X4_pairWithin_0 {O : Nat → Prop} {h0 : sv_H} (oc : sv_cl O h0) {x0 : Nat} {x1 : Int32} {x2 : Int32} {h : sv_H} (ox0 : O x0) (hs : sv_ow [501, 502, 503] [] O h0 h) : sv_fr (sv_ow [501, 502, 503] [] O) h0 (fn_X4_pairWithin x0 x1 x2 h) := by
  unfold fn_X4_pairWithin
  refine fr_if ?_ fr_no
  refine fr_bd (fun _ => ?_)
  refine fr_cl (fun _ _ e => (hs.trans ((ow_X4_pair (oc.of hs) ox0 e).weak (by decide) (by decide)))) (fun _ h hs => ?_)
  refine fr_cl (fun _ _ e => (hs.trans ((ow_X4_bounded (oc.of hs) ox0 e).weak (by decide) (by decide)))) (fun _ h hs => ?_)
  exact fr_rt hs
theorem ow_X4_pairWithin {O : Nat → Prop} {x0 : Nat} {x1 : Int32} {x2 : Int32} {h : sv_H} {r : Int32} {hE : sv_H} (oc : sv_cl O h) (ox0 : O x0) (hw : fn_X4_pairWithin x0 x1 x2 h = some (r, hE)) : sv_ow [501, 502, 503] [] O h hE := ow_X4_pairWithin_0 oc ox0 (sv_ow.refl h) r hE hw

theorem ow_X4_numberOrNone_0 {O : Nat → Prop} {h0 : sv_H} (oc : sv_cl O h0) {x0 : Nat} {x1 : Int32} {h : sv_H} (ox0 : O x0) (hs : sv_ow [501, 502, 503] [] O h0 h) : sv_fr (sv_ow [501, 502, 503] [] O) h0 (fn_X4_numberOrNone x0 x1 h) := by
  unfold fn_X4_numberOrNone
  refine fr_if ?_ fr_no
  refine fr_bd (fun _ => ?_)
  refine fr_cl (fun _ _ e => (hs.trans ((ow_X4_one (oc.of hs) ox0 e).weak (by decide) (by decide)))) (fun _ h hs => ?_)
  refine fr_if ?_ ?_
  · exact fr_rt hs
  · refine fr_cl (fun _ _ e => (hs.trans ((ow_X4_bounded (oc.of hs) ox0 e).weak (by decide) (by decide)))) (fun _ h hs => ?_)
    exact fr_rt hs
theorem ow_X4_numberOrNone {O : Nat → Prop} {x0 : Nat} {x1 : Int32} {h : sv_H} {r : Int32} {hE : sv_H} (oc : sv_cl O h) (ox0 : O x0) (hw : fn_X4_numberOrNone x0 x1 h = some (r, hE)) : sv_ow [501, 502, 503] [] O h hE := ow_X4_numberOrNone_0 oc ox0 (sv_ow.refl h) r hE hw

theorem ow_X2_readSector_50 {O : Nat → Prop} {h0 : sv_H} (oc : sv_cl O h0) {x0 : Nat} {x1 : Nat} {x2 : Nat} {h : sv_H} (ox0 : O x0) (ox1 : O x1) (ox2 : O x2) (hs : sv_ow [501, 502, 503, 700, 701, 702, 703, 704, 705, 706] [] O h0 h) : sv_fr (sv_ow [501, 502, 503, 700, 701, 702, 703, 704, 705, 706] [] O) h0 (fn_X2_readSector_50 x0 x1 x2 h) := by
  unfold fn_X2_readSector_50
  refine fr_bd (fun _ => ?_)
  refine fr_cl (fun _ _ e => (hs.trans ((ow_X4_within (oc.of hs) ox1 e).weak (by decide) (by decide)))) (fun _ h hs => ?_)
  refine fr_st (fun _ e => ow_pI hs (by decide) ox2 e) (fun h hs => ?_)
  refine fr_bd (fun _ => ?_)
  refine fr_cl (fun _ _ e => (hs.trans ((ow_X4_numberOrNone (oc.of hs) ox1 e).weak (by decide) (by decide)))) (fun _ h hs => ?_)
  refine fr_st (fun _ e => ow_pI hs (by decide) ox2 e) (fun h hs => ?_)
  refine fr_cl (fun _ _ e => (hs.trans ((ow_X4_within (oc.of hs) ox1 e).weak (by decide) (by decide)))) (fun _ h hs => ?_)
  refine fr_st (fun _ e => ow_pI hs (by decide) ox2 e) (fun h hs => ?_)
  refine fr_cl (fun _ _ e => (hs.trans ((ow_X4_within (oc.of hs) ox1 e).weak (by decide) (by decide)))) (fun _ h hs => ?_)
  refine fr_st (fun _ e => ow_pI hs (by decide) ox2 e) (fun h hs => ?_)
  refine fr_cl (fun _ _ e => (hs.trans ((ow_X4_one (oc.of hs) ox1 e).weak (by decide) (by decide)))) (fun _ h hs => ?_)
  refine fr_st (fun _ e => ow_pI hs (by decide) ox2 e) (fun h hs => ?_)
  exact fr_rt hs
theorem ow_X2_readSector_0 {O : Nat → Prop} {h0 : sv_H} (oc : sv_cl O h0) {x0 : Nat} {x1 : Nat} {x2 : Nat} {h : sv_H} (ox0 : O x0) (ox1 : O x1) (ox2 : O x2) (hs : sv_ow [501, 502, 503, 700, 701, 702, 703, 704, 705, 706] [] O h0 h) : sv_fr (sv_ow [501, 502, 503, 700, 701, 702, 703, 704, 705, 706] [] O) h0 (fn_X2_readSector x0 x1 x2 h) := by
  unfold fn_X2_readSector
  refine fr_if ?_ fr_no
  refine fr_cl (fun _ _ e => (hs.trans ((ow_X4_pairWithin (oc.of hs) ox1 e).weak (by decide) (by decide)))) (fun _ h hs => ?_)
  refine fr_st (fun _ e => ow_pI hs (by decide) ox2 e) (fun h hs => ?_)
  refine fr_bd (fun _ => ?_)
  refine fr_cl (fun _ _ e => (hs.trans ((ow_X4_pairWithin (oc.of hs) ox1 e).weak (by decide) (by decide)))) (fun _ h hs => ?_)
  refine fr_st (fun _ e => ow_pI hs (by decide) ox2 e) (fun h hs => ?_)
  refine fr_bd (fun _ => ?_)
  refine fr_bd (fun _ => ?_)
  refine fr_if ?_ ?_
  · exact ow_X2_readSector_50 oc ox0 ox1 ox2 hs
  · refine fr_cl (fun _ _ e => (hs.trans ((ow_X4_blame (oc.of hs) ox1 e).weak (by decide) (by decide)))) (fun _ h hs => ?_)
    exact ow_X2_readSector_50 oc ox0 ox1 ox2 hs
theorem ow_X2_readSector {O : Nat → Prop} {x0 : Nat} {x1 : Nat} {x2 : Nat} {h : sv_H} {r : Unit} {hE : sv_H} (oc : sv_cl O h) (ox0 : O x0) (ox1 : O x1) (ox2 : O x2) (hw : fn_X2_readSector x0 x1 x2 h = some (r, hE)) : sv_ow [501, 502, 503, 700, 701, 702, 703, 704, 705, 706] [] O h hE := ow_X2_readSector_0 oc ox0 ox1 ox2 (sv_ow.refl h) r hE hw

theorem ow_X2_readWall_164 {O : Nat → Prop} {h0 : sv_H} (oc : sv_cl O h0) {k116 : Nat → Nat → Nat → Int32 → sv_H → Option (Unit × sv_H)} (hk116 : ∀ {x0 : Nat} {x1 : Nat} {x2 : Nat} {x6 : Int32} {h : sv_H}, O x0 → O x1 → O x2 → sv_ow [501, 502, 503, 1200, 1201, 1202, 1203, 1204, 1205, 1206, 1207, 1208, 1209, 1210] [1211] O h0 h → sv_fr (sv_ow [501, 502, 503, 1200, 1201, 1202, 1203, 1204, 1205, 1206, 1207, 1208, 1209, 1210] [1211] O) h0 (k116 x0 x1 x2 x6 h)) {x0 : Nat} {x1 : Nat} {x2 : Nat} {x6 : Int32} {s0 : Nat} {s1 : Int32} {s2 : Nat} {s3 : Int32} {h : sv_H} (ox0 : O x0) (ox1 : O x1) (ox2 : O x2) (os0 : sv_rl 1211 O h0 s0) (os2 : O s2) (hs : sv_ow [501, 502, 503, 1200, 1201, 1202, 1203, 1204, 1205, 1206, 1207, 1208, 1209, 1210] [1211] O h0 h) : sv_fr (sv_ow [501, 502, 503, 1200, 1201, 1202, 1203, 1204, 1205, 1206, 1207, 1208, 1209, 1210] [1211] O) h0 (fn_X2_readWall_164 k116 x0 x1 x2 x6 s0 s1 s2 s3 h) := by
  unfold fn_X2_readWall_164
  refine fr_cl (fun _ _ e => (hs.trans ((ow_X4_numberOrNone (oc.of hs) os2 e).weak (by decide) (by decide)))) (fun _ h hs => ?_)
  refine fr_st (fun _ e => ow_sI hs os0 (by decide) e) (fun h hs => ?_)
  exact hk116 ox0 ox1 ox2 hs
theorem ow_X2_readWall_142 {O : Nat → Prop} {h0 : sv_H} (oc : sv_cl O h0) {k116 : Nat → Nat → Nat → Int32 → sv_H → Option (Unit × sv_H)} (hk116 : ∀ {x0 : Nat} {x1 : Nat} {x2 : Nat} {x6 : Int32} {h : sv_H}, O x0 → O x1 → O x2 → sv_ow [501, 502, 503, 1200, 1201, 1202, 1203, 1204, 1205, 1206, 1207, 1208, 1209, 1210] [1211] O h0 h → sv_fr (sv_ow [501, 502, 503, 1200, 1201, 1202, 1203, 1204, 1205, 1206, 1207, 1208, 1209, 1210] [1211] O) h0 (k116 x0 x1 x2 x6 h)) {x0 : Nat} {x1 : Nat} {x2 : Nat} {x6 : Int32} {s0 : Int32} {h : sv_H} (ox0 : O x0) (ox1 : O x1) (ox2 : O x2) (hs : sv_ow [501, 502, 503, 1200, 1201, 1202, 1203, 1204, 1205, 1206, 1207, 1208, 1209, 1210] [1211] O h0 h) : sv_fr (sv_ow [501, 502, 503, 1200, 1201, 1202, 1203, 1204, 1205, 1206, 1207, 1208, 1209, 1210] [1211] O) h0 (fn_X2_readWall_142 k116 x0 x1 x2 x6 s0 h) := by
  unfold fn_X2_readWall_142
  refine fr_be (fun v1 e => ?_)
  have ov1 := ow_gR hs ox2 e
  clear e
  refine fr_if ?_ ?_
  · exact ow_X2_readWall_164 oc hk116 ox0 ox1 ox2 ov1 ox1 hs
  · refine fr_bd (fun _ => ?_)
    exact ow_X2_readWall_164 oc hk116 ox0 ox1 ox2 ov1 ox1 hs
theorem ow_X2_readWall_137 {O : Nat → Prop} {h0 : sv_H} (oc : sv_cl O h0) {k116 : Nat → Nat → Nat → Int32 → sv_H → Option (Unit × sv_H)} (hk116 : ∀ {x0 : Nat} {x1 : Nat} {x2 : Nat} {x6 : Int32} {h : sv_H}, O x0 → O x1 → O x2 → sv_ow [501, 502, 503, 1200, 1201, 1202, 1203, 1204, 1205, 1206, 1207, 1208, 1209, 1210] [1211] O h0 h → sv_fr (sv_ow [501, 502, 503, 1200, 1201, 1202, 1203, 1204, 1205, 1206, 1207, 1208, 1209, 1210] [1211] O) h0 (k116 x0 x1 x2 x6 h)) {x0 : Nat} {x1 : Nat} {x2 : Nat} {x6 : Int32} {h : sv_H} (ox0 : O x0) (ox1 : O x1) (ox2 : O x2) (hs : sv_ow [501, 502, 503, 1200, 1201, 1202, 1203, 1204, 1205, 1206, 1207, 1208, 1209, 1210] [1211] O h0 h) : sv_fr (sv_ow [501, 502, 503, 1200, 1201, 1202, 1203, 1204, 1205, 1206, 1207, 1208, 1209, 1210] [1211] O) h0 (fn_X2_readWall_137 k116 x0 x1 x2 x6 h) := by
  unfold fn_X2_readWall_137
  exact ow_X2_readWall_142 oc hk116 ox0 ox1 ox2 hs
theorem ow_X2_readWall_116b {O : Nat → Prop} {h0 : sv_H} (oc : sv_cl O h0) {k116 : Nat → Nat → Nat → Int32 → sv_H → Option (Unit × sv_H)} (hk116 : ∀ {x0 : Nat} {x1 : Nat} {x2 : Nat} {x6 : Int32} {h : sv_H}, O x0 → O x1 → O x2 → sv_ow [501, 502, 503, 1200, 1201, 1202, 1203, 1204, 1205, 1206, 1207, 1208, 1209, 1210] [1211] O h0 h → sv_fr (sv_ow [501, 502, 503, 1200, 1201, 1202, 1203, 1204, 1205, 1206, 1207, 1208, 1209, 1210] [1211] O) h0 (k116 x0 x1 x2 x6 h)) {x0 : Nat} {x1 : Nat} {x2 : Nat} {x6 : Int32} {h : sv_H} (ox0 : O x0) (ox1 : O x1) (ox2 : O x2) (hs : sv_ow [501, 502, 503, 1200, 1201, 1202, 1203, 1204, 1205, 1206, 1207, 1208, 1209, 1210] [1211] O h0 h) : sv_fr (sv_ow [501, 502, 503, 1200, 1201, 1202, 1203, 1204, 1205, 1206, 1207, 1208, 1209, 1210] [1211] O) h0 (fn_X2_readWall_116b k116 x0 x1 x2 x6 h) := by
  unfold fn_X2_readWall_116b
  refine fr_if ?_ ?_
  · refine fr_cl (fun _ _ e => (hs.trans ((ow_X4_one (oc.of hs) ox1 e).weak (by decide) (by decide)))) (fun _ h hs => ?_)
    refine fr_st (fun _ e => ow_pI hs (by decide) ox2 e) (fun h hs => ?_)
    refine fr_st (fun _ e => ow_pI hs (by decide) ox2 e) (fun h hs => ?_)
    refine fr_cl (fun _ _ e => (hs.trans ((ow_X4_within (oc.of hs) ox1 e).weak (by decide) (by decide)))) (fun _ h hs => ?_)
    refine fr_st (fun _ e => ow_pI hs (by decide) ox2 e) (fun h hs => ?_)
    refine fr_cl (fun _ _ e => (hs.trans ((ow_X4_within (oc.of hs) ox1 e).weak (by decide) (by decide)))) (fun _ h hs => ?_)
    refine fr_st (fun _ e => ow_pI hs (by decide) ox2 e) (fun h hs => ?_)
    refine fr_cl (fun _ _ e => (hs.trans ((ow_X4_one (oc.of hs) ox1 e).weak (by decide) (by decide)))) (fun _ h hs => ?_)
    refine fr_st (fun _ e => ow_pI hs (by decide) ox2 e) (fun h hs => ?_)
    exact fr_rt hs
  · refine fr_if ?_ ?_
    · exact ow_X2_readWall_137 oc hk116 ox0 ox1 ox2 hs
    · refine fr_bd (fun _ => ?_)
      refine fr_if ?_ ?_
      · exact ow_X2_readWall_142 oc hk116 ox0 ox1 ox2 hs
      · exact ow_X2_readWall_137 oc hk116 ox0 ox1 ox2 hs
theorem ow_X2_readWall_116 {O : Nat → Prop} {h0 : sv_H} (oc : sv_cl O h0) : ∀ (n : Nat) {x0 : Nat} {x1 : Nat} {x2 : Nat} {x6 : Int32} {h : sv_H}, O x0 → O x1 → O x2 → sv_ow [501, 502, 503, 1200, 1201, 1202, 1203, 1204, 1205, 1206, 1207, 1208, 1209, 1210] [1211] O h0 h → sv_fr (sv_ow [501, 502, 503, 1200, 1201, 1202, 1203, 1204, 1205, 1206, 1207, 1208, 1209, 1210] [1211] O) h0 (fn_X2_readWall_116 n x0 x1 x2 x6 h) := by
  intro n
  induction n with
  | zero => intro x0 x1 x2 x6 h ox0 ox1 ox2 hs r hE e; cases (show (none : Option (Unit × sv_H)) = some (r, hE) from e)
  | succ n ih => intro x0 x1 x2 x6 h ox0 ox1 ox2 hs; exact ow_X2_readWall_116b oc (fun ox0 ox1 ox2 hs => ih ox0 ox1 ox2 hs) ox0 ox1 ox2 hs
theorem ow_X2_readWall_44 {O : Nat → Prop} {h0 : sv_H} (oc : sv_cl O h0) {x0 : Nat} {x1 : Nat} {x2 : Nat} {x3 : Int32} {x5 : Int32} {h : sv_H} (ox0 : O x0) (ox1 : O x1) (ox2 : O x2) (hs : sv_ow [501, 502, 503, 1200, 1201, 1202, 1203, 1204, 1205, 1206, 1207, 1208, 1209, 1210] [1211] O h0 h) : sv_fr (sv_ow [501, 502, 503, 1200, 1201, 1202, 1203, 1204, 1205, 1206, 1207, 1208, 1209, 1210] [1211] O) h0 (fn_X2_readWall_44 x0 x1 x2 x3 x5 h) := by
  unfold fn_X2_readWall_44
  refine fr_be (fun v1 e => ?_)
  have ov1 := ow_gR hs ox0 e
  clear e
  refine fr_bd (fun _ => ?_)
  refine fr_st (fun _ e => ow_pI hs (by decide) ox2 e) (fun h hs => ?_)
  refine fr_be (fun v4 e => ?_)
  have ov4 := ow_gR hs ox0 e
  clear e
  refine fr_bd (fun _ => ?_)
  refine fr_st (fun _ e => ow_pI hs (by decide) ox2 e) (fun h hs => ?_)
  refine fr_be (fun v7 e => ?_)
  have ov7 := ow_gR hs ox0 e
  clear e
  refine fr_bd (fun _ => ?_)
  refine fr_st (fun _ e => ow_pI hs (by decide) ox2 e) (fun h hs => ?_)
  refine fr_be (fun v10 e => ?_)
  have ov10 := ow_gR hs ox0 e
  clear e
  refine fr_bd (fun _ => ?_)
  refine fr_st (fun _ e => ow_pI hs (by decide) ox2 e) (fun h hs => ?_)
  refine fr_bd (fun _ => ?_)
  refine fr_cl (fun _ _ e => (hs.trans ((ow_X4_within (oc.of hs) ox1 e).weak (by decide) (by decide)))) (fun _ h hs => ?_)
  refine fr_st (fun _ e => ow_pI hs (by decide) ox2 e) (fun h hs => ?_)
  refine fr_bd (fun _ => ?_)
  refine fr_cl (fun _ _ e => (hs.trans ((ow_X4_numberOrNone (oc.of hs) ox1 e).weak (by decide) (by decide)))) (fun _ h hs => ?_)
  refine fr_st (fun _ e => ow_pI hs (by decide) ox2 e) (fun h hs => ?_)
  exact ow_X2_readWall_116 oc sv_fuel ox0 ox1 ox2 hs
theorem ow_X2_readWall_0 {O : Nat → Prop} {h0 : sv_H} (oc : sv_cl O h0) {x0 : Nat} {x1 : Nat} {x2 : Nat} {h : sv_H} (ox0 : O x0) (ox1 : O x1) (ox2 : O x2) (hs : sv_ow [501, 502, 503, 1200, 1201, 1202, 1203, 1204, 1205, 1206, 1207, 1208, 1209, 1210] [1211] O h0 h) : sv_fr (sv_ow [501, 502, 503, 1200, 1201, 1202, 1203, 1204, 1205, 1206, 1207, 1208, 1209, 1210] [1211] O) h0 (fn_X2_readWall x0 x1 x2 h) := by
  unfold fn_X2_readWall
  refine fr_if ?_ fr_no
  refine fr_bd (fun _ => ?_)
  refine fr_cl (fun _ _ e => (hs.trans ((ow_X4_within (oc.of hs) ox1 e).weak (by decide) (by decide)))) (fun _ h hs => ?_)
  refine fr_bd (fun _ => ?_)
  refine fr_bd (fun _ => ?_)
  refine fr_cl (fun _ _ e => (hs.trans ((ow_X4_within (oc.of hs) ox1 e).weak (by decide) (by decide)))) (fun _ h hs => ?_)
  refine fr_if ?_ ?_
  · refine fr_cl (fun _ _ e => (hs.trans ((ow_X4_blame (oc.of hs) ox1 e).weak (by decide) (by decide)))) (fun _ h hs => ?_)
    exact ow_X2_readWall_44 oc ox0 ox1 ox2 hs
  · exact ow_X2_readWall_44 oc ox0 ox1 ox2 hs
theorem ow_X2_readWall {O : Nat → Prop} {x0 : Nat} {x1 : Nat} {x2 : Nat} {h : sv_H} {r : Unit} {hE : sv_H} (oc : sv_cl O h) (ox0 : O x0) (ox1 : O x1) (ox2 : O x2) (hw : fn_X2_readWall x0 x1 x2 h = some (r, hE)) : sv_ow [501, 502, 503, 1200, 1201, 1202, 1203, 1204, 1205, 1206, 1207, 1208, 1209, 1210] [1211] O h hE := ow_X2_readWall_0 oc ox0 ox1 ox2 (sv_ow.refl h) r hE hw

theorem ow_X4_readStart_0 {O : Nat → Prop} {h0 : sv_H} (oc : sv_cl O h0) {x0 : Nat} {x1 : Nat} {x2 : Int32} {h : sv_H} (ox0 : O x0) (ox1 : O x1) (hs : sv_ow [501, 502, 503, 800, 801, 802, 803] [] O h0 h) : sv_fr (sv_ow [501, 502, 503, 800, 801, 802, 803] [] O) h0 (fn_X4_readStart x0 x1 x2 h) := by
  unfold fn_X4_readStart
  refine fr_if ?_ fr_no
  refine fr_cl (fun _ _ e => (hs.trans ((ow_X4_pair (oc.of hs) ox0 e).weak (by decide) (by decide)))) (fun _ h hs => ?_)
  refine fr_st (fun _ e => ow_pI hs (by decide) ox1 e) (fun h hs => ?_)
  refine fr_cl (fun _ _ e => (hs.trans ((ow_X4_pair (oc.of hs) ox0 e).weak (by decide) (by decide)))) (fun _ h hs => ?_)
  refine fr_st (fun _ e => ow_pI hs (by decide) ox1 e) (fun h hs => ?_)
  refine fr_cl (fun _ _ e => (hs.trans ((ow_X4_within (oc.of hs) ox0 e).weak (by decide) (by decide)))) (fun _ h hs => ?_)
  refine fr_st (fun _ e => ow_pI hs (by decide) ox1 e) (fun h hs => ?_)
  refine fr_cl (fun _ _ e => (hs.trans ((ow_X4_within (oc.of hs) ox0 e).weak (by decide) (by decide)))) (fun _ h hs => ?_)
  refine fr_st (fun _ e => ow_pI hs (by decide) ox1 e) (fun h hs => ?_)
  exact fr_rt hs
theorem ow_X4_readStart {O : Nat → Prop} {x0 : Nat} {x1 : Nat} {x2 : Int32} {h : sv_H} {r : Unit} {hE : sv_H} (oc : sv_cl O h) (ox0 : O x0) (ox1 : O x1) (hw : fn_X4_readStart x0 x1 x2 h = some (r, hE)) : sv_ow [501, 502, 503, 800, 801, 802, 803] [] O h hE := ow_X4_readStart_0 oc ox0 ox1 (sv_ow.refl h) r hE hw

theorem ow_X2_readCheck_7b {O : Nat → Prop} {h0 : sv_H} (oc : sv_cl O h0) {k7 : Nat → Int32 → Int32 → Int32 → sv_H → Option (Unit × sv_H)} (hk7 : ∀ {x1 : Nat} {x2 : Int32} {x3 : Int32} {x4 : Int32} {h : sv_H}, O x1 → sv_ow [501, 502, 503] [] O h0 h → sv_fr (sv_ow [501, 502, 503] [] O) h0 (k7 x1 x2 x3 x4 h)) {x1 : Nat} {x2 : Int32} {x3 : Int32} {x4 : Int32} {h : sv_H} (ox1 : O x1) (hs : sv_ow [501, 502, 503] [] O h0 h) : sv_fr (sv_ow [501, 502, 503] [] O) h0 (fn_X2_readCheck_7b k7 x1 x2 x3 x4 h) := by
  unfold fn_X2_readCheck_7b
  refine fr_bd (fun _ => ?_)
  refine fr_if ?_ ?_
  · refine fr_cl (fun _ _ e => (hs.trans ((ow_X4_expect (oc.of hs) ox1 e).weak (by decide) (by decide)))) (fun _ h hs => ?_)
    refine fr_cl (fun _ _ e => (hs.trans ((ow_X4_expect (oc.of hs) ox1 e).weak (by decide) (by decide)))) (fun _ h hs => ?_)
    exact fr_rt hs
  · refine fr_be (fun v4 e => ?_)
    have ov4 := ow_gO oc hs ox1 e
    clear e
    refine fr_be (fun v5 e => ?_)
    have ov5 := ow_gR hs ov4 e
    clear e
    refine fr_bd (fun _ => ?_)
    exact hk7 ox1 hs
theorem ow_X2_readCheck_7 {O : Nat → Prop} {h0 : sv_H} (oc : sv_cl O h0) : ∀ (n : Nat) {x1 : Nat} {x2 : Int32} {x3 : Int32} {x4 : Int32} {h : sv_H}, O x1 → sv_ow [501, 502, 503] [] O h0 h → sv_fr (sv_ow [501, 502, 503] [] O) h0 (fn_X2_readCheck_7 n x1 x2 x3 x4 h) := by
  intro n
  induction n with
  | zero => intro x1 x2 x3 x4 h ox1 hs r hE e; cases (show (none : Option (Unit × sv_H)) = some (r, hE) from e)
  | succ n ih => intro x1 x2 x3 x4 h ox1 hs; exact ow_X2_readCheck_7b oc (fun ox1 hs => ih ox1 hs) ox1 hs
theorem ow_X2_readCheck_0 {O : Nat → Prop} {h0 : sv_H} (oc : sv_cl O h0) {x0 : Nat} {x1 : Nat} {h : sv_H} (ox0 : O x0) (ox1 : O x1) (hs : sv_ow [501, 502, 503] [] O h0 h) : sv_fr (sv_ow [501, 502, 503] [] O) h0 (fn_X2_readCheck x0 x1 h) := by
  unfold fn_X2_readCheck
  refine fr_if ?_ fr_no
  exact ow_X2_readCheck_7 oc sv_fuel ox1 hs
theorem ow_X2_readCheck {O : Nat → Prop} {x0 : Nat} {x1 : Nat} {h : sv_H} {r : Unit} {hE : sv_H} (oc : sv_cl O h) (ox0 : O x0) (ox1 : O x1) (hw : fn_X2_readCheck x0 x1 h = some (r, hE)) : sv_ow [501, 502, 503] [] O h hE := ow_X2_readCheck_0 oc ox0 ox1 (sv_ow.refl h) r hE hw

theorem ow_X4_expectEnd_23 {O : Nat → Prop} {h0 : sv_H} (oc : sv_cl O h0) {h : sv_H} (hs : sv_ow [502, 503] [] O h0 h) : sv_fr (sv_ow [502, 503] [] O) h0 (fn_X4_expectEnd_23 h) := by
  unfold fn_X4_expectEnd_23
  exact fr_rt hs
theorem ow_X4_expectEnd_0 {O : Nat → Prop} {h0 : sv_H} (oc : sv_cl O h0) {x0 : Nat} {x1 : Int32} {h : sv_H} (ox0 : O x0) (hs : sv_ow [502, 503] [] O h0 h) : sv_fr (sv_ow [502, 503] [] O) h0 (fn_X4_expectEnd x0 x1 h) := by
  unfold fn_X4_expectEnd
  refine fr_if ?_ fr_no
  refine fr_bd (fun _ => ?_)
  refine fr_be (fun v2 e => ?_)
  have ov2 := ow_gO oc hs ox0 e
  clear e
  refine fr_bd (fun _ => ?_)
  refine fr_if ?_ ?_
  · exact ow_X4_expectEnd_23 oc hs
  · refine fr_bd (fun _ => ?_)
    refine fr_cl (fun _ _ e => (hs.trans ((ow_X4_blame (oc.of hs) ox0 e).weak (by decide) (by decide)))) (fun _ h hs => ?_)
    exact ow_X4_expectEnd_23 oc hs
theorem ow_X4_expectEnd {O : Nat → Prop} {x0 : Nat} {x1 : Int32} {h : sv_H} {r : Unit} {hE : sv_H} (oc : sv_cl O h) (ox0 : O x0) (hw : fn_X4_expectEnd x0 x1 h = some (r, hE)) : sv_ow [502, 503] [] O h hE := ow_X4_expectEnd_0 oc ox0 (sv_ow.refl h) r hE hw

theorem ow_X2_findOverlap_76 {O : Nat → Prop} {h0 : sv_H} (oc : sv_cl O h0) {h : sv_H} (hs : sv_ow [502, 503] [] O h0 h) : sv_fr (sv_ow [502, 503] [] O) h0 (fn_X2_findOverlap_76 h) := by
  unfold fn_X2_findOverlap_76
  exact fr_rt hs
theorem ow_X2_findOverlap_70 {O : Nat → Prop} {h0 : sv_H} (oc : sv_cl O h0) {k2 : Nat → Nat → Int32 → Int32 → sv_H → Option (Unit × sv_H)} (hk2 : ∀ {x0 : Nat} {x1 : Nat} {x2 : Int32} {x3 : Int32} {h : sv_H}, O x0 → O x1 → sv_ow [502, 503] [] O h0 h → sv_fr (sv_ow [502, 503] [] O) h0 (k2 x0 x1 x2 x3 h)) {x0 : Nat} {x1 : Nat} {x2 : Int32} {x3 : Int32} {h : sv_H} (ox0 : O x0) (ox1 : O x1) (hs : sv_ow [502, 503] [] O h0 h) : sv_fr (sv_ow [502, 503] [] O) h0 (fn_X2_findOverlap_70 k2 x0 x1 x2 x3 h) := by
  unfold fn_X2_findOverlap_70
  exact hk2 ox0 ox1 hs
theorem ow_X2_findOverlap_64 {O : Nat → Prop} {h0 : sv_H} (oc : sv_cl O h0) {k2 : Nat → Nat → Int32 → Int32 → sv_H → Option (Unit × sv_H)} (hk2 : ∀ {x0 : Nat} {x1 : Nat} {x2 : Int32} {x3 : Int32} {h : sv_H}, O x0 → O x1 → sv_ow [502, 503] [] O h0 h → sv_fr (sv_ow [502, 503] [] O) h0 (k2 x0 x1 x2 x3 h)) {k20 : Nat → Nat → Int32 → Int32 → Int32 → sv_H → Option (Unit × sv_H)} (hk20 : ∀ {x0 : Nat} {x1 : Nat} {x2 : Int32} {x3 : Int32} {x4 : Int32} {h : sv_H}, O x0 → O x1 → sv_ow [502, 503] [] O h0 h → sv_fr (sv_ow [502, 503] [] O) h0 (k20 x0 x1 x2 x3 x4 h)) {x0 : Nat} {x1 : Nat} {x2 : Int32} {x3 : Int32} {x4 : Int32} {h : sv_H} (ox0 : O x0) (ox1 : O x1) (hs : sv_ow [502, 503] [] O h0 h) : sv_fr (sv_ow [502, 503] [] O) h0 (fn_X2_findOverlap_64 k2 k20 x0 x1 x2 x3 x4 h) := by
  unfold fn_X2_findOverlap_64
  exact hk20 ox0 ox1 hs
theorem ow_X2_findOverlap_20b {O : Nat → Prop} {h0 : sv_H} (oc : sv_cl O h0) {k2 : Nat → Nat → Int32 → Int32 → sv_H → Option (Unit × sv_H)} (hk2 : ∀ {x0 : Nat} {x1 : Nat} {x2 : Int32} {x3 : Int32} {h : sv_H}, O x0 → O x1 → sv_ow [502, 503] [] O h0 h → sv_fr (sv_ow [502, 503] [] O) h0 (k2 x0 x1 x2 x3 h)) {k20 : Nat → Nat → Int32 → Int32 → Int32 → sv_H → Option (Unit × sv_H)} (hk20 : ∀ {x0 : Nat} {x1 : Nat} {x2 : Int32} {x3 : Int32} {x4 : Int32} {h : sv_H}, O x0 → O x1 → sv_ow [502, 503] [] O h0 h → sv_fr (sv_ow [502, 503] [] O) h0 (k20 x0 x1 x2 x3 x4 h)) {x0 : Nat} {x1 : Nat} {x2 : Int32} {x3 : Int32} {x4 : Int32} {h : sv_H} (ox0 : O x0) (ox1 : O x1) (hs : sv_ow [502, 503] [] O h0 h) : sv_fr (sv_ow [502, 503] [] O) h0 (fn_X2_findOverlap_20b k2 k20 x0 x1 x2 x3 x4 h) := by
  unfold fn_X2_findOverlap_20b
  refine fr_if ?_ ?_
  · exact ow_X2_findOverlap_70 oc hk2 ox0 ox1 hs
  · refine fr_cl (fun _ _ e => (by rw [ro_X4_well e]; exact hs)) (fun _ h hs => ?_)
    refine fr_if ?_ ?_
    · exact ow_X2_findOverlap_70 oc hk2 ox0 ox1 hs
    · refine fr_be (fun v3 e => ?_)
      have ov3 := ow_gO oc hs ox0 e
      clear e
      refine fr_be (fun v4 e => ?_)
      have ov4 := ow_lO oc hs ov3 e
      clear e
      refine fr_be (fun v5 e => ?_)
      have ov5 := ow_gO oc hs ox0 e
      clear e
      refine fr_be (fun v6 e => ?_)
      have ov6 := ow_lO oc hs ov5 e
      clear e
      refine fr_cl (fun _ _ e => (by rw [ro_X11_overlaps e]; exact hs)) (fun _ h hs => ?_)
      refine fr_if ?_ ?_
      · exact ow_X2_findOverlap_64 oc hk2 hk20 ox0 ox1 hs
      · refine fr_cl (fun _ _ e => (hs.trans ((ow_X4_blame (oc.of hs) ox1 e).weak (by decide) (by decide)))) (fun _ h hs => ?_)
        exact ow_X2_findOverlap_64 oc hk2 hk20 ox0 ox1 hs
theorem ow_X2_findOverlap_20 {O : Nat → Prop} {h0 : sv_H} (oc : sv_cl O h0) {k2 : Nat → Nat → Int32 → Int32 → sv_H → Option (Unit × sv_H)} (hk2 : ∀ {x0 : Nat} {x1 : Nat} {x2 : Int32} {x3 : Int32} {h : sv_H}, O x0 → O x1 → sv_ow [502, 503] [] O h0 h → sv_fr (sv_ow [502, 503] [] O) h0 (k2 x0 x1 x2 x3 h)) : ∀ (n : Nat) {x0 : Nat} {x1 : Nat} {x2 : Int32} {x3 : Int32} {x4 : Int32} {h : sv_H}, O x0 → O x1 → sv_ow [502, 503] [] O h0 h → sv_fr (sv_ow [502, 503] [] O) h0 (fn_X2_findOverlap_20 k2 n x0 x1 x2 x3 x4 h) := by
  intro n
  induction n with
  | zero => intro x0 x1 x2 x3 x4 h ox0 ox1 hs r hE e; cases (show (none : Option (Unit × sv_H)) = some (r, hE) from e)
  | succ n ih => intro x0 x1 x2 x3 x4 h ox0 ox1 hs; exact ow_X2_findOverlap_20b oc hk2 (fun ox0 ox1 hs => ih ox0 ox1 hs) ox0 ox1 hs
theorem ow_X2_findOverlap_2b {O : Nat → Prop} {h0 : sv_H} (oc : sv_cl O h0) {k2 : Nat → Nat → Int32 → Int32 → sv_H → Option (Unit × sv_H)} (hk2 : ∀ {x0 : Nat} {x1 : Nat} {x2 : Int32} {x3 : Int32} {h : sv_H}, O x0 → O x1 → sv_ow [502, 503] [] O h0 h → sv_fr (sv_ow [502, 503] [] O) h0 (k2 x0 x1 x2 x3 h)) {x0 : Nat} {x1 : Nat} {x2 : Int32} {x3 : Int32} {h : sv_H} (ox0 : O x0) (ox1 : O x1) (hs : sv_ow [502, 503] [] O h0 h) : sv_fr (sv_ow [502, 503] [] O) h0 (fn_X2_findOverlap_2b k2 x0 x1 x2 x3 h) := by
  unfold fn_X2_findOverlap_2b
  refine fr_bd (fun _ => ?_)
  refine fr_if ?_ ?_
  · exact ow_X2_findOverlap_76 oc hs
  · refine fr_cl (fun _ _ e => (by rw [ro_X4_well e]; exact hs)) (fun _ h hs => ?_)
    refine fr_if ?_ ?_
    · exact ow_X2_findOverlap_76 oc hs
    · exact ow_X2_findOverlap_20 oc hk2 sv_fuel ox0 ox1 hs
theorem ow_X2_findOverlap_2 {O : Nat → Prop} {h0 : sv_H} (oc : sv_cl O h0) : ∀ (n : Nat) {x0 : Nat} {x1 : Nat} {x2 : Int32} {x3 : Int32} {h : sv_H}, O x0 → O x1 → sv_ow [502, 503] [] O h0 h → sv_fr (sv_ow [502, 503] [] O) h0 (fn_X2_findOverlap_2 n x0 x1 x2 x3 h) := by
  intro n
  induction n with
  | zero => intro x0 x1 x2 x3 h ox0 ox1 hs r hE e; cases (show (none : Option (Unit × sv_H)) = some (r, hE) from e)
  | succ n ih => intro x0 x1 x2 x3 h ox0 ox1 hs; exact ow_X2_findOverlap_2b oc (fun ox0 ox1 hs => ih ox0 ox1 hs) ox0 ox1 hs
theorem ow_X2_findOverlap_0 {O : Nat → Prop} {h0 : sv_H} (oc : sv_cl O h0) {x0 : Nat} {x1 : Nat} {x2 : Int32} {h : sv_H} (ox0 : O x0) (ox1 : O x1) (hs : sv_ow [502, 503] [] O h0 h) : sv_fr (sv_ow [502, 503] [] O) h0 (fn_X2_findOverlap x0 x1 x2 h) := by
  unfold fn_X2_findOverlap
  refine fr_if ?_ fr_no
  exact ow_X2_findOverlap_2 oc sv_fuel ox0 ox1 hs
theorem ow_X2_findOverlap {O : Nat → Prop} {x0 : Nat} {x1 : Nat} {x2 : Int32} {h : sv_H} {r : Unit} {hE : sv_H} (oc : sv_cl O h) (ox0 : O x0) (ox1 : O x1) (hw : fn_X2_findOverlap x0 x1 x2 h = some (r, hE)) : sv_ow [502, 503] [] O h hE := ow_X2_findOverlap_0 oc ox0 ox1 (sv_ow.refl h) r hE hw

theorem ow_X2_read_197 {O : Nat → Prop} {h0 : sv_H} (oc : sv_cl O h0) {x0 : Nat} {x1 : Nat} {x2 : Int32} {h : sv_H} (ox0 : O x0) (ox1 : O x1) (hs : sv_ow [309, 310, 311, 312, 501, 502, 503, 700, 701, 702, 703, 704, 705, 706, 800, 801, 802, 803, 1200, 1201, 1202, 1203, 1204, 1205, 1206, 1207, 1208, 1209, 1210] [1211, 302, 303, 304, 305, 306] O h0 h) : sv_fr (sv_ow [309, 310, 311, 312, 501, 502, 503, 700, 701, 702, 703, 704, 705, 706, 800, 801, 802, 803, 1200, 1201, 1202, 1203, 1204, 1205, 1206, 1207, 1208, 1209, 1210] [1211, 302, 303, 304, 305, 306] O) h0 (fn_X2_read_197 x0 x1 x2 h) := by
  unfold fn_X2_read_197
  refine fr_be (fun v1 e => ?_)
  have ov1 := ow_gO oc hs ox0 e
  clear e
  refine fr_bd (fun _ => ?_)
  refine fr_cl (fun _ _ e => (hs.trans ((ow_X4_readStart (oc.of hs) ox1 ov1 e).weak (by decide) (by decide)))) (fun _ h hs => ?_)
  refine fr_cl (fun _ _ e => (hs.trans ((ow_X2_readCheck (oc.of hs) ox0 ox1 e).weak (by decide) (by decide)))) (fun _ h hs => ?_)
  refine fr_cl (fun _ _ e => (hs.trans ((ow_X4_expectEnd (oc.of hs) ox1 e).weak (by decide) (by decide)))) (fun _ h hs => ?_)
  refine fr_cl (fun _ _ e => (hs.trans ((ow_X2_findOverlap (oc.of hs) ox0 ox1 e).weak (by decide) (by decide)))) (fun _ h hs => ?_)
  exact fr_rt hs
theorem ow_X2_read_165b {O : Nat → Prop} {h0 : sv_H} (oc : sv_cl O h0) {k165 : Nat → Nat → Int32 → Int32 → sv_H → Option (Unit × sv_H)} (hk165 : ∀ {x0 : Nat} {x1 : Nat} {x2 : Int32} {x3 : Int32} {h : sv_H}, O x0 → O x1 → sv_ow [309, 310, 311, 312, 501, 502, 503, 700, 701, 702, 703, 704, 705, 706, 800, 801, 802, 803, 1200, 1201, 1202, 1203, 1204, 1205, 1206, 1207, 1208, 1209, 1210] [1211, 302, 303, 304, 305, 306] O h0 h → sv_fr (sv_ow [309, 310, 311, 312, 501, 502, 503, 700, 701, 702, 703, 704, 705, 706, 800, 801, 802, 803, 1200, 1201, 1202, 1203, 1204, 1205, 1206, 1207, 1208, 1209, 1210] [1211, 302, 303, 304, 305, 306] O) h0 (k165 x0 x1 x2 x3 h)) {x0 : Nat} {x1 : Nat} {x2 : Int32} {x3 : Int32} {h : sv_H} (ox0 : O x0) (ox1 : O x1) (hs : sv_ow [309, 310, 311, 312, 501, 502, 503, 700, 701, 702, 703, 704, 705, 706, 800, 801, 802, 803, 1200, 1201, 1202, 1203, 1204, 1205, 1206, 1207, 1208, 1209, 1210] [1211, 302, 303, 304, 305, 306] O h0 h) : sv_fr (sv_ow [309, 310, 311, 312, 501, 502, 503, 700, 701, 702, 703, 704, 705, 706, 800, 801, 802, 803, 1200, 1201, 1202, 1203, 1204, 1205, 1206, 1207, 1208, 1209, 1210] [1211, 302, 303, 304, 305, 306] O) h0 (fn_X2_read_165b k165 x0 x1 x2 x3 h) := by
  unfold fn_X2_read_165b
  refine fr_bd (fun _ => ?_)
  refine fr_if ?_ ?_
  · exact ow_X2_read_197 oc ox0 ox1 hs
  · refine fr_cl (fun _ _ e => (by rw [ro_X4_well e]; exact hs)) (fun _ h hs => ?_)
    refine fr_if ?_ ?_
    · exact ow_X2_read_197 oc ox0 ox1 hs
    · refine fr_be (fun v4 e => ?_)
      have ov4 := ow_gO oc hs ox0 e
      clear e
      refine fr_be (fun v5 e => ?_)
      have ov5 := ow_lO oc hs ov4 e
      clear e
      refine fr_cl (fun _ _ e => (hs.trans ((ow_X2_readWall (oc.of hs) ox0 ox1 ov5 e).weak (by decide) (by decide)))) (fun _ h hs => ?_)
      exact hk165 ox0 ox1 hs
theorem ow_X2_read_165 {O : Nat → Prop} {h0 : sv_H} (oc : sv_cl O h0) : ∀ (n : Nat) {x0 : Nat} {x1 : Nat} {x2 : Int32} {x3 : Int32} {h : sv_H}, O x0 → O x1 → sv_ow [309, 310, 311, 312, 501, 502, 503, 700, 701, 702, 703, 704, 705, 706, 800, 801, 802, 803, 1200, 1201, 1202, 1203, 1204, 1205, 1206, 1207, 1208, 1209, 1210] [1211, 302, 303, 304, 305, 306] O h0 h → sv_fr (sv_ow [309, 310, 311, 312, 501, 502, 503, 700, 701, 702, 703, 704, 705, 706, 800, 801, 802, 803, 1200, 1201, 1202, 1203, 1204, 1205, 1206, 1207, 1208, 1209, 1210] [1211, 302, 303, 304, 305, 306] O) h0 (fn_X2_read_165 n x0 x1 x2 x3 h) := by
  intro n
  induction n with
  | zero => intro x0 x1 x2 x3 h ox0 ox1 hs r hE e; cases (show (none : Option (Unit × sv_H)) = some (r, hE) from e)
  | succ n ih => intro x0 x1 x2 x3 h ox0 ox1 hs; exact ow_X2_read_165b oc (fun ox0 ox1 hs => ih ox0 ox1 hs) ox0 ox1 hs
theorem ow_X2_read_158 {O : Nat → Prop} {h0 : sv_H} (oc : sv_cl O h0) {x0 : Nat} {x1 : Nat} {h : sv_H} (ox0 : O x0) (ox1 : O x1) (hs : sv_ow [309, 310, 311, 312, 501, 502, 503, 700, 701, 702, 703, 704, 705, 706, 800, 801, 802, 803, 1200, 1201, 1202, 1203, 1204, 1205, 1206, 1207, 1208, 1209, 1210] [1211, 302, 303, 304, 305, 306] O h0 h) : sv_fr (sv_ow [309, 310, 311, 312, 501, 502, 503, 700, 701, 702, 703, 704, 705, 706, 800, 801, 802, 803, 1200, 1201, 1202, 1203, 1204, 1205, 1206, 1207, 1208, 1209, 1210] [1211, 302, 303, 304, 305, 306] O) h0 (fn_X2_read_158 x0 x1 h) := by
  unfold fn_X2_read_158
  refine fr_bd (fun _ => ?_)
  exact ow_X2_read_165 oc sv_fuel ox0 ox1 hs
theorem ow_X2_read_126b {O : Nat → Prop} {h0 : sv_H} (oc : sv_cl O h0) {k126 : Nat → Nat → Int32 → sv_H → Option (Unit × sv_H)} (hk126 : ∀ {x0 : Nat} {x1 : Nat} {x2 : Int32} {h : sv_H}, O x0 → O x1 → sv_ow [309, 310, 311, 312, 501, 502, 503, 700, 701, 702, 703, 704, 705, 706, 800, 801, 802, 803, 1200, 1201, 1202, 1203, 1204, 1205, 1206, 1207, 1208, 1209, 1210] [1211, 302, 303, 304, 305, 306] O h0 h → sv_fr (sv_ow [309, 310, 311, 312, 501, 502, 503, 700, 701, 702, 703, 704, 705, 706, 800, 801, 802, 803, 1200, 1201, 1202, 1203, 1204, 1205, 1206, 1207, 1208, 1209, 1210] [1211, 302, 303, 304, 305, 306] O) h0 (k126 x0 x1 x2 h)) {x0 : Nat} {x1 : Nat} {x2 : Int32} {h : sv_H} (ox0 : O x0) (ox1 : O x1) (hs : sv_ow [309, 310, 311, 312, 501, 502, 503, 700, 701, 702, 703, 704, 705, 706, 800, 801, 802, 803, 1200, 1201, 1202, 1203, 1204, 1205, 1206, 1207, 1208, 1209, 1210] [1211, 302, 303, 304, 305, 306] O h0 h) : sv_fr (sv_ow [309, 310, 311, 312, 501, 502, 503, 700, 701, 702, 703, 704, 705, 706, 800, 801, 802, 803, 1200, 1201, 1202, 1203, 1204, 1205, 1206, 1207, 1208, 1209, 1210] [1211, 302, 303, 304, 305, 306] O) h0 (fn_X2_read_126b k126 x0 x1 x2 h) := by
  unfold fn_X2_read_126b
  refine fr_bd (fun _ => ?_)
  refine fr_if ?_ ?_
  · exact ow_X2_read_158 oc ox0 ox1 hs
  · refine fr_cl (fun _ _ e => (by rw [ro_X4_well e]; exact hs)) (fun _ h hs => ?_)
    refine fr_if ?_ ?_
    · exact ow_X2_read_158 oc ox0 ox1 hs
    · refine fr_be (fun v4 e => ?_)
      have ov4 := ow_gO oc hs ox0 e
      clear e
      refine fr_be (fun v5 e => ?_)
      have ov5 := ow_lO oc hs ov4 e
      clear e
      refine fr_cl (fun _ _ e => (hs.trans ((ow_X2_readSector (oc.of hs) ox0 ox1 ov5 e).weak (by decide) (by decide)))) (fun _ h hs => ?_)
      exact hk126 ox0 ox1 hs
theorem ow_X2_read_126 {O : Nat → Prop} {h0 : sv_H} (oc : sv_cl O h0) : ∀ (n : Nat) {x0 : Nat} {x1 : Nat} {x2 : Int32} {h : sv_H}, O x0 → O x1 → sv_ow [309, 310, 311, 312, 501, 502, 503, 700, 701, 702, 703, 704, 705, 706, 800, 801, 802, 803, 1200, 1201, 1202, 1203, 1204, 1205, 1206, 1207, 1208, 1209, 1210] [1211, 302, 303, 304, 305, 306] O h0 h → sv_fr (sv_ow [309, 310, 311, 312, 501, 502, 503, 700, 701, 702, 703, 704, 705, 706, 800, 801, 802, 803, 1200, 1201, 1202, 1203, 1204, 1205, 1206, 1207, 1208, 1209, 1210] [1211, 302, 303, 304, 305, 306] O) h0 (fn_X2_read_126 n x0 x1 x2 h) := by
  intro n
  induction n with
  | zero => intro x0 x1 x2 h ox0 ox1 hs r hE e; cases (show (none : Option (Unit × sv_H)) = some (r, hE) from e)
  | succ n ih => intro x0 x1 x2 h ox0 ox1 hs; exact ow_X2_read_126b oc (fun ox0 ox1 hs => ih ox0 ox1 hs) ox0 ox1 hs
theorem ow_X2_read_124 {O : Nat → Prop} {h0 : sv_H} (oc : sv_cl O h0) {x0 : Nat} {x1 : Nat} {h : sv_H} (ox0 : O x0) (ox1 : O x1) (hs : sv_ow [309, 310, 311, 312, 501, 502, 503, 700, 701, 702, 703, 704, 705, 706, 800, 801, 802, 803, 1200, 1201, 1202, 1203, 1204, 1205, 1206, 1207, 1208, 1209, 1210] [1211, 302, 303, 304, 305, 306] O h0 h) : sv_fr (sv_ow [309, 310, 311, 312, 501, 502, 503, 700, 701, 702, 703, 704, 705, 706, 800, 801, 802, 803, 1200, 1201, 1202, 1203, 1204, 1205, 1206, 1207, 1208, 1209, 1210] [1211, 302, 303, 304, 305, 306] O) h0 (fn_X2_read_124 x0 x1 h) := by
  unfold fn_X2_read_124
  exact ow_X2_read_126 oc sv_fuel ox0 ox1 hs
theorem ow_X2_read_97b {O : Nat → Prop} {h0 : sv_H} (oc : sv_cl O h0) {k97 : Nat → Nat → Int32 → sv_H → Option (Unit × sv_H)} (hk97 : ∀ {x0 : Nat} {x1 : Nat} {x2 : Int32} {h : sv_H}, O x0 → O x1 → sv_ow [309, 310, 311, 312, 501, 502, 503, 700, 701, 702, 703, 704, 705, 706, 800, 801, 802, 803, 1200, 1201, 1202, 1203, 1204, 1205, 1206, 1207, 1208, 1209, 1210] [1211, 302, 303, 304, 305, 306] O h0 h → sv_fr (sv_ow [309, 310, 311, 312, 501, 502, 503, 700, 701, 702, 703, 704, 705, 706, 800, 801, 802, 803, 1200, 1201, 1202, 1203, 1204, 1205, 1206, 1207, 1208, 1209, 1210] [1211, 302, 303, 304, 305, 306] O) h0 (k97 x0 x1 x2 h)) {x0 : Nat} {x1 : Nat} {x2 : Int32} {h : sv_H} (ox0 : O x0) (ox1 : O x1) (hs : sv_ow [309, 310, 311, 312, 501, 502, 503, 700, 701, 702, 703, 704, 705, 706, 800, 801, 802, 803, 1200, 1201, 1202, 1203, 1204, 1205, 1206, 1207, 1208, 1209, 1210] [1211, 302, 303, 304, 305, 306] O h0 h) : sv_fr (sv_ow [309, 310, 311, 312, 501, 502, 503, 700, 701, 702, 703, 704, 705, 706, 800, 801, 802, 803, 1200, 1201, 1202, 1203, 1204, 1205, 1206, 1207, 1208, 1209, 1210] [1211, 302, 303, 304, 305, 306] O) h0 (fn_X2_read_97b k97 x0 x1 x2 h) := by
  unfold fn_X2_read_97b
  refine fr_bd (fun _ => ?_)
  refine fr_if ?_ ?_
  · exact ow_X2_read_124 oc ox0 ox1 hs
  · refine fr_cl (fun _ _ e => (by rw [ro_X4_well e]; exact hs)) (fun _ h hs => ?_)
    refine fr_if ?_ ?_
    · exact ow_X2_read_124 oc ox0 ox1 hs
    · refine fr_cl (fun _ _ e => (hs.trans ((ow_X2_readTexture (oc.of hs) ox0 ox1 e).weak (by decide) (by decide)))) (fun _ h hs => ?_)
      exact hk97 ox0 ox1 hs
theorem ow_X2_read_97 {O : Nat → Prop} {h0 : sv_H} (oc : sv_cl O h0) : ∀ (n : Nat) {x0 : Nat} {x1 : Nat} {x2 : Int32} {h : sv_H}, O x0 → O x1 → sv_ow [309, 310, 311, 312, 501, 502, 503, 700, 701, 702, 703, 704, 705, 706, 800, 801, 802, 803, 1200, 1201, 1202, 1203, 1204, 1205, 1206, 1207, 1208, 1209, 1210] [1211, 302, 303, 304, 305, 306] O h0 h → sv_fr (sv_ow [309, 310, 311, 312, 501, 502, 503, 700, 701, 702, 703, 704, 705, 706, 800, 801, 802, 803, 1200, 1201, 1202, 1203, 1204, 1205, 1206, 1207, 1208, 1209, 1210] [1211, 302, 303, 304, 305, 306] O) h0 (fn_X2_read_97 n x0 x1 x2 h) := by
  intro n
  induction n with
  | zero => intro x0 x1 x2 h ox0 ox1 hs r hE e; cases (show (none : Option (Unit × sv_H)) = some (r, hE) from e)
  | succ n ih => intro x0 x1 x2 h ox0 ox1 hs; exact ow_X2_read_97b oc (fun ox0 ox1 hs => ih ox0 ox1 hs) ox0 ox1 hs
theorem ow_X2_read_95 {O : Nat → Prop} {h0 : sv_H} (oc : sv_cl O h0) {x0 : Nat} {x1 : Nat} {h : sv_H} (ox0 : O x0) (ox1 : O x1) (hs : sv_ow [309, 310, 311, 312, 501, 502, 503, 700, 701, 702, 703, 704, 705, 706, 800, 801, 802, 803, 1200, 1201, 1202, 1203, 1204, 1205, 1206, 1207, 1208, 1209, 1210] [1211, 302, 303, 304, 305, 306] O h0 h) : sv_fr (sv_ow [309, 310, 311, 312, 501, 502, 503, 700, 701, 702, 703, 704, 705, 706, 800, 801, 802, 803, 1200, 1201, 1202, 1203, 1204, 1205, 1206, 1207, 1208, 1209, 1210] [1211, 302, 303, 304, 305, 306] O) h0 (fn_X2_read_95 x0 x1 h) := by
  unfold fn_X2_read_95
  exact ow_X2_read_97 oc sv_fuel ox0 ox1 hs
theorem ow_X2_read_68b {O : Nat → Prop} {h0 : sv_H} (oc : sv_cl O h0) {k68 : Nat → Nat → Int32 → sv_H → Option (Unit × sv_H)} (hk68 : ∀ {x0 : Nat} {x1 : Nat} {x2 : Int32} {h : sv_H}, O x0 → O x1 → sv_ow [309, 310, 311, 312, 501, 502, 503, 700, 701, 702, 703, 704, 705, 706, 800, 801, 802, 803, 1200, 1201, 1202, 1203, 1204, 1205, 1206, 1207, 1208, 1209, 1210] [1211, 302, 303, 304, 305, 306] O h0 h → sv_fr (sv_ow [309, 310, 311, 312, 501, 502, 503, 700, 701, 702, 703, 704, 705, 706, 800, 801, 802, 803, 1200, 1201, 1202, 1203, 1204, 1205, 1206, 1207, 1208, 1209, 1210] [1211, 302, 303, 304, 305, 306] O) h0 (k68 x0 x1 x2 h)) {x0 : Nat} {x1 : Nat} {x2 : Int32} {h : sv_H} (ox0 : O x0) (ox1 : O x1) (hs : sv_ow [309, 310, 311, 312, 501, 502, 503, 700, 701, 702, 703, 704, 705, 706, 800, 801, 802, 803, 1200, 1201, 1202, 1203, 1204, 1205, 1206, 1207, 1208, 1209, 1210] [1211, 302, 303, 304, 305, 306] O h0 h) : sv_fr (sv_ow [309, 310, 311, 312, 501, 502, 503, 700, 701, 702, 703, 704, 705, 706, 800, 801, 802, 803, 1200, 1201, 1202, 1203, 1204, 1205, 1206, 1207, 1208, 1209, 1210] [1211, 302, 303, 304, 305, 306] O) h0 (fn_X2_read_68b k68 x0 x1 x2 h) := by
  unfold fn_X2_read_68b
  refine fr_bd (fun _ => ?_)
  refine fr_if ?_ ?_
  · exact ow_X2_read_95 oc ox0 ox1 hs
  · refine fr_cl (fun _ _ e => (by rw [ro_X4_well e]; exact hs)) (fun _ h hs => ?_)
    refine fr_if ?_ ?_
    · exact ow_X2_read_95 oc ox0 ox1 hs
    · refine fr_cl (fun _ _ e => (hs.trans ((ow_X2_readVertex (oc.of hs) ox0 ox1 e).weak (by decide) (by decide)))) (fun _ h hs => ?_)
      exact hk68 ox0 ox1 hs
theorem ow_X2_read_68 {O : Nat → Prop} {h0 : sv_H} (oc : sv_cl O h0) : ∀ (n : Nat) {x0 : Nat} {x1 : Nat} {x2 : Int32} {h : sv_H}, O x0 → O x1 → sv_ow [309, 310, 311, 312, 501, 502, 503, 700, 701, 702, 703, 704, 705, 706, 800, 801, 802, 803, 1200, 1201, 1202, 1203, 1204, 1205, 1206, 1207, 1208, 1209, 1210] [1211, 302, 303, 304, 305, 306] O h0 h → sv_fr (sv_ow [309, 310, 311, 312, 501, 502, 503, 700, 701, 702, 703, 704, 705, 706, 800, 801, 802, 803, 1200, 1201, 1202, 1203, 1204, 1205, 1206, 1207, 1208, 1209, 1210] [1211, 302, 303, 304, 305, 306] O) h0 (fn_X2_read_68 n x0 x1 x2 h) := by
  intro n
  induction n with
  | zero => intro x0 x1 x2 h ox0 ox1 hs r hE e; cases (show (none : Option (Unit × sv_H)) = some (r, hE) from e)
  | succ n ih => intro x0 x1 x2 h ox0 ox1 hs; exact ow_X2_read_68b oc (fun ox0 ox1 hs => ih ox0 ox1 hs) ox0 ox1 hs
theorem ow_X2_read_0 {O : Nat → Prop} {h0 : sv_H} (oc : sv_cl O h0) {x0 : Nat} {x1 : Nat} {h : sv_H} (ox0 : O x0) (ox1 : O x1) (hs : sv_ow [309, 310, 311, 312, 501, 502, 503, 700, 701, 702, 703, 704, 705, 706, 800, 801, 802, 803, 1200, 1201, 1202, 1203, 1204, 1205, 1206, 1207, 1208, 1209, 1210] [1211, 302, 303, 304, 305, 306] O h0 h) : sv_fr (sv_ow [309, 310, 311, 312, 501, 502, 503, 700, 701, 702, 703, 704, 705, 706, 800, 801, 802, 803, 1200, 1201, 1202, 1203, 1204, 1205, 1206, 1207, 1208, 1209, 1210] [1211, 302, 303, 304, 305, 306] O) h0 (fn_X2_read x0 x1 h) := by
  unfold fn_X2_read
  refine fr_if ?_ fr_no
  refine fr_cl (fun _ _ e => (hs.trans ((ow_X4_expect (oc.of hs) ox1 e).weak (by decide) (by decide)))) (fun _ h hs => ?_)
  refine fr_cl (fun _ _ e => (hs.trans ((ow_X4_expect (oc.of hs) ox1 e).weak (by decide) (by decide)))) (fun _ h hs => ?_)
  refine fr_cl (fun _ _ e => (hs.trans ((ow_X4_expect (oc.of hs) ox1 e).weak (by decide) (by decide)))) (fun _ h hs => ?_)
  refine fr_cl (fun _ _ e => (hs.trans ((ow_X4_within (oc.of hs) ox1 e).weak (by decide) (by decide)))) (fun _ h hs => ?_)
  refine fr_st (fun _ e => ow_pI hs (by decide) ox0 e) (fun h hs => ?_)
  refine fr_cl (fun _ _ e => (hs.trans ((ow_X4_within (oc.of hs) ox1 e).weak (by decide) (by decide)))) (fun _ h hs => ?_)
  refine fr_st (fun _ e => ow_pI hs (by decide) ox0 e) (fun h hs => ?_)
  refine fr_cl (fun _ _ e => (hs.trans ((ow_X4_within (oc.of hs) ox1 e).weak (by decide) (by decide)))) (fun _ h hs => ?_)
  refine fr_st (fun _ e => ow_pI hs (by decide) ox0 e) (fun h hs => ?_)
  refine fr_cl (fun _ _ e => (hs.trans ((ow_X4_within (oc.of hs) ox1 e).weak (by decide) (by decide)))) (fun _ h hs => ?_)
  refine fr_st (fun _ e => ow_pI hs (by decide) ox0 e) (fun h hs => ?_)
  exact ow_X2_read_68 oc sv_fuel ox0 ox1 hs
theorem ow_X2_read {O : Nat → Prop} {x0 : Nat} {x1 : Nat} {h : sv_H} {r : Unit} {hE : sv_H} (oc : sv_cl O h) (ox0 : O x0) (ox1 : O x1) (hw : fn_X2_read x0 x1 h = some (r, hE)) : sv_ow [309, 310, 311, 312, 501, 502, 503, 700, 701, 702, 703, 704, 705, 706, 800, 801, 802, 803, 1200, 1201, 1202, 1203, 1204, 1205, 1206, 1207, 1208, 1209, 1210] [1211, 302, 303, 304, 305, 306] O h hE := ow_X2_read_0 oc ox0 ox1 (sv_ow.refl h) r hE hw

theorem ow_X8_open_50 {O : Nat → Prop} {h0 : sv_H} (oc : sv_cl O h0) {h : sv_H} (hs : sv_ow [910] [907, 908, 909] O h0 h) : sv_fr (sv_ow [910] [907, 908, 909] O) h0 (fn_X8_open_50 h) := by
  unfold fn_X8_open_50
  exact fr_rt hs
theorem ow_X8_open_0 {O : Nat → Prop} {h0 : sv_H} (oc : sv_cl O h0) {x0 : Nat} {x1 : Int32} {x2 : Int32} {x3 : Int32} {h : sv_H} (ox0 : O x0) (hs : sv_ow [910] [907, 908, 909] O h0 h) : sv_fr (sv_ow [910] [907, 908, 909] O) h0 (fn_X8_open x0 x1 x2 x3 h) := by
  unfold fn_X8_open
  refine fr_if ?_ fr_no
  refine fr_bd (fun _ => ?_)
  refine fr_if ?_ ?_
  · exact ow_X8_open_50 oc hs
  · refine fr_be (fun v2 e => ?_)
    have ov2 := ow_gR hs ox0 e
    clear e
    refine fr_bd (fun _ => ?_)
    refine fr_st (fun _ e => ow_sI hs ov2 (by decide) e) (fun h hs => ?_)
    refine fr_be (fun v5 e => ?_)
    have ov5 := ow_gR hs ox0 e
    clear e
    refine fr_bd (fun _ => ?_)
    refine fr_st (fun _ e => ow_sI hs ov5 (by decide) e) (fun h hs => ?_)
    refine fr_be (fun v8 e => ?_)
    have ov8 := ow_gR hs ox0 e
    clear e
    refine fr_bd (fun _ => ?_)
    refine fr_st (fun _ e => ow_sZ hs ov8 (by decide) e) (fun h hs => ?_)
    refine fr_bd (fun _ => ?_)
    refine fr_st (fun _ e => ow_pI hs (by decide) ox0 e) (fun h hs => ?_)
    exact ow_X8_open_50 oc hs
theorem ow_X8_open {O : Nat → Prop} {x0 : Nat} {x1 : Int32} {x2 : Int32} {x3 : Int32} {h : sv_H} {r : Unit} {hE : sv_H} (oc : sv_cl O h) (ox0 : O x0) (hw : fn_X8_open x0 x1 x2 x3 h = some (r, hE)) : sv_ow [910] [907, 908, 909] O h hE := ow_X8_open_0 oc ox0 (sv_ow.refl h) r hE hw

theorem ow_X8_hang_27 {O : Nat → Prop} {h0 : sv_H} (oc : sv_cl O h0) {h : sv_H} (hs : sv_ow [] [902, 903] O h0 h) : sv_fr (sv_ow [] [902, 903] O) h0 (fn_X8_hang_27 h) := by
  unfold fn_X8_hang_27
  exact fr_rt hs
theorem ow_X8_hang_0 {O : Nat → Prop} {h0 : sv_H} (oc : sv_cl O h0) {x0 : Nat} {x1 : Int32} {x2 : Int32} {x3 : Int32} {h : sv_H} (ox0 : O x0) (hs : sv_ow [] [902, 903] O h0 h) : sv_fr (sv_ow [] [902, 903] O) h0 (fn_X8_hang x0 x1 x2 x3 h) := by
  unfold fn_X8_hang
  refine fr_if ?_ fr_no
  refine fr_if ?_ ?_
  · exact fr_rt hs
  · refine fr_if ?_ ?_
    · refine fr_be (fun v1 e => ?_)
      have ov1 := ow_gR hs ox0 e
      clear e
      refine fr_st (fun _ e => ow_sI hs ov1 (by decide) e) (fun h hs => ?_)
      exact ow_X8_hang_27 oc hs
    · refine fr_be (fun v3 e => ?_)
      have ov3 := ow_gR hs ox0 e
      clear e
      refine fr_st (fun _ e => ow_sI hs ov3 (by decide) e) (fun h hs => ?_)
      exact ow_X8_hang_27 oc hs
theorem ow_X8_hang {O : Nat → Prop} {x0 : Nat} {x1 : Int32} {x2 : Int32} {x3 : Int32} {h : sv_H} {r : Unit} {hE : sv_H} (oc : sv_cl O h) (ox0 : O x0) (hw : fn_X8_hang x0 x1 x2 x3 h = some (r, hE)) : sv_ow [] [902, 903] O h hE := ow_X8_hang_0 oc ox0 (sv_ow.refl h) r hE hw

theorem ow_X8_append_86 {O : Nat → Prop} {h0 : sv_H} (oc : sv_cl O h0) {h : sv_H} (hs : sv_ow [914, 915, 916, 917] [201] O h0 h) : sv_fr (sv_ow [914, 915, 916, 917] [201] O) h0 (fn_X8_append_86 h) := by
  unfold fn_X8_append_86
  exact fr_rt hs
theorem ow_X8_append_81 {O : Nat → Prop} {h0 : sv_H} (oc : sv_cl O h0) {x0 : Nat} {x1 : Int32} {h : sv_H} (ox0 : O x0) (hs : sv_ow [914, 915, 916, 917] [201] O h0 h) : sv_fr (sv_ow [914, 915, 916, 917] [201] O) h0 (fn_X8_append_81 x0 x1 h) := by
  unfold fn_X8_append_81
  refine fr_st (fun _ e => ow_pI hs (by decide) ox0 e) (fun h hs => ?_)
  exact ow_X8_append_86 oc hs
theorem ow_X8_append_44 {O : Nat → Prop} {h0 : sv_H} (oc : sv_cl O h0) {x0 : Nat} {x1 : Int32} {h : sv_H} (ox0 : O x0) (hs : sv_ow [914, 915, 916, 917] [201] O h0 h) : sv_fr (sv_ow [914, 915, 916, 917] [201] O) h0 (fn_X8_append_44 x0 x1 h) := by
  unfold fn_X8_append_44
  refine fr_st (fun _ e => ow_pI hs (by decide) ox0 e) (fun h hs => ?_)
  exact ow_X8_append_86 oc hs
theorem ow_X8_append_0 {O : Nat → Prop} {h0 : sv_H} (oc : sv_cl O h0) {x0 : Nat} {x1 : Int32} {x2 : Int32} {h : sv_H} (ox0 : O x0) (hs : sv_ow [914, 915, 916, 917] [201] O h0 h) : sv_fr (sv_ow [914, 915, 916, 917] [201] O) h0 (fn_X8_append x0 x1 x2 h) := by
  unfold fn_X8_append
  refine fr_if ?_ fr_no
  refine fr_be (fun v1 e => ?_)
  have ov1 := ow_gO oc hs ox0 e
  clear e
  refine fr_be (fun v2 e => ?_)
  have ov2 := ow_gR hs ov1 e
  clear e
  refine fr_st (fun _ e => ow_sI hs ov2 (by decide) e) (fun h hs => ?_)
  refine fr_if ?_ ?_
  · refine fr_bd (fun _ => ?_)
    refine fr_if ?_ ?_
    · refine fr_st (fun _ e => ow_pI hs (by decide) ox0 e) (fun h hs => ?_)
      exact ow_X8_append_44 oc ox0 hs
    · refine fr_be (fun v11 e => ?_)
      have ov11 := ow_gO oc hs ox0 e
      clear e
      refine fr_be (fun v12 e => ?_)
      have ov12 := ow_gR hs ov11 e
      clear e
      refine fr_bd (fun _ => ?_)
      refine fr_st (fun _ e => ow_sI hs ov12 (by decide) e) (fun h hs => ?_)
      exact ow_X8_append_44 oc ox0 hs
  · refine fr_bd (fun _ => ?_)
    refine fr_if ?_ ?_
    · refine fr_st (fun _ e => ow_pI hs (by decide) ox0 e) (fun h hs => ?_)
      exact ow_X8_append_81 oc ox0 hs
    · refine fr_be (fun v5 e => ?_)
      have ov5 := ow_gO oc hs ox0 e
      clear e
      refine fr_be (fun v6 e => ?_)
      have ov6 := ow_gR hs ov5 e
      clear e
      refine fr_bd (fun _ => ?_)
      refine fr_st (fun _ e => ow_sI hs ov6 (by decide) e) (fun h hs => ?_)
      exact ow_X8_append_81 oc ox0 hs
theorem ow_X8_append {O : Nat → Prop} {x0 : Nat} {x1 : Int32} {x2 : Int32} {h : sv_H} {r : Unit} {hE : sv_H} (oc : sv_cl O h) (ox0 : O x0) (hw : fn_X8_append x0 x1 x2 h = some (r, hE)) : sv_ow [914, 915, 916, 917] [201] O h hE := ow_X8_append_0 oc ox0 (sv_ow.refl h) r hE hw

theorem ow_X8_countSizes_7b {O : Nat → Prop} {h0 : sv_H} (oc : sv_cl O h0) {k7 : Nat → Int32 → sv_H → Option (Unit × sv_H)} (hk7 : ∀ {x0 : Nat} {x1 : Int32} {h : sv_H}, O x0 → sv_ow [] [905] O h0 h → sv_fr (sv_ow [] [905] O) h0 (k7 x0 x1 h)) {x0 : Nat} {x1 : Int32} {h : sv_H} (ox0 : O x0) (hs : sv_ow [] [905] O h0 h) : sv_fr (sv_ow [] [905] O) h0 (fn_X8_countSizes_7b k7 x0 x1 h) := by
  unfold fn_X8_countSizes_7b
  refine fr_if ?_ ?_
  · exact fr_rt hs
  · refine fr_be (fun v1 e => ?_)
    have ov1 := ow_gR hs ox0 e
    clear e
    refine fr_be (fun v2 e => ?_)
    have ov2 := ow_gR hs ox0 e
    clear e
    refine fr_bd (fun _ => ?_)
    refine fr_cl (fun _ _ e => (by rw [ro_X8_sizeOf e]; exact hs)) (fun _ h hs => ?_)
    refine fr_be (fun v6 e => ?_)
    have ov6 := ow_gR hs ox0 e
    clear e
    refine fr_bd (fun _ => ?_)
    refine fr_cl (fun _ _ e => (by rw [ro_X8_sizeOf e]; exact hs)) (fun _ h hs => ?_)
    refine fr_st (fun _ e => ow_sI hs ov1 (by decide) e) (fun h hs => ?_)
    exact hk7 ox0 hs
theorem ow_X8_countSizes_7 {O : Nat → Prop} {h0 : sv_H} (oc : sv_cl O h0) : ∀ (n : Nat) {x0 : Nat} {x1 : Int32} {h : sv_H}, O x0 → sv_ow [] [905] O h0 h → sv_fr (sv_ow [] [905] O) h0 (fn_X8_countSizes_7 n x0 x1 h) := by
  intro n
  induction n with
  | zero => intro x0 x1 h ox0 hs r hE e; cases (show (none : Option (Unit × sv_H)) = some (r, hE) from e)
  | succ n ih => intro x0 x1 h ox0 hs; exact ow_X8_countSizes_7b oc (fun ox0 hs => ih ox0 hs) ox0 hs
theorem ow_X8_countSizes_0 {O : Nat → Prop} {h0 : sv_H} (oc : sv_cl O h0) {x0 : Nat} {h : sv_H} (ox0 : O x0) (hs : sv_ow [] [905] O h0 h) : sv_fr (sv_ow [] [905] O) h0 (fn_X8_countSizes x0 h) := by
  unfold fn_X8_countSizes
  refine fr_if ?_ fr_no
  refine fr_bd (fun _ => ?_)
  exact ow_X8_countSizes_7 oc sv_fuel ox0 hs
theorem ow_X8_countSizes {O : Nat → Prop} {x0 : Nat} {h : sv_H} {r : Unit} {hE : sv_H} (oc : sv_cl O h) (ox0 : O x0) (hw : fn_X8_countSizes x0 h = some (r, hE)) : sv_ow [] [905] O h hE := ow_X8_countSizes_0 oc ox0 (sv_ow.refl h) r hE hw

theorem ow_X7_put_0 {O : Nat → Prop} {h0 : sv_H} (oc : sv_cl O h0) {x0 : Nat} {x1 : Int32} {x2 : Int32} {x3 : Int32} {x4 : Int32} {h : sv_H} (ox0 : O x0) (hs : sv_ow [800, 801, 802, 803] [] O h0 h) : sv_fr (sv_ow [800, 801, 802, 803] [] O) h0 (fn_X7_put x0 x1 x2 x3 x4 h) := by
  unfold fn_X7_put
  refine fr_if ?_ fr_no
  refine fr_st (fun _ e => ow_pI hs (by decide) ox0 e) (fun h hs => ?_)
  refine fr_st (fun _ e => ow_pI hs (by decide) ox0 e) (fun h hs => ?_)
  refine fr_st (fun _ e => ow_pI hs (by decide) ox0 e) (fun h hs => ?_)
  refine fr_st (fun _ e => ow_pI hs (by decide) ox0 e) (fun h hs => ?_)
  exact fr_rt hs
theorem ow_X7_put {O : Nat → Prop} {x0 : Nat} {x1 : Int32} {x2 : Int32} {x3 : Int32} {x4 : Int32} {h : sv_H} {r : Unit} {hE : sv_H} (oc : sv_cl O h) (ox0 : O x0) (hw : fn_X7_put x0 x1 x2 x3 x4 h = some (r, hE)) : sv_ow [800, 801, 802, 803] [] O h hE := ow_X7_put_0 oc ox0 (sv_ow.refl h) r hE hw

theorem ow_X7_become_0 {O : Nat → Prop} {h0 : sv_H} (oc : sv_cl O h0) {x0 : Nat} {x1 : Nat} {h : sv_H} (ox0 : O x0) (ox1 : O x1) (hs : sv_ow [800, 801, 802, 803] [] O h0 h) : sv_fr (sv_ow [800, 801, 802, 803] [] O) h0 (fn_X7_become x0 x1 h) := by
  unfold fn_X7_become
  refine fr_if ?_ fr_no
  refine fr_bd (fun _ => ?_)
  refine fr_bd (fun _ => ?_)
  refine fr_bd (fun _ => ?_)
  refine fr_bd (fun _ => ?_)
  refine fr_cl (fun _ _ e => (hs.trans ((ow_X7_put (oc.of hs) ox0 e).weak (by decide) (by decide)))) (fun _ h hs => ?_)
  exact fr_rt hs
theorem ow_X7_become {O : Nat → Prop} {x0 : Nat} {x1 : Nat} {h : sv_H} {r : Unit} {hE : sv_H} (oc : sv_cl O h) (ox0 : O x0) (ox1 : O x1) (hw : fn_X7_become x0 x1 h = some (r, hE)) : sv_ow [800, 801, 802, 803] [] O h hE := ow_X7_become_0 oc ox0 ox1 (sv_ow.refl h) r hE hw

theorem ow_X6_endMover_0 {O : Nat → Prop} {h0 : sv_H} (oc : sv_cl O h0) {x0 : Nat} {h : sv_H} (ox0 : O x0) (hs : sv_ow [709, 710, 711] [] O h0 h) : sv_fr (sv_ow [709, 710, 711] [] O) h0 (fn_X6_endMover x0 h) := by
  unfold fn_X6_endMover
  refine fr_if ?_ fr_no
  refine fr_st (fun _ e => ow_pI hs (by decide) ox0 e) (fun h hs => ?_)
  refine fr_st (fun _ e => ow_pI hs (by decide) ox0 e) (fun h hs => ?_)
  refine fr_st (fun _ e => ow_pI hs (by decide) ox0 e) (fun h hs => ?_)
  exact fr_rt hs
theorem ow_X6_endMover {O : Nat → Prop} {x0 : Nat} {h : sv_H} {r : Unit} {hE : sv_H} (oc : sv_cl O h) (ox0 : O x0) (hw : fn_X6_endMover x0 h = some (r, hE)) : sv_ow [709, 710, 711] [] O h hE := ow_X6_endMover_0 oc ox0 (sv_ow.refl h) r hE hw

theorem ow_X6_settle_0 {O : Nat → Prop} {h0 : sv_H} (oc : sv_cl O h0) {x0 : Nat} {h : sv_H} (ox0 : O x0) (hs : sv_ow [707, 708, 709, 710, 711] [] O h0 h) : sv_fr (sv_ow [707, 708, 709, 710, 711] [] O) h0 (fn_X6_settle x0 h) := by
  unfold fn_X6_settle
  refine fr_if ?_ fr_no
  refine fr_bd (fun _ => ?_)
  refine fr_st (fun _ e => ow_pI hs (by decide) ox0 e) (fun h hs => ?_)
  refine fr_bd (fun _ => ?_)
  refine fr_st (fun _ e => ow_pI hs (by decide) ox0 e) (fun h hs => ?_)
  refine fr_cl (fun _ _ e => (hs.trans ((ow_X6_endMover (oc.of hs) ox0 e).weak (by decide) (by decide)))) (fun _ h hs => ?_)
  exact fr_rt hs
theorem ow_X6_settle {O : Nat → Prop} {x0 : Nat} {h : sv_H} {r : Unit} {hE : sv_H} (oc : sv_cl O h) (ox0 : O x0) (hw : fn_X6_settle x0 h = some (r, hE)) : sv_ow [707, 708, 709, 710, 711] [] O h hE := ow_X6_settle_0 oc ox0 (sv_ow.refl h) r hE hw

theorem ow_X2_settle_2b {O : Nat → Prop} {h0 : sv_H} (oc : sv_cl O h0) {k2 : Nat → Int32 → sv_H → Option (Unit × sv_H)} (hk2 : ∀ {x0 : Nat} {x1 : Int32} {h : sv_H}, O x0 → sv_ow [707, 708, 709, 710, 711] [] O h0 h → sv_fr (sv_ow [707, 708, 709, 710, 711] [] O) h0 (k2 x0 x1 h)) {x0 : Nat} {x1 : Int32} {h : sv_H} (ox0 : O x0) (hs : sv_ow [707, 708, 709, 710, 711] [] O h0 h) : sv_fr (sv_ow [707, 708, 709, 710, 711] [] O) h0 (fn_X2_settle_2b k2 x0 x1 h) := by
  unfold fn_X2_settle_2b
  refine fr_bd (fun _ => ?_)
  refine fr_if ?_ ?_
  · exact fr_rt hs
  · refine fr_be (fun v2 e => ?_)
    have ov2 := ow_gO oc hs ox0 e
    clear e
    refine fr_be (fun v3 e => ?_)
    have ov3 := ow_lO oc hs ov2 e
    clear e
    refine fr_cl (fun _ _ e => (hs.trans ((ow_X6_settle (oc.of hs) ov3 e).weak (by decide) (by decide)))) (fun _ h hs => ?_)
    exact hk2 ox0 hs
theorem ow_X2_settle_2 {O : Nat → Prop} {h0 : sv_H} (oc : sv_cl O h0) : ∀ (n : Nat) {x0 : Nat} {x1 : Int32} {h : sv_H}, O x0 → sv_ow [707, 708, 709, 710, 711] [] O h0 h → sv_fr (sv_ow [707, 708, 709, 710, 711] [] O) h0 (fn_X2_settle_2 n x0 x1 h) := by
  intro n
  induction n with
  | zero => intro x0 x1 h ox0 hs r hE e; cases (show (none : Option (Unit × sv_H)) = some (r, hE) from e)
  | succ n ih => intro x0 x1 h ox0 hs; exact ow_X2_settle_2b oc (fun ox0 hs => ih ox0 hs) ox0 hs
theorem ow_X2_settle_0 {O : Nat → Prop} {h0 : sv_H} (oc : sv_cl O h0) {x0 : Nat} {h : sv_H} (ox0 : O x0) (hs : sv_ow [707, 708, 709, 710, 711] [] O h0 h) : sv_fr (sv_ow [707, 708, 709, 710, 711] [] O) h0 (fn_X2_settle x0 h) := by
  unfold fn_X2_settle
  refine fr_if ?_ fr_no
  exact ow_X2_settle_2 oc sv_fuel ox0 hs
theorem ow_X2_settle {O : Nat → Prop} {x0 : Nat} {h : sv_H} {r : Unit} {hE : sv_H} (oc : sv_cl O h) (ox0 : O x0) (hw : fn_X2_settle x0 h = some (r, hE)) : sv_ow [707, 708, 709, 710, 711] [] O h hE := ow_X2_settle_0 oc ox0 (sv_ow.refl h) r hE hw

theorem ow_X14_wrong_17 {O : Nat → Prop} {h0 : sv_H} (oc : sv_cl O h0) {h : sv_H} (hs : sv_ow [1504, 1505] [] O h0 h) : sv_fr (sv_ow [1504, 1505] [] O) h0 (fn_X14_wrong_17 h) := by
  unfold fn_X14_wrong_17
  exact fr_rt hs
theorem ow_X14_wrong_0 {O : Nat → Prop} {h0 : sv_H} (oc : sv_cl O h0) {x0 : Nat} {x1 : Int32} {x2 : Int32} {h : sv_H} (ox0 : O x0) (hs : sv_ow [1504, 1505] [] O h0 h) : sv_fr (sv_ow [1504, 1505] [] O) h0 (fn_X14_wrong x0 x1 x2 h) := by
  unfold fn_X14_wrong
  refine fr_if ?_ fr_no
  refine fr_bd (fun _ => ?_)
  refine fr_if ?_ ?_
  · refine fr_st (fun _ e => ow_pI hs (by decide) ox0 e) (fun h hs => ?_)
    refine fr_st (fun _ e => ow_pI hs (by decide) ox0 e) (fun h hs => ?_)
    exact ow_X14_wrong_17 oc hs
  · exact ow_X14_wrong_17 oc hs
theorem ow_X14_wrong {O : Nat → Prop} {x0 : Nat} {x1 : Int32} {x2 : Int32} {h : sv_H} {r : Unit} {hE : sv_H} (oc : sv_cl O h) (ox0 : O x0) (hw : fn_X14_wrong x0 x1 x2 h = some (r, hE)) : sv_ow [1504, 1505] [] O h hE := ow_X14_wrong_0 oc ox0 (sv_ow.refl h) r hE hw

theorem ow_X14_add_0 {O : Nat → Prop} {h0 : sv_H} (oc : sv_cl O h0) {x0 : Nat} {x1 : Int32} {h : sv_H} (ox0 : O x0) (hs : sv_ow [1508, 1509] [] O h0 h) : sv_fr (sv_ow [1508, 1509] [] O) h0 (fn_X14_add x0 x1 h) := by
  unfold fn_X14_add
  refine fr_if ?_ fr_no
  refine fr_bd (fun _ => ?_)
  refine fr_st (fun _ e => ow_pI hs (by decide) ox0 e) (fun h hs => ?_)
  refine fr_bd (fun _ => ?_)
  refine fr_bd (fun _ => ?_)
  refine fr_st (fun _ e => ow_pI hs (by decide) ox0 e) (fun h hs => ?_)
  exact fr_rt hs
theorem ow_X14_add {O : Nat → Prop} {x0 : Nat} {x1 : Int32} {h : sv_H} {r : Unit} {hE : sv_H} (oc : sv_cl O h) (ox0 : O x0) (hw : fn_X14_add x0 x1 h = some (r, hE)) : sv_ow [1508, 1509] [] O h hE := ow_X14_add_0 oc ox0 (sv_ow.refl h) r hE hw

theorem ow_X14_next_64 {O : Nat → Prop} {h0 : sv_H} (oc : sv_cl O h0) {x0 : Nat} {x3 : Int32} {h : sv_H} (ox0 : O x0) (hs : sv_ow [1504, 1505, 1507, 1508, 1509] [] O h0 h) : sv_fr (sv_ow [1504, 1505, 1507, 1508, 1509] [] O) h0 (fn_X14_next_64 x0 x3 h) := by
  unfold fn_X14_next_64
  refine fr_cl (fun _ _ e => (hs.trans ((ow_X14_add (oc.of hs) ox0 e).weak (by decide) (by decide)))) (fun _ h hs => ?_)
  refine fr_bd (fun _ => ?_)
  refine fr_st (fun _ e => ow_pI hs (by decide) ox0 e) (fun h hs => ?_)
  exact fr_rt hs
theorem ow_X14_next_55 {O : Nat → Prop} {h0 : sv_H} (oc : sv_cl O h0) {x0 : Nat} {x3 : Int32} {h : sv_H} (ox0 : O x0) (hs : sv_ow [1504, 1505, 1507, 1508, 1509] [] O h0 h) : sv_fr (sv_ow [1504, 1505, 1507, 1508, 1509] [] O) h0 (fn_X14_next_55 x0 x3 h) := by
  unfold fn_X14_next_55
  refine fr_bd (fun _ => ?_)
  refine fr_cl (fun _ _ e => (hs.trans ((ow_X14_wrong (oc.of hs) ox0 e).weak (by decide) (by decide)))) (fun _ h hs => ?_)
  exact ow_X14_next_64 oc ox0 hs
theorem ow_X14_next_0 {O : Nat → Prop} {h0 : sv_H} (oc : sv_cl O h0) {x0 : Nat} {x1 : Int32} {x2 : Int32} {h : sv_H} (ox0 : O x0) (hs : sv_ow [1504, 1505, 1507, 1508, 1509] [] O h0 h) : sv_fr (sv_ow [1504, 1505, 1507, 1508, 1509] [] O) h0 (fn_X14_next x0 x1 x2 h) := by
  unfold fn_X14_next
  refine fr_if ?_ fr_no
  refine fr_bd (fun _ => ?_)
  refine fr_if ?_ ?_
  · refine fr_bd (fun _ => ?_)
    refine fr_bd (fun _ => ?_)
    refine fr_if ?_ ?_
    · refine fr_bd (fun _ => ?_)
      refine fr_cl (fun _ _ e => (hs.trans ((ow_X14_wrong (oc.of hs) ox0 e).weak (by decide) (by decide)))) (fun _ h hs => ?_)
      exact fr_rt hs
    · refine fr_be (fun v4 e => ?_)
      have ov4 := ow_gR hs ox0 e
      clear e
      refine fr_bd (fun _ => ?_)
      refine fr_bd (fun _ => ?_)
      refine fr_if ?_ ?_
      · exact ow_X14_next_55 oc ox0 hs
      · refine fr_if ?_ ?_
        · exact ow_X14_next_64 oc ox0 hs
        · exact ow_X14_next_55 oc ox0 hs
  · exact fr_rt hs
theorem ow_X14_next {O : Nat → Prop} {x0 : Nat} {x1 : Int32} {x2 : Int32} {h : sv_H} {r : Int32} {hE : sv_H} (oc : sv_cl O h) (ox0 : O x0) (hw : fn_X14_next x0 x1 x2 h = some (r, hE)) : sv_ow [1504, 1505, 1507, 1508, 1509] [] O h hE := ow_X14_next_0 oc ox0 (sv_ow.refl h) r hE hw

theorem ow_X14_nextTwo_77 {O : Nat → Prop} {h0 : sv_H} (oc : sv_cl O h0) {x4 : Int32} {h : sv_H} (hs : sv_ow [1504, 1505, 1507, 1508, 1509] [] O h0 h) : sv_fr (sv_ow [1504, 1505, 1507, 1508, 1509] [] O) h0 (fn_X14_nextTwo_77 x4 h) := by
  unfold fn_X14_nextTwo_77
  exact fr_rt hs
theorem ow_X14_nextTwo_71 {O : Nat → Prop} {h0 : sv_H} (oc : sv_cl O h0) {x0 : Nat} {x3 : Int32} {x4 : Int32} {h : sv_H} (ox0 : O x0) (hs : sv_ow [1504, 1505, 1507, 1508, 1509] [] O h0 h) : sv_fr (sv_ow [1504, 1505, 1507, 1508, 1509] [] O) h0 (fn_X14_nextTwo_71 x0 x3 x4 h) := by
  unfold fn_X14_nextTwo_71
  refine fr_cl (fun _ _ e => (hs.trans ((ow_X14_wrong (oc.of hs) ox0 e).weak (by decide) (by decide)))) (fun _ h hs => ?_)
  exact ow_X14_nextTwo_77 oc hs
theorem ow_X14_nextTwo_50 {O : Nat → Prop} {h0 : sv_H} (oc : sv_cl O h0) {x0 : Nat} {x1 : Int32} {x2 : Int32} {x3 : Int32} {s0 : Int32} {h : sv_H} (ox0 : O x0) (hs : sv_ow [1504, 1505, 1507, 1508, 1509] [] O h0 h) : sv_fr (sv_ow [1504, 1505, 1507, 1508, 1509] [] O) h0 (fn_X14_nextTwo_50 x0 x1 x2 x3 s0 h) := by
  unfold fn_X14_nextTwo_50
  refine fr_bd (fun _ => ?_)
  refine fr_if ?_ ?_
  · refine fr_if ?_ ?_
    · exact ow_X14_nextTwo_71 oc ox0 hs
    · refine fr_if ?_ ?_
      · exact ow_X14_nextTwo_77 oc hs
      · exact ow_X14_nextTwo_71 oc ox0 hs
  · exact ow_X14_nextTwo_77 oc hs
theorem ow_X14_nextTwo_0 {O : Nat → Prop} {h0 : sv_H} (oc : sv_cl O h0) {x0 : Nat} {x1 : Int32} {x2 : Int32} {h : sv_H} (ox0 : O x0) (hs : sv_ow [1504, 1505, 1507, 1508, 1509] [] O h0 h) : sv_fr (sv_ow [1504, 1505, 1507, 1508, 1509] [] O) h0 (fn_X14_nextTwo x0 x1 x2 h) := by
  unfold fn_X14_nextTwo
  refine fr_if ?_ fr_no
  refine fr_bd (fun _ => ?_)
  refine fr_cl (fun _ _ e => (hs.trans ((ow_X14_next (oc.of hs) ox0 e).weak (by decide) (by decide)))) (fun _ h hs => ?_)
  refine fr_cl (fun _ _ e => (hs.trans ((ow_X14_next (oc.of hs) ox0 e).weak (by decide) (by decide)))) (fun _ h hs => ?_)
  refine fr_if ?_ ?_
  · exact ow_X14_nextTwo_50 oc ox0 hs
  · exact ow_X14_nextTwo_50 oc ox0 hs
theorem ow_X14_nextTwo {O : Nat → Prop} {x0 : Nat} {x1 : Int32} {x2 : Int32} {h : sv_H} {r : Int32} {hE : sv_H} (oc : sv_cl O h) (ox0 : O x0) (hw : fn_X14_nextTwo x0 x1 x2 h = some (r, hE)) : sv_ow [1504, 1505, 1507, 1508, 1509] [] O h hE := ow_X14_nextTwo_0 oc ox0 (sv_ow.refl h) r hE hw

theorem ow_X14_readVertex_93 {O : Nat → Prop} {h0 : sv_H} (oc : sv_cl O h0) {h : sv_H} (hs : sv_ow [1504, 1505, 1507, 1508, 1509] [] O h0 h) : sv_fr (sv_ow [1504, 1505, 1507, 1508, 1509] [] O) h0 (fn_X14_readVertex_93 h) := by
  unfold fn_X14_readVertex_93
  exact fr_rt hs
theorem ow_X14_readVertex_87 {O : Nat → Prop} {h0 : sv_H} (oc : sv_cl O h0) {k31 : Nat → Int32 → Int32 → Int32 → Int32 → Int32 → sv_H → Option (Unit × sv_H)} (hk31 : ∀ {x0 : Nat} {x1 : Int32} {x2 : Int32} {x3 : Int32} {x4 : Int32} {x5 : Int32} {h : sv_H}, O x0 → sv_ow [1504, 1505, 1507, 1508, 1509] [] O h0 h → sv_fr (sv_ow [1504, 1505, 1507, 1508, 1509] [] O) h0 (k31 x0 x1 x2 x3 x4 x5 h)) {x0 : Nat} {x1 : Int32} {x2 : Int32} {x3 : Int32} {x4 : Int32} {x5 : Int32} {h : sv_H} (ox0 : O x0) (hs : sv_ow [1504, 1505, 1507, 1508, 1509] [] O h0 h) : sv_fr (sv_ow [1504, 1505, 1507, 1508, 1509] [] O) h0 (fn_X14_readVertex_87 k31 x0 x1 x2 x3 x4 x5 h) := by
  unfold fn_X14_readVertex_87
  exact hk31 ox0 hs
theorem ow_X14_readVertex_31b {O : Nat → Prop} {h0 : sv_H} (oc : sv_cl O h0) {k31 : Nat → Int32 → Int32 → Int32 → Int32 → Int32 → sv_H → Option (Unit × sv_H)} (hk31 : ∀ {x0 : Nat} {x1 : Int32} {x2 : Int32} {x3 : Int32} {x4 : Int32} {x5 : Int32} {h : sv_H}, O x0 → sv_ow [1504, 1505, 1507, 1508, 1509] [] O h0 h → sv_fr (sv_ow [1504, 1505, 1507, 1508, 1509] [] O) h0 (k31 x0 x1 x2 x3 x4 x5 h)) {x0 : Nat} {x1 : Int32} {x2 : Int32} {x3 : Int32} {x4 : Int32} {x5 : Int32} {h : sv_H} (ox0 : O x0) (hs : sv_ow [1504, 1505, 1507, 1508, 1509] [] O h0 h) : sv_fr (sv_ow [1504, 1505, 1507, 1508, 1509] [] O) h0 (fn_X14_readVertex_31b k31 x0 x1 x2 x3 x4 x5 h) := by
  unfold fn_X14_readVertex_31b
  refine fr_if ?_ ?_
  · exact ow_X14_readVertex_93 oc hs
  · refine fr_bd (fun _ => ?_)
    refine fr_if ?_ ?_
    · refine fr_be (fun v2 e => ?_)
      have ov2 := ow_gR hs ox0 e
      clear e
      refine fr_cl (fun _ _ e => (by rw [ro_X14_pair e]; exact hs)) (fun _ h hs => ?_)
      refine fr_if ?_ ?_
      · refine fr_be (fun v5 e => ?_)
        have ov5 := ow_gR hs ox0 e
        clear e
        refine fr_cl (fun _ _ e => (by rw [ro_X14_pair e]; exact hs)) (fun _ h hs => ?_)
        refine fr_if ?_ ?_
        · refine fr_cl (fun _ _ e => (hs.trans ((ow_X14_wrong (oc.of hs) ox0 e).weak (by decide) (by decide)))) (fun _ h hs => ?_)
          exact ow_X14_readVertex_87 oc hk31 ox0 hs
        · exact ow_X14_readVertex_87 oc hk31 ox0 hs
      · exact ow_X14_readVertex_87 oc hk31 ox0 hs
    · exact ow_X14_readVertex_93 oc hs
theorem ow_X14_readVertex_31 {O : Nat → Prop} {h0 : sv_H} (oc : sv_cl O h0) : ∀ (n : Nat) {x0 : Nat} {x1 : Int32} {x2 : Int32} {x3 : Int32} {x4 : Int32} {x5 : Int32} {h : sv_H}, O x0 → sv_ow [1504, 1505, 1507, 1508, 1509] [] O h0 h → sv_fr (sv_ow [1504, 1505, 1507, 1508, 1509] [] O) h0 (fn_X14_readVertex_31 n x0 x1 x2 x3 x4 x5 h) := by
  intro n
  induction n with
  | zero => intro x0 x1 x2 x3 x4 x5 h ox0 hs r hE e; cases (show (none : Option (Unit × sv_H)) = some (r, hE) from e)
  | succ n ih => intro x0 x1 x2 x3 x4 x5 h ox0 hs; exact ow_X14_readVertex_31b oc (fun ox0 hs => ih ox0 hs) ox0 hs
theorem ow_X14_readVertex_0 {O : Nat → Prop} {h0 : sv_H} (oc : sv_cl O h0) {x0 : Nat} {x1 : Int32} {h : sv_H} (ox0 : O x0) (hs : sv_ow [1504, 1505, 1507, 1508, 1509] [] O h0 h) : sv_fr (sv_ow [1504, 1505, 1507, 1508, 1509] [] O) h0 (fn_X14_readVertex x0 x1 h) := by
  unfold fn_X14_readVertex
  refine fr_if ?_ fr_no
  refine fr_cl (fun _ _ e => (hs.trans ((ow_X14_nextTwo (oc.of hs) ox0 e).weak (by decide) (by decide)))) (fun _ h hs => ?_)
  refine fr_bd (fun _ => ?_)
  refine fr_cl (fun _ _ e => (hs.trans ((ow_X14_nextTwo (oc.of hs) ox0 e).weak (by decide) (by decide)))) (fun _ h hs => ?_)
  exact ow_X14_readVertex_31 oc sv_fuel ox0 hs
theorem ow_X14_readVertex {O : Nat → Prop} {x0 : Nat} {x1 : Int32} {h : sv_H} {r : Unit} {hE : sv_H} (oc : sv_cl O h) (ox0 : O x0) (hw : fn_X14_readVertex x0 x1 h = some (r, hE)) : sv_ow [1504, 1505, 1507, 1508, 1509] [] O h hE := ow_X14_readVertex_0 oc ox0 (sv_ow.refl h) r hE hw

theorem ow_X14_readTexture_47 {O : Nat → Prop} {h0 : sv_H} (oc : sv_cl O h0) {h : sv_H} (hs : sv_ow [1504, 1505, 1507, 1508, 1509] [] O h0 h) : sv_fr (sv_ow [1504, 1505, 1507, 1508, 1509] [] O) h0 (fn_X14_readTexture_47 h) := by
  unfold fn_X14_readTexture_47
  exact fr_rt hs
theorem ow_X14_readTexture_16b {O : Nat → Prop} {h0 : sv_H} (oc : sv_cl O h0) {k16 : Nat → Int32 → Int32 → Int32 → sv_H → Option (Unit × sv_H)} (hk16 : ∀ {x0 : Nat} {x1 : Int32} {x2 : Int32} {x3 : Int32} {h : sv_H}, O x0 → sv_ow [1504, 1505, 1507, 1508, 1509] [] O h0 h → sv_fr (sv_ow [1504, 1505, 1507, 1508, 1509] [] O) h0 (k16 x0 x1 x2 x3 h)) {x0 : Nat} {x1 : Int32} {x2 : Int32} {x3 : Int32} {h : sv_H} (ox0 : O x0) (hs : sv_ow [1504, 1505, 1507, 1508, 1509] [] O h0 h) : sv_fr (sv_ow [1504, 1505, 1507, 1508, 1509] [] O) h0 (fn_X14_readTexture_16b k16 x0 x1 x2 x3 h) := by
  unfold fn_X14_readTexture_16b
  refine fr_if ?_ ?_
  · exact ow_X14_readTexture_47 oc hs
  · refine fr_bd (fun _ => ?_)
    refine fr_if ?_ ?_
    · refine fr_cl (fun _ _ e => (hs.trans ((ow_X14_next (oc.of hs) ox0 e).weak (by decide) (by decide)))) (fun _ h hs => ?_)
      exact hk16 ox0 hs
    · exact ow_X14_readTexture_47 oc hs
theorem ow_X14_readTexture_16 {O : Nat → Prop} {h0 : sv_H} (oc : sv_cl O h0) : ∀ (n : Nat) {x0 : Nat} {x1 : Int32} {x2 : Int32} {x3 : Int32} {h : sv_H}, O x0 → sv_ow [1504, 1505, 1507, 1508, 1509] [] O h0 h → sv_fr (sv_ow [1504, 1505, 1507, 1508, 1509] [] O) h0 (fn_X14_readTexture_16 n x0 x1 x2 x3 h) := by
  intro n
  induction n with
  | zero => intro x0 x1 x2 x3 h ox0 hs r hE e; cases (show (none : Option (Unit × sv_H)) = some (r, hE) from e)
  | succ n ih => intro x0 x1 x2 x3 h ox0 hs; exact ow_X14_readTexture_16b oc (fun ox0 hs => ih ox0 hs) ox0 hs
theorem ow_X14_readTexture_0 {O : Nat → Prop} {h0 : sv_H} (oc : sv_cl O h0) {x0 : Nat} {h : sv_H} (ox0 : O x0) (hs : sv_ow [1504, 1505, 1507, 1508, 1509] [] O h0 h) : sv_fr (sv_ow [1504, 1505, 1507, 1508, 1509] [] O) h0 (fn_X14_readTexture x0 h) := by
  unfold fn_X14_readTexture
  refine fr_if ?_ fr_no
  refine fr_cl (fun _ _ e => (hs.trans ((ow_X14_next (oc.of hs) ox0 e).weak (by decide) (by decide)))) (fun _ h hs => ?_)
  refine fr_cl (fun _ _ e => (hs.trans ((ow_X14_next (oc.of hs) ox0 e).weak (by decide) (by decide)))) (fun _ h hs => ?_)
  exact ow_X14_readTexture_16 oc sv_fuel ox0 hs
theorem ow_X14_readTexture {O : Nat → Prop} {x0 : Nat} {h : sv_H} {r : Unit} {hE : sv_H} (oc : sv_cl O h) (ox0 : O x0) (hw : fn_X14_readTexture x0 h = some (r, hE)) : sv_ow [1504, 1505, 1507, 1508, 1509] [] O h hE := ow_X14_readTexture_0 oc ox0 (sv_ow.refl h) r hE hw

theorem ow_X14_nextOr_39 {O : Nat → Prop} {h0 : sv_H} (oc : sv_cl O h0) {x2 : Int32} {h : sv_H} (hs : sv_ow [1504, 1505, 1507, 1508, 1509] [] O h0 h) : sv_fr (sv_ow [1504, 1505, 1507, 1508, 1509] [] O) h0 (fn_X14_nextOr_39 x2 h) := by
  unfold fn_X14_nextOr_39
  exact fr_rt hs
theorem ow_X14_nextOr_0 {O : Nat → Prop} {h0 : sv_H} (oc : sv_cl O h0) {x0 : Nat} {x1 : Int32} {h : sv_H} (ox0 : O x0) (hs : sv_ow [1504, 1505, 1507, 1508, 1509] [] O h0 h) : sv_fr (sv_ow [1504, 1505, 1507, 1508, 1509] [] O) h0 (fn_X14_nextOr x0 x1 h) := by
  unfold fn_X14_nextOr
  refine fr_if ?_ fr_no
  refine fr_cl (fun _ _ e => (hs.trans ((ow_X14_next (oc.of hs) ox0 e).weak (by decide) (by decide)))) (fun _ h hs => ?_)
  refine fr_bd (fun _ => ?_)
  refine fr_if ?_ ?_
  · refine fr_if ?_ ?_
    · exact ow_X14_nextOr_39 oc hs
    · refine fr_if ?_ ?_
      · exact ow_X14_nextOr_39 oc hs
      · refine fr_bd (fun _ => ?_)
        refine fr_cl (fun _ _ e => (hs.trans ((ow_X14_wrong (oc.of hs) ox0 e).weak (by decide) (by decide)))) (fun _ h hs => ?_)
        exact ow_X14_nextOr_39 oc hs
  · exact ow_X14_nextOr_39 oc hs
theorem ow_X14_nextOr {O : Nat → Prop} {x0 : Nat} {x1 : Int32} {h : sv_H} {r : Int32} {hE : sv_H} (oc : sv_cl O h) (ox0 : O x0) (hw : fn_X14_nextOr x0 x1 h = some (r, hE)) : sv_ow [1504, 1505, 1507, 1508, 1509] [] O h hE := ow_X14_nextOr_0 oc ox0 (sv_ow.refl h) r hE hw

theorem ow_X14_readSector_47 {O : Nat → Prop} {h0 : sv_H} (oc : sv_cl O h0) {x0 : Nat} {x1 : Int32} {h : sv_H} (ox0 : O x0) (hs : sv_ow [1504, 1505, 1507, 1508, 1509] [] O h0 h) : sv_fr (sv_ow [1504, 1505, 1507, 1508, 1509] [] O) h0 (fn_X14_readSector_47 x0 x1 h) := by
  unfold fn_X14_readSector_47
  refine fr_cl (fun _ _ e => (hs.trans ((ow_X14_next (oc.of hs) ox0 e).weak (by decide) (by decide)))) (fun _ h hs => ?_)
  refine fr_cl (fun _ _ e => (hs.trans ((ow_X14_nextOr (oc.of hs) ox0 e).weak (by decide) (by decide)))) (fun _ h hs => ?_)
  refine fr_cl (fun _ _ e => (hs.trans ((ow_X14_next (oc.of hs) ox0 e).weak (by decide) (by decide)))) (fun _ h hs => ?_)
  refine fr_cl (fun _ _ e => (hs.trans ((ow_X14_next (oc.of hs) ox0 e).weak (by decide) (by decide)))) (fun _ h hs => ?_)
  refine fr_cl (fun _ _ e => (hs.trans ((ow_X14_next (oc.of hs) ox0 e).weak (by decide) (by decide)))) (fun _ h hs => ?_)
  exact fr_rt hs
theorem ow_X14_readSector_0 {O : Nat → Prop} {h0 : sv_H} (oc : sv_cl O h0) {x0 : Nat} {x1 : Int32} {h : sv_H} (ox0 : O x0) (hs : sv_ow [1504, 1505, 1507, 1508, 1509] [] O h0 h) : sv_fr (sv_ow [1504, 1505, 1507, 1508, 1509] [] O) h0 (fn_X14_readSector x0 x1 h) := by
  unfold fn_X14_readSector
  refine fr_if ?_ fr_no
  refine fr_cl (fun _ _ e => (hs.trans ((ow_X14_nextTwo (oc.of hs) ox0 e).weak (by decide) (by decide)))) (fun _ h hs => ?_)
  refine fr_bd (fun _ => ?_)
  refine fr_cl (fun _ _ e => (hs.trans ((ow_X14_nextTwo (oc.of hs) ox0 e).weak (by decide) (by decide)))) (fun _ h hs => ?_)
  refine fr_bd (fun _ => ?_)
  refine fr_if ?_ ?_
  · refine fr_if ?_ ?_
    · exact ow_X14_readSector_47 oc ox0 hs
    · refine fr_cl (fun _ _ e => (hs.trans ((ow_X14_wrong (oc.of hs) ox0 e).weak (by decide) (by decide)))) (fun _ h hs => ?_)
      exact ow_X14_readSector_47 oc ox0 hs
  · exact ow_X14_readSector_47 oc ox0 hs
theorem ow_X14_readSector {O : Nat → Prop} {x0 : Nat} {x1 : Int32} {h : sv_H} {r : Unit} {hE : sv_H} (oc : sv_cl O h) (ox0 : O x0) (hw : fn_X14_readSector x0 x1 h = some (r, hE)) : sv_ow [1504, 1505, 1507, 1508, 1509] [] O h hE := ow_X14_readSector_0 oc ox0 (sv_ow.refl h) r hE hw

theorem ow_X14_readWall_119 {O : Nat → Prop} {h0 : sv_H} (oc : sv_cl O h0) {k65 : Nat → Int32 → Int32 → Int32 → sv_H → Option (Unit × sv_H)} (hk65 : ∀ {x0 : Nat} {x2 : Int32} {x7 : Int32} {x8 : Int32} {h : sv_H}, O x0 → sv_ow [1504, 1505, 1507, 1508, 1509] [] O h0 h → sv_fr (sv_ow [1504, 1505, 1507, 1508, 1509] [] O) h0 (k65 x0 x2 x7 x8 h)) {x0 : Nat} {x2 : Int32} {x7 : Int32} {x8 : Int32} {h : sv_H} (ox0 : O x0) (hs : sv_ow [1504, 1505, 1507, 1508, 1509] [] O h0 h) : sv_fr (sv_ow [1504, 1505, 1507, 1508, 1509] [] O) h0 (fn_X14_readWall_119 k65 x0 x2 x7 x8 h) := by
  unfold fn_X14_readWall_119
  exact hk65 ox0 hs
theorem ow_X14_readWall_65b {O : Nat → Prop} {h0 : sv_H} (oc : sv_cl O h0) {k65 : Nat → Int32 → Int32 → Int32 → sv_H → Option (Unit × sv_H)} (hk65 : ∀ {x0 : Nat} {x2 : Int32} {x7 : Int32} {x8 : Int32} {h : sv_H}, O x0 → sv_ow [1504, 1505, 1507, 1508, 1509] [] O h0 h → sv_fr (sv_ow [1504, 1505, 1507, 1508, 1509] [] O) h0 (k65 x0 x2 x7 x8 h)) {x0 : Nat} {x2 : Int32} {x7 : Int32} {x8 : Int32} {h : sv_H} (ox0 : O x0) (hs : sv_ow [1504, 1505, 1507, 1508, 1509] [] O h0 h) : sv_fr (sv_ow [1504, 1505, 1507, 1508, 1509] [] O) h0 (fn_X14_readWall_65b k65 x0 x2 x7 x8 h) := by
  unfold fn_X14_readWall_65b
  refine fr_if ?_ ?_
  · refine fr_cl (fun _ _ e => (hs.trans ((ow_X14_next (oc.of hs) ox0 e).weak (by decide) (by decide)))) (fun _ h hs => ?_)
    refine fr_cl (fun _ _ e => (hs.trans ((ow_X14_next (oc.of hs) ox0 e).weak (by decide) (by decide)))) (fun _ h hs => ?_)
    refine fr_cl (fun _ _ e => (hs.trans ((ow_X14_next (oc.of hs) ox0 e).weak (by decide) (by decide)))) (fun _ h hs => ?_)
    refine fr_cl (fun _ _ e => (hs.trans ((ow_X14_next (oc.of hs) ox0 e).weak (by decide) (by decide)))) (fun _ h hs => ?_)
    exact fr_rt hs
  · refine fr_cl (fun _ _ e => (hs.trans ((ow_X14_nextOr (oc.of hs) ox0 e).weak (by decide) (by decide)))) (fun _ h hs => ?_)
    refine fr_bd (fun _ => ?_)
    refine fr_if ?_ ?_
    · refine fr_if ?_ ?_
      · exact ow_X14_readWall_119 oc hk65 ox0 hs
      · refine fr_if ?_ ?_
        · refine fr_if ?_ ?_
          · exact ow_X14_readWall_119 oc hk65 ox0 hs
          · refine fr_bd (fun _ => ?_)
            refine fr_cl (fun _ _ e => (hs.trans ((ow_X14_wrong (oc.of hs) ox0 e).weak (by decide) (by decide)))) (fun _ h hs => ?_)
            exact ow_X14_readWall_119 oc hk65 ox0 hs
        · exact ow_X14_readWall_119 oc hk65 ox0 hs
    · exact ow_X14_readWall_119 oc hk65 ox0 hs
theorem ow_X14_readWall_65 {O : Nat → Prop} {h0 : sv_H} (oc : sv_cl O h0) : ∀ (n : Nat) {x0 : Nat} {x2 : Int32} {x7 : Int32} {x8 : Int32} {h : sv_H}, O x0 → sv_ow [1504, 1505, 1507, 1508, 1509] [] O h0 h → sv_fr (sv_ow [1504, 1505, 1507, 1508, 1509] [] O) h0 (fn_X14_readWall_65 n x0 x2 x7 x8 h) := by
  intro n
  induction n with
  | zero => intro x0 x2 x7 x8 h ox0 hs r hE e; cases (show (none : Option (Unit × sv_H)) = some (r, hE) from e)
  | succ n ih => intro x0 x2 x7 x8 h ox0 hs; exact ow_X14_readWall_65b oc (fun ox0 hs => ih ox0 hs) ox0 hs
theorem ow_X14_readWall_45 {O : Nat → Prop} {h0 : sv_H} (oc : sv_cl O h0) {x0 : Nat} {x2 : Int32} {x3 : Int32} {h : sv_H} (ox0 : O x0) (hs : sv_ow [1504, 1505, 1507, 1508, 1509] [] O h0 h) : sv_fr (sv_ow [1504, 1505, 1507, 1508, 1509] [] O) h0 (fn_X14_readWall_45 x0 x2 x3 h) := by
  unfold fn_X14_readWall_45
  refine fr_cl (fun _ _ e => (hs.trans ((ow_X14_next (oc.of hs) ox0 e).weak (by decide) (by decide)))) (fun _ h hs => ?_)
  refine fr_cl (fun _ _ e => (hs.trans ((ow_X14_nextOr (oc.of hs) ox0 e).weak (by decide) (by decide)))) (fun _ h hs => ?_)
  exact ow_X14_readWall_65 oc sv_fuel ox0 hs
theorem ow_X14_readWall_0 {O : Nat → Prop} {h0 : sv_H} (oc : sv_cl O h0) {x0 : Nat} {x1 : Int32} {x2 : Int32} {x3 : Int32} {h : sv_H} (ox0 : O x0) (hs : sv_ow [1504, 1505, 1507, 1508, 1509] [] O h0 h) : sv_fr (sv_ow [1504, 1505, 1507, 1508, 1509] [] O) h0 (fn_X14_readWall x0 x1 x2 x3 h) := by
  unfold fn_X14_readWall
  refine fr_if ?_ fr_no
  refine fr_cl (fun _ _ e => (hs.trans ((ow_X14_next (oc.of hs) ox0 e).weak (by decide) (by decide)))) (fun _ h hs => ?_)
  refine fr_cl (fun _ _ e => (hs.trans ((ow_X14_next (oc.of hs) ox0 e).weak (by decide) (by decide)))) (fun _ h hs => ?_)
  refine fr_bd (fun _ => ?_)
  refine fr_if ?_ ?_
  · refine fr_if ?_ ?_
    · refine fr_bd (fun _ => ?_)
      refine fr_cl (fun _ _ e => (hs.trans ((ow_X14_wrong (oc.of hs) ox0 e).weak (by decide) (by decide)))) (fun _ h hs => ?_)
      exact ow_X14_readWall_45 oc ox0 hs
    · exact ow_X14_readWall_45 oc ox0 hs
  · exact ow_X14_readWall_45 oc ox0 hs
theorem ow_X14_readWall {O : Nat → Prop} {x0 : Nat} {x1 : Int32} {x2 : Int32} {x3 : Int32} {h : sv_H} {r : Unit} {hE : sv_H} (oc : sv_cl O h) (ox0 : O x0) (hw : fn_X14_readWall x0 x1 x2 x3 h = some (r, hE)) : sv_ow [1504, 1505, 1507, 1508, 1509] [] O h hE := ow_X14_readWall_0 oc ox0 (sv_ow.refl h) r hE hw

theorem ow_X14_readCheck_32 {O : Nat → Prop} {h0 : sv_H} (oc : sv_cl O h0) {h : sv_H} (hs : sv_ow [1504, 1505, 1507, 1508, 1509] [] O h0 h) : sv_fr (sv_ow [1504, 1505, 1507, 1508, 1509] [] O) h0 (fn_X14_readCheck_32 h) := by
  unfold fn_X14_readCheck_32
  exact fr_rt hs
theorem ow_X14_readCheck_0 {O : Nat → Prop} {h0 : sv_H} (oc : sv_cl O h0) {x0 : Nat} {x1 : Int32} {h : sv_H} (ox0 : O x0) (hs : sv_ow [1504, 1505, 1507, 1508, 1509] [] O h0 h) : sv_fr (sv_ow [1504, 1505, 1507, 1508, 1509] [] O) h0 (fn_X14_readCheck x0 x1 h) := by
  unfold fn_X14_readCheck
  refine fr_if ?_ fr_no
  refine fr_bd (fun _ => ?_)
  refine fr_cl (fun _ _ e => (hs.trans ((ow_X14_next (oc.of hs) ox0 e).weak (by decide) (by decide)))) (fun _ h hs => ?_)
  refine fr_bd (fun _ => ?_)
  refine fr_if ?_ ?_
  · refine fr_if ?_ ?_
    · exact ow_X14_readCheck_32 oc hs
    · refine fr_cl (fun _ _ e => (hs.trans ((ow_X14_wrong (oc.of hs) ox0 e).weak (by decide) (by decide)))) (fun _ h hs => ?_)
      exact ow_X14_readCheck_32 oc hs
  · exact ow_X14_readCheck_32 oc hs
theorem ow_X14_readCheck {O : Nat → Prop} {x0 : Nat} {x1 : Int32} {h : sv_H} {r : Unit} {hE : sv_H} (oc : sv_cl O h) (ox0 : O x0) (hw : fn_X14_readCheck x0 x1 h = some (r, hE)) : sv_ow [1504, 1505, 1507, 1508, 1509] [] O h hE := ow_X14_readCheck_0 oc ox0 (sv_ow.refl h) r hE hw

theorem ow_X14_readAll_403 {O : Nat → Prop} {h0 : sv_H} (oc : sv_cl O h0) {h : sv_H} (hs : sv_ow [1504, 1505, 1506, 1507, 1508, 1509] [] O h0 h) : sv_fr (sv_ow [1504, 1505, 1506, 1507, 1508, 1509] [] O) h0 (fn_X14_readAll_403 h) := by
  unfold fn_X14_readAll_403
  exact fr_rt hs
theorem ow_X14_readAll_397 {O : Nat → Prop} {h0 : sv_H} (oc : sv_cl O h0) {k317 : Nat → Int32 → Int32 → Int32 → sv_H → Option (Unit × sv_H)} (hk317 : ∀ {x0 : Nat} {x4 : Int32} {x5 : Int32} {x12 : Int32} {h : sv_H}, O x0 → sv_ow [1504, 1505, 1506, 1507, 1508, 1509] [] O h0 h → sv_fr (sv_ow [1504, 1505, 1506, 1507, 1508, 1509] [] O) h0 (k317 x0 x4 x5 x12 h)) {x0 : Nat} {x4 : Int32} {x5 : Int32} {x12 : Int32} {h : sv_H} (ox0 : O x0) (hs : sv_ow [1504, 1505, 1506, 1507, 1508, 1509] [] O h0 h) : sv_fr (sv_ow [1504, 1505, 1506, 1507, 1508, 1509] [] O) h0 (fn_X14_readAll_397 k317 x0 x4 x5 x12 h) := by
  unfold fn_X14_readAll_397
  exact hk317 ox0 hs
theorem ow_X14_readAll_391 {O : Nat → Prop} {h0 : sv_H} (oc : sv_cl O h0) {k317 : Nat → Int32 → Int32 → Int32 → sv_H → Option (Unit × sv_H)} (hk317 : ∀ {x0 : Nat} {x4 : Int32} {x5 : Int32} {x12 : Int32} {h : sv_H}, O x0 → sv_ow [1504, 1505, 1506, 1507, 1508, 1509] [] O h0 h → sv_fr (sv_ow [1504, 1505, 1506, 1507, 1508, 1509] [] O) h0 (k317 x0 x4 x5 x12 h)) {k334 : Nat → Int32 → Int32 → Int32 → Int32 → sv_H → Option (Unit × sv_H)} (hk334 : ∀ {x0 : Nat} {x4 : Int32} {x5 : Int32} {x12 : Int32} {x13 : Int32} {h : sv_H}, O x0 → sv_ow [1504, 1505, 1506, 1507, 1508, 1509] [] O h0 h → sv_fr (sv_ow [1504, 1505, 1506, 1507, 1508, 1509] [] O) h0 (k334 x0 x4 x5 x12 x13 h)) {x0 : Nat} {x4 : Int32} {x5 : Int32} {x12 : Int32} {x13 : Int32} {h : sv_H} (ox0 : O x0) (hs : sv_ow [1504, 1505, 1506, 1507, 1508, 1509] [] O h0 h) : sv_fr (sv_ow [1504, 1505, 1506, 1507, 1508, 1509] [] O) h0 (fn_X14_readAll_391 k317 k334 x0 x4 x5 x12 x13 h) := by
  unfold fn_X14_readAll_391
  exact hk334 ox0 hs
theorem ow_X14_readAll_334b {O : Nat → Prop} {h0 : sv_H} (oc : sv_cl O h0) {k317 : Nat → Int32 → Int32 → Int32 → sv_H → Option (Unit × sv_H)} (hk317 : ∀ {x0 : Nat} {x4 : Int32} {x5 : Int32} {x12 : Int32} {h : sv_H}, O x0 → sv_ow [1504, 1505, 1506, 1507, 1508, 1509] [] O h0 h → sv_fr (sv_ow [1504, 1505, 1506, 1507, 1508, 1509] [] O) h0 (k317 x0 x4 x5 x12 h)) {k334 : Nat → Int32 → Int32 → Int32 → Int32 → sv_H → Option (Unit × sv_H)} (hk334 : ∀ {x0 : Nat} {x4 : Int32} {x5 : Int32} {x12 : Int32} {x13 : Int32} {h : sv_H}, O x0 → sv_ow [1504, 1505, 1506, 1507, 1508, 1509] [] O h0 h → sv_fr (sv_ow [1504, 1505, 1506, 1507, 1508, 1509] [] O) h0 (k334 x0 x4 x5 x12 x13 h)) {x0 : Nat} {x4 : Int32} {x5 : Int32} {x12 : Int32} {x13 : Int32} {h : sv_H} (ox0 : O x0) (hs : sv_ow [1504, 1505, 1506, 1507, 1508, 1509] [] O h0 h) : sv_fr (sv_ow [1504, 1505, 1506, 1507, 1508, 1509] [] O) h0 (fn_X14_readAll_334b k317 k334 x0 x4 x5 x12 x13 h) := by
  unfold fn_X14_readAll_334b
  refine fr_if ?_ ?_
  · exact ow_X14_readAll_397 oc hk317 ox0 hs
  · refine fr_bd (fun _ => ?_)
    refine fr_if ?_ ?_
    · refine fr_cl (fun _ _ e => (by rw [ro_X14_touch e]; exact hs)) (fun _ h hs => ?_)
      refine fr_if ?_ ?_
      · exact ow_X14_readAll_391 oc hk317 hk334 ox0 hs
      · refine fr_cl (fun _ _ e => (hs.trans ((ow_X14_wrong (oc.of hs) ox0 e).weak (by decide) (by decide)))) (fun _ h hs => ?_)
        refine fr_st (fun _ e => ow_pI hs (by decide) ox0 e) (fun h hs => ?_)
        exact ow_X14_readAll_391 oc hk317 hk334 ox0 hs
    · exact ow_X14_readAll_397 oc hk317 ox0 hs
theorem ow_X14_readAll_334 {O : Nat → Prop} {h0 : sv_H} (oc : sv_cl O h0) {k317 : Nat → Int32 → Int32 → Int32 → sv_H → Option (Unit × sv_H)} (hk317 : ∀ {x0 : Nat} {x4 : Int32} {x5 : Int32} {x12 : Int32} {h : sv_H}, O x0 → sv_ow [1504, 1505, 1506, 1507, 1508, 1509] [] O h0 h → sv_fr (sv_ow [1504, 1505, 1506, 1507, 1508, 1509] [] O) h0 (k317 x0 x4 x5 x12 h)) : ∀ (n : Nat) {x0 : Nat} {x4 : Int32} {x5 : Int32} {x12 : Int32} {x13 : Int32} {h : sv_H}, O x0 → sv_ow [1504, 1505, 1506, 1507, 1508, 1509] [] O h0 h → sv_fr (sv_ow [1504, 1505, 1506, 1507, 1508, 1509] [] O) h0 (fn_X14_readAll_334 k317 n x0 x4 x5 x12 x13 h) := by
  intro n
  induction n with
  | zero => intro x0 x4 x5 x12 x13 h ox0 hs r hE e; cases (show (none : Option (Unit × sv_H)) = some (r, hE) from e)
  | succ n ih => intro x0 x4 x5 x12 x13 h ox0 hs; exact ow_X14_readAll_334b oc hk317 (fun ox0 hs => ih ox0 hs) ox0 hs
theorem ow_X14_readAll_317b {O : Nat → Prop} {h0 : sv_H} (oc : sv_cl O h0) {k317 : Nat → Int32 → Int32 → Int32 → sv_H → Option (Unit × sv_H)} (hk317 : ∀ {x0 : Nat} {x4 : Int32} {x5 : Int32} {x12 : Int32} {h : sv_H}, O x0 → sv_ow [1504, 1505, 1506, 1507, 1508, 1509] [] O h0 h → sv_fr (sv_ow [1504, 1505, 1506, 1507, 1508, 1509] [] O) h0 (k317 x0 x4 x5 x12 h)) {x0 : Nat} {x4 : Int32} {x5 : Int32} {x12 : Int32} {h : sv_H} (ox0 : O x0) (hs : sv_ow [1504, 1505, 1506, 1507, 1508, 1509] [] O h0 h) : sv_fr (sv_ow [1504, 1505, 1506, 1507, 1508, 1509] [] O) h0 (fn_X14_readAll_317b k317 x0 x4 x5 x12 h) := by
  unfold fn_X14_readAll_317b
  refine fr_if ?_ ?_
  · exact ow_X14_readAll_403 oc hs
  · refine fr_bd (fun _ => ?_)
    refine fr_if ?_ ?_
    · exact ow_X14_readAll_334 oc hk317 sv_fuel ox0 hs
    · exact ow_X14_readAll_403 oc hs
theorem ow_X14_readAll_317 {O : Nat → Prop} {h0 : sv_H} (oc : sv_cl O h0) : ∀ (n : Nat) {x0 : Nat} {x4 : Int32} {x5 : Int32} {x12 : Int32} {h : sv_H}, O x0 → sv_ow [1504, 1505, 1506, 1507, 1508, 1509] [] O h0 h → sv_fr (sv_ow [1504, 1505, 1506, 1507, 1508, 1509] [] O) h0 (fn_X14_readAll_317 n x0 x4 x5 x12 h) := by
  intro n
  induction n with
  | zero => intro x0 x4 x5 x12 h ox0 hs r hE e; cases (show (none : Option (Unit × sv_H)) = some (r, hE) from e)
  | succ n ih => intro x0 x4 x5 x12 h ox0 hs; exact ow_X14_readAll_317b oc (fun ox0 hs => ih ox0 hs) ox0 hs
theorem ow_X14_readAll_314 {O : Nat → Prop} {h0 : sv_H} (oc : sv_cl O h0) {x0 : Nat} {x4 : Int32} {x5 : Int32} {h : sv_H} (ox0 : O x0) (hs : sv_ow [1504, 1505, 1506, 1507, 1508, 1509] [] O h0 h) : sv_fr (sv_ow [1504, 1505, 1506, 1507, 1508, 1509] [] O) h0 (fn_X14_readAll_314 x0 x4 x5 h) := by
  unfold fn_X14_readAll_314
  exact ow_X14_readAll_317 oc sv_fuel ox0 hs
theorem ow_X14_readAll_220 {O : Nat → Prop} {h0 : sv_H} (oc : sv_cl O h0) {x0 : Nat} {x3 : Int32} {x4 : Int32} {x5 : Int32} {h : sv_H} (ox0 : O x0) (hs : sv_ow [1504, 1505, 1506, 1507, 1508, 1509] [] O h0 h) : sv_fr (sv_ow [1504, 1505, 1506, 1507, 1508, 1509] [] O) h0 (fn_X14_readAll_220 x0 x3 x4 x5 h) := by
  unfold fn_X14_readAll_220
  refine fr_cl (fun _ _ e => (hs.trans ((ow_X14_nextTwo (oc.of hs) ox0 e).weak (by decide) (by decide)))) (fun _ h hs => ?_)
  refine fr_cl (fun _ _ e => (hs.trans ((ow_X14_nextTwo (oc.of hs) ox0 e).weak (by decide) (by decide)))) (fun _ h hs => ?_)
  refine fr_cl (fun _ _ e => (hs.trans ((ow_X14_next (oc.of hs) ox0 e).weak (by decide) (by decide)))) (fun _ h hs => ?_)
  refine fr_cl (fun _ _ e => (hs.trans ((ow_X14_next (oc.of hs) ox0 e).weak (by decide) (by decide)))) (fun _ h hs => ?_)
  refine fr_bd (fun _ => ?_)
  refine fr_bd (fun _ => ?_)
  refine fr_cl (fun _ _ e => (hs.trans ((ow_X14_readCheck (oc.of hs) ox0 e).weak (by decide) (by decide)))) (fun _ h hs => ?_)
  refine fr_cl (fun _ _ e => (hs.trans ((ow_X14_readCheck (oc.of hs) ox0 e).weak (by decide) (by decide)))) (fun _ h hs => ?_)
  refine fr_bd (fun _ => ?_)
  refine fr_if ?_ ?_
  · refine fr_bd (fun _ => ?_)
    refine fr_bd (fun _ => ?_)
    refine fr_if ?_ ?_
    · exact ow_X14_readAll_314 oc ox0 hs
    · refine fr_bd (fun _ => ?_)
      refine fr_cl (fun _ _ e => (hs.trans ((ow_X14_wrong (oc.of hs) ox0 e).weak (by decide) (by decide)))) (fun _ h hs => ?_)
      exact ow_X14_readAll_314 oc ox0 hs
  · exact ow_X14_readAll_314 oc ox0 hs
theorem ow_X14_readAll_193b {O : Nat → Prop} {h0 : sv_H} (oc : sv_cl O h0) {k193 : Nat → Int32 → Int32 → Int32 → Int32 → Int32 → Int32 → sv_H → Option (Unit × sv_H)} (hk193 : ∀ {x0 : Nat} {x1 : Int32} {x2 : Int32} {x3 : Int32} {x4 : Int32} {x5 : Int32} {x6 : Int32} {h : sv_H}, O x0 → sv_ow [1504, 1505, 1506, 1507, 1508, 1509] [] O h0 h → sv_fr (sv_ow [1504, 1505, 1506, 1507, 1508, 1509] [] O) h0 (k193 x0 x1 x2 x3 x4 x5 x6 h)) {x0 : Nat} {x1 : Int32} {x2 : Int32} {x3 : Int32} {x4 : Int32} {x5 : Int32} {x6 : Int32} {h : sv_H} (ox0 : O x0) (hs : sv_ow [1504, 1505, 1506, 1507, 1508, 1509] [] O h0 h) : sv_fr (sv_ow [1504, 1505, 1506, 1507, 1508, 1509] [] O) h0 (fn_X14_readAll_193b k193 x0 x1 x2 x3 x4 x5 x6 h) := by
  unfold fn_X14_readAll_193b
  refine fr_if ?_ ?_
  · exact ow_X14_readAll_220 oc ox0 hs
  · refine fr_bd (fun _ => ?_)
    refine fr_if ?_ ?_
    · refine fr_cl (fun _ _ e => (hs.trans ((ow_X14_readWall (oc.of hs) ox0 e).weak (by decide) (by decide)))) (fun _ h hs => ?_)
      exact hk193 ox0 hs
    · exact ow_X14_readAll_220 oc ox0 hs
theorem ow_X14_readAll_193 {O : Nat → Prop} {h0 : sv_H} (oc : sv_cl O h0) : ∀ (n : Nat) {x0 : Nat} {x1 : Int32} {x2 : Int32} {x3 : Int32} {x4 : Int32} {x5 : Int32} {x6 : Int32} {h : sv_H}, O x0 → sv_ow [1504, 1505, 1506, 1507, 1508, 1509] [] O h0 h → sv_fr (sv_ow [1504, 1505, 1506, 1507, 1508, 1509] [] O) h0 (fn_X14_readAll_193 n x0 x1 x2 x3 x4 x5 x6 h) := by
  intro n
  induction n with
  | zero => intro x0 x1 x2 x3 x4 x5 x6 h ox0 hs r hE e; cases (show (none : Option (Unit × sv_H)) = some (r, hE) from e)
  | succ n ih => intro x0 x1 x2 x3 x4 x5 x6 h ox0 hs; exact ow_X14_readAll_193b oc (fun ox0 hs => ih ox0 hs) ox0 hs
theorem ow_X14_readAll_184 {O : Nat → Prop} {h0 : sv_H} (oc : sv_cl O h0) {x0 : Nat} {x1 : Int32} {x2 : Int32} {x3 : Int32} {x4 : Int32} {h : sv_H} (ox0 : O x0) (hs : sv_ow [1504, 1505, 1506, 1507, 1508, 1509] [] O h0 h) : sv_fr (sv_ow [1504, 1505, 1506, 1507, 1508, 1509] [] O) h0 (fn_X14_readAll_184 x0 x1 x2 x3 x4 h) := by
  unfold fn_X14_readAll_184
  refine fr_bd (fun _ => ?_)
  exact ow_X14_readAll_193 oc sv_fuel ox0 hs
theorem ow_X14_readAll_160b {O : Nat → Prop} {h0 : sv_H} (oc : sv_cl O h0) {k160 : Nat → Int32 → Int32 → Int32 → Int32 → Int32 → sv_H → Option (Unit × sv_H)} (hk160 : ∀ {x0 : Nat} {x1 : Int32} {x2 : Int32} {x3 : Int32} {x4 : Int32} {x5 : Int32} {h : sv_H}, O x0 → sv_ow [1504, 1505, 1506, 1507, 1508, 1509] [] O h0 h → sv_fr (sv_ow [1504, 1505, 1506, 1507, 1508, 1509] [] O) h0 (k160 x0 x1 x2 x3 x4 x5 h)) {x0 : Nat} {x1 : Int32} {x2 : Int32} {x3 : Int32} {x4 : Int32} {x5 : Int32} {h : sv_H} (ox0 : O x0) (hs : sv_ow [1504, 1505, 1506, 1507, 1508, 1509] [] O h0 h) : sv_fr (sv_ow [1504, 1505, 1506, 1507, 1508, 1509] [] O) h0 (fn_X14_readAll_160b k160 x0 x1 x2 x3 x4 x5 h) := by
  unfold fn_X14_readAll_160b
  refine fr_if ?_ ?_
  · exact ow_X14_readAll_184 oc ox0 hs
  · refine fr_bd (fun _ => ?_)
    refine fr_if ?_ ?_
    · refine fr_cl (fun _ _ e => (hs.trans ((ow_X14_readSector (oc.of hs) ox0 e).weak (by decide) (by decide)))) (fun _ h hs => ?_)
      exact hk160 ox0 hs
    · exact ow_X14_readAll_184 oc ox0 hs
theorem ow_X14_readAll_160 {O : Nat → Prop} {h0 : sv_H} (oc : sv_cl O h0) : ∀ (n : Nat) {x0 : Nat} {x1 : Int32} {x2 : Int32} {x3 : Int32} {x4 : Int32} {x5 : Int32} {h : sv_H}, O x0 → sv_ow [1504, 1505, 1506, 1507, 1508, 1509] [] O h0 h → sv_fr (sv_ow [1504, 1505, 1506, 1507, 1508, 1509] [] O) h0 (fn_X14_readAll_160 n x0 x1 x2 x3 x4 x5 h) := by
  intro n
  induction n with
  | zero => intro x0 x1 x2 x3 x4 x5 h ox0 hs r hE e; cases (show (none : Option (Unit × sv_H)) = some (r, hE) from e)
  | succ n ih => intro x0 x1 x2 x3 x4 x5 h ox0 hs; exact ow_X14_readAll_160b oc (fun ox0 hs => ih ox0 hs) ox0 hs
theorem ow_X14_readAll_157 {O : Nat → Prop} {h0 : sv_H} (oc : sv_cl O h0) {x0 : Nat} {x1 : Int32} {x2 : Int32} {x3 : Int32} {x4 : Int32} {h : sv_H} (ox0 : O x0) (hs : sv_ow [1504, 1505, 1506, 1507, 1508, 1509] [] O h0 h) : sv_fr (sv_ow [1504, 1505, 1506, 1507, 1508, 1509] [] O) h0 (fn_X14_readAll_157 x0 x1 x2 x3 x4 h) := by
  unfold fn_X14_readAll_157
  exact ow_X14_readAll_160 oc sv_fuel ox0 hs
theorem ow_X14_readAll_134b {O : Nat → Prop} {h0 : sv_H} (oc : sv_cl O h0) {k134 : Nat → Int32 → Int32 → Int32 → Int32 → Int32 → sv_H → Option (Unit × sv_H)} (hk134 : ∀ {x0 : Nat} {x1 : Int32} {x2 : Int32} {x3 : Int32} {x4 : Int32} {x5 : Int32} {h : sv_H}, O x0 → sv_ow [1504, 1505, 1506, 1507, 1508, 1509] [] O h0 h → sv_fr (sv_ow [1504, 1505, 1506, 1507, 1508, 1509] [] O) h0 (k134 x0 x1 x2 x3 x4 x5 h)) {x0 : Nat} {x1 : Int32} {x2 : Int32} {x3 : Int32} {x4 : Int32} {x5 : Int32} {h : sv_H} (ox0 : O x0) (hs : sv_ow [1504, 1505, 1506, 1507, 1508, 1509] [] O h0 h) : sv_fr (sv_ow [1504, 1505, 1506, 1507, 1508, 1509] [] O) h0 (fn_X14_readAll_134b k134 x0 x1 x2 x3 x4 x5 h) := by
  unfold fn_X14_readAll_134b
  refine fr_if ?_ ?_
  · exact ow_X14_readAll_157 oc ox0 hs
  · refine fr_bd (fun _ => ?_)
    refine fr_if ?_ ?_
    · refine fr_cl (fun _ _ e => (hs.trans ((ow_X14_readTexture (oc.of hs) ox0 e).weak (by decide) (by decide)))) (fun _ h hs => ?_)
      exact hk134 ox0 hs
    · exact ow_X14_readAll_157 oc ox0 hs
theorem ow_X14_readAll_134 {O : Nat → Prop} {h0 : sv_H} (oc : sv_cl O h0) : ∀ (n : Nat) {x0 : Nat} {x1 : Int32} {x2 : Int32} {x3 : Int32} {x4 : Int32} {x5 : Int32} {h : sv_H}, O x0 → sv_ow [1504, 1505, 1506, 1507, 1508, 1509] [] O h0 h → sv_fr (sv_ow [1504, 1505, 1506, 1507, 1508, 1509] [] O) h0 (fn_X14_readAll_134 n x0 x1 x2 x3 x4 x5 h) := by
  intro n
  induction n with
  | zero => intro x0 x1 x2 x3 x4 x5 h ox0 hs r hE e; cases (show (none : Option (Unit × sv_H)) = some (r, hE) from e)
  | succ n ih => intro x0 x1 x2 x3 x4 x5 h ox0 hs; exact ow_X14_readAll_134b oc (fun ox0 hs => ih ox0 hs) ox0 hs
theorem ow_X14_readAll_131 {O : Nat → Prop} {h0 : sv_H} (oc : sv_cl O h0) {x0 : Nat} {x1 : Int32} {x2 : Int32} {x3 : Int32} {x4 : Int32} {h : sv_H} (ox0 : O x0) (hs : sv_ow [1504, 1505, 1506, 1507, 1508, 1509] [] O h0 h) : sv_fr (sv_ow [1504, 1505, 1506, 1507, 1508, 1509] [] O) h0 (fn_X14_readAll_131 x0 x1 x2 x3 x4 h) := by
  unfold fn_X14_readAll_131
  exact ow_X14_readAll_134 oc sv_fuel ox0 hs
theorem ow_X14_readAll_106b {O : Nat → Prop} {h0 : sv_H} (oc : sv_cl O h0) {k106 : Nat → Int32 → Int32 → Int32 → Int32 → Int32 → sv_H → Option (Unit × sv_H)} (hk106 : ∀ {x0 : Nat} {x1 : Int32} {x2 : Int32} {x3 : Int32} {x4 : Int32} {x5 : Int32} {h : sv_H}, O x0 → sv_ow [1504, 1505, 1506, 1507, 1508, 1509] [] O h0 h → sv_fr (sv_ow [1504, 1505, 1506, 1507, 1508, 1509] [] O) h0 (k106 x0 x1 x2 x3 x4 x5 h)) {x0 : Nat} {x1 : Int32} {x2 : Int32} {x3 : Int32} {x4 : Int32} {x5 : Int32} {h : sv_H} (ox0 : O x0) (hs : sv_ow [1504, 1505, 1506, 1507, 1508, 1509] [] O h0 h) : sv_fr (sv_ow [1504, 1505, 1506, 1507, 1508, 1509] [] O) h0 (fn_X14_readAll_106b k106 x0 x1 x2 x3 x4 x5 h) := by
  unfold fn_X14_readAll_106b
  refine fr_if ?_ ?_
  · exact ow_X14_readAll_131 oc ox0 hs
  · refine fr_bd (fun _ => ?_)
    refine fr_if ?_ ?_
    · refine fr_cl (fun _ _ e => (hs.trans ((ow_X14_readVertex (oc.of hs) ox0 e).weak (by decide) (by decide)))) (fun _ h hs => ?_)
      exact hk106 ox0 hs
    · exact ow_X14_readAll_131 oc ox0 hs
theorem ow_X14_readAll_106 {O : Nat → Prop} {h0 : sv_H} (oc : sv_cl O h0) : ∀ (n : Nat) {x0 : Nat} {x1 : Int32} {x2 : Int32} {x3 : Int32} {x4 : Int32} {x5 : Int32} {h : sv_H}, O x0 → sv_ow [1504, 1505, 1506, 1507, 1508, 1509] [] O h0 h → sv_fr (sv_ow [1504, 1505, 1506, 1507, 1508, 1509] [] O) h0 (fn_X14_readAll_106 n x0 x1 x2 x3 x4 x5 h) := by
  intro n
  induction n with
  | zero => intro x0 x1 x2 x3 x4 x5 h ox0 hs r hE e; cases (show (none : Option (Unit × sv_H)) = some (r, hE) from e)
  | succ n ih => intro x0 x1 x2 x3 x4 x5 h ox0 hs; exact ow_X14_readAll_106b oc (fun ox0 hs => ih ox0 hs) ox0 hs
theorem ow_X14_readAll_68 {O : Nat → Prop} {h0 : sv_H} (oc : sv_cl O h0) {x0 : Nat} {h : sv_H} (ox0 : O x0) (hs : sv_ow [1504, 1505, 1506, 1507, 1508, 1509] [] O h0 h) : sv_fr (sv_ow [1504, 1505, 1506, 1507, 1508, 1509] [] O) h0 (fn_X14_readAll_68 x0 h) := by
  unfold fn_X14_readAll_68
  refine fr_cl (fun _ _ e => (hs.trans ((ow_X14_next (oc.of hs) ox0 e).weak (by decide) (by decide)))) (fun _ h hs => ?_)
  refine fr_cl (fun _ _ e => (hs.trans ((ow_X14_next (oc.of hs) ox0 e).weak (by decide) (by decide)))) (fun _ h hs => ?_)
  refine fr_cl (fun _ _ e => (hs.trans ((ow_X14_next (oc.of hs) ox0 e).weak (by decide) (by decide)))) (fun _ h hs => ?_)
  refine fr_cl (fun _ _ e => (hs.trans ((ow_X14_next (oc.of hs) ox0 e).weak (by decide) (by decide)))) (fun _ h hs => ?_)
  exact ow_X14_readAll_106 oc sv_fuel ox0 hs
theorem ow_X14_readAll_62 {O : Nat → Prop} {h0 : sv_H} (oc : sv_cl O h0) {k2 : Nat → Int32 → sv_H → Option (Unit × sv_H)} (hk2 : ∀ {x0 : Nat} {x1 : Int32} {h : sv_H}, O x0 → sv_ow [1504, 1505, 1506, 1507, 1508, 1509] [] O h0 h → sv_fr (sv_ow [1504, 1505, 1506, 1507, 1508, 1509] [] O) h0 (k2 x0 x1 h)) {x0 : Nat} {x1 : Int32} {h : sv_H} (ox0 : O x0) (hs : sv_ow [1504, 1505, 1506, 1507, 1508, 1509] [] O h0 h) : sv_fr (sv_ow [1504, 1505, 1506, 1507, 1508, 1509] [] O) h0 (fn_X14_readAll_62 k2 x0 x1 h) := by
  unfold fn_X14_readAll_62
  exact hk2 ox0 hs
theorem ow_X14_readAll_34 {O : Nat → Prop} {h0 : sv_H} (oc : sv_cl O h0) {k2 : Nat → Int32 → sv_H → Option (Unit × sv_H)} (hk2 : ∀ {x0 : Nat} {x1 : Int32} {h : sv_H}, O x0 → sv_ow [1504, 1505, 1506, 1507, 1508, 1509] [] O h0 h → sv_fr (sv_ow [1504, 1505, 1506, 1507, 1508, 1509] [] O) h0 (k2 x0 x1 h)) {x0 : Nat} {x1 : Int32} {s0 : Int32} {h : sv_H} (ox0 : O x0) (hs : sv_ow [1504, 1505, 1506, 1507, 1508, 1509] [] O h0 h) : sv_fr (sv_ow [1504, 1505, 1506, 1507, 1508, 1509] [] O) h0 (fn_X14_readAll_34 k2 x0 x1 s0 h) := by
  unfold fn_X14_readAll_34
  refine fr_cl (fun _ _ e => (hs.trans ((ow_X14_next (oc.of hs) ox0 e).weak (by decide) (by decide)))) (fun _ h hs => ?_)
  refine fr_bd (fun _ => ?_)
  refine fr_if ?_ ?_
  · refine fr_if ?_ ?_
    · exact ow_X14_readAll_62 oc hk2 ox0 hs
    · refine fr_cl (fun _ _ e => (hs.trans ((ow_X14_wrong (oc.of hs) ox0 e).weak (by decide) (by decide)))) (fun _ h hs => ?_)
      exact ow_X14_readAll_62 oc hk2 ox0 hs
  · exact ow_X14_readAll_62 oc hk2 ox0 hs
theorem ow_X14_readAll_2b {O : Nat → Prop} {h0 : sv_H} (oc : sv_cl O h0) {k2 : Nat → Int32 → sv_H → Option (Unit × sv_H)} (hk2 : ∀ {x0 : Nat} {x1 : Int32} {h : sv_H}, O x0 → sv_ow [1504, 1505, 1506, 1507, 1508, 1509] [] O h0 h → sv_fr (sv_ow [1504, 1505, 1506, 1507, 1508, 1509] [] O) h0 (k2 x0 x1 h)) {x0 : Nat} {x1 : Int32} {h : sv_H} (ox0 : O x0) (hs : sv_ow [1504, 1505, 1506, 1507, 1508, 1509] [] O h0 h) : sv_fr (sv_ow [1504, 1505, 1506, 1507, 1508, 1509] [] O) h0 (fn_X14_readAll_2b k2 x0 x1 h) := by
  unfold fn_X14_readAll_2b
  refine fr_if ?_ ?_
  · exact ow_X14_readAll_68 oc ox0 hs
  · refine fr_bd (fun _ => ?_)
    refine fr_if ?_ ?_
    · refine fr_if ?_ ?_
      · exact ow_X14_readAll_34 oc hk2 ox0 hs
      · refine fr_if ?_ ?_
        · exact ow_X14_readAll_34 oc hk2 ox0 hs
        · exact ow_X14_readAll_34 oc hk2 ox0 hs
    · exact ow_X14_readAll_68 oc ox0 hs
theorem ow_X14_readAll_2 {O : Nat → Prop} {h0 : sv_H} (oc : sv_cl O h0) : ∀ (n : Nat) {x0 : Nat} {x1 : Int32} {h : sv_H}, O x0 → sv_ow [1504, 1505, 1506, 1507, 1508, 1509] [] O h0 h → sv_fr (sv_ow [1504, 1505, 1506, 1507, 1508, 1509] [] O) h0 (fn_X14_readAll_2 n x0 x1 h) := by
  intro n
  induction n with
  | zero => intro x0 x1 h ox0 hs r hE e; cases (show (none : Option (Unit × sv_H)) = some (r, hE) from e)
  | succ n ih => intro x0 x1 h ox0 hs; exact ow_X14_readAll_2b oc (fun ox0 hs => ih ox0 hs) ox0 hs
theorem ow_X14_readAll_0 {O : Nat → Prop} {h0 : sv_H} (oc : sv_cl O h0) {x0 : Nat} {h : sv_H} (ox0 : O x0) (hs : sv_ow [1504, 1505, 1506, 1507, 1508, 1509] [] O h0 h) : sv_fr (sv_ow [1504, 1505, 1506, 1507, 1508, 1509] [] O) h0 (fn_X14_readAll x0 h) := by
  unfold fn_X14_readAll
  refine fr_if ?_ fr_no
  exact ow_X14_readAll_2 oc sv_fuel ox0 hs
theorem ow_X14_readAll {O : Nat → Prop} {x0 : Nat} {h : sv_H} {r : Unit} {hE : sv_H} (oc : sv_cl O h) (ox0 : O x0) (hw : fn_X14_readAll x0 h = some (r, hE)) : sv_ow [1504, 1505, 1506, 1507, 1508, 1509] [] O h hE := ow_X14_readAll_0 oc ox0 (sv_ow.refl h) r hE hw

theorem ow_X14_read_77 {O : Nat → Prop} {h0 : sv_H} (oc : sv_cl O h0) {x0 : Nat} {h : sv_H} (ox0 : O x0) (hs : sv_ow [1503, 1504, 1505, 1506, 1507, 1508, 1509] [1502] O h0 h) : sv_fr (sv_ow [1503, 1504, 1505, 1506, 1507, 1508, 1509] [1502] O) h0 (fn_X14_read_77 x0 h) := by
  unfold fn_X14_read_77
  refine fr_bd (fun _ => ?_)
  exact fr_rt hs
theorem ow_X14_read_43b {O : Nat → Prop} {h0 : sv_H} (oc : sv_cl O h0) {k43 : Nat → Int32 → sv_H → Option (Int32 × sv_H)} (hk43 : ∀ {x0 : Nat} {x1 : Int32} {h : sv_H}, O x0 → sv_ow [1503, 1504, 1505, 1506, 1507, 1508, 1509] [1502] O h0 h → sv_fr (sv_ow [1503, 1504, 1505, 1506, 1507, 1508, 1509] [1502] O) h0 (k43 x0 x1 h)) {x0 : Nat} {x1 : Int32} {h : sv_H} (ox0 : O x0) (hs : sv_ow [1503, 1504, 1505, 1506, 1507, 1508, 1509] [1502] O h0 h) : sv_fr (sv_ow [1503, 1504, 1505, 1506, 1507, 1508, 1509] [1502] O) h0 (fn_X14_read_43b k43 x0 x1 h) := by
  unfold fn_X14_read_43b
  refine fr_bd (fun _ => ?_)
  refine fr_if ?_ ?_
  · refine fr_bd (fun _ => ?_)
    refine fr_st (fun _ e => ow_pI hs (by decide) ox0 e) (fun h hs => ?_)
    exact ow_X14_read_77 oc ox0 hs
  · refine fr_be (fun v4 e => ?_)
    have ov4 := ow_gR hs ox0 e
    clear e
    refine fr_be (fun v5 e => ?_)
    have ov5 := ow_gR hs ox0 e
    clear e
    refine fr_bd (fun _ => ?_)
    refine fr_st (fun _ e => ow_sB hs ov4 (by decide) e) (fun h hs => ?_)
    exact hk43 ox0 hs
theorem ow_X14_read_43 {O : Nat → Prop} {h0 : sv_H} (oc : sv_cl O h0) : ∀ (n : Nat) {x0 : Nat} {x1 : Int32} {h : sv_H}, O x0 → sv_ow [1503, 1504, 1505, 1506, 1507, 1508, 1509] [1502] O h0 h → sv_fr (sv_ow [1503, 1504, 1505, 1506, 1507, 1508, 1509] [1502] O) h0 (fn_X14_read_43 n x0 x1 h) := by
  intro n
  induction n with
  | zero => intro x0 x1 h ox0 hs r hE e; cases (show (none : Option (Int32 × sv_H)) = some (r, hE) from e)
  | succ n ih => intro x0 x1 h ox0 hs; exact ow_X14_read_43b oc (fun ox0 hs => ih ox0 hs) ox0 hs
theorem ow_X14_read_0 {O : Nat → Prop} {h0 : sv_H} (oc : sv_cl O h0) {x0 : Nat} {h : sv_H} (ox0 : O x0) (hs : sv_ow [1503, 1504, 1505, 1506, 1507, 1508, 1509] [1502] O h0 h) : sv_fr (sv_ow [1503, 1504, 1505, 1506, 1507, 1508, 1509] [1502] O) h0 (fn_X14_read x0 h) := by
  unfold fn_X14_read
  refine fr_if ?_ fr_no
  refine fr_st (fun _ e => ow_pI hs (by decide) ox0 e) (fun h hs => ?_)
  refine fr_st (fun _ e => ow_pI hs (by decide) ox0 e) (fun h hs => ?_)
  refine fr_st (fun _ e => ow_pI hs (by decide) ox0 e) (fun h hs => ?_)
  refine fr_st (fun _ e => ow_pI hs (by decide) ox0 e) (fun h hs => ?_)
  refine fr_st (fun _ e => ow_pI hs (by decide) ox0 e) (fun h hs => ?_)
  refine fr_st (fun _ e => ow_pI hs (by decide) ox0 e) (fun h hs => ?_)
  refine fr_cl (fun _ _ e => (hs.trans ((ow_X14_readAll (oc.of hs) ox0 e).weak (by decide) (by decide)))) (fun _ h hs => ?_)
  refine fr_bd (fun _ => ?_)
  refine fr_if ?_ ?_
  · exact ow_X14_read_43 oc sv_fuel ox0 hs
  · exact ow_X14_read_77 oc ox0 hs
theorem ow_X14_read {O : Nat → Prop} {x0 : Nat} {h : sv_H} {r : Int32} {hE : sv_H} (oc : sv_cl O h) (ox0 : O x0) (hw : fn_X14_read x0 h = some (r, hE)) : sv_ow [1503, 1504, 1505, 1506, 1507, 1508, 1509] [1502] O h hE := ow_X14_read_0 oc ox0 (sv_ow.refl h) r hE hw

theorem ow_X13_reset_2b {O : Nat → Prop} {h0 : sv_H} (oc : sv_cl O h0) {k2 : Nat → Int32 → sv_H → Option (Unit × sv_H)} (hk2 : ∀ {x0 : Nat} {x1 : Int32} {h : sv_H}, O x0 → sv_ow [1415, 1416, 1417] [1408, 1409, 1410, 1411, 1412, 1413] O h0 h → sv_fr (sv_ow [1415, 1416, 1417] [1408, 1409, 1410, 1411, 1412, 1413] O) h0 (k2 x0 x1 h)) {x0 : Nat} {x1 : Int32} {h : sv_H} (ox0 : O x0) (hs : sv_ow [1415, 1416, 1417] [1408, 1409, 1410, 1411, 1412, 1413] O h0 h) : sv_fr (sv_ow [1415, 1416, 1417] [1408, 1409, 1410, 1411, 1412, 1413] O) h0 (fn_X13_reset_2b k2 x0 x1 h) := by
  unfold fn_X13_reset_2b
  refine fr_bd (fun _ => ?_)
  refine fr_if ?_ ?_
  · refine fr_st (fun _ e => ow_pI hs (by decide) ox0 e) (fun h hs => ?_)
    refine fr_st (fun _ e => ow_pI hs (by decide) ox0 e) (fun h hs => ?_)
    refine fr_st (fun _ e => ow_pI hs (by decide) ox0 e) (fun h hs => ?_)
    exact fr_rt hs
  · refine fr_be (fun v5 e => ?_)
    have ov5 := ow_gR hs ox0 e
    clear e
    refine fr_be (fun v6 e => ?_)
    have ov6 := ow_gR hs ox0 e
    clear e
    refine fr_bd (fun _ => ?_)
    refine fr_st (fun _ e => ow_sI hs ov5 (by decide) e) (fun h hs => ?_)
    refine fr_be (fun v9 e => ?_)
    have ov9 := ow_gR hs ox0 e
    clear e
    refine fr_be (fun v10 e => ?_)
    have ov10 := ow_gR hs ox0 e
    clear e
    refine fr_bd (fun _ => ?_)
    refine fr_st (fun _ e => ow_sI hs ov9 (by decide) e) (fun h hs => ?_)
    refine fr_be (fun v13 e => ?_)
    have ov13 := ow_gR hs ox0 e
    clear e
    refine fr_st (fun _ e => ow_sI hs ov13 (by decide) e) (fun h hs => ?_)
    refine fr_be (fun v15 e => ?_)
    have ov15 := ow_gR hs ox0 e
    clear e
    refine fr_st (fun _ e => ow_sI hs ov15 (by decide) e) (fun h hs => ?_)
    refine fr_be (fun v17 e => ?_)
    have ov17 := ow_gR hs ox0 e
    clear e
    refine fr_st (fun _ e => ow_sI hs ov17 (by decide) e) (fun h hs => ?_)
    refine fr_be (fun v19 e => ?_)
    have ov19 := ow_gR hs ox0 e
    clear e
    refine fr_st (fun _ e => ow_sI hs ov19 (by decide) e) (fun h hs => ?_)
    exact hk2 ox0 hs
theorem ow_X13_reset_2 {O : Nat → Prop} {h0 : sv_H} (oc : sv_cl O h0) : ∀ (n : Nat) {x0 : Nat} {x1 : Int32} {h : sv_H}, O x0 → sv_ow [1415, 1416, 1417] [1408, 1409, 1410, 1411, 1412, 1413] O h0 h → sv_fr (sv_ow [1415, 1416, 1417] [1408, 1409, 1410, 1411, 1412, 1413] O) h0 (fn_X13_reset_2 n x0 x1 h) := by
  intro n
  induction n with
  | zero => intro x0 x1 h ox0 hs r hE e; cases (show (none : Option (Unit × sv_H)) = some (r, hE) from e)
  | succ n ih => intro x0 x1 h ox0 hs; exact ow_X13_reset_2b oc (fun ox0 hs => ih ox0 hs) ox0 hs
theorem ow_X13_reset_0 {O : Nat → Prop} {h0 : sv_H} (oc : sv_cl O h0) {x0 : Nat} {h : sv_H} (ox0 : O x0) (hs : sv_ow [1415, 1416, 1417] [1408, 1409, 1410, 1411, 1412, 1413] O h0 h) : sv_fr (sv_ow [1415, 1416, 1417] [1408, 1409, 1410, 1411, 1412, 1413] O) h0 (fn_X13_reset x0 h) := by
  unfold fn_X13_reset
  refine fr_if ?_ fr_no
  exact ow_X13_reset_2 oc sv_fuel ox0 hs
theorem ow_X13_reset {O : Nat → Prop} {x0 : Nat} {h : sv_H} {r : Unit} {hE : sv_H} (oc : sv_cl O h) (ox0 : O x0) (hw : fn_X13_reset x0 h = some (r, hE)) : sv_ow [1415, 1416, 1417] [1408, 1409, 1410, 1411, 1412, 1413] O h hE := ow_X13_reset_0 oc ox0 (sv_ow.refl h) r hE hw

theorem ow_X13_clear_12b {O : Nat → Prop} {h0 : sv_H} (oc : sv_cl O h0) {k12 : Nat → Int32 → sv_H → Option (Unit × sv_H)} (hk12 : ∀ {x0 : Nat} {x1 : Int32} {h : sv_H}, O x0 → sv_ow [1400, 1407, 1415, 1416, 1417] [1406, 1408, 1409, 1410, 1411, 1412, 1413] O h0 h → sv_fr (sv_ow [1400, 1407, 1415, 1416, 1417] [1406, 1408, 1409, 1410, 1411, 1412, 1413] O) h0 (k12 x0 x1 h)) {x0 : Nat} {x1 : Int32} {h : sv_H} (ox0 : O x0) (hs : sv_ow [1400, 1407, 1415, 1416, 1417] [1406, 1408, 1409, 1410, 1411, 1412, 1413] O h0 h) : sv_fr (sv_ow [1400, 1407, 1415, 1416, 1417] [1406, 1408, 1409, 1410, 1411, 1412, 1413] O) h0 (fn_X13_clear_12b k12 x0 x1 h) := by
  unfold fn_X13_clear_12b
  refine fr_if ?_ ?_
  · refine fr_cl (fun _ _ e => (hs.trans ((ow_X13_reset (oc.of hs) ox0 e).weak (by decide) (by decide)))) (fun _ h hs => ?_)
    exact fr_rt hs
  · refine fr_be (fun v2 e => ?_)
    have ov2 := ow_gR hs ox0 e
    clear e
    refine fr_st (fun _ e => ow_sZ hs ov2 (by decide) e) (fun h hs => ?_)
    exact hk12 ox0 hs
theorem ow_X13_clear_12 {O : Nat → Prop} {h0 : sv_H} (oc : sv_cl O h0) : ∀ (n : Nat) {x0 : Nat} {x1 : Int32} {h : sv_H}, O x0 → sv_ow [1400, 1407, 1415, 1416, 1417] [1406, 1408, 1409, 1410, 1411, 1412, 1413] O h0 h → sv_fr (sv_ow [1400, 1407, 1415, 1416, 1417] [1406, 1408, 1409, 1410, 1411, 1412, 1413] O) h0 (fn_X13_clear_12 n x0 x1 h) := by
  intro n
  induction n with
  | zero => intro x0 x1 h ox0 hs r hE e; cases (show (none : Option (Unit × sv_H)) = some (r, hE) from e)
  | succ n ih => intro x0 x1 h ox0 hs; exact ow_X13_clear_12b oc (fun ox0 hs => ih ox0 hs) ox0 hs
theorem ow_X13_clear_0 {O : Nat → Prop} {h0 : sv_H} (oc : sv_cl O h0) {x0 : Nat} {h : sv_H} (ox0 : O x0) (hs : sv_ow [1400, 1407, 1415, 1416, 1417] [1406, 1408, 1409, 1410, 1411, 1412, 1413] O h0 h) : sv_fr (sv_ow [1400, 1407, 1415, 1416, 1417] [1406, 1408, 1409, 1410, 1411, 1412, 1413] O) h0 (fn_X13_clear x0 h) := by
  unfold fn_X13_clear
  refine fr_if ?_ fr_no
  refine fr_st (fun _ e => ow_pI hs (by decide) ox0 e) (fun h hs => ?_)
  refine fr_st (fun _ e => ow_pI hs (by decide) ox0 e) (fun h hs => ?_)
  exact ow_X13_clear_12 oc sv_fuel ox0 hs
theorem ow_X13_clear {O : Nat → Prop} {x0 : Nat} {h : sv_H} {r : Unit} {hE : sv_H} (oc : sv_cl O h) (ox0 : O x0) (hw : fn_X13_clear x0 h = some (r, hE)) : sv_ow [1400, 1407, 1415, 1416, 1417] [1406, 1408, 1409, 1410, 1411, 1412, 1413] O h hE := ow_X13_clear_0 oc ox0 (sv_ow.refl h) r hE hw

theorem ow_X13_sector_67 {O : Nat → Prop} {h0 : sv_H} (oc : sv_cl O h0) {x0 : Nat} {x1 : Int32} {x2 : Int32} {x3 : Int32} {x4 : Int32} {x5 : Int32} {s0 : Int32} {h : sv_H} (ox0 : O x0) (hs : sv_ow [1400, 1415, 1416, 1417] [1401, 1402, 1403, 1404, 1405, 1408, 1409, 1410, 1411, 1412, 1413] O h0 h) : sv_fr (sv_ow [1400, 1415, 1416, 1417] [1401, 1402, 1403, 1404, 1405, 1408, 1409, 1410, 1411, 1412, 1413] O) h0 (fn_X13_sector_67 x0 x1 x2 x3 x4 x5 s0 h) := by
  unfold fn_X13_sector_67
  refine fr_if ?_ ?_
  · exact fr_rt hs
  · refine fr_be (fun v1 e => ?_)
    have ov1 := ow_gR hs ox0 e
    clear e
    refine fr_bd (fun _ => ?_)
    refine fr_st (fun _ e => ow_sI hs ov1 (by decide) e) (fun h hs => ?_)
    refine fr_be (fun v4 e => ?_)
    have ov4 := ow_gR hs ox0 e
    clear e
    refine fr_bd (fun _ => ?_)
    refine fr_st (fun _ e => ow_sI hs ov4 (by decide) e) (fun h hs => ?_)
    refine fr_be (fun v7 e => ?_)
    have ov7 := ow_gR hs ox0 e
    clear e
    refine fr_bd (fun _ => ?_)
    refine fr_st (fun _ e => ow_sI hs ov7 (by decide) e) (fun h hs => ?_)
    refine fr_be (fun v10 e => ?_)
    have ov10 := ow_gR hs ox0 e
    clear e
    refine fr_bd (fun _ => ?_)
    refine fr_st (fun _ e => ow_sI hs ov10 (by decide) e) (fun h hs => ?_)
    refine fr_be (fun v13 e => ?_)
    have ov13 := ow_gR hs ox0 e
    clear e
    refine fr_bd (fun _ => ?_)
    refine fr_st (fun _ e => ow_sI hs ov13 (by decide) e) (fun h hs => ?_)
    refine fr_bd (fun _ => ?_)
    refine fr_st (fun _ e => ow_pI hs (by decide) ox0 e) (fun h hs => ?_)
    refine fr_cl (fun _ _ e => (hs.trans ((ow_X13_reset (oc.of hs) ox0 e).weak (by decide) (by decide)))) (fun _ h hs => ?_)
    refine fr_bd (fun _ => ?_)
    exact fr_rt hs
theorem ow_X13_sector_66 {O : Nat → Prop} {h0 : sv_H} (oc : sv_cl O h0) {x0 : Nat} {x1 : Int32} {x2 : Int32} {x3 : Int32} {x4 : Int32} {x5 : Int32} {h : sv_H} (ox0 : O x0) (hs : sv_ow [1400, 1415, 1416, 1417] [1401, 1402, 1403, 1404, 1405, 1408, 1409, 1410, 1411, 1412, 1413] O h0 h) : sv_fr (sv_ow [1400, 1415, 1416, 1417] [1401, 1402, 1403, 1404, 1405, 1408, 1409, 1410, 1411, 1412, 1413] O) h0 (fn_X13_sector_66 x0 x1 x2 x3 x4 x5 h) := by
  unfold fn_X13_sector_66
  exact ow_X13_sector_67 oc ox0 hs
theorem ow_X13_sector_0 {O : Nat → Prop} {h0 : sv_H} (oc : sv_cl O h0) {x0 : Nat} {x1 : Int32} {x2 : Int32} {x3 : Int32} {x4 : Int32} {x5 : Int32} {h : sv_H} (ox0 : O x0) (hs : sv_ow [1400, 1415, 1416, 1417] [1401, 1402, 1403, 1404, 1405, 1408, 1409, 1410, 1411, 1412, 1413] O h0 h) : sv_fr (sv_ow [1400, 1415, 1416, 1417] [1401, 1402, 1403, 1404, 1405, 1408, 1409, 1410, 1411, 1412, 1413] O) h0 (fn_X13_sector x0 x1 x2 x3 x4 x5 h) := by
  unfold fn_X13_sector
  refine fr_if ?_ fr_no
  refine fr_if ?_ ?_
  · exact ow_X13_sector_66 oc ox0 hs
  · refine fr_if ?_ ?_
    · exact ow_X13_sector_66 oc ox0 hs
    · refine fr_if ?_ ?_
      · exact ow_X13_sector_66 oc ox0 hs
      · refine fr_if ?_ ?_
        · exact ow_X13_sector_66 oc ox0 hs
        · refine fr_if ?_ ?_
          · exact ow_X13_sector_66 oc ox0 hs
          · refine fr_if ?_ ?_
            · exact ow_X13_sector_66 oc ox0 hs
            · refine fr_if ?_ ?_
              · exact ow_X13_sector_66 oc ox0 hs
              · refine fr_if ?_ ?_
                · exact ow_X13_sector_66 oc ox0 hs
                · refine fr_if ?_ ?_
                  · exact ow_X13_sector_66 oc ox0 hs
                  · refine fr_bd (fun _ => ?_)
                    refine fr_if ?_ ?_
                    · exact ow_X13_sector_66 oc ox0 hs
                    · exact ow_X13_sector_67 oc ox0 hs
theorem ow_X13_sector {O : Nat → Prop} {x0 : Nat} {x1 : Int32} {x2 : Int32} {x3 : Int32} {x4 : Int32} {x5 : Int32} {h : sv_H} {r : Int32} {hE : sv_H} (oc : sv_cl O h) (ox0 : O x0) (hw : fn_X13_sector x0 x1 x2 x3 x4 x5 h = some (r, hE)) : sv_ow [1400, 1415, 1416, 1417] [1401, 1402, 1403, 1404, 1405, 1408, 1409, 1410, 1411, 1412, 1413] O h hE := ow_X13_sector_0 oc ox0 (sv_ow.refl h) r hE hw

theorem ow_X13_join_35 {O : Nat → Prop} {h0 : sv_H} (oc : sv_cl O h0) {h : sv_H} (hs : sv_ow [1407] [1406] O h0 h) : sv_fr (sv_ow [1407] [1406] O) h0 (fn_X13_join_35 h) := by
  unfold fn_X13_join_35
  exact fr_rt hs
theorem ow_X13_join_0 {O : Nat → Prop} {h0 : sv_H} (oc : sv_cl O h0) {x0 : Nat} {x1 : Int32} {x2 : Int32} {h : sv_H} (ox0 : O x0) (hs : sv_ow [1407] [1406] O h0 h) : sv_fr (sv_ow [1407] [1406] O) h0 (fn_X13_join x0 x1 x2 h) := by
  unfold fn_X13_join
  refine fr_if ?_ fr_no
  refine fr_cl (fun _ _ e => (by rw [ro_X13_isSector e]; exact hs)) (fun _ h hs => ?_)
  refine fr_if ?_ ?_
  · exact ow_X13_join_35 oc hs
  · refine fr_cl (fun _ _ e => (by rw [ro_X13_isSector e]; exact hs)) (fun _ h hs => ?_)
    refine fr_if ?_ ?_
    · exact ow_X13_join_35 oc hs
    · refine fr_if ?_ ?_
      · exact ow_X13_join_35 oc hs
      · refine fr_be (fun v5 e => ?_)
        have ov5 := ow_gR hs ox0 e
        clear e
        refine fr_bd (fun _ => ?_)
        refine fr_if ?_ ?_
        · refine fr_be (fun v7 e => ?_)
          have ov7 := ow_gR hs ox0 e
          clear e
          refine fr_st (fun _ e => ow_sZ hs ov7 (by decide) e) (fun h hs => ?_)
          refine fr_be (fun v9 e => ?_)
          have ov9 := ow_gR hs ox0 e
          clear e
          refine fr_st (fun _ e => ow_sZ hs ov9 (by decide) e) (fun h hs => ?_)
          refine fr_bd (fun _ => ?_)
          refine fr_st (fun _ e => ow_pI hs (by decide) ox0 e) (fun h hs => ?_)
          exact fr_rt hs
        · exact ow_X13_join_35 oc hs
theorem ow_X13_join {O : Nat → Prop} {x0 : Nat} {x1 : Int32} {x2 : Int32} {h : sv_H} {r : Int32} {hE : sv_H} (oc : sv_cl O h) (ox0 : O x0) (hw : fn_X13_join x0 x1 x2 h = some (r, hE)) : sv_ow [1407] [1406] O h hE := ow_X13_join_0 oc ox0 (sv_ow.refl h) r hE hw

theorem ow_X17_furnish_172 {O : Nat → Prop} {h0 : sv_H} (oc : sv_cl O h0) {k116 : Nat → Int32 → sv_H → Option (Unit × sv_H)} (hk116 : ∀ {x0 : Nat} {x1 : Int32} {h : sv_H}, O x0 → sv_ow [1400, 1407, 1415, 1416, 1417, 1705] [1401, 1402, 1403, 1404, 1405, 1406, 1408, 1409, 1410, 1411, 1412, 1413, 1700, 1701, 1702, 1703, 1704] O h0 h → sv_fr (sv_ow [1400, 1407, 1415, 1416, 1417, 1705] [1401, 1402, 1403, 1404, 1405, 1406, 1408, 1409, 1410, 1411, 1412, 1413, 1700, 1701, 1702, 1703, 1704] O) h0 (k116 x0 x1 h)) {x0 : Nat} {x1 : Int32} {s0 : Int32} {h : sv_H} (ox0 : O x0) (hs : sv_ow [1400, 1407, 1415, 1416, 1417, 1705] [1401, 1402, 1403, 1404, 1405, 1406, 1408, 1409, 1410, 1411, 1412, 1413, 1700, 1701, 1702, 1703, 1704] O h0 h) : sv_fr (sv_ow [1400, 1407, 1415, 1416, 1417, 1705] [1401, 1402, 1403, 1404, 1405, 1406, 1408, 1409, 1410, 1411, 1412, 1413, 1700, 1701, 1702, 1703, 1704] O) h0 (fn_X17_furnish_172 k116 x0 x1 s0 h) := by
  unfold fn_X17_furnish_172
  refine fr_be (fun v1 e => ?_)
  have ov1 := ow_gO oc hs ox0 e
  clear e
  refine fr_be (fun v2 e => ?_)
  have ov2 := ow_gR hs ov1 e
  clear e
  refine fr_be (fun v3 e => ?_)
  have ov3 := ow_gO oc hs ox0 e
  clear e
  refine fr_be (fun v4 e => ?_)
  have ov4 := ow_gO oc hs ox0 e
  clear e
  refine fr_cl (fun _ _ e => (by rw [ro_X14_wall e]; exact hs)) (fun _ h hs => ?_)
  refine fr_cl (fun _ _ e => (by rw [ro_X14_vertex e]; exact hs)) (fun _ h hs => ?_)
  refine fr_st (fun _ e => ow_sI hs ov2 (by decide) e) (fun h hs => ?_)
  refine fr_be (fun v10 e => ?_)
  have ov10 := ow_gO oc hs ox0 e
  clear e
  refine fr_be (fun v11 e => ?_)
  have ov11 := ow_gR hs ov10 e
  clear e
  refine fr_be (fun v12 e => ?_)
  have ov12 := ow_gO oc hs ox0 e
  clear e
  refine fr_be (fun v13 e => ?_)
  have ov13 := ow_gO oc hs ox0 e
  clear e
  refine fr_cl (fun _ _ e => (by rw [ro_X14_wall e]; exact hs)) (fun _ h hs => ?_)
  refine fr_cl (fun _ _ e => (by rw [ro_X14_vertex e]; exact hs)) (fun _ h hs => ?_)
  refine fr_st (fun _ e => ow_sI hs ov11 (by decide) e) (fun h hs => ?_)
  refine fr_be (fun v19 e => ?_)
  have ov19 := ow_gO oc hs ox0 e
  clear e
  refine fr_be (fun v20 e => ?_)
  have ov20 := ow_gR hs ov19 e
  clear e
  refine fr_be (fun v21 e => ?_)
  have ov21 := ow_gO oc hs ox0 e
  clear e
  refine fr_be (fun v22 e => ?_)
  have ov22 := ow_gO oc hs ox0 e
  clear e
  refine fr_cl (fun _ _ e => (by rw [ro_X14_wall e]; exact hs)) (fun _ h hs => ?_)
  refine fr_cl (fun _ _ e => (by rw [ro_X14_vertex e]; exact hs)) (fun _ h hs => ?_)
  refine fr_st (fun _ e => ow_sI hs ov20 (by decide) e) (fun h hs => ?_)
  refine fr_be (fun v28 e => ?_)
  have ov28 := ow_gO oc hs ox0 e
  clear e
  refine fr_be (fun v29 e => ?_)
  have ov29 := ow_gR hs ov28 e
  clear e
  refine fr_be (fun v30 e => ?_)
  have ov30 := ow_gO oc hs ox0 e
  clear e
  refine fr_be (fun v31 e => ?_)
  have ov31 := ow_gO oc hs ox0 e
  clear e
  refine fr_cl (fun _ _ e => (by rw [ro_X14_wall e]; exact hs)) (fun _ h hs => ?_)
  refine fr_cl (fun _ _ e => (by rw [ro_X14_vertex e]; exact hs)) (fun _ h hs => ?_)
  refine fr_st (fun _ e => ow_sI hs ov29 (by decide) e) (fun h hs => ?_)
  exact hk116 ox0 hs
theorem ow_X17_furnish_171 {O : Nat → Prop} {h0 : sv_H} (oc : sv_cl O h0) {k116 : Nat → Int32 → sv_H → Option (Unit × sv_H)} (hk116 : ∀ {x0 : Nat} {x1 : Int32} {h : sv_H}, O x0 → sv_ow [1400, 1407, 1415, 1416, 1417, 1705] [1401, 1402, 1403, 1404, 1405, 1406, 1408, 1409, 1410, 1411, 1412, 1413, 1700, 1701, 1702, 1703, 1704] O h0 h → sv_fr (sv_ow [1400, 1407, 1415, 1416, 1417, 1705] [1401, 1402, 1403, 1404, 1405, 1406, 1408, 1409, 1410, 1411, 1412, 1413, 1700, 1701, 1702, 1703, 1704] O) h0 (k116 x0 x1 h)) {x0 : Nat} {x1 : Int32} {h : sv_H} (ox0 : O x0) (hs : sv_ow [1400, 1407, 1415, 1416, 1417, 1705] [1401, 1402, 1403, 1404, 1405, 1406, 1408, 1409, 1410, 1411, 1412, 1413, 1700, 1701, 1702, 1703, 1704] O h0 h) : sv_fr (sv_ow [1400, 1407, 1415, 1416, 1417, 1705] [1401, 1402, 1403, 1404, 1405, 1406, 1408, 1409, 1410, 1411, 1412, 1413, 1700, 1701, 1702, 1703, 1704] O) h0 (fn_X17_furnish_171 k116 x0 x1 h) := by
  unfold fn_X17_furnish_171
  exact ow_X17_furnish_172 oc hk116 ox0 hs
theorem ow_X17_furnish_116b {O : Nat → Prop} {h0 : sv_H} (oc : sv_cl O h0) {k116 : Nat → Int32 → sv_H → Option (Unit × sv_H)} (hk116 : ∀ {x0 : Nat} {x1 : Int32} {h : sv_H}, O x0 → sv_ow [1400, 1407, 1415, 1416, 1417, 1705] [1401, 1402, 1403, 1404, 1405, 1406, 1408, 1409, 1410, 1411, 1412, 1413, 1700, 1701, 1702, 1703, 1704] O h0 h → sv_fr (sv_ow [1400, 1407, 1415, 1416, 1417, 1705] [1401, 1402, 1403, 1404, 1405, 1406, 1408, 1409, 1410, 1411, 1412, 1413, 1700, 1701, 1702, 1703, 1704] O) h0 (k116 x0 x1 h)) {x0 : Nat} {x1 : Int32} {h : sv_H} (ox0 : O x0) (hs : sv_ow [1400, 1407, 1415, 1416, 1417, 1705] [1401, 1402, 1403, 1404, 1405, 1406, 1408, 1409, 1410, 1411, 1412, 1413, 1700, 1701, 1702, 1703, 1704] O h0 h) : sv_fr (sv_ow [1400, 1407, 1415, 1416, 1417, 1705] [1401, 1402, 1403, 1404, 1405, 1406, 1408, 1409, 1410, 1411, 1412, 1413, 1700, 1701, 1702, 1703, 1704] O) h0 (fn_X17_furnish_116b k116 x0 x1 h) := by
  unfold fn_X17_furnish_116b
  refine fr_cl (fun _ _ e => (by rw [ro_X17_walls e]; exact hs)) (fun _ h hs => ?_)
  refine fr_if ?_ ?_
  · refine fr_be (fun v3 e => ?_)
    have ov3 := ow_gO oc hs ox0 e
    clear e
    refine fr_st (fun _ e => ow_pZ hs (by decide) ov3 e) (fun h hs => ?_)
    exact fr_rt hs
  · refine fr_be (fun v5 e => ?_)
    have ov5 := ow_gO oc hs ox0 e
    clear e
    refine fr_cl (fun _ _ e => (by rw [ro_X14_wall e]; exact hs)) (fun _ h hs => ?_)
    refine fr_if ?_ ?_
    · exact ow_X17_furnish_171 oc hk116 ox0 hs
    · refine fr_be (fun v8 e => ?_)
      have ov8 := ow_gO oc hs ox0 e
      clear e
      refine fr_be (fun v9 e => ?_)
      have ov9 := ow_gO oc hs ox0 e
      clear e
      refine fr_cl (fun _ _ e => (by rw [ro_X14_wall e]; exact hs)) (fun _ h hs => ?_)
      refine fr_be (fun v12 e => ?_)
      have ov12 := ow_gO oc hs ox0 e
      clear e
      refine fr_cl (fun _ _ e => (by rw [ro_X14_wall e]; exact hs)) (fun _ h hs => ?_)
      refine fr_cl (fun _ _ e => (hs.trans ((ow_X13_join (oc.of hs) ov8 e).weak (by decide) (by decide)))) (fun _ h hs => ?_)
      refine fr_if ?_ ?_
      · exact ow_X17_furnish_171 oc hk116 ox0 hs
      · exact ow_X17_furnish_172 oc hk116 ox0 hs
theorem ow_X17_furnish_116 {O : Nat → Prop} {h0 : sv_H} (oc : sv_cl O h0) : ∀ (n : Nat) {x0 : Nat} {x1 : Int32} {h : sv_H}, O x0 → sv_ow [1400, 1407, 1415, 1416, 1417, 1705] [1401, 1402, 1403, 1404, 1405, 1406, 1408, 1409, 1410, 1411, 1412, 1413, 1700, 1701, 1702, 1703, 1704] O h0 h → sv_fr (sv_ow [1400, 1407, 1415, 1416, 1417, 1705] [1401, 1402, 1403, 1404, 1405, 1406, 1408, 1409, 1410, 1411, 1412, 1413, 1700, 1701, 1702, 1703, 1704] O) h0 (fn_X17_furnish_116 n x0 x1 h) := by
  intro n
  induction n with
  | zero => intro x0 x1 h ox0 hs r hE e; cases (show (none : Option (Unit × sv_H)) = some (r, hE) from e)
  | succ n ih => intro x0 x1 h ox0 hs; exact ow_X17_furnish_116b oc (fun ox0 hs => ih ox0 hs) ox0 hs
theorem ow_X17_furnish_107 {O : Nat → Prop} {h0 : sv_H} (oc : sv_cl O h0) {k79 : Nat → Int32 → sv_H → Option (Unit × sv_H)} (hk79 : ∀ {x0 : Nat} {x1 : Int32} {h : sv_H}, O x0 → sv_ow [1400, 1407, 1415, 1416, 1417, 1705] [1401, 1402, 1403, 1404, 1405, 1406, 1408, 1409, 1410, 1411, 1412, 1413, 1700, 1701, 1702, 1703, 1704] O h0 h → sv_fr (sv_ow [1400, 1407, 1415, 1416, 1417, 1705] [1401, 1402, 1403, 1404, 1405, 1406, 1408, 1409, 1410, 1411, 1412, 1413, 1700, 1701, 1702, 1703, 1704] O) h0 (k79 x0 x1 h)) {x0 : Nat} {x1 : Int32} {s0 : Nat} {s1 : Int32} {s2 : Int32} {h : sv_H} (ox0 : O x0) (os0 : sv_rl 1700 O h0 s0) (hs : sv_ow [1400, 1407, 1415, 1416, 1417, 1705] [1401, 1402, 1403, 1404, 1405, 1406, 1408, 1409, 1410, 1411, 1412, 1413, 1700, 1701, 1702, 1703, 1704] O h0 h) : sv_fr (sv_ow [1400, 1407, 1415, 1416, 1417, 1705] [1401, 1402, 1403, 1404, 1405, 1406, 1408, 1409, 1410, 1411, 1412, 1413, 1700, 1701, 1702, 1703, 1704] O) h0 (fn_X17_furnish_107 k79 x0 x1 s0 s1 s2 h) := by
  unfold fn_X17_furnish_107
  refine fr_st (fun _ e => ow_sZ hs os0 (by decide) e) (fun h hs => ?_)
  exact hk79 ox0 hs
theorem ow_X17_furnish_79b {O : Nat → Prop} {h0 : sv_H} (oc : sv_cl O h0) {k79 : Nat → Int32 → sv_H → Option (Unit × sv_H)} (hk79 : ∀ {x0 : Nat} {x1 : Int32} {h : sv_H}, O x0 → sv_ow [1400, 1407, 1415, 1416, 1417, 1705] [1401, 1402, 1403, 1404, 1405, 1406, 1408, 1409, 1410, 1411, 1412, 1413, 1700, 1701, 1702, 1703, 1704] O h0 h → sv_fr (sv_ow [1400, 1407, 1415, 1416, 1417, 1705] [1401, 1402, 1403, 1404, 1405, 1406, 1408, 1409, 1410, 1411, 1412, 1413, 1700, 1701, 1702, 1703, 1704] O) h0 (k79 x0 x1 h)) {x0 : Nat} {x1 : Int32} {h : sv_H} (ox0 : O x0) (hs : sv_ow [1400, 1407, 1415, 1416, 1417, 1705] [1401, 1402, 1403, 1404, 1405, 1406, 1408, 1409, 1410, 1411, 1412, 1413, 1700, 1701, 1702, 1703, 1704] O h0 h) : sv_fr (sv_ow [1400, 1407, 1415, 1416, 1417, 1705] [1401, 1402, 1403, 1404, 1405, 1406, 1408, 1409, 1410, 1411, 1412, 1413, 1700, 1701, 1702, 1703, 1704] O) h0 (fn_X17_furnish_79b k79 x0 x1 h) := by
  unfold fn_X17_furnish_79b
  refine fr_if ?_ ?_
  · exact ow_X17_furnish_116 oc sv_fuel ox0 hs
  · refine fr_be (fun v1 e => ?_)
    have ov1 := ow_gO oc hs ox0 e
    clear e
    refine fr_be (fun v2 e => ?_)
    have ov2 := ow_gR hs ov1 e
    clear e
    refine fr_cl (fun _ _ e => (by rw [ro_X17_walls e]; exact hs)) (fun _ h hs => ?_)
    refine fr_if ?_ ?_
    · exact ow_X17_furnish_107 oc hk79 ox0 ov2 hs
    · exact ow_X17_furnish_107 oc hk79 ox0 ov2 hs
theorem ow_X17_furnish_79 {O : Nat → Prop} {h0 : sv_H} (oc : sv_cl O h0) : ∀ (n : Nat) {x0 : Nat} {x1 : Int32} {h : sv_H}, O x0 → sv_ow [1400, 1407, 1415, 1416, 1417, 1705] [1401, 1402, 1403, 1404, 1405, 1406, 1408, 1409, 1410, 1411, 1412, 1413, 1700, 1701, 1702, 1703, 1704] O h0 h → sv_fr (sv_ow [1400, 1407, 1415, 1416, 1417, 1705] [1401, 1402, 1403, 1404, 1405, 1406, 1408, 1409, 1410, 1411, 1412, 1413, 1700, 1701, 1702, 1703, 1704] O) h0 (fn_X17_furnish_79 n x0 x1 h) := by
  intro n
  induction n with
  | zero => intro x0 x1 h ox0 hs r hE e; cases (show (none : Option (Unit × sv_H)) = some (r, hE) from e)
  | succ n ih => intro x0 x1 h ox0 hs; exact ow_X17_furnish_79b oc (fun ox0 hs => ih ox0 hs) ox0 hs
theorem ow_X17_furnish_9b {O : Nat → Prop} {h0 : sv_H} (oc : sv_cl O h0) {k9 : Nat → Int32 → sv_H → Option (Unit × sv_H)} (hk9 : ∀ {x0 : Nat} {x1 : Int32} {h : sv_H}, O x0 → sv_ow [1400, 1407, 1415, 1416, 1417, 1705] [1401, 1402, 1403, 1404, 1405, 1406, 1408, 1409, 1410, 1411, 1412, 1413, 1700, 1701, 1702, 1703, 1704] O h0 h → sv_fr (sv_ow [1400, 1407, 1415, 1416, 1417, 1705] [1401, 1402, 1403, 1404, 1405, 1406, 1408, 1409, 1410, 1411, 1412, 1413, 1700, 1701, 1702, 1703, 1704] O) h0 (k9 x0 x1 h)) {x0 : Nat} {x1 : Int32} {h : sv_H} (ox0 : O x0) (hs : sv_ow [1400, 1407, 1415, 1416, 1417, 1705] [1401, 1402, 1403, 1404, 1405, 1406, 1408, 1409, 1410, 1411, 1412, 1413, 1700, 1701, 1702, 1703, 1704] O h0 h) : sv_fr (sv_ow [1400, 1407, 1415, 1416, 1417, 1705] [1401, 1402, 1403, 1404, 1405, 1406, 1408, 1409, 1410, 1411, 1412, 1413, 1700, 1701, 1702, 1703, 1704] O) h0 (fn_X17_furnish_9b k9 x0 x1 h) := by
  unfold fn_X17_furnish_9b
  refine fr_cl (fun _ _ e => (by rw [ro_X17_sectors e]; exact hs)) (fun _ h hs => ?_)
  refine fr_if ?_ ?_
  · exact ow_X17_furnish_79 oc sv_fuel ox0 hs
  · refine fr_be (fun v3 e => ?_)
    have ov3 := ow_gO oc hs ox0 e
    clear e
    refine fr_be (fun v4 e => ?_)
    have ov4 := ow_gO oc hs ox0 e
    clear e
    refine fr_cl (fun _ _ e => (by rw [ro_X14_sector e]; exact hs)) (fun _ h hs => ?_)
    refine fr_be (fun v7 e => ?_)
    have ov7 := ow_gO oc hs ox0 e
    clear e
    refine fr_cl (fun _ _ e => (by rw [ro_X14_sector e]; exact hs)) (fun _ h hs => ?_)
    refine fr_be (fun v10 e => ?_)
    have ov10 := ow_gO oc hs ox0 e
    clear e
    refine fr_cl (fun _ _ e => (by rw [ro_X14_sector e]; exact hs)) (fun _ h hs => ?_)
    refine fr_be (fun v13 e => ?_)
    have ov13 := ow_gO oc hs ox0 e
    clear e
    refine fr_cl (fun _ _ e => (by rw [ro_X14_sector e]; exact hs)) (fun _ h hs => ?_)
    refine fr_be (fun v16 e => ?_)
    have ov16 := ow_gO oc hs ox0 e
    clear e
    refine fr_cl (fun _ _ e => (by rw [ro_X14_sector e]; exact hs)) (fun _ h hs => ?_)
    refine fr_cl (fun _ _ e => (hs.trans ((ow_X13_sector (oc.of hs) ov3 e).weak (by decide) (by decide)))) (fun _ h hs => ?_)
    exact hk9 ox0 hs
theorem ow_X17_furnish_9 {O : Nat → Prop} {h0 : sv_H} (oc : sv_cl O h0) : ∀ (n : Nat) {x0 : Nat} {x1 : Int32} {h : sv_H}, O x0 → sv_ow [1400, 1407, 1415, 1416, 1417, 1705] [1401, 1402, 1403, 1404, 1405, 1406, 1408, 1409, 1410, 1411, 1412, 1413, 1700, 1701, 1702, 1703, 1704] O h0 h → sv_fr (sv_ow [1400, 1407, 1415, 1416, 1417, 1705] [1401, 1402, 1403, 1404, 1405, 1406, 1408, 1409, 1410, 1411, 1412, 1413, 1700, 1701, 1702, 1703, 1704] O) h0 (fn_X17_furnish_9 n x0 x1 h) := by
  intro n
  induction n with
  | zero => intro x0 x1 h ox0 hs r hE e; cases (show (none : Option (Unit × sv_H)) = some (r, hE) from e)
  | succ n ih => intro x0 x1 h ox0 hs; exact ow_X17_furnish_9b oc (fun ox0 hs => ih ox0 hs) ox0 hs
theorem ow_X17_furnish_0 {O : Nat → Prop} {h0 : sv_H} (oc : sv_cl O h0) {x0 : Nat} {h : sv_H} (ox0 : O x0) (hs : sv_ow [1400, 1407, 1415, 1416, 1417, 1705] [1401, 1402, 1403, 1404, 1405, 1406, 1408, 1409, 1410, 1411, 1412, 1413, 1700, 1701, 1702, 1703, 1704] O h0 h) : sv_fr (sv_ow [1400, 1407, 1415, 1416, 1417, 1705] [1401, 1402, 1403, 1404, 1405, 1406, 1408, 1409, 1410, 1411, 1412, 1413, 1700, 1701, 1702, 1703, 1704] O) h0 (fn_X17_furnish x0 h) := by
  unfold fn_X17_furnish
  refine fr_if ?_ fr_no
  refine fr_be (fun v1 e => ?_)
  have ov1 := ow_gO oc hs ox0 e
  clear e
  refine fr_cl (fun _ _ e => (hs.trans ((ow_X13_clear (oc.of hs) ov1 e).weak (by decide) (by decide)))) (fun _ h hs => ?_)
  exact ow_X17_furnish_9 oc sv_fuel ox0 hs
theorem ow_X17_furnish {O : Nat → Prop} {x0 : Nat} {h : sv_H} {r : Unit} {hE : sv_H} (oc : sv_cl O h) (ox0 : O x0) (hw : fn_X17_furnish x0 h = some (r, hE)) : sv_ow [1400, 1407, 1415, 1416, 1417, 1705] [1401, 1402, 1403, 1404, 1405, 1406, 1408, 1409, 1410, 1411, 1412, 1413, 1700, 1701, 1702, 1703, 1704] O h hE := ow_X17_furnish_0 oc ox0 (sv_ow.refl h) r hE hw

theorem ow_X17_begin_0 {O : Nat → Prop} {h0 : sv_H} (oc : sv_cl O h0) {x0 : Nat} {h : sv_H} (ox0 : O x0) (hs : sv_ow [1415, 1416, 1417, 1811, 1812, 1813, 1814] [1408, 1409, 1410, 1411, 1412, 1413] O h0 h) : sv_fr (sv_ow [1415, 1416, 1417, 1811, 1812, 1813, 1814] [1408, 1409, 1410, 1411, 1412, 1413] O) h0 (fn_X17_begin x0 h) := by
  unfold fn_X17_begin
  refine fr_if ?_ fr_no
  refine fr_be (fun v1 e => ?_)
  have ov1 := ow_gO oc hs ox0 e
  clear e
  refine fr_be (fun v2 e => ?_)
  have ov2 := ow_gR hs ov1 e
  clear e
  refine fr_bd (fun _ => ?_)
  refine fr_st (fun _ e => ow_pI hs (by decide) ox0 e) (fun h hs => ?_)
  refine fr_be (fun v5 e => ?_)
  have ov5 := ow_gO oc hs ox0 e
  clear e
  refine fr_be (fun v6 e => ?_)
  have ov6 := ow_gR hs ov5 e
  clear e
  refine fr_bd (fun _ => ?_)
  refine fr_st (fun _ e => ow_pI hs (by decide) ox0 e) (fun h hs => ?_)
  refine fr_be (fun v9 e => ?_)
  have ov9 := ow_gO oc hs ox0 e
  clear e
  refine fr_be (fun v10 e => ?_)
  have ov10 := ow_gR hs ov9 e
  clear e
  refine fr_bd (fun _ => ?_)
  refine fr_st (fun _ e => ow_pI hs (by decide) ox0 e) (fun h hs => ?_)
  refine fr_be (fun v13 e => ?_)
  have ov13 := ow_gO oc hs ox0 e
  clear e
  refine fr_be (fun v14 e => ?_)
  have ov14 := ow_gR hs ov13 e
  clear e
  refine fr_bd (fun _ => ?_)
  refine fr_st (fun _ e => ow_pI hs (by decide) ox0 e) (fun h hs => ?_)
  refine fr_be (fun v17 e => ?_)
  have ov17 := ow_gO oc hs ox0 e
  clear e
  refine fr_cl (fun _ _ e => (hs.trans ((ow_X13_reset (oc.of hs) ov17 e).weak (by decide) (by decide)))) (fun _ h hs => ?_)
  exact fr_rt hs
theorem ow_X17_begin {O : Nat → Prop} {x0 : Nat} {h : sv_H} {r : Unit} {hE : sv_H} (oc : sv_cl O h) (ox0 : O x0) (hw : fn_X17_begin x0 h = some (r, hE)) : sv_ow [1415, 1416, 1417, 1811, 1812, 1813, 1814] [1408, 1409, 1410, 1411, 1412, 1413] O h hE := ow_X17_begin_0 oc ox0 (sv_ow.refl h) r hE hw

theorem ow_X17_loadMap_68b {O : Nat → Prop} {h0 : sv_H} (oc : sv_cl O h0) {k68 : Nat → Int32 → sv_H → Option (Int32 × sv_H)} (hk68 : ∀ {x0 : Nat} {x1 : Int32} {h : sv_H}, O x0 → sv_ow [1400, 1407, 1415, 1416, 1417, 1503, 1504, 1505, 1506, 1507, 1508, 1509, 1605, 1705, 1800, 1807, 1808, 1809, 1810, 1811, 1812, 1813, 1814] [1401, 1402, 1403, 1404, 1405, 1406, 1408, 1409, 1410, 1411, 1412, 1413, 1502, 1600, 1700, 1701, 1702, 1703, 1704] O h0 h → sv_fr (sv_ow [1400, 1407, 1415, 1416, 1417, 1503, 1504, 1505, 1506, 1507, 1508, 1509, 1605, 1705, 1800, 1807, 1808, 1809, 1810, 1811, 1812, 1813, 1814] [1401, 1402, 1403, 1404, 1405, 1406, 1408, 1409, 1410, 1411, 1412, 1413, 1502, 1600, 1700, 1701, 1702, 1703, 1704] O) h0 (k68 x0 x1 h)) {x0 : Nat} {x1 : Int32} {h : sv_H} (ox0 : O x0) (hs : sv_ow [1400, 1407, 1415, 1416, 1417, 1503, 1504, 1505, 1506, 1507, 1508, 1509, 1605, 1705, 1800, 1807, 1808, 1809, 1810, 1811, 1812, 1813, 1814] [1401, 1402, 1403, 1404, 1405, 1406, 1408, 1409, 1410, 1411, 1412, 1413, 1502, 1600, 1700, 1701, 1702, 1703, 1704] O h0 h) : sv_fr (sv_ow [1400, 1407, 1415, 1416, 1417, 1503, 1504, 1505, 1506, 1507, 1508, 1509, 1605, 1705, 1800, 1807, 1808, 1809, 1810, 1811, 1812, 1813, 1814] [1401, 1402, 1403, 1404, 1405, 1406, 1408, 1409, 1410, 1411, 1412, 1413, 1502, 1600, 1700, 1701, 1702, 1703, 1704] O) h0 (fn_X17_loadMap_68b k68 x0 x1 h) := by
  unfold fn_X17_loadMap_68b
  refine fr_if ?_ ?_
  · refine fr_cl (fun _ _ e => (hs.trans ((ow_X17_begin (oc.of hs) ox0 e).weak (by decide) (by decide)))) (fun _ h hs => ?_)
    exact fr_rt hs
  · refine fr_be (fun v2 e => ?_)
    have ov2 := ow_gO oc hs ox0 e
    clear e
    refine fr_be (fun v3 e => ?_)
    have ov3 := ow_gR hs ov2 e
    clear e
    refine fr_be (fun v4 e => ?_)
    have ov4 := ow_gO oc hs ox0 e
    clear e
    refine fr_cl (fun _ _ e => (by rw [ro_X14_start e]; exact hs)) (fun _ h hs => ?_)
    refine fr_st (fun _ e => ow_sI hs ov3 (by decide) e) (fun h hs => ?_)
    exact hk68 ox0 hs
theorem ow_X17_loadMap_68 {O : Nat → Prop} {h0 : sv_H} (oc : sv_cl O h0) : ∀ (n : Nat) {x0 : Nat} {x1 : Int32} {h : sv_H}, O x0 → sv_ow [1400, 1407, 1415, 1416, 1417, 1503, 1504, 1505, 1506, 1507, 1508, 1509, 1605, 1705, 1800, 1807, 1808, 1809, 1810, 1811, 1812, 1813, 1814] [1401, 1402, 1403, 1404, 1405, 1406, 1408, 1409, 1410, 1411, 1412, 1413, 1502, 1600, 1700, 1701, 1702, 1703, 1704] O h0 h → sv_fr (sv_ow [1400, 1407, 1415, 1416, 1417, 1503, 1504, 1505, 1506, 1507, 1508, 1509, 1605, 1705, 1800, 1807, 1808, 1809, 1810, 1811, 1812, 1813, 1814] [1401, 1402, 1403, 1404, 1405, 1406, 1408, 1409, 1410, 1411, 1412, 1413, 1502, 1600, 1700, 1701, 1702, 1703, 1704] O) h0 (fn_X17_loadMap_68 n x0 x1 h) := by
  intro n
  induction n with
  | zero => intro x0 x1 h ox0 hs r hE e; cases (show (none : Option (Int32 × sv_H)) = some (r, hE) from e)
  | succ n ih => intro x0 x1 h ox0 hs; exact ow_X17_loadMap_68b oc (fun ox0 hs => ih ox0 hs) ox0 hs
theorem ow_X17_loadMap_0 {O : Nat → Prop} {h0 : sv_H} (oc : sv_cl O h0) {x0 : Nat} {h : sv_H} (ox0 : O x0) (hs : sv_ow [1400, 1407, 1415, 1416, 1417, 1503, 1504, 1505, 1506, 1507, 1508, 1509, 1605, 1705, 1800, 1807, 1808, 1809, 1810, 1811, 1812, 1813, 1814] [1401, 1402, 1403, 1404, 1405, 1406, 1408, 1409, 1410, 1411, 1412, 1413, 1502, 1600, 1700, 1701, 1702, 1703, 1704] O h0 h) : sv_fr (sv_ow [1400, 1407, 1415, 1416, 1417, 1503, 1504, 1505, 1506, 1507, 1508, 1509, 1605, 1705, 1800, 1807, 1808, 1809, 1810, 1811, 1812, 1813, 1814] [1401, 1402, 1403, 1404, 1405, 1406, 1408, 1409, 1410, 1411, 1412, 1413, 1502, 1600, 1700, 1701, 1702, 1703, 1704] O) h0 (fn_X17_loadMap x0 h) := by
  unfold fn_X17_loadMap
  refine fr_if ?_ fr_no
  refine fr_st (fun _ e => ow_pI hs (by decide) ox0 e) (fun h hs => ?_)
  refine fr_be (fun v2 e => ?_)
  have ov2 := ow_gO oc hs ox0 e
  clear e
  refine fr_cl (fun _ _ e => (hs.trans ((ow_X14_read (oc.of hs) ov2 e).weak (by decide) (by decide)))) (fun _ h hs => ?_)
  refine fr_st (fun _ e => ow_pI hs (by decide) ox0 e) (fun h hs => ?_)
  refine fr_be (fun v6 e => ?_)
  have ov6 := ow_gO oc hs ox0 e
  clear e
  refine fr_bd (fun _ => ?_)
  refine fr_st (fun _ e => ow_pI hs (by decide) ox0 e) (fun h hs => ?_)
  refine fr_bd (fun _ => ?_)
  refine fr_if ?_ ?_
  · refine fr_st (fun _ e => ow_pZ hs (by decide) ox0 e) (fun h hs => ?_)
    refine fr_bd (fun _ => ?_)
    refine fr_st (fun _ e => ow_pI hs (by decide) ox0 e) (fun h hs => ?_)
    refine fr_cl (fun _ _ e => (hs.trans ((ow_X17_furnish (oc.of hs) ox0 e).weak (by decide) (by decide)))) (fun _ h hs => ?_)
    refine fr_be (fun v14 e => ?_)
    have ov14 := ow_gO oc hs ox0 e
    clear e
    refine fr_st (fun _ e => ow_pI hs (by decide) ov14 e) (fun h hs => ?_)
    exact ow_X17_loadMap_68 oc sv_fuel ox0 hs
  · refine fr_bd (fun _ => ?_)
    exact fr_rt hs
theorem ow_X17_loadMap {O : Nat → Prop} {x0 : Nat} {h : sv_H} {r : Int32} {hE : sv_H} (oc : sv_cl O h) (ox0 : O x0) (hw : fn_X17_loadMap x0 h = some (r, hE)) : sv_ow [1400, 1407, 1415, 1416, 1417, 1503, 1504, 1505, 1506, 1507, 1508, 1509, 1605, 1705, 1800, 1807, 1808, 1809, 1810, 1811, 1812, 1813, 1814] [1401, 1402, 1403, 1404, 1405, 1406, 1408, 1409, 1410, 1411, 1412, 1413, 1502, 1600, 1700, 1701, 1702, 1703, 1704] O h hE := ow_X17_loadMap_0 oc ox0 (sv_ow.refl h) r hE hw

theorem ow_X5_readInput_71 {O : Nat → Prop} {h0 : sv_H} (oc : sv_cl O h0) {x2 : Int32} {x4 : Int32} {x5 : Int32} {x6 : Int32} {h : sv_H} (hs : sv_ow [501, 502, 503] [] O h0 h) : sv_fr (sv_ow [501, 502, 503] [] O) h0 (fn_X5_readInput_71 x2 x4 x5 x6 h) := by
  unfold fn_X5_readInput_71
  refine fr_cl (fun _ _ e => (by rw [ro_X5_inputOf e]; exact hs)) (fun _ h hs => ?_)
  exact fr_rt hs
theorem ow_X5_readInput_0 {O : Nat → Prop} {h0 : sv_H} (oc : sv_cl O h0) {x0 : Nat} {x1 : Nat} {x2 : Int32} {x3 : Int32} {h : sv_H} (ox0 : O x0) (ox1 : O x1) (hs : sv_ow [501, 502, 503] [] O h0 h) : sv_fr (sv_ow [501, 502, 503] [] O) h0 (fn_X5_readInput x0 x1 x2 x3 h) := by
  unfold fn_X5_readInput
  refine fr_if ?_ fr_no
  refine fr_cl (fun _ _ e => (hs.trans ((ow_X4_within (oc.of hs) ox1 e).weak (by decide) (by decide)))) (fun _ h hs => ?_)
  refine fr_if ?_ ?_
  · exact ow_X5_readInput_71 oc hs
  · refine fr_cl (fun _ _ e => (hs.trans ((ow_X4_within (oc.of hs) ox1 e).weak (by decide) (by decide)))) (fun _ h hs => ?_)
    refine fr_bd (fun _ => ?_)
    refine fr_cl (fun _ _ e => (hs.trans ((ow_X4_within (oc.of hs) ox1 e).weak (by decide) (by decide)))) (fun _ h hs => ?_)
    refine fr_if ?_ ?_
    · refine fr_if ?_ ?_
      · refine fr_cl (fun _ _ e => (hs.trans ((ow_X4_blame (oc.of hs) ox1 e).weak (by decide) (by decide)))) (fun _ h hs => ?_)
        exact ow_X5_readInput_71 oc hs
      · exact ow_X5_readInput_71 oc hs
    · exact ow_X5_readInput_71 oc hs
theorem ow_X5_readInput {O : Nat → Prop} {x0 : Nat} {x1 : Nat} {x2 : Int32} {x3 : Int32} {h : sv_H} {r : Int32} {hE : sv_H} (oc : sv_cl O h) (ox0 : O x0) (ox1 : O x1) (hw : fn_X5_readInput x0 x1 x2 x3 h = some (r, hE)) : sv_ow [501, 502, 503] [] O h hE := ow_X5_readInput_0 oc ox0 ox1 (sv_ow.refl h) r hE hw

theorem ow_X5_readCheck_24b {O : Nat → Prop} {h0 : sv_H} (oc : sv_cl O h0) {k24 : Nat → Int64 → Int32 → sv_H → Option (Unit × sv_H)} (hk24 : ∀ {x1 : Nat} {x2 : Int64} {x4 : Int32} {h : sv_H}, O x1 → sv_ow [501, 502, 503] [] O h0 h → sv_fr (sv_ow [501, 502, 503] [] O) h0 (k24 x1 x2 x4 h)) {x1 : Nat} {x2 : Int64} {x4 : Int32} {h : sv_H} (ox1 : O x1) (hs : sv_ow [501, 502, 503] [] O h0 h) : sv_fr (sv_ow [501, 502, 503] [] O) h0 (fn_X5_readCheck_24b k24 x1 x2 x4 h) := by
  unfold fn_X5_readCheck_24b
  refine fr_if ?_ ?_
  · exact fr_rt hs
  · refine fr_cl (fun _ _ e => (hs.trans ((ow_X4_expect (oc.of hs) ox1 e).weak (by decide) (by decide)))) (fun _ h hs => ?_)
    exact hk24 ox1 hs
theorem ow_X5_readCheck_24 {O : Nat → Prop} {h0 : sv_H} (oc : sv_cl O h0) : ∀ (n : Nat) {x1 : Nat} {x2 : Int64} {x4 : Int32} {h : sv_H}, O x1 → sv_ow [501, 502, 503] [] O h0 h → sv_fr (sv_ow [501, 502, 503] [] O) h0 (fn_X5_readCheck_24 n x1 x2 x4 h) := by
  intro n
  induction n with
  | zero => intro x1 x2 x4 h ox1 hs r hE e; cases (show (none : Option (Unit × sv_H)) = some (r, hE) from e)
  | succ n ih => intro x1 x2 x4 h ox1 hs; exact ow_X5_readCheck_24b oc (fun ox1 hs => ih ox1 hs) ox1 hs
theorem ow_X5_readCheck_0 {O : Nat → Prop} {h0 : sv_H} (oc : sv_cl O h0) {x0 : Nat} {x1 : Nat} {h : sv_H} (ox0 : O x0) (ox1 : O x1) (hs : sv_ow [501, 502, 503] [] O h0 h) : sv_fr (sv_ow [501, 502, 503] [] O) h0 (fn_X5_readCheck x0 x1 h) := by
  unfold fn_X5_readCheck
  refine fr_if ?_ fr_no
  refine fr_cl (fun _ _ e => (by rw [ro_X4_well e]; exact hs)) (fun _ h hs => ?_)
  refine fr_if ?_ ?_
  · exact fr_rt hs
  · refine fr_be (fun v3 e => ?_)
    have ov3 := ow_gO oc hs ox1 e
    clear e
    refine fr_bd (fun _ => ?_)
    refine fr_cl (fun _ _ e => (by rw [ro_X5_checkOf e]; exact hs)) (fun _ h hs => ?_)
    exact ow_X5_readCheck_24 oc sv_fuel ox1 hs
theorem ow_X5_readCheck {O : Nat → Prop} {x0 : Nat} {x1 : Nat} {h : sv_H} {r : Unit} {hE : sv_H} (oc : sv_cl O h) (ox0 : O x0) (ox1 : O x1) (hw : fn_X5_readCheck x0 x1 h = some (r, hE)) : sv_ow [501, 502, 503] [] O h hE := ow_X5_readCheck_0 oc ox0 ox1 (sv_ow.refl h) r hE hw

theorem ow_X15_wrong_17 {O : Nat → Prop} {h0 : sv_H} (oc : sv_cl O h0) {h : sv_H} (hs : sv_ow [1617, 1618] [] O h0 h) : sv_fr (sv_ow [1617, 1618] [] O) h0 (fn_X15_wrong_17 h) := by
  unfold fn_X15_wrong_17
  exact fr_rt hs
theorem ow_X15_wrong_0 {O : Nat → Prop} {h0 : sv_H} (oc : sv_cl O h0) {x0 : Nat} {x1 : Int32} {x2 : Int32} {h : sv_H} (ox0 : O x0) (hs : sv_ow [1617, 1618] [] O h0 h) : sv_fr (sv_ow [1617, 1618] [] O) h0 (fn_X15_wrong x0 x1 x2 h) := by
  unfold fn_X15_wrong
  refine fr_if ?_ fr_no
  refine fr_bd (fun _ => ?_)
  refine fr_if ?_ ?_
  · refine fr_st (fun _ e => ow_pI hs (by decide) ox0 e) (fun h hs => ?_)
    refine fr_st (fun _ e => ow_pI hs (by decide) ox0 e) (fun h hs => ?_)
    exact ow_X15_wrong_17 oc hs
  · exact ow_X15_wrong_17 oc hs
theorem ow_X15_wrong {O : Nat → Prop} {x0 : Nat} {x1 : Int32} {x2 : Int32} {h : sv_H} {r : Unit} {hE : sv_H} (oc : sv_cl O h) (ox0 : O x0) (hw : fn_X15_wrong x0 x1 x2 h = some (r, hE)) : sv_ow [1617, 1618] [] O h hE := ow_X15_wrong_0 oc ox0 (sv_ow.refl h) r hE hw

theorem ow_X15_sum_0 {O : Nat → Prop} {h0 : sv_H} (oc : sv_cl O h0) {x0 : Nat} {x1 : Int32} {h : sv_H} (ox0 : O x0) (hs : sv_ow [1619, 1620] [] O h0 h) : sv_fr (sv_ow [1619, 1620] [] O) h0 (fn_X15_sum x0 x1 h) := by
  unfold fn_X15_sum
  refine fr_if ?_ fr_no
  refine fr_bd (fun _ => ?_)
  refine fr_st (fun _ e => ow_pI hs (by decide) ox0 e) (fun h hs => ?_)
  refine fr_bd (fun _ => ?_)
  refine fr_bd (fun _ => ?_)
  refine fr_st (fun _ e => ow_pI hs (by decide) ox0 e) (fun h hs => ?_)
  exact fr_rt hs
theorem ow_X15_sum {O : Nat → Prop} {x0 : Nat} {x1 : Int32} {h : sv_H} {r : Unit} {hE : sv_H} (oc : sv_cl O h) (ox0 : O x0) (hw : fn_X15_sum x0 x1 h = some (r, hE)) : sv_ow [1619, 1620] [] O h hE := ow_X15_sum_0 oc ox0 (sv_ow.refl h) r hE hw

theorem ow_X15_next_27 {O : Nat → Prop} {h0 : sv_H} (oc : sv_cl O h0) {x0 : Nat} {h : sv_H} (ox0 : O x0) (hs : sv_ow [1616, 1617, 1618, 1619, 1620] [] O h0 h) : sv_fr (sv_ow [1616, 1617, 1618, 1619, 1620] [] O) h0 (fn_X15_next_27 x0 h) := by
  unfold fn_X15_next_27
  refine fr_bd (fun _ => ?_)
  refine fr_if ?_ ?_
  · refine fr_be (fun v2 e => ?_)
    have ov2 := ow_gR hs ox0 e
    clear e
    refine fr_bd (fun _ => ?_)
    refine fr_bd (fun _ => ?_)
    refine fr_bd (fun _ => ?_)
    refine fr_st (fun _ e => ow_pI hs (by decide) ox0 e) (fun h hs => ?_)
    refine fr_cl (fun _ _ e => (hs.trans ((ow_X15_sum (oc.of hs) ox0 e).weak (by decide) (by decide)))) (fun _ h hs => ?_)
    exact fr_rt hs
  · exact fr_rt hs
theorem ow_X15_next_0 {O : Nat → Prop} {h0 : sv_H} (oc : sv_cl O h0) {x0 : Nat} {h : sv_H} (ox0 : O x0) (hs : sv_ow [1616, 1617, 1618, 1619, 1620] [] O h0 h) : sv_fr (sv_ow [1616, 1617, 1618, 1619, 1620] [] O) h0 (fn_X15_next x0 h) := by
  unfold fn_X15_next
  refine fr_if ?_ fr_no
  refine fr_bd (fun _ => ?_)
  refine fr_if ?_ ?_
  · refine fr_bd (fun _ => ?_)
    refine fr_bd (fun _ => ?_)
    refine fr_if ?_ ?_
    · refine fr_bd (fun _ => ?_)
      refine fr_cl (fun _ _ e => (hs.trans ((ow_X15_wrong (oc.of hs) ox0 e).weak (by decide) (by decide)))) (fun _ h hs => ?_)
      exact ow_X15_next_27 oc ox0 hs
    · exact ow_X15_next_27 oc ox0 hs
  · exact ow_X15_next_27 oc ox0 hs
theorem ow_X15_next {O : Nat → Prop} {x0 : Nat} {h : sv_H} {r : Int32} {hE : sv_H} (oc : sv_cl O h) (ox0 : O x0) (hw : fn_X15_next x0 h = some (r, hE)) : sv_ow [1616, 1617, 1618, 1619, 1620] [] O h hE := ow_X15_next_0 oc ox0 (sv_ow.refl h) r hE hw

theorem ow_X15_nextTwo_31 {O : Nat → Prop} {h0 : sv_H} (oc : sv_cl O h0) {s0 : Int32} {h : sv_H} (hs : sv_ow [1616, 1617, 1618, 1619, 1620] [] O h0 h) : sv_fr (sv_ow [1616, 1617, 1618, 1619, 1620] [] O) h0 (fn_X15_nextTwo_31 s0 h) := by
  unfold fn_X15_nextTwo_31
  exact fr_rt hs
theorem ow_X15_nextTwo_0 {O : Nat → Prop} {h0 : sv_H} (oc : sv_cl O h0) {x0 : Nat} {h : sv_H} (ox0 : O x0) (hs : sv_ow [1616, 1617, 1618, 1619, 1620] [] O h0 h) : sv_fr (sv_ow [1616, 1617, 1618, 1619, 1620] [] O) h0 (fn_X15_nextTwo x0 h) := by
  unfold fn_X15_nextTwo
  refine fr_if ?_ fr_no
  refine fr_cl (fun _ _ e => (hs.trans ((ow_X15_next (oc.of hs) ox0 e).weak (by decide) (by decide)))) (fun _ h hs => ?_)
  refine fr_cl (fun _ _ e => (hs.trans ((ow_X15_next (oc.of hs) ox0 e).weak (by decide) (by decide)))) (fun _ h hs => ?_)
  refine fr_if ?_ ?_
  · exact ow_X15_nextTwo_31 oc hs
  · exact ow_X15_nextTwo_31 oc hs
theorem ow_X15_nextTwo {O : Nat → Prop} {x0 : Nat} {h : sv_H} {r : Int32} {hE : sv_H} (oc : sv_cl O h) (ox0 : O x0) (hw : fn_X15_nextTwo x0 h = some (r, hE)) : sv_ow [1616, 1617, 1618, 1619, 1620] [] O h hE := ow_X15_nextTwo_0 oc ox0 (sv_ow.refl h) r hE hw

theorem ow_X15_nextUpTo_28 {O : Nat → Prop} {h0 : sv_H} (oc : sv_cl O h0) {x2 : Int32} {x3 : Int32} {h : sv_H} (hs : sv_ow [1616, 1617, 1618, 1619, 1620] [] O h0 h) : sv_fr (sv_ow [1616, 1617, 1618, 1619, 1620] [] O) h0 (fn_X15_nextUpTo_28 x2 x3 h) := by
  unfold fn_X15_nextUpTo_28
  exact fr_rt hs
theorem ow_X15_nextUpTo_0 {O : Nat → Prop} {h0 : sv_H} (oc : sv_cl O h0) {x0 : Nat} {x1 : Int32} {x2 : Int32} {h : sv_H} (ox0 : O x0) (hs : sv_ow [1616, 1617, 1618, 1619, 1620] [] O h0 h) : sv_fr (sv_ow [1616, 1617, 1618, 1619, 1620] [] O) h0 (fn_X15_nextUpTo x0 x1 x2 h) := by
  unfold fn_X15_nextUpTo
  refine fr_if ?_ fr_no
  refine fr_cl (fun _ _ e => (hs.trans ((ow_X15_next (oc.of hs) ox0 e).weak (by decide) (by decide)))) (fun _ h hs => ?_)
  refine fr_bd (fun _ => ?_)
  refine fr_if ?_ ?_
  · refine fr_if ?_ ?_
    · exact ow_X15_nextUpTo_28 oc hs
    · refine fr_bd (fun _ => ?_)
      refine fr_cl (fun _ _ e => (hs.trans ((ow_X15_wrong (oc.of hs) ox0 e).weak (by decide) (by decide)))) (fun _ h hs => ?_)
      exact ow_X15_nextUpTo_28 oc hs
  · exact ow_X15_nextUpTo_28 oc hs
theorem ow_X15_nextUpTo {O : Nat → Prop} {x0 : Nat} {x1 : Int32} {x2 : Int32} {h : sv_H} {r : Int32} {hE : sv_H} (oc : sv_cl O h) (ox0 : O x0) (hw : fn_X15_nextUpTo x0 x1 x2 h = some (r, hE)) : sv_ow [1616, 1617, 1618, 1619, 1620] [] O h hE := ow_X15_nextUpTo_0 oc ox0 (sv_ow.refl h) r hE hw

theorem ow_X15_readGroup_303 {O : Nat → Prop} {h0 : sv_H} (oc : sv_cl O h0) {h : sv_H} (hs : sv_ow [1615, 1616, 1617, 1618, 1619, 1620] [1611, 1612, 1613, 1614] O h0 h) : sv_fr (sv_ow [1615, 1616, 1617, 1618, 1619, 1620] [1611, 1612, 1613, 1614] O) h0 (fn_X15_readGroup_303 h) := by
  unfold fn_X15_readGroup_303
  exact fr_rt hs
theorem ow_X15_readGroup_229b {O : Nat → Prop} {h0 : sv_H} (oc : sv_cl O h0) {k229 : Nat → Int32 → Int32 → Int32 → Int32 → Int32 → Int32 → sv_H → Option (Unit × sv_H)} (hk229 : ∀ {x0 : Nat} {x4 : Int32} {x5 : Int32} {x6 : Int32} {x7 : Int32} {x8 : Int32} {x11 : Int32} {h : sv_H}, O x0 → sv_ow [1615, 1616, 1617, 1618, 1619, 1620] [1611, 1612, 1613, 1614] O h0 h → sv_fr (sv_ow [1615, 1616, 1617, 1618, 1619, 1620] [1611, 1612, 1613, 1614] O) h0 (k229 x0 x4 x5 x6 x7 x8 x11 h)) {x0 : Nat} {x4 : Int32} {x5 : Int32} {x6 : Int32} {x7 : Int32} {x8 : Int32} {x11 : Int32} {h : sv_H} (ox0 : O x0) (hs : sv_ow [1615, 1616, 1617, 1618, 1619, 1620] [1611, 1612, 1613, 1614] O h0 h) : sv_fr (sv_ow [1615, 1616, 1617, 1618, 1619, 1620] [1611, 1612, 1613, 1614] O) h0 (fn_X15_readGroup_229b k229 x0 x4 x5 x6 x7 x8 x11 h) := by
  unfold fn_X15_readGroup_229b
  refine fr_if ?_ ?_
  · exact ow_X15_readGroup_303 oc hs
  · refine fr_bd (fun _ => ?_)
    refine fr_if ?_ ?_
    · refine fr_be (fun v2 e => ?_)
      have ov2 := ow_gR hs ox0 e
      clear e
      refine fr_bd (fun _ => ?_)
      refine fr_st (fun _ e => ow_sI hs ov2 (by decide) e) (fun h hs => ?_)
      refine fr_be (fun v5 e => ?_)
      have ov5 := ow_gR hs ox0 e
      clear e
      refine fr_bd (fun _ => ?_)
      refine fr_st (fun _ e => ow_sI hs ov5 (by decide) e) (fun h hs => ?_)
      refine fr_be (fun v8 e => ?_)
      have ov8 := ow_gR hs ox0 e
      clear e
      refine fr_bd (fun _ => ?_)
      refine fr_st (fun _ e => ow_sI hs ov8 (by decide) e) (fun h hs => ?_)
      refine fr_be (fun v11 e => ?_)
      have ov11 := ow_gR hs ox0 e
      clear e
      refine fr_bd (fun _ => ?_)
      refine fr_st (fun _ e => ow_sZ hs ov11 (by decide) e) (fun h hs => ?_)
      refine fr_bd (fun _ => ?_)
      refine fr_st (fun _ e => ow_pI hs (by decide) ox0 e) (fun h hs => ?_)
      exact hk229 ox0 hs
    · exact ow_X15_readGroup_303 oc hs
theorem ow_X15_readGroup_229 {O : Nat → Prop} {h0 : sv_H} (oc : sv_cl O h0) : ∀ (n : Nat) {x0 : Nat} {x4 : Int32} {x5 : Int32} {x6 : Int32} {x7 : Int32} {x8 : Int32} {x11 : Int32} {h : sv_H}, O x0 → sv_ow [1615, 1616, 1617, 1618, 1619, 1620] [1611, 1612, 1613, 1614] O h0 h → sv_fr (sv_ow [1615, 1616, 1617, 1618, 1619, 1620] [1611, 1612, 1613, 1614] O) h0 (fn_X15_readGroup_229 n x0 x4 x5 x6 x7 x8 x11 h) := by
  intro n
  induction n with
  | zero => intro x0 x4 x5 x6 x7 x8 x11 h ox0 hs r hE e; cases (show (none : Option (Unit × sv_H)) = some (r, hE) from e)
  | succ n ih => intro x0 x4 x5 x6 x7 x8 x11 h ox0 hs; exact ow_X15_readGroup_229b oc (fun ox0 hs => ih ox0 hs) ox0 hs
theorem ow_X15_readGroup_226 {O : Nat → Prop} {h0 : sv_H} (oc : sv_cl O h0) {x0 : Nat} {x4 : Int32} {x5 : Int32} {x6 : Int32} {x7 : Int32} {x8 : Int32} {h : sv_H} (ox0 : O x0) (hs : sv_ow [1615, 1616, 1617, 1618, 1619, 1620] [1611, 1612, 1613, 1614] O h0 h) : sv_fr (sv_ow [1615, 1616, 1617, 1618, 1619, 1620] [1611, 1612, 1613, 1614] O) h0 (fn_X15_readGroup_226 x0 x4 x5 x6 x7 x8 h) := by
  unfold fn_X15_readGroup_226
  exact ow_X15_readGroup_229 oc sv_fuel ox0 hs
theorem ow_X15_readGroup_213 {O : Nat → Prop} {h0 : sv_H} (oc : sv_cl O h0) {x0 : Nat} {x3 : Int32} {x4 : Int32} {x5 : Int32} {x6 : Int32} {x7 : Int32} {x8 : Int32} {s0 : Int32} {h : sv_H} (ox0 : O x0) (hs : sv_ow [1615, 1616, 1617, 1618, 1619, 1620] [1611, 1612, 1613, 1614] O h0 h) : sv_fr (sv_ow [1615, 1616, 1617, 1618, 1619, 1620] [1611, 1612, 1613, 1614] O) h0 (fn_X15_readGroup_213 x0 x3 x4 x5 x6 x7 x8 s0 h) := by
  unfold fn_X15_readGroup_213
  refine fr_if ?_ ?_
  · exact ow_X15_readGroup_226 oc ox0 hs
  · refine fr_cl (fun _ _ e => (hs.trans ((ow_X15_wrong (oc.of hs) ox0 e).weak (by decide) (by decide)))) (fun _ h hs => ?_)
    exact ow_X15_readGroup_226 oc ox0 hs
theorem ow_X15_readGroup_212 {O : Nat → Prop} {h0 : sv_H} (oc : sv_cl O h0) {x0 : Nat} {x3 : Int32} {x4 : Int32} {x5 : Int32} {x6 : Int32} {x7 : Int32} {x8 : Int32} {h : sv_H} (ox0 : O x0) (hs : sv_ow [1615, 1616, 1617, 1618, 1619, 1620] [1611, 1612, 1613, 1614] O h0 h) : sv_fr (sv_ow [1615, 1616, 1617, 1618, 1619, 1620] [1611, 1612, 1613, 1614] O) h0 (fn_X15_readGroup_212 x0 x3 x4 x5 x6 x7 x8 h) := by
  unfold fn_X15_readGroup_212
  exact ow_X15_readGroup_213 oc ox0 hs
theorem ow_X15_readGroup_133 {O : Nat → Prop} {h0 : sv_H} (oc : sv_cl O h0) {x0 : Nat} {x2 : Int32} {x3 : Int32} {x4 : Int32} {x5 : Int32} {x6 : Int32} {x7 : Int32} {s0 : Int32} {h : sv_H} (ox0 : O x0) (hs : sv_ow [1615, 1616, 1617, 1618, 1619, 1620] [1611, 1612, 1613, 1614] O h0 h) : sv_fr (sv_ow [1615, 1616, 1617, 1618, 1619, 1620] [1611, 1612, 1613, 1614] O) h0 (fn_X15_readGroup_133 x0 x2 x3 x4 x5 x6 x7 s0 h) := by
  unfold fn_X15_readGroup_133
  refine fr_bd (fun _ => ?_)
  refine fr_bd (fun _ => ?_)
  refine fr_if ?_ ?_
  · refine fr_if ?_ ?_
    · exact ow_X15_readGroup_212 oc ox0 hs
    · refine fr_if ?_ ?_
      · exact ow_X15_readGroup_212 oc ox0 hs
      · refine fr_be (fun v3 e => ?_)
        have ov3 := ow_gR hs ox0 e
        clear e
        refine fr_bd (fun _ => ?_)
        refine fr_if ?_ ?_
        · refine fr_be (fun v5 e => ?_)
          have ov5 := ow_gR hs ox0 e
          clear e
          refine fr_bd (fun _ => ?_)
          refine fr_if ?_ ?_
          · refine fr_be (fun v7 e => ?_)
            have ov7 := ow_gR hs ox0 e
            clear e
            refine fr_bd (fun _ => ?_)
            refine fr_if ?_ ?_
            · refine fr_be (fun v9 e => ?_)
              have ov9 := ow_gR hs ox0 e
              clear e
              refine fr_bd (fun _ => ?_)
              refine fr_if ?_ ?_
              · exact ow_X15_readGroup_213 oc ox0 hs
              · exact ow_X15_readGroup_212 oc ox0 hs
            · exact ow_X15_readGroup_212 oc ox0 hs
          · exact ow_X15_readGroup_212 oc ox0 hs
        · exact ow_X15_readGroup_212 oc ox0 hs
  · exact ow_X15_readGroup_212 oc ox0 hs
theorem ow_X15_readGroup_118 {O : Nat → Prop} {h0 : sv_H} (oc : sv_cl O h0) {x0 : Nat} {x1 : Int32} {x2 : Int32} {x3 : Int32} {x4 : Int32} {x5 : Int32} {x6 : Int32} {x7 : Int32} {h : sv_H} (ox0 : O x0) (hs : sv_ow [1615, 1616, 1617, 1618, 1619, 1620] [1611, 1612, 1613, 1614] O h0 h) : sv_fr (sv_ow [1615, 1616, 1617, 1618, 1619, 1620] [1611, 1612, 1613, 1614] O) h0 (fn_X15_readGroup_118 x0 x1 x2 x3 x4 x5 x6 x7 h) := by
  unfold fn_X15_readGroup_118
  refine fr_if ?_ ?_
  · exact ow_X15_readGroup_133 oc ox0 hs
  · exact ow_X15_readGroup_133 oc ox0 hs
theorem ow_X15_readGroup_46 {O : Nat → Prop} {h0 : sv_H} (oc : sv_cl O h0) {x0 : Nat} {x1 : Int32} {x2 : Int32} {x3 : Int32} {x4 : Int32} {h : sv_H} (ox0 : O x0) (hs : sv_ow [1615, 1616, 1617, 1618, 1619, 1620] [1611, 1612, 1613, 1614] O h0 h) : sv_fr (sv_ow [1615, 1616, 1617, 1618, 1619, 1620] [1611, 1612, 1613, 1614] O) h0 (fn_X15_readGroup_46 x0 x1 x2 x3 x4 h) := by
  unfold fn_X15_readGroup_46
  refine fr_cl (fun _ _ e => (hs.trans ((ow_X15_nextUpTo (oc.of hs) ox0 e).weak (by decide) (by decide)))) (fun _ h hs => ?_)
  refine fr_if ?_ ?_
  · exact ow_X15_readGroup_118 oc ox0 hs
  · refine fr_cl (fun _ _ e => (hs.trans ((ow_X15_nextUpTo (oc.of hs) ox0 e).weak (by decide) (by decide)))) (fun _ h hs => ?_)
    refine fr_cl (fun _ _ e => (hs.trans ((ow_X15_nextUpTo (oc.of hs) ox0 e).weak (by decide) (by decide)))) (fun _ h hs => ?_)
    refine fr_bd (fun _ => ?_)
    refine fr_if ?_ ?_
    · refine fr_if ?_ ?_
      · refine fr_if ?_ ?_
        · refine fr_bd (fun _ => ?_)
          refine fr_cl (fun _ _ e => (hs.trans ((ow_X15_wrong (oc.of hs) ox0 e).weak (by decide) (by decide)))) (fun _ h hs => ?_)
          exact ow_X15_readGroup_118 oc ox0 hs
        · exact ow_X15_readGroup_118 oc ox0 hs
      · exact ow_X15_readGroup_118 oc ox0 hs
    · exact ow_X15_readGroup_118 oc ox0 hs
theorem ow_X15_readGroup_0 {O : Nat → Prop} {h0 : sv_H} (oc : sv_cl O h0) {x0 : Nat} {x1 : Int32} {x2 : Int32} {h : sv_H} (ox0 : O x0) (hs : sv_ow [1615, 1616, 1617, 1618, 1619, 1620] [1611, 1612, 1613, 1614] O h0 h) : sv_fr (sv_ow [1615, 1616, 1617, 1618, 1619, 1620] [1611, 1612, 1613, 1614] O) h0 (fn_X15_readGroup x0 x1 x2 h) := by
  unfold fn_X15_readGroup
  refine fr_if ?_ fr_no
  refine fr_bd (fun _ => ?_)
  refine fr_if ?_ ?_
  · refine fr_cl (fun _ _ e => (hs.trans ((ow_X15_wrong (oc.of hs) ox0 e).weak (by decide) (by decide)))) (fun _ h hs => ?_)
    exact ow_X15_readGroup_46 oc ox0 hs
  · refine fr_bd (fun _ => ?_)
    refine fr_if ?_ ?_
    · exact ow_X15_readGroup_46 oc ox0 hs
    · refine fr_cl (fun _ _ e => (hs.trans ((ow_X15_wrong (oc.of hs) ox0 e).weak (by decide) (by decide)))) (fun _ h hs => ?_)
      exact ow_X15_readGroup_46 oc ox0 hs
theorem ow_X15_readGroup {O : Nat → Prop} {x0 : Nat} {x1 : Int32} {x2 : Int32} {h : sv_H} {r : Unit} {hE : sv_H} (oc : sv_cl O h) (ox0 : O x0) (hw : fn_X15_readGroup x0 x1 x2 h = some (r, hE)) : sv_ow [1615, 1616, 1617, 1618, 1619, 1620] [1611, 1612, 1613, 1614] O h hE := ow_X15_readGroup_0 oc ox0 (sv_ow.refl h) r hE hw

theorem ow_X15_readAll_264 {O : Nat → Prop} {h0 : sv_H} (oc : sv_cl O h0) {h : sv_H} (hs : sv_ow [1615, 1616, 1617, 1618, 1619, 1620] [1610, 1611, 1612, 1613, 1614] O h0 h) : sv_fr (sv_ow [1615, 1616, 1617, 1618, 1619, 1620] [1610, 1611, 1612, 1613, 1614] O) h0 (fn_X15_readAll_264 h) := by
  unfold fn_X15_readAll_264
  exact fr_rt hs
theorem ow_X15_readAll_230 {O : Nat → Prop} {h0 : sv_H} (oc : sv_cl O h0) {k154 : Nat → Int32 → Int32 → Int32 → sv_H → Option (Unit × sv_H)} (hk154 : ∀ {x0 : Nat} {x3 : Int32} {x4 : Int32} {x5 : Int32} {h : sv_H}, O x0 → sv_ow [1615, 1616, 1617, 1618, 1619, 1620] [1610, 1611, 1612, 1613, 1614] O h0 h → sv_fr (sv_ow [1615, 1616, 1617, 1618, 1619, 1620] [1610, 1611, 1612, 1613, 1614] O) h0 (k154 x0 x3 x4 x5 h)) {x0 : Nat} {x3 : Int32} {x4 : Int32} {x5 : Int32} {h : sv_H} (ox0 : O x0) (hs : sv_ow [1615, 1616, 1617, 1618, 1619, 1620] [1610, 1611, 1612, 1613, 1614] O h0 h) : sv_fr (sv_ow [1615, 1616, 1617, 1618, 1619, 1620] [1610, 1611, 1612, 1613, 1614] O) h0 (fn_X15_readAll_230 k154 x0 x3 x4 x5 h) := by
  unfold fn_X15_readAll_230
  exact hk154 ox0 hs
theorem ow_X15_readAll_196 {O : Nat → Prop} {h0 : sv_H} (oc : sv_cl O h0) {k154 : Nat → Int32 → Int32 → Int32 → sv_H → Option (Unit × sv_H)} (hk154 : ∀ {x0 : Nat} {x3 : Int32} {x4 : Int32} {x5 : Int32} {h : sv_H}, O x0 → sv_ow [1615, 1616, 1617, 1618, 1619, 1620] [1610, 1611, 1612, 1613, 1614] O h0 h → sv_fr (sv_ow [1615, 1616, 1617, 1618, 1619, 1620] [1610, 1611, 1612, 1613, 1614] O) h0 (k154 x0 x3 x4 x5 h)) {x0 : Nat} {x3 : Int32} {x4 : Int32} {x5 : Int32} {s0 : Int32} {h : sv_H} (ox0 : O x0) (hs : sv_ow [1615, 1616, 1617, 1618, 1619, 1620] [1610, 1611, 1612, 1613, 1614] O h0 h) : sv_fr (sv_ow [1615, 1616, 1617, 1618, 1619, 1620] [1610, 1611, 1612, 1613, 1614] O) h0 (fn_X15_readAll_196 k154 x0 x3 x4 x5 s0 h) := by
  unfold fn_X15_readAll_196
  refine fr_cl (fun _ _ e => (hs.trans ((ow_X15_next (oc.of hs) ox0 e).weak (by decide) (by decide)))) (fun _ h hs => ?_)
  refine fr_bd (fun _ => ?_)
  refine fr_if ?_ ?_
  · refine fr_if ?_ ?_
    · exact ow_X15_readAll_230 oc hk154 ox0 hs
    · refine fr_bd (fun _ => ?_)
      refine fr_cl (fun _ _ e => (hs.trans ((ow_X15_wrong (oc.of hs) ox0 e).weak (by decide) (by decide)))) (fun _ h hs => ?_)
      exact ow_X15_readAll_230 oc hk154 ox0 hs
  · exact ow_X15_readAll_230 oc hk154 ox0 hs
theorem ow_X15_readAll_172 {O : Nat → Prop} {h0 : sv_H} (oc : sv_cl O h0) {k154 : Nat → Int32 → Int32 → Int32 → sv_H → Option (Unit × sv_H)} (hk154 : ∀ {x0 : Nat} {x3 : Int32} {x4 : Int32} {x5 : Int32} {h : sv_H}, O x0 → sv_ow [1615, 1616, 1617, 1618, 1619, 1620] [1610, 1611, 1612, 1613, 1614] O h0 h → sv_fr (sv_ow [1615, 1616, 1617, 1618, 1619, 1620] [1610, 1611, 1612, 1613, 1614] O) h0 (k154 x0 x3 x4 x5 h)) {x0 : Nat} {x3 : Int32} {x4 : Int32} {x5 : Int32} {s0 : Int32} {h : sv_H} (ox0 : O x0) (hs : sv_ow [1615, 1616, 1617, 1618, 1619, 1620] [1610, 1611, 1612, 1613, 1614] O h0 h) : sv_fr (sv_ow [1615, 1616, 1617, 1618, 1619, 1620] [1610, 1611, 1612, 1613, 1614] O) h0 (fn_X15_readAll_172 k154 x0 x3 x4 x5 s0 h) := by
  unfold fn_X15_readAll_172
  refine fr_if ?_ ?_
  · exact ow_X15_readAll_196 oc hk154 ox0 hs
  · exact ow_X15_readAll_196 oc hk154 ox0 hs
theorem ow_X15_readAll_154b {O : Nat → Prop} {h0 : sv_H} (oc : sv_cl O h0) {k154 : Nat → Int32 → Int32 → Int32 → sv_H → Option (Unit × sv_H)} (hk154 : ∀ {x0 : Nat} {x3 : Int32} {x4 : Int32} {x5 : Int32} {h : sv_H}, O x0 → sv_ow [1615, 1616, 1617, 1618, 1619, 1620] [1610, 1611, 1612, 1613, 1614] O h0 h → sv_fr (sv_ow [1615, 1616, 1617, 1618, 1619, 1620] [1610, 1611, 1612, 1613, 1614] O) h0 (k154 x0 x3 x4 x5 h)) {x0 : Nat} {x3 : Int32} {x4 : Int32} {x5 : Int32} {h : sv_H} (ox0 : O x0) (hs : sv_ow [1615, 1616, 1617, 1618, 1619, 1620] [1610, 1611, 1612, 1613, 1614] O h0 h) : sv_fr (sv_ow [1615, 1616, 1617, 1618, 1619, 1620] [1610, 1611, 1612, 1613, 1614] O) h0 (fn_X15_readAll_154b k154 x0 x3 x4 x5 h) := by
  unfold fn_X15_readAll_154b
  refine fr_if ?_ ?_
  · refine fr_bd (fun _ => ?_)
    refine fr_if ?_ ?_
    · refine fr_bd (fun _ => ?_)
      refine fr_bd (fun _ => ?_)
      refine fr_if ?_ ?_
      · exact ow_X15_readAll_264 oc hs
      · refine fr_bd (fun _ => ?_)
        refine fr_cl (fun _ _ e => (hs.trans ((ow_X15_wrong (oc.of hs) ox0 e).weak (by decide) (by decide)))) (fun _ h hs => ?_)
        exact ow_X15_readAll_264 oc hs
    · exact ow_X15_readAll_264 oc hs
  · refine fr_if ?_ ?_
    · exact ow_X15_readAll_172 oc hk154 ox0 hs
    · exact ow_X15_readAll_172 oc hk154 ox0 hs
theorem ow_X15_readAll_154 {O : Nat → Prop} {h0 : sv_H} (oc : sv_cl O h0) : ∀ (n : Nat) {x0 : Nat} {x3 : Int32} {x4 : Int32} {x5 : Int32} {h : sv_H}, O x0 → sv_ow [1615, 1616, 1617, 1618, 1619, 1620] [1610, 1611, 1612, 1613, 1614] O h0 h → sv_fr (sv_ow [1615, 1616, 1617, 1618, 1619, 1620] [1610, 1611, 1612, 1613, 1614] O) h0 (fn_X15_readAll_154 n x0 x3 x4 x5 h) := by
  intro n
  induction n with
  | zero => intro x0 x3 x4 x5 h ox0 hs r hE e; cases (show (none : Option (Unit × sv_H)) = some (r, hE) from e)
  | succ n ih => intro x0 x3 x4 x5 h ox0 hs; exact ow_X15_readAll_154b oc (fun ox0 hs => ih ox0 hs) ox0 hs
theorem ow_X15_readAll_140 {O : Nat → Prop} {h0 : sv_H} (oc : sv_cl O h0) {x0 : Nat} {h : sv_H} (ox0 : O x0) (hs : sv_ow [1615, 1616, 1617, 1618, 1619, 1620] [1610, 1611, 1612, 1613, 1614] O h0 h) : sv_fr (sv_ow [1615, 1616, 1617, 1618, 1619, 1620] [1610, 1611, 1612, 1613, 1614] O) h0 (fn_X15_readAll_140 x0 h) := by
  unfold fn_X15_readAll_140
  refine fr_bd (fun _ => ?_)
  refine fr_bd (fun _ => ?_)
  exact ow_X15_readAll_154 oc sv_fuel ox0 hs
theorem ow_X15_readAll_110b {O : Nat → Prop} {h0 : sv_H} (oc : sv_cl O h0) {k110 : Nat → Int32 → Int32 → sv_H → Option (Unit × sv_H)} (hk110 : ∀ {x0 : Nat} {x1 : Int32} {x2 : Int32} {h : sv_H}, O x0 → sv_ow [1615, 1616, 1617, 1618, 1619, 1620] [1610, 1611, 1612, 1613, 1614] O h0 h → sv_fr (sv_ow [1615, 1616, 1617, 1618, 1619, 1620] [1610, 1611, 1612, 1613, 1614] O) h0 (k110 x0 x1 x2 h)) {x0 : Nat} {x1 : Int32} {x2 : Int32} {h : sv_H} (ox0 : O x0) (hs : sv_ow [1615, 1616, 1617, 1618, 1619, 1620] [1610, 1611, 1612, 1613, 1614] O h0 h) : sv_fr (sv_ow [1615, 1616, 1617, 1618, 1619, 1620] [1610, 1611, 1612, 1613, 1614] O) h0 (fn_X15_readAll_110b k110 x0 x1 x2 h) := by
  unfold fn_X15_readAll_110b
  refine fr_if ?_ ?_
  · exact ow_X15_readAll_140 oc ox0 hs
  · refine fr_bd (fun _ => ?_)
    refine fr_if ?_ ?_
    · refine fr_cl (fun _ _ e => (hs.trans ((ow_X15_readGroup (oc.of hs) ox0 e).weak (by decide) (by decide)))) (fun _ h hs => ?_)
      refine fr_cl (fun _ _ e => (hs.trans ((ow_X15_next (oc.of hs) ox0 e).weak (by decide) (by decide)))) (fun _ h hs => ?_)
      exact hk110 ox0 hs
    · exact ow_X15_readAll_140 oc ox0 hs
theorem ow_X15_readAll_110 {O : Nat → Prop} {h0 : sv_H} (oc : sv_cl O h0) : ∀ (n : Nat) {x0 : Nat} {x1 : Int32} {x2 : Int32} {h : sv_H}, O x0 → sv_ow [1615, 1616, 1617, 1618, 1619, 1620] [1610, 1611, 1612, 1613, 1614] O h0 h → sv_fr (sv_ow [1615, 1616, 1617, 1618, 1619, 1620] [1610, 1611, 1612, 1613, 1614] O) h0 (fn_X15_readAll_110 n x0 x1 x2 h) := by
  intro n
  induction n with
  | zero => intro x0 x1 x2 h ox0 hs r hE e; cases (show (none : Option (Unit × sv_H)) = some (r, hE) from e)
  | succ n ih => intro x0 x1 x2 h ox0 hs; exact ow_X15_readAll_110b oc (fun ox0 hs => ih ox0 hs) ox0 hs
theorem ow_X15_readAll_49 {O : Nat → Prop} {h0 : sv_H} (oc : sv_cl O h0) {k2 : Nat → Int32 → sv_H → Option (Unit × sv_H)} (hk2 : ∀ {x0 : Nat} {x1 : Int32} {h : sv_H}, O x0 → sv_ow [1615, 1616, 1617, 1618, 1619, 1620] [1610, 1611, 1612, 1613, 1614] O h0 h → sv_fr (sv_ow [1615, 1616, 1617, 1618, 1619, 1620] [1610, 1611, 1612, 1613, 1614] O) h0 (k2 x0 x1 h)) {x0 : Nat} {x1 : Int32} {h : sv_H} (ox0 : O x0) (hs : sv_ow [1615, 1616, 1617, 1618, 1619, 1620] [1610, 1611, 1612, 1613, 1614] O h0 h) : sv_fr (sv_ow [1615, 1616, 1617, 1618, 1619, 1620] [1610, 1611, 1612, 1613, 1614] O) h0 (fn_X15_readAll_49 k2 x0 x1 h) := by
  unfold fn_X15_readAll_49
  exact hk2 ox0 hs
theorem ow_X15_readAll_40 {O : Nat → Prop} {h0 : sv_H} (oc : sv_cl O h0) {k2 : Nat → Int32 → sv_H → Option (Unit × sv_H)} (hk2 : ∀ {x0 : Nat} {x1 : Int32} {h : sv_H}, O x0 → sv_ow [1615, 1616, 1617, 1618, 1619, 1620] [1610, 1611, 1612, 1613, 1614] O h0 h → sv_fr (sv_ow [1615, 1616, 1617, 1618, 1619, 1620] [1610, 1611, 1612, 1613, 1614] O) h0 (k2 x0 x1 h)) {x0 : Nat} {x1 : Int32} {s0 : Int32} {s1 : Int32} {h : sv_H} (ox0 : O x0) (hs : sv_ow [1615, 1616, 1617, 1618, 1619, 1620] [1610, 1611, 1612, 1613, 1614] O h0 h) : sv_fr (sv_ow [1615, 1616, 1617, 1618, 1619, 1620] [1610, 1611, 1612, 1613, 1614] O) h0 (fn_X15_readAll_40 k2 x0 x1 s0 s1 h) := by
  unfold fn_X15_readAll_40
  refine fr_if ?_ ?_
  · exact ow_X15_readAll_49 oc hk2 ox0 hs
  · refine fr_cl (fun _ _ e => (hs.trans ((ow_X15_wrong (oc.of hs) ox0 e).weak (by decide) (by decide)))) (fun _ h hs => ?_)
    exact ow_X15_readAll_49 oc hk2 ox0 hs
theorem ow_X15_readAll_2b {O : Nat → Prop} {h0 : sv_H} (oc : sv_cl O h0) {k2 : Nat → Int32 → sv_H → Option (Unit × sv_H)} (hk2 : ∀ {x0 : Nat} {x1 : Int32} {h : sv_H}, O x0 → sv_ow [1615, 1616, 1617, 1618, 1619, 1620] [1610, 1611, 1612, 1613, 1614] O h0 h → sv_fr (sv_ow [1615, 1616, 1617, 1618, 1619, 1620] [1610, 1611, 1612, 1613, 1614] O) h0 (k2 x0 x1 h)) {x0 : Nat} {x1 : Int32} {h : sv_H} (ox0 : O x0) (hs : sv_ow [1615, 1616, 1617, 1618, 1619, 1620] [1610, 1611, 1612, 1613, 1614] O h0 h) : sv_fr (sv_ow [1615, 1616, 1617, 1618, 1619, 1620] [1610, 1611, 1612, 1613, 1614] O) h0 (fn_X15_readAll_2b k2 x0 x1 h) := by
  unfold fn_X15_readAll_2b
  refine fr_if ?_ ?_
  · refine fr_be (fun v1 e => ?_)
    have ov1 := ow_gR hs ox0 e
    clear e
    refine fr_cl (fun _ _ e => (hs.trans ((ow_X15_nextTwo (oc.of hs) ox0 e).weak (by decide) (by decide)))) (fun _ h hs => ?_)
    refine fr_st (fun _ e => ow_sI hs ov1 (by decide) e) (fun h hs => ?_)
    refine fr_be (fun v5 e => ?_)
    have ov5 := ow_gR hs ox0 e
    clear e
    refine fr_cl (fun _ _ e => (hs.trans ((ow_X15_nextTwo (oc.of hs) ox0 e).weak (by decide) (by decide)))) (fun _ h hs => ?_)
    refine fr_st (fun _ e => ow_sI hs ov5 (by decide) e) (fun h hs => ?_)
    refine fr_be (fun v9 e => ?_)
    have ov9 := ow_gR hs ox0 e
    clear e
    refine fr_cl (fun _ _ e => (hs.trans ((ow_X15_nextUpTo (oc.of hs) ox0 e).weak (by decide) (by decide)))) (fun _ h hs => ?_)
    refine fr_st (fun _ e => ow_sI hs ov9 (by decide) e) (fun h hs => ?_)
    refine fr_be (fun v13 e => ?_)
    have ov13 := ow_gR hs ox0 e
    clear e
    refine fr_cl (fun _ _ e => (hs.trans ((ow_X15_next (oc.of hs) ox0 e).weak (by decide) (by decide)))) (fun _ h hs => ?_)
    refine fr_st (fun _ e => ow_sI hs ov13 (by decide) e) (fun h hs => ?_)
    refine fr_st (fun _ e => ow_pI hs (by decide) ox0 e) (fun h hs => ?_)
    refine fr_cl (fun _ _ e => (hs.trans ((ow_X15_next (oc.of hs) ox0 e).weak (by decide) (by decide)))) (fun _ h hs => ?_)
    exact ow_X15_readAll_110 oc sv_fuel ox0 hs
  · refine fr_cl (fun _ _ e => (hs.trans ((ow_X15_next (oc.of hs) ox0 e).weak (by decide) (by decide)))) (fun _ h hs => ?_)
    refine fr_bd (fun _ => ?_)
    refine fr_if ?_ ?_
    · refine fr_if ?_ ?_
      · exact ow_X15_readAll_40 oc hk2 ox0 hs
      · refine fr_if ?_ ?_
        · exact ow_X15_readAll_40 oc hk2 ox0 hs
        · exact ow_X15_readAll_40 oc hk2 ox0 hs
    · exact ow_X15_readAll_49 oc hk2 ox0 hs
theorem ow_X15_readAll_2 {O : Nat → Prop} {h0 : sv_H} (oc : sv_cl O h0) : ∀ (n : Nat) {x0 : Nat} {x1 : Int32} {h : sv_H}, O x0 → sv_ow [1615, 1616, 1617, 1618, 1619, 1620] [1610, 1611, 1612, 1613, 1614] O h0 h → sv_fr (sv_ow [1615, 1616, 1617, 1618, 1619, 1620] [1610, 1611, 1612, 1613, 1614] O) h0 (fn_X15_readAll_2 n x0 x1 h) := by
  intro n
  induction n with
  | zero => intro x0 x1 h ox0 hs r hE e; cases (show (none : Option (Unit × sv_H)) = some (r, hE) from e)
  | succ n ih => intro x0 x1 h ox0 hs; exact ow_X15_readAll_2b oc (fun ox0 hs => ih ox0 hs) ox0 hs
theorem ow_X15_readAll_0 {O : Nat → Prop} {h0 : sv_H} (oc : sv_cl O h0) {x0 : Nat} {h : sv_H} (ox0 : O x0) (hs : sv_ow [1615, 1616, 1617, 1618, 1619, 1620] [1610, 1611, 1612, 1613, 1614] O h0 h) : sv_fr (sv_ow [1615, 1616, 1617, 1618, 1619, 1620] [1610, 1611, 1612, 1613, 1614] O) h0 (fn_X15_readAll x0 h) := by
  unfold fn_X15_readAll
  refine fr_if ?_ fr_no
  exact ow_X15_readAll_2 oc sv_fuel ox0 hs
theorem ow_X15_readAll {O : Nat → Prop} {x0 : Nat} {h : sv_H} {r : Unit} {hE : sv_H} (oc : sv_cl O h) (ox0 : O x0) (hw : fn_X15_readAll x0 h = some (r, hE)) : sv_ow [1615, 1616, 1617, 1618, 1619, 1620] [1610, 1611, 1612, 1613, 1614] O h hE := ow_X15_readAll_0 oc ox0 (sv_ow.refl h) r hE hw

theorem ow_X15_read_101b {O : Nat → Prop} {h0 : sv_H} (oc : sv_cl O h0) {k101 : Nat → Int32 → sv_H → Option (Int32 × sv_H)} (hk101 : ∀ {x0 : Nat} {x2 : Int32} {h : sv_H}, O x0 → sv_ow [1605, 1615, 1616, 1617, 1618, 1619, 1620] [1600, 1601, 1602, 1603, 1604, 1610, 1611, 1612, 1613, 1614] O h0 h → sv_fr (sv_ow [1605, 1615, 1616, 1617, 1618, 1619, 1620] [1600, 1601, 1602, 1603, 1604, 1610, 1611, 1612, 1613, 1614] O) h0 (k101 x0 x2 h)) {x0 : Nat} {x2 : Int32} {h : sv_H} (ox0 : O x0) (hs : sv_ow [1605, 1615, 1616, 1617, 1618, 1619, 1620] [1600, 1601, 1602, 1603, 1604, 1610, 1611, 1612, 1613, 1614] O h0 h) : sv_fr (sv_ow [1605, 1615, 1616, 1617, 1618, 1619, 1620] [1600, 1601, 1602, 1603, 1604, 1610, 1611, 1612, 1613, 1614] O) h0 (fn_X15_read_101b k101 x0 x2 h) := by
  unfold fn_X15_read_101b
  refine fr_bd (fun _ => ?_)
  refine fr_if ?_ ?_
  · exact fr_rt hs
  · refine fr_be (fun v2 e => ?_)
    have ov2 := ow_gR hs ox0 e
    clear e
    refine fr_be (fun v3 e => ?_)
    have ov3 := ow_gR hs ox0 e
    clear e
    refine fr_bd (fun _ => ?_)
    refine fr_st (fun _ e => ow_sI hs ov2 (by decide) e) (fun h hs => ?_)
    refine fr_be (fun v6 e => ?_)
    have ov6 := ow_gR hs ox0 e
    clear e
    refine fr_be (fun v7 e => ?_)
    have ov7 := ow_gR hs ox0 e
    clear e
    refine fr_bd (fun _ => ?_)
    refine fr_st (fun _ e => ow_sI hs ov6 (by decide) e) (fun h hs => ?_)
    refine fr_be (fun v10 e => ?_)
    have ov10 := ow_gR hs ox0 e
    clear e
    refine fr_be (fun v11 e => ?_)
    have ov11 := ow_gR hs ox0 e
    clear e
    refine fr_bd (fun _ => ?_)
    refine fr_st (fun _ e => ow_sI hs ov10 (by decide) e) (fun h hs => ?_)
    refine fr_be (fun v14 e => ?_)
    have ov14 := ow_gR hs ox0 e
    clear e
    refine fr_be (fun v15 e => ?_)
    have ov15 := ow_gR hs ox0 e
    clear e
    refine fr_bd (fun _ => ?_)
    refine fr_st (fun _ e => ow_sZ hs ov14 (by decide) e) (fun h hs => ?_)
    exact hk101 ox0 hs
theorem ow_X15_read_101 {O : Nat → Prop} {h0 : sv_H} (oc : sv_cl O h0) : ∀ (n : Nat) {x0 : Nat} {x2 : Int32} {h : sv_H}, O x0 → sv_ow [1605, 1615, 1616, 1617, 1618, 1619, 1620] [1600, 1601, 1602, 1603, 1604, 1610, 1611, 1612, 1613, 1614] O h0 h → sv_fr (sv_ow [1605, 1615, 1616, 1617, 1618, 1619, 1620] [1600, 1601, 1602, 1603, 1604, 1610, 1611, 1612, 1613, 1614] O) h0 (fn_X15_read_101 n x0 x2 h) := by
  intro n
  induction n with
  | zero => intro x0 x2 h ox0 hs r hE e; cases (show (none : Option (Int32 × sv_H)) = some (r, hE) from e)
  | succ n ih => intro x0 x2 h ox0 hs; exact ow_X15_read_101b oc (fun ox0 hs => ih ox0 hs) ox0 hs
theorem ow_X15_read_68b {O : Nat → Prop} {h0 : sv_H} (oc : sv_cl O h0) {k68 : Nat → Int32 → sv_H → Option (Int32 × sv_H)} (hk68 : ∀ {x0 : Nat} {x2 : Int32} {h : sv_H}, O x0 → sv_ow [1605, 1615, 1616, 1617, 1618, 1619, 1620] [1600, 1601, 1602, 1603, 1604, 1610, 1611, 1612, 1613, 1614] O h0 h → sv_fr (sv_ow [1605, 1615, 1616, 1617, 1618, 1619, 1620] [1600, 1601, 1602, 1603, 1604, 1610, 1611, 1612, 1613, 1614] O) h0 (k68 x0 x2 h)) {x0 : Nat} {x2 : Int32} {h : sv_H} (ox0 : O x0) (hs : sv_ow [1605, 1615, 1616, 1617, 1618, 1619, 1620] [1600, 1601, 1602, 1603, 1604, 1610, 1611, 1612, 1613, 1614] O h0 h) : sv_fr (sv_ow [1605, 1615, 1616, 1617, 1618, 1619, 1620] [1600, 1601, 1602, 1603, 1604, 1610, 1611, 1612, 1613, 1614] O) h0 (fn_X15_read_68b k68 x0 x2 h) := by
  unfold fn_X15_read_68b
  refine fr_if ?_ ?_
  · refine fr_bd (fun _ => ?_)
    refine fr_st (fun _ e => ow_pI hs (by decide) ox0 e) (fun h hs => ?_)
    exact ow_X15_read_101 oc sv_fuel ox0 hs
  · refine fr_be (fun v3 e => ?_)
    have ov3 := ow_gR hs ox0 e
    clear e
    refine fr_be (fun v4 e => ?_)
    have ov4 := ow_gR hs ox0 e
    clear e
    refine fr_bd (fun _ => ?_)
    refine fr_st (fun _ e => ow_sI hs ov3 (by decide) e) (fun h hs => ?_)
    exact hk68 ox0 hs
theorem ow_X15_read_68 {O : Nat → Prop} {h0 : sv_H} (oc : sv_cl O h0) : ∀ (n : Nat) {x0 : Nat} {x2 : Int32} {h : sv_H}, O x0 → sv_ow [1605, 1615, 1616, 1617, 1618, 1619, 1620] [1600, 1601, 1602, 1603, 1604, 1610, 1611, 1612, 1613, 1614] O h0 h → sv_fr (sv_ow [1605, 1615, 1616, 1617, 1618, 1619, 1620] [1600, 1601, 1602, 1603, 1604, 1610, 1611, 1612, 1613, 1614] O) h0 (fn_X15_read_68 n x0 x2 h) := by
  intro n
  induction n with
  | zero => intro x0 x2 h ox0 hs r hE e; cases (show (none : Option (Int32 × sv_H)) = some (r, hE) from e)
  | succ n ih => intro x0 x2 h ox0 hs; exact ow_X15_read_68b oc (fun ox0 hs => ih ox0 hs) ox0 hs
theorem ow_X15_read_54 {O : Nat → Prop} {h0 : sv_H} (oc : sv_cl O h0) {x0 : Nat} {h : sv_H} (ox0 : O x0) (hs : sv_ow [1605, 1615, 1616, 1617, 1618, 1619, 1620] [1600, 1601, 1602, 1603, 1604, 1610, 1611, 1612, 1613, 1614] O h0 h) : sv_fr (sv_ow [1605, 1615, 1616, 1617, 1618, 1619, 1620] [1600, 1601, 1602, 1603, 1604, 1610, 1611, 1612, 1613, 1614] O) h0 (fn_X15_read_54 x0 h) := by
  unfold fn_X15_read_54
  refine fr_bd (fun _ => ?_)
  refine fr_if ?_ ?_
  · exact ow_X15_read_68 oc sv_fuel ox0 hs
  · refine fr_bd (fun _ => ?_)
    exact fr_rt hs
theorem ow_X15_read_0 {O : Nat → Prop} {h0 : sv_H} (oc : sv_cl O h0) {x0 : Nat} {x1 : Int32} {h : sv_H} (ox0 : O x0) (hs : sv_ow [1605, 1615, 1616, 1617, 1618, 1619, 1620] [1600, 1601, 1602, 1603, 1604, 1610, 1611, 1612, 1613, 1614] O h0 h) : sv_fr (sv_ow [1605, 1615, 1616, 1617, 1618, 1619, 1620] [1600, 1601, 1602, 1603, 1604, 1610, 1611, 1612, 1613, 1614] O) h0 (fn_X15_read x0 x1 h) := by
  unfold fn_X15_read
  refine fr_if ?_ fr_no
  refine fr_st (fun _ e => ow_pI hs (by decide) ox0 e) (fun h hs => ?_)
  refine fr_st (fun _ e => ow_pI hs (by decide) ox0 e) (fun h hs => ?_)
  refine fr_st (fun _ e => ow_pI hs (by decide) ox0 e) (fun h hs => ?_)
  refine fr_st (fun _ e => ow_pI hs (by decide) ox0 e) (fun h hs => ?_)
  refine fr_st (fun _ e => ow_pI hs (by decide) ox0 e) (fun h hs => ?_)
  refine fr_cl (fun _ _ e => (hs.trans ((ow_X15_readAll (oc.of hs) ox0 e).weak (by decide) (by decide)))) (fun _ h hs => ?_)
  refine fr_bd (fun _ => ?_)
  refine fr_if ?_ ?_
  · refine fr_be (fun v8 e => ?_)
    have ov8 := ow_gR hs ox0 e
    clear e
    refine fr_bd (fun _ => ?_)
    refine fr_if ?_ ?_
    · exact ow_X15_read_54 oc ox0 hs
    · refine fr_cl (fun _ _ e => (hs.trans ((ow_X15_wrong (oc.of hs) ox0 e).weak (by decide) (by decide)))) (fun _ h hs => ?_)
      exact ow_X15_read_54 oc ox0 hs
  · exact ow_X15_read_54 oc ox0 hs
theorem ow_X15_read {O : Nat → Prop} {x0 : Nat} {x1 : Int32} {h : sv_H} {r : Int32} {hE : sv_H} (oc : sv_cl O h) (ox0 : O x0) (hw : fn_X15_read x0 x1 h = some (r, hE)) : sv_ow [1605, 1615, 1616, 1617, 1618, 1619, 1620] [1600, 1601, 1602, 1603, 1604, 1610, 1611, 1612, 1613, 1614] O h hE := ow_X15_read_0 oc ox0 (sv_ow.refl h) r hE hw

theorem ow_X17_loadDemo_97 {O : Nat → Prop} {h0 : sv_H} (oc : sv_cl O h0) {x0 : Nat} {h : sv_H} (ox0 : O x0) (hs : sv_ow [1415, 1416, 1417, 1605, 1609, 1615, 1616, 1617, 1618, 1619, 1620, 1800, 1807, 1808, 1811, 1812, 1813, 1814] [1408, 1409, 1410, 1411, 1412, 1413, 1600, 1601, 1602, 1603, 1604, 1608, 1610, 1611, 1612, 1613, 1614] O h0 h) : sv_fr (sv_ow [1415, 1416, 1417, 1605, 1609, 1615, 1616, 1617, 1618, 1619, 1620, 1800, 1807, 1808, 1811, 1812, 1813, 1814] [1408, 1409, 1410, 1411, 1412, 1413, 1600, 1601, 1602, 1603, 1604, 1608, 1610, 1611, 1612, 1613, 1614] O) h0 (fn_X17_loadDemo_97 x0 h) := by
  unfold fn_X17_loadDemo_97
  refine fr_bd (fun _ => ?_)
  exact fr_rt hs
theorem ow_X17_loadDemo_7b {O : Nat → Prop} {h0 : sv_H} (oc : sv_cl O h0) {k7 : Nat → Int32 → sv_H → Option (Int32 × sv_H)} (hk7 : ∀ {x0 : Nat} {x1 : Int32} {h : sv_H}, O x0 → sv_ow [1415, 1416, 1417, 1605, 1609, 1615, 1616, 1617, 1618, 1619, 1620, 1800, 1807, 1808, 1811, 1812, 1813, 1814] [1408, 1409, 1410, 1411, 1412, 1413, 1600, 1601, 1602, 1603, 1604, 1608, 1610, 1611, 1612, 1613, 1614] O h0 h → sv_fr (sv_ow [1415, 1416, 1417, 1605, 1609, 1615, 1616, 1617, 1618, 1619, 1620, 1800, 1807, 1808, 1811, 1812, 1813, 1814] [1408, 1409, 1410, 1411, 1412, 1413, 1600, 1601, 1602, 1603, 1604, 1608, 1610, 1611, 1612, 1613, 1614] O) h0 (k7 x0 x1 h)) {x0 : Nat} {x1 : Int32} {h : sv_H} (ox0 : O x0) (hs : sv_ow [1415, 1416, 1417, 1605, 1609, 1615, 1616, 1617, 1618, 1619, 1620, 1800, 1807, 1808, 1811, 1812, 1813, 1814] [1408, 1409, 1410, 1411, 1412, 1413, 1600, 1601, 1602, 1603, 1604, 1608, 1610, 1611, 1612, 1613, 1614] O h0 h) : sv_fr (sv_ow [1415, 1416, 1417, 1605, 1609, 1615, 1616, 1617, 1618, 1619, 1620, 1800, 1807, 1808, 1811, 1812, 1813, 1814] [1408, 1409, 1410, 1411, 1412, 1413, 1600, 1601, 1602, 1603, 1604, 1608, 1610, 1611, 1612, 1613, 1614] O) h0 (fn_X17_loadDemo_7b k7 x0 x1 h) := by
  unfold fn_X17_loadDemo_7b
  refine fr_be (fun v1 e => ?_)
  have ov1 := ow_gO oc hs ox0 e
  clear e
  refine fr_bd (fun _ => ?_)
  refine fr_if ?_ ?_
  · refine fr_be (fun v3 e => ?_)
    have ov3 := ow_gO oc hs ox0 e
    clear e
    refine fr_be (fun v4 e => ?_)
    have ov4 := ow_gO oc hs ox0 e
    clear e
    refine fr_bd (fun _ => ?_)
    refine fr_st (fun _ e => ow_pI hs (by decide) ov3 e) (fun h hs => ?_)
    refine fr_be (fun v7 e => ?_)
    have ov7 := ow_gO oc hs ox0 e
    clear e
    refine fr_cl (fun _ _ e => (by rw [ro_X17_sectors e]; exact hs)) (fun _ h hs => ?_)
    refine fr_cl (fun _ _ e => (hs.trans ((ow_X15_read (oc.of hs) ov7 e).weak (by decide) (by decide)))) (fun _ h hs => ?_)
    refine fr_st (fun _ e => ow_pI hs (by decide) ox0 e) (fun h hs => ?_)
    refine fr_be (fun v13 e => ?_)
    have ov13 := ow_gO oc hs ox0 e
    clear e
    refine fr_bd (fun _ => ?_)
    refine fr_st (fun _ e => ow_pI hs (by decide) ox0 e) (fun h hs => ?_)
    refine fr_bd (fun _ => ?_)
    refine fr_if ?_ ?_
    · refine fr_cl (fun _ _ e => (hs.trans ((ow_X17_begin (oc.of hs) ox0 e).weak (by decide) (by decide)))) (fun _ h hs => ?_)
      exact ow_X17_loadDemo_97 oc ox0 hs
    · exact ow_X17_loadDemo_97 oc ox0 hs
  · refine fr_be (fun v18 e => ?_)
    have ov18 := ow_gO oc hs ox0 e
    clear e
    refine fr_be (fun v19 e => ?_)
    have ov19 := ow_gR hs ov18 e
    clear e
    refine fr_be (fun v20 e => ?_)
    have ov20 := ow_gO oc hs ox0 e
    clear e
    refine fr_be (fun v21 e => ?_)
    have ov21 := ow_gR hs ov20 e
    clear e
    refine fr_bd (fun _ => ?_)
    refine fr_st (fun _ e => ow_sI hs ov19 (by decide) e) (fun h hs => ?_)
    exact hk7 ox0 hs
theorem ow_X17_loadDemo_7 {O : Nat → Prop} {h0 : sv_H} (oc : sv_cl O h0) : ∀ (n : Nat) {x0 : Nat} {x1 : Int32} {h : sv_H}, O x0 → sv_ow [1415, 1416, 1417, 1605, 1609, 1615, 1616, 1617, 1618, 1619, 1620, 1800, 1807, 1808, 1811, 1812, 1813, 1814] [1408, 1409, 1410, 1411, 1412, 1413, 1600, 1601, 1602, 1603, 1604, 1608, 1610, 1611, 1612, 1613, 1614] O h0 h → sv_fr (sv_ow [1415, 1416, 1417, 1605, 1609, 1615, 1616, 1617, 1618, 1619, 1620, 1800, 1807, 1808, 1811, 1812, 1813, 1814] [1408, 1409, 1410, 1411, 1412, 1413, 1600, 1601, 1602, 1603, 1604, 1608, 1610, 1611, 1612, 1613, 1614] O) h0 (fn_X17_loadDemo_7 n x0 x1 h) := by
  intro n
  induction n with
  | zero => intro x0 x1 h ox0 hs r hE e; cases (show (none : Option (Int32 × sv_H)) = some (r, hE) from e)
  | succ n ih => intro x0 x1 h ox0 hs; exact ow_X17_loadDemo_7b oc (fun ox0 hs => ih ox0 hs) ox0 hs
theorem ow_X17_loadDemo_0 {O : Nat → Prop} {h0 : sv_H} (oc : sv_cl O h0) {x0 : Nat} {h : sv_H} (ox0 : O x0) (hs : sv_ow [1415, 1416, 1417, 1605, 1609, 1615, 1616, 1617, 1618, 1619, 1620, 1800, 1807, 1808, 1811, 1812, 1813, 1814] [1408, 1409, 1410, 1411, 1412, 1413, 1600, 1601, 1602, 1603, 1604, 1608, 1610, 1611, 1612, 1613, 1614] O h0 h) : sv_fr (sv_ow [1415, 1416, 1417, 1605, 1609, 1615, 1616, 1617, 1618, 1619, 1620, 1800, 1807, 1808, 1811, 1812, 1813, 1814] [1408, 1409, 1410, 1411, 1412, 1413, 1600, 1601, 1602, 1603, 1604, 1608, 1610, 1611, 1612, 1613, 1614] O) h0 (fn_X17_loadDemo x0 h) := by
  unfold fn_X17_loadDemo
  refine fr_if ?_ fr_no
  refine fr_st (fun _ e => ow_pI hs (by decide) ox0 e) (fun h hs => ?_)
  exact ow_X17_loadDemo_7 oc sv_fuel ox0 hs
theorem ow_X17_loadDemo {O : Nat → Prop} {x0 : Nat} {h : sv_H} {r : Int32} {hE : sv_H} (oc : sv_cl O h) (ox0 : O x0) (hw : fn_X17_loadDemo x0 h = some (r, hE)) : sv_ow [1415, 1416, 1417, 1605, 1609, 1615, 1616, 1617, 1618, 1619, 1620, 1800, 1807, 1808, 1811, 1812, 1813, 1814] [1408, 1409, 1410, 1411, 1412, 1413, 1600, 1601, 1602, 1603, 1604, 1608, 1610, 1611, 1612, 1613, 1614] O h hE := ow_X17_loadDemo_0 oc ox0 (sv_ow.refl h) r hE hw

theorem ow_X17_saveMap_27b {O : Nat → Prop} {h0 : sv_H} (oc : sv_cl O h0) {k27 : Nat → Int32 → sv_H → Option (Int32 × sv_H)} (hk27 : ∀ {x0 : Nat} {x1 : Int32} {h : sv_H}, O x0 → sv_ow [1800, 1806] [1805] O h0 h → sv_fr (sv_ow [1800, 1806] [1805] O) h0 (k27 x0 x1 h)) {x0 : Nat} {x1 : Int32} {h : sv_H} (ox0 : O x0) (hs : sv_ow [1800, 1806] [1805] O h0 h) : sv_fr (sv_ow [1800, 1806] [1805] O) h0 (fn_X17_saveMap_27b k27 x0 x1 h) := by
  unfold fn_X17_saveMap_27b
  refine fr_bd (fun _ => ?_)
  refine fr_if ?_ ?_
  · refine fr_bd (fun _ => ?_)
    exact fr_rt hs
  · refine fr_be (fun v3 e => ?_)
    have ov3 := ow_gR hs ox0 e
    clear e
    refine fr_be (fun v4 e => ?_)
    have ov4 := ow_gO oc hs ox0 e
    clear e
    refine fr_be (fun v5 e => ?_)
    have ov5 := ow_gR hs ov4 e
    clear e
    refine fr_bd (fun _ => ?_)
    refine fr_st (fun _ e => ow_sI hs ov3 (by decide) e) (fun h hs => ?_)
    exact hk27 ox0 hs
theorem ow_X17_saveMap_27 {O : Nat → Prop} {h0 : sv_H} (oc : sv_cl O h0) : ∀ (n : Nat) {x0 : Nat} {x1 : Int32} {h : sv_H}, O x0 → sv_ow [1800, 1806] [1805] O h0 h → sv_fr (sv_ow [1800, 1806] [1805] O) h0 (fn_X17_saveMap_27 n x0 x1 h) := by
  intro n
  induction n with
  | zero => intro x0 x1 h ox0 hs r hE e; cases (show (none : Option (Int32 × sv_H)) = some (r, hE) from e)
  | succ n ih => intro x0 x1 h ox0 hs; exact ow_X17_saveMap_27b oc (fun ox0 hs => ih ox0 hs) ox0 hs
theorem ow_X17_saveMap_0 {O : Nat → Prop} {h0 : sv_H} (oc : sv_cl O h0) {x0 : Nat} {h : sv_H} (ox0 : O x0) (hs : sv_ow [1800, 1806] [1805] O h0 h) : sv_fr (sv_ow [1800, 1806] [1805] O) h0 (fn_X17_saveMap x0 h) := by
  unfold fn_X17_saveMap
  refine fr_if ?_ fr_no
  refine fr_st (fun _ e => ow_pI hs (by decide) ox0 e) (fun h hs => ?_)
  refine fr_bd (fun _ => ?_)
  refine fr_if ?_ ?_
  · exact fr_rt hs
  · refine fr_be (fun v3 e => ?_)
    have ov3 := ow_gO oc hs ox0 e
    clear e
    refine fr_bd (fun _ => ?_)
    refine fr_st (fun _ e => ow_pI hs (by decide) ox0 e) (fun h hs => ?_)
    exact ow_X17_saveMap_27 oc sv_fuel ox0 hs
theorem ow_X17_saveMap {O : Nat → Prop} {x0 : Nat} {h : sv_H} {r : Int32} {hE : sv_H} (oc : sv_cl O h) (ox0 : O x0) (hw : fn_X17_saveMap x0 h = some (r, hE)) : sv_ow [1800, 1806] [1805] O h hE := ow_X17_saveMap_0 oc ox0 (sv_ow.refl h) r hE hw

theorem ow_X15_put_0 {O : Nat → Prop} {h0 : sv_H} (oc : sv_cl O h0) {x0 : Nat} {x1 : Int32} {h : sv_H} (ox0 : O x0) (hs : sv_ow [1607] [1606] O h0 h) : sv_fr (sv_ow [1607] [1606] O) h0 (fn_X15_put x0 x1 h) := by
  unfold fn_X15_put
  refine fr_if ?_ fr_no
  refine fr_be (fun v1 e => ?_)
  have ov1 := ow_gR hs ox0 e
  clear e
  refine fr_bd (fun _ => ?_)
  refine fr_st (fun _ e => ow_sI hs ov1 (by decide) e) (fun h hs => ?_)
  refine fr_bd (fun _ => ?_)
  refine fr_st (fun _ e => ow_pI hs (by decide) ox0 e) (fun h hs => ?_)
  exact fr_rt hs
theorem ow_X15_put {O : Nat → Prop} {x0 : Nat} {x1 : Int32} {h : sv_H} {r : Unit} {hE : sv_H} (oc : sv_cl O h) (ox0 : O x0) (hw : fn_X15_put x0 x1 h = some (r, hE)) : sv_ow [1607] [1606] O h hE := ow_X15_put_0 oc ox0 (sv_ow.refl h) r hE hw

theorem ow_X15_write_244b {O : Nat → Prop} {h0 : sv_H} (oc : sv_cl O h0) {k244 : Nat → Int32 → sv_H → Option (Int32 × sv_H)} (hk244 : ∀ {x0 : Nat} {x2 : Int32} {h : sv_H}, O x0 → sv_ow [1607, 1619, 1620] [1606] O h0 h → sv_fr (sv_ow [1607, 1619, 1620] [1606] O) h0 (k244 x0 x2 h)) {x0 : Nat} {x2 : Int32} {h : sv_H} (ox0 : O x0) (hs : sv_ow [1607, 1619, 1620] [1606] O h0 h) : sv_fr (sv_ow [1607, 1619, 1620] [1606] O) h0 (fn_X15_write_244b k244 x0 x2 h) := by
  unfold fn_X15_write_244b
  refine fr_if ?_ ?_
  · refine fr_bd (fun _ => ?_)
    exact fr_rt hs
  · refine fr_cl (fun _ _ e => (by rw [ro_X15_checkByte e]; exact hs)) (fun _ h hs => ?_)
    refine fr_cl (fun _ _ e => (hs.trans ((ow_X15_put (oc.of hs) ox0 e).weak (by decide) (by decide)))) (fun _ h hs => ?_)
    exact hk244 ox0 hs
theorem ow_X15_write_244 {O : Nat → Prop} {h0 : sv_H} (oc : sv_cl O h0) : ∀ (n : Nat) {x0 : Nat} {x2 : Int32} {h : sv_H}, O x0 → sv_ow [1607, 1619, 1620] [1606] O h0 h → sv_fr (sv_ow [1607, 1619, 1620] [1606] O) h0 (fn_X15_write_244 n x0 x2 h) := by
  intro n
  induction n with
  | zero => intro x0 x2 h ox0 hs r hE e; cases (show (none : Option (Int32 × sv_H)) = some (r, hE) from e)
  | succ n ih => intro x0 x2 h ox0 hs; exact ow_X15_write_244b oc (fun ox0 hs => ih ox0 hs) ox0 hs
theorem ow_X15_write_218b {O : Nat → Prop} {h0 : sv_H} (oc : sv_cl O h0) {k218 : Nat → Int32 → sv_H → Option (Int32 × sv_H)} (hk218 : ∀ {x0 : Nat} {x2 : Int32} {h : sv_H}, O x0 → sv_ow [1607, 1619, 1620] [1606] O h0 h → sv_fr (sv_ow [1607, 1619, 1620] [1606] O) h0 (k218 x0 x2 h)) {x0 : Nat} {x2 : Int32} {h : sv_H} (ox0 : O x0) (hs : sv_ow [1607, 1619, 1620] [1606] O h0 h) : sv_fr (sv_ow [1607, 1619, 1620] [1606] O) h0 (fn_X15_write_218b k218 x0 x2 h) := by
  unfold fn_X15_write_218b
  refine fr_bd (fun _ => ?_)
  refine fr_if ?_ ?_
  · exact ow_X15_write_244 oc sv_fuel ox0 hs
  · refine fr_be (fun v2 e => ?_)
    have ov2 := ow_gR hs ox0 e
    clear e
    refine fr_bd (fun _ => ?_)
    refine fr_cl (fun _ _ e => (hs.trans ((ow_X15_sum (oc.of hs) ox0 e).weak (by decide) (by decide)))) (fun _ h hs => ?_)
    exact hk218 ox0 hs
theorem ow_X15_write_218 {O : Nat → Prop} {h0 : sv_H} (oc : sv_cl O h0) : ∀ (n : Nat) {x0 : Nat} {x2 : Int32} {h : sv_H}, O x0 → sv_ow [1607, 1619, 1620] [1606] O h0 h → sv_fr (sv_ow [1607, 1619, 1620] [1606] O) h0 (fn_X15_write_218 n x0 x2 h) := by
  intro n
  induction n with
  | zero => intro x0 x2 h ox0 hs r hE e; cases (show (none : Option (Int32 × sv_H)) = some (r, hE) from e)
  | succ n ih => intro x0 x2 h ox0 hs; exact ow_X15_write_218b oc (fun ox0 hs => ih ox0 hs) ox0 hs
theorem ow_X15_write_194 {O : Nat → Prop} {h0 : sv_H} (oc : sv_cl O h0) {k80 : Nat → Int32 → sv_H → Option (Int32 × sv_H)} (hk80 : ∀ {x0 : Nat} {x1 : Int32} {h : sv_H}, O x0 → sv_ow [1607, 1619, 1620] [1606] O h0 h → sv_fr (sv_ow [1607, 1619, 1620] [1606] O) h0 (k80 x0 x1 h)) {x0 : Nat} {x1 : Int32} {x2 : Int32} {h : sv_H} (ox0 : O x0) (hs : sv_ow [1607, 1619, 1620] [1606] O h0 h) : sv_fr (sv_ow [1607, 1619, 1620] [1606] O) h0 (fn_X15_write_194 k80 x0 x1 x2 h) := by
  unfold fn_X15_write_194
  exact hk80 ox0 hs
theorem ow_X15_write_147 {O : Nat → Prop} {h0 : sv_H} (oc : sv_cl O h0) {k80 : Nat → Int32 → sv_H → Option (Int32 × sv_H)} (hk80 : ∀ {x0 : Nat} {x1 : Int32} {h : sv_H}, O x0 → sv_ow [1607, 1619, 1620] [1606] O h0 h → sv_fr (sv_ow [1607, 1619, 1620] [1606] O) h0 (k80 x0 x1 h)) {x0 : Nat} {x1 : Int32} {x2 : Int32} {x3 : Int32} {s0 : Nat} {s1 : Int32} {s2 : Int32} {h : sv_H} (ox0 : O x0) (os0 : O s0) (hs : sv_ow [1607, 1619, 1620] [1606] O h0 h) : sv_fr (sv_ow [1607, 1619, 1620] [1606] O) h0 (fn_X15_write_147 k80 x0 x1 x2 x3 s0 s1 s2 h) := by
  unfold fn_X15_write_147
  refine fr_cl (fun _ _ e => (hs.trans ((ow_X15_put (oc.of hs) os0 e).weak (by decide) (by decide)))) (fun _ h hs => ?_)
  refine fr_be (fun v2 e => ?_)
  have ov2 := ow_gR hs ox0 e
  clear e
  refine fr_bd (fun _ => ?_)
  refine fr_cl (fun _ _ e => (hs.trans ((ow_X15_put (oc.of hs) ox0 e).weak (by decide) (by decide)))) (fun _ h hs => ?_)
  refine fr_if ?_ ?_
  · exact ow_X15_write_194 oc hk80 ox0 hs
  · refine fr_be (fun v5 e => ?_)
    have ov5 := ow_gR hs ox0 e
    clear e
    refine fr_bd (fun _ => ?_)
    refine fr_cl (fun _ _ e => (hs.trans ((ow_X15_put (oc.of hs) ox0 e).weak (by decide) (by decide)))) (fun _ h hs => ?_)
    refine fr_be (fun v8 e => ?_)
    have ov8 := ow_gR hs ox0 e
    clear e
    refine fr_bd (fun _ => ?_)
    refine fr_cl (fun _ _ e => (hs.trans ((ow_X15_put (oc.of hs) ox0 e).weak (by decide) (by decide)))) (fun _ h hs => ?_)
    exact ow_X15_write_194 oc hk80 ox0 hs
theorem ow_X15_write_135 {O : Nat → Prop} {h0 : sv_H} (oc : sv_cl O h0) {k80 : Nat → Int32 → sv_H → Option (Int32 × sv_H)} (hk80 : ∀ {x0 : Nat} {x1 : Int32} {h : sv_H}, O x0 → sv_ow [1607, 1619, 1620] [1606] O h0 h → sv_fr (sv_ow [1607, 1619, 1620] [1606] O) h0 (k80 x0 x1 h)) {x0 : Nat} {x1 : Int32} {x2 : Int32} {x3 : Int32} {s0 : Nat} {s1 : Int32} {s2 : Int32} {h : sv_H} (ox0 : O x0) (os0 : O s0) (hs : sv_ow [1607, 1619, 1620] [1606] O h0 h) : sv_fr (sv_ow [1607, 1619, 1620] [1606] O) h0 (fn_X15_write_135 k80 x0 x1 x2 x3 s0 s1 s2 h) := by
  unfold fn_X15_write_135
  refine fr_if ?_ ?_
  · exact ow_X15_write_147 oc hk80 ox0 os0 hs
  · exact ow_X15_write_147 oc hk80 ox0 os0 hs
theorem ow_X15_write_117 {O : Nat → Prop} {h0 : sv_H} (oc : sv_cl O h0) {k80 : Nat → Int32 → sv_H → Option (Int32 × sv_H)} (hk80 : ∀ {x0 : Nat} {x1 : Int32} {h : sv_H}, O x0 → sv_ow [1607, 1619, 1620] [1606] O h0 h → sv_fr (sv_ow [1607, 1619, 1620] [1606] O) h0 (k80 x0 x1 h)) {x0 : Nat} {x1 : Int32} {x2 : Int32} {s0 : Int32} {h : sv_H} (ox0 : O x0) (hs : sv_ow [1607, 1619, 1620] [1606] O h0 h) : sv_fr (sv_ow [1607, 1619, 1620] [1606] O) h0 (fn_X15_write_117 k80 x0 x1 x2 s0 h) := by
  unfold fn_X15_write_117
  refine fr_be (fun v1 e => ?_)
  have ov1 := ow_gR hs ox0 e
  clear e
  refine fr_bd (fun _ => ?_)
  refine fr_if ?_ ?_
  · exact ow_X15_write_135 oc hk80 ox0 ox0 hs
  · exact ow_X15_write_135 oc hk80 ox0 ox0 hs
theorem ow_X15_write_112 {O : Nat → Prop} {h0 : sv_H} (oc : sv_cl O h0) {k80 : Nat → Int32 → sv_H → Option (Int32 × sv_H)} (hk80 : ∀ {x0 : Nat} {x1 : Int32} {h : sv_H}, O x0 → sv_ow [1607, 1619, 1620] [1606] O h0 h → sv_fr (sv_ow [1607, 1619, 1620] [1606] O) h0 (k80 x0 x1 h)) {x0 : Nat} {x1 : Int32} {x2 : Int32} {h : sv_H} (ox0 : O x0) (hs : sv_ow [1607, 1619, 1620] [1606] O h0 h) : sv_fr (sv_ow [1607, 1619, 1620] [1606] O) h0 (fn_X15_write_112 k80 x0 x1 x2 h) := by
  unfold fn_X15_write_112
  exact ow_X15_write_117 oc hk80 ox0 hs
theorem ow_X15_write_80b {O : Nat → Prop} {h0 : sv_H} (oc : sv_cl O h0) {k80 : Nat → Int32 → sv_H → Option (Int32 × sv_H)} (hk80 : ∀ {x0 : Nat} {x1 : Int32} {h : sv_H}, O x0 → sv_ow [1607, 1619, 1620] [1606] O h0 h → sv_fr (sv_ow [1607, 1619, 1620] [1606] O) h0 (k80 x0 x1 h)) {x0 : Nat} {x1 : Int32} {h : sv_H} (ox0 : O x0) (hs : sv_ow [1607, 1619, 1620] [1606] O h0 h) : sv_fr (sv_ow [1607, 1619, 1620] [1606] O) h0 (fn_X15_write_80b k80 x0 x1 h) := by
  unfold fn_X15_write_80b
  refine fr_bd (fun _ => ?_)
  refine fr_if ?_ ?_
  · refine fr_cl (fun _ _ e => (hs.trans ((ow_X15_put (oc.of hs) ox0 e).weak (by decide) (by decide)))) (fun _ h hs => ?_)
    refine fr_st (fun _ e => ow_pI hs (by decide) ox0 e) (fun h hs => ?_)
    refine fr_st (fun _ e => ow_pI hs (by decide) ox0 e) (fun h hs => ?_)
    exact ow_X15_write_218 oc sv_fuel ox0 hs
  · refine fr_cl (fun _ _ e => (by rw [ro_X15_run e]; exact hs)) (fun _ h hs => ?_)
    refine fr_be (fun v7 e => ?_)
    have ov7 := ow_gR hs ox0 e
    clear e
    refine fr_bd (fun _ => ?_)
    refine fr_if ?_ ?_
    · refine fr_be (fun v9 e => ?_)
      have ov9 := ow_gR hs ox0 e
      clear e
      refine fr_bd (fun _ => ?_)
      refine fr_if ?_ ?_
      · exact ow_X15_write_117 oc hk80 ox0 hs
      · exact ow_X15_write_112 oc hk80 ox0 hs
    · exact ow_X15_write_112 oc hk80 ox0 hs
theorem ow_X15_write_80 {O : Nat → Prop} {h0 : sv_H} (oc : sv_cl O h0) : ∀ (n : Nat) {x0 : Nat} {x1 : Int32} {h : sv_H}, O x0 → sv_ow [1607, 1619, 1620] [1606] O h0 h → sv_fr (sv_ow [1607, 1619, 1620] [1606] O) h0 (fn_X15_write_80 n x0 x1 h) := by
  intro n
  induction n with
  | zero => intro x0 x1 h ox0 hs r hE e; cases (show (none : Option (Int32 × sv_H)) = some (r, hE) from e)
  | succ n ih => intro x0 x1 h ox0 hs; exact ow_X15_write_80b oc (fun ox0 hs => ih ox0 hs) ox0 hs
theorem ow_X15_write_24b {O : Nat → Prop} {h0 : sv_H} (oc : sv_cl O h0) {k24 : Nat → Int32 → sv_H → Option (Int32 × sv_H)} (hk24 : ∀ {x0 : Nat} {x1 : Int32} {h : sv_H}, O x0 → sv_ow [1607, 1619, 1620] [1606] O h0 h → sv_fr (sv_ow [1607, 1619, 1620] [1606] O) h0 (k24 x0 x1 h)) {x0 : Nat} {x1 : Int32} {h : sv_H} (ox0 : O x0) (hs : sv_ow [1607, 1619, 1620] [1606] O h0 h) : sv_fr (sv_ow [1607, 1619, 1620] [1606] O) h0 (fn_X15_write_24b k24 x0 x1 h) := by
  unfold fn_X15_write_24b
  refine fr_if ?_ ?_
  · refine fr_be (fun v1 e => ?_)
    have ov1 := ow_gR hs ox0 e
    clear e
    refine fr_bd (fun _ => ?_)
    refine fr_cl (fun _ _ e => (hs.trans ((ow_X15_put (oc.of hs) ox0 e).weak (by decide) (by decide)))) (fun _ h hs => ?_)
    refine fr_be (fun v4 e => ?_)
    have ov4 := ow_gR hs ox0 e
    clear e
    refine fr_bd (fun _ => ?_)
    refine fr_cl (fun _ _ e => (hs.trans ((ow_X15_put (oc.of hs) ox0 e).weak (by decide) (by decide)))) (fun _ h hs => ?_)
    exact ow_X15_write_80 oc sv_fuel ox0 hs
  · refine fr_be (fun v7 e => ?_)
    have ov7 := ow_gR hs ox0 e
    clear e
    refine fr_bd (fun _ => ?_)
    refine fr_cl (fun _ _ e => (hs.trans ((ow_X15_put (oc.of hs) ox0 e).weak (by decide) (by decide)))) (fun _ h hs => ?_)
    refine fr_be (fun v10 e => ?_)
    have ov10 := ow_gR hs ox0 e
    clear e
    refine fr_bd (fun _ => ?_)
    refine fr_cl (fun _ _ e => (hs.trans ((ow_X15_put (oc.of hs) ox0 e).weak (by decide) (by decide)))) (fun _ h hs => ?_)
    exact hk24 ox0 hs
theorem ow_X15_write_24 {O : Nat → Prop} {h0 : sv_H} (oc : sv_cl O h0) : ∀ (n : Nat) {x0 : Nat} {x1 : Int32} {h : sv_H}, O x0 → sv_ow [1607, 1619, 1620] [1606] O h0 h → sv_fr (sv_ow [1607, 1619, 1620] [1606] O) h0 (fn_X15_write_24 n x0 x1 h) := by
  intro n
  induction n with
  | zero => intro x0 x1 h ox0 hs r hE e; cases (show (none : Option (Int32 × sv_H)) = some (r, hE) from e)
  | succ n ih => intro x0 x1 h ox0 hs; exact ow_X15_write_24b oc (fun ox0 hs => ih ox0 hs) ox0 hs
theorem ow_X15_write_0 {O : Nat → Prop} {h0 : sv_H} (oc : sv_cl O h0) {x0 : Nat} {h : sv_H} (ox0 : O x0) (hs : sv_ow [1607, 1619, 1620] [1606] O h0 h) : sv_fr (sv_ow [1607, 1619, 1620] [1606] O) h0 (fn_X15_write x0 h) := by
  unfold fn_X15_write
  refine fr_if ?_ fr_no
  refine fr_st (fun _ e => ow_pI hs (by decide) ox0 e) (fun h hs => ?_)
  refine fr_cl (fun _ _ e => (hs.trans ((ow_X15_put (oc.of hs) ox0 e).weak (by decide) (by decide)))) (fun _ h hs => ?_)
  refine fr_cl (fun _ _ e => (hs.trans ((ow_X15_put (oc.of hs) ox0 e).weak (by decide) (by decide)))) (fun _ h hs => ?_)
  refine fr_cl (fun _ _ e => (hs.trans ((ow_X15_put (oc.of hs) ox0 e).weak (by decide) (by decide)))) (fun _ h hs => ?_)
  exact ow_X15_write_24 oc sv_fuel ox0 hs
theorem ow_X15_write {O : Nat → Prop} {x0 : Nat} {h : sv_H} {r : Int32} {hE : sv_H} (oc : sv_cl O h) (ox0 : O x0) (hw : fn_X15_write x0 h = some (r, hE)) : sv_ow [1607, 1619, 1620] [1606] O h hE := ow_X15_write_0 oc ox0 (sv_ow.refl h) r hE hw

theorem ow_X17_saveDemo_27b {O : Nat → Prop} {h0 : sv_H} (oc : sv_cl O h0) {k27 : Nat → Int32 → sv_H → Option (Int32 × sv_H)} (hk27 : ∀ {x0 : Nat} {x1 : Int32} {h : sv_H}, O x0 → sv_ow [1607, 1619, 1620, 1800, 1806] [1606, 1805] O h0 h → sv_fr (sv_ow [1607, 1619, 1620, 1800, 1806] [1606, 1805] O) h0 (k27 x0 x1 h)) {x0 : Nat} {x1 : Int32} {h : sv_H} (ox0 : O x0) (hs : sv_ow [1607, 1619, 1620, 1800, 1806] [1606, 1805] O h0 h) : sv_fr (sv_ow [1607, 1619, 1620, 1800, 1806] [1606, 1805] O) h0 (fn_X17_saveDemo_27b k27 x0 x1 h) := by
  unfold fn_X17_saveDemo_27b
  refine fr_bd (fun _ => ?_)
  refine fr_if ?_ ?_
  · refine fr_bd (fun _ => ?_)
    exact fr_rt hs
  · refine fr_be (fun v3 e => ?_)
    have ov3 := ow_gR hs ox0 e
    clear e
    refine fr_be (fun v4 e => ?_)
    have ov4 := ow_gO oc hs ox0 e
    clear e
    refine fr_be (fun v5 e => ?_)
    have ov5 := ow_gR hs ov4 e
    clear e
    refine fr_bd (fun _ => ?_)
    refine fr_st (fun _ e => ow_sI hs ov3 (by decide) e) (fun h hs => ?_)
    exact hk27 ox0 hs
theorem ow_X17_saveDemo_27 {O : Nat → Prop} {h0 : sv_H} (oc : sv_cl O h0) : ∀ (n : Nat) {x0 : Nat} {x1 : Int32} {h : sv_H}, O x0 → sv_ow [1607, 1619, 1620, 1800, 1806] [1606, 1805] O h0 h → sv_fr (sv_ow [1607, 1619, 1620, 1800, 1806] [1606, 1805] O) h0 (fn_X17_saveDemo_27 n x0 x1 h) := by
  intro n
  induction n with
  | zero => intro x0 x1 h ox0 hs r hE e; cases (show (none : Option (Int32 × sv_H)) = some (r, hE) from e)
  | succ n ih => intro x0 x1 h ox0 hs; exact ow_X17_saveDemo_27b oc (fun ox0 hs => ih ox0 hs) ox0 hs
theorem ow_X17_saveDemo_0 {O : Nat → Prop} {h0 : sv_H} (oc : sv_cl O h0) {x0 : Nat} {h : sv_H} (ox0 : O x0) (hs : sv_ow [1607, 1619, 1620, 1800, 1806] [1606, 1805] O h0 h) : sv_fr (sv_ow [1607, 1619, 1620, 1800, 1806] [1606, 1805] O) h0 (fn_X17_saveDemo x0 h) := by
  unfold fn_X17_saveDemo
  refine fr_if ?_ fr_no
  refine fr_st (fun _ e => ow_pI hs (by decide) ox0 e) (fun h hs => ?_)
  refine fr_bd (fun _ => ?_)
  refine fr_if ?_ ?_
  · exact fr_rt hs
  · refine fr_be (fun v3 e => ?_)
    have ov3 := ow_gO oc hs ox0 e
    clear e
    refine fr_cl (fun _ _ e => (hs.trans ((ow_X15_write (oc.of hs) ov3 e).weak (by decide) (by decide)))) (fun _ h hs => ?_)
    refine fr_st (fun _ e => ow_pI hs (by decide) ox0 e) (fun h hs => ?_)
    exact ow_X17_saveDemo_27 oc sv_fuel ox0 hs
theorem ow_X17_saveDemo {O : Nat → Prop} {x0 : Nat} {h : sv_H} {r : Int32} {hE : sv_H} (oc : sv_cl O h) (ox0 : O x0) (hw : fn_X17_saveDemo x0 h = some (r, hE)) : sv_ow [1607, 1619, 1620, 1800, 1806] [1606, 1805] O h hE := ow_X17_saveDemo_0 oc ox0 (sv_ow.refl h) r hE hw

theorem ow_X17_turnBytes_18b {O : Nat → Prop} {h0 : sv_H} (oc : sv_cl O h0) {k18 : Nat → Int32 → sv_H → Option (Unit × sv_H)} (hk18 : ∀ {x0 : Nat} {x1 : Int32} {h : sv_H}, O x0 → sv_ow [1501, 1800] [1500] O h0 h → sv_fr (sv_ow [1501, 1800] [1500] O) h0 (k18 x0 x1 h)) {x0 : Nat} {x1 : Int32} {h : sv_H} (ox0 : O x0) (hs : sv_ow [1501, 1800] [1500] O h0 h) : sv_fr (sv_ow [1501, 1800] [1500] O) h0 (fn_X17_turnBytes_18b k18 x0 x1 h) := by
  unfold fn_X17_turnBytes_18b
  refine fr_bd (fun _ => ?_)
  refine fr_if ?_ ?_
  · exact fr_rt hs
  · refine fr_be (fun v2 e => ?_)
    have ov2 := ow_gO oc hs ox0 e
    clear e
    refine fr_be (fun v3 e => ?_)
    have ov3 := ow_gR hs ov2 e
    clear e
    refine fr_be (fun v4 e => ?_)
    have ov4 := ow_gR hs ox0 e
    clear e
    refine fr_bd (fun _ => ?_)
    refine fr_st (fun _ e => ow_sB hs ov3 (by decide) e) (fun h hs => ?_)
    exact hk18 ox0 hs
theorem ow_X17_turnBytes_18 {O : Nat → Prop} {h0 : sv_H} (oc : sv_cl O h0) : ∀ (n : Nat) {x0 : Nat} {x1 : Int32} {h : sv_H}, O x0 → sv_ow [1501, 1800] [1500] O h0 h → sv_fr (sv_ow [1501, 1800] [1500] O) h0 (fn_X17_turnBytes_18 n x0 x1 h) := by
  intro n
  induction n with
  | zero => intro x0 x1 h ox0 hs r hE e; cases (show (none : Option (Unit × sv_H)) = some (r, hE) from e)
  | succ n ih => intro x0 x1 h ox0 hs; exact ow_X17_turnBytes_18b oc (fun ox0 hs => ih ox0 hs) ox0 hs
theorem ow_X17_turnBytes_0 {O : Nat → Prop} {h0 : sv_H} (oc : sv_cl O h0) {x0 : Nat} {h : sv_H} (ox0 : O x0) (hs : sv_ow [1501, 1800] [1500] O h0 h) : sv_fr (sv_ow [1501, 1800] [1500] O) h0 (fn_X17_turnBytes x0 h) := by
  unfold fn_X17_turnBytes
  refine fr_if ?_ fr_no
  refine fr_st (fun _ e => ow_pI hs (by decide) ox0 e) (fun h hs => ?_)
  refine fr_be (fun v2 e => ?_)
  have ov2 := ow_gO oc hs ox0 e
  clear e
  refine fr_bd (fun _ => ?_)
  refine fr_st (fun _ e => ow_pI hs (by decide) ov2 e) (fun h hs => ?_)
  exact ow_X17_turnBytes_18 oc sv_fuel ox0 hs
theorem ow_X17_turnBytes {O : Nat → Prop} {x0 : Nat} {h : sv_H} {r : Unit} {hE : sv_H} (oc : sv_cl O h) (ox0 : O x0) (hw : fn_X17_turnBytes x0 h = some (r, hE)) : sv_ow [1501, 1800] [1500] O h hE := ow_X17_turnBytes_0 oc ox0 (sv_ow.refl h) r hE hw

theorem ow_X15_start_51 {O : Nat → Prop} {h0 : sv_H} (oc : sv_cl O h0) {h : sv_H} (hs : sv_ow [] [1600] O h0 h) : sv_fr (sv_ow [] [1600] O) h0 (fn_X15_start_51 h) := by
  unfold fn_X15_start_51
  exact fr_rt hs
theorem ow_X15_start_0 {O : Nat → Prop} {h0 : sv_H} (oc : sv_cl O h0) {x0 : Nat} {x1 : Int32} {x2 : Int32} {x3 : Int32} {x4 : Int32} {h : sv_H} (ox0 : O x0) (hs : sv_ow [] [1600] O h0 h) : sv_fr (sv_ow [] [1600] O) h0 (fn_X15_start x0 x1 x2 x3 x4 h) := by
  unfold fn_X15_start
  refine fr_if ?_ fr_no
  refine fr_if ?_ ?_
  · exact ow_X15_start_51 oc hs
  · refine fr_if ?_ ?_
    · exact ow_X15_start_51 oc hs
    · refine fr_if ?_ ?_
      · exact ow_X15_start_51 oc hs
      · refine fr_if ?_ ?_
        · exact ow_X15_start_51 oc hs
        · refine fr_if ?_ ?_
          · exact ow_X15_start_51 oc hs
          · refine fr_if ?_ ?_
            · exact ow_X15_start_51 oc hs
            · refine fr_if ?_ ?_
              · exact ow_X15_start_51 oc hs
              · refine fr_if ?_ ?_
                · refine fr_be (fun v1 e => ?_)
                  have ov1 := ow_gR hs ox0 e
                  clear e
                  refine fr_st (fun _ e => ow_sI hs ov1 (by decide) e) (fun h hs => ?_)
                  refine fr_be (fun v3 e => ?_)
                  have ov3 := ow_gR hs ox0 e
                  clear e
                  refine fr_st (fun _ e => ow_sI hs ov3 (by decide) e) (fun h hs => ?_)
                  refine fr_be (fun v5 e => ?_)
                  have ov5 := ow_gR hs ox0 e
                  clear e
                  refine fr_st (fun _ e => ow_sI hs ov5 (by decide) e) (fun h hs => ?_)
                  refine fr_be (fun v7 e => ?_)
                  have ov7 := ow_gR hs ox0 e
                  clear e
                  refine fr_st (fun _ e => ow_sI hs ov7 (by decide) e) (fun h hs => ?_)
                  exact fr_rt hs
                · exact ow_X15_start_51 oc hs
theorem ow_X15_start {O : Nat → Prop} {x0 : Nat} {x1 : Int32} {x2 : Int32} {x3 : Int32} {x4 : Int32} {h : sv_H} {r : Int32} {hE : sv_H} (oc : sv_cl O h) (ox0 : O x0) (hw : fn_X15_start x0 x1 x2 x3 x4 h = some (r, hE)) : sv_ow [] [1600] O h hE := ow_X15_start_0 oc ox0 (sv_ow.refl h) r hE hw

theorem ow_X17_startAt_36 {O : Nat → Prop} {h0 : sv_H} (oc : sv_cl O h0) {h : sv_H} (hs : sv_ow [1415, 1416, 1417, 1800, 1811, 1812, 1813, 1814] [1408, 1409, 1410, 1411, 1412, 1413, 1600] O h0 h) : sv_fr (sv_ow [1415, 1416, 1417, 1800, 1811, 1812, 1813, 1814] [1408, 1409, 1410, 1411, 1412, 1413, 1600] O) h0 (fn_X17_startAt_36 h) := by
  unfold fn_X17_startAt_36
  exact fr_rt hs
theorem ow_X17_startAt_0 {O : Nat → Prop} {h0 : sv_H} (oc : sv_cl O h0) {x0 : Nat} {x1 : Int32} {x2 : Int32} {x3 : Int32} {x4 : Int32} {h : sv_H} (ox0 : O x0) (hs : sv_ow [1415, 1416, 1417, 1800, 1811, 1812, 1813, 1814] [1408, 1409, 1410, 1411, 1412, 1413, 1600] O h0 h) : sv_fr (sv_ow [1415, 1416, 1417, 1800, 1811, 1812, 1813, 1814] [1408, 1409, 1410, 1411, 1412, 1413, 1600] O) h0 (fn_X17_startAt x0 x1 x2 x3 x4 h) := by
  unfold fn_X17_startAt
  refine fr_if ?_ fr_no
  refine fr_st (fun _ e => ow_pI hs (by decide) ox0 e) (fun h hs => ?_)
  refine fr_bd (fun _ => ?_)
  refine fr_if ?_ ?_
  · exact ow_X17_startAt_36 oc hs
  · refine fr_cl (fun _ _ e => (by rw [ro_X17_sectors e]; exact hs)) (fun _ h hs => ?_)
    refine fr_if ?_ ?_
    · exact ow_X17_startAt_36 oc hs
    · refine fr_be (fun v5 e => ?_)
      have ov5 := ow_gO oc hs ox0 e
      clear e
      refine fr_cl (fun _ _ e => (hs.trans ((ow_X15_start (oc.of hs) ov5 e).weak (by decide) (by decide)))) (fun _ h hs => ?_)
      refine fr_if ?_ ?_
      · exact ow_X17_startAt_36 oc hs
      · refine fr_cl (fun _ _ e => (hs.trans ((ow_X17_begin (oc.of hs) ox0 e).weak (by decide) (by decide)))) (fun _ h hs => ?_)
        exact fr_rt hs
theorem ow_X17_startAt {O : Nat → Prop} {x0 : Nat} {x1 : Int32} {x2 : Int32} {x3 : Int32} {x4 : Int32} {h : sv_H} {r : Int32} {hE : sv_H} (oc : sv_cl O h) (ox0 : O x0) (hw : fn_X17_startAt x0 x1 x2 x3 x4 h = some (r, hE)) : sv_ow [1415, 1416, 1417, 1800, 1811, 1812, 1813, 1814] [1408, 1409, 1410, 1411, 1412, 1413, 1600] O h hE := ow_X17_startAt_0 oc ox0 (sv_ow.refl h) r hE hw

theorem ow_X15_record_54 {O : Nat → Prop} {h0 : sv_H} (oc : sv_cl O h0) {h : sv_H} (hs : sv_ow [1605] [1601, 1602, 1603, 1604] O h0 h) : sv_fr (sv_ow [1605] [1601, 1602, 1603, 1604] O) h0 (fn_X15_record_54 h) := by
  unfold fn_X15_record_54
  exact fr_rt hs
theorem ow_X15_record_59b {O : Nat → Prop} {h0 : sv_H} (oc : sv_cl O h0) {k59 : Nat → Int32 → Int32 → Int32 → Int32 → Int32 → Int32 → sv_H → Option (Int32 × sv_H)} (hk59 : ∀ {x0 : Nat} {x1 : Int32} {x2 : Int32} {x3 : Int32} {x4 : Int32} {x5 : Int32} {x6 : Int32} {h : sv_H}, O x0 → sv_ow [1605] [1601, 1602, 1603, 1604] O h0 h → sv_fr (sv_ow [1605] [1601, 1602, 1603, 1604] O) h0 (k59 x0 x1 x2 x3 x4 x5 x6 h)) {x0 : Nat} {x1 : Int32} {x2 : Int32} {x3 : Int32} {x4 : Int32} {x5 : Int32} {x6 : Int32} {h : sv_H} (ox0 : O x0) (hs : sv_ow [1605] [1601, 1602, 1603, 1604] O h0 h) : sv_fr (sv_ow [1605] [1601, 1602, 1603, 1604] O) h0 (fn_X15_record_59b k59 x0 x1 x2 x3 x4 x5 x6 h) := by
  unfold fn_X15_record_59b
  refine fr_if ?_ ?_
  · refine fr_bd (fun _ => ?_)
    exact fr_rt hs
  · refine fr_be (fun v2 e => ?_)
    have ov2 := ow_gR hs ox0 e
    clear e
    refine fr_bd (fun _ => ?_)
    refine fr_st (fun _ e => ow_sI hs ov2 (by decide) e) (fun h hs => ?_)
    refine fr_be (fun v5 e => ?_)
    have ov5 := ow_gR hs ox0 e
    clear e
    refine fr_bd (fun _ => ?_)
    refine fr_st (fun _ e => ow_sI hs ov5 (by decide) e) (fun h hs => ?_)
    refine fr_be (fun v8 e => ?_)
    have ov8 := ow_gR hs ox0 e
    clear e
    refine fr_bd (fun _ => ?_)
    refine fr_st (fun _ e => ow_sI hs ov8 (by decide) e) (fun h hs => ?_)
    refine fr_be (fun v11 e => ?_)
    have ov11 := ow_gR hs ox0 e
    clear e
    refine fr_bd (fun _ => ?_)
    refine fr_st (fun _ e => ow_sZ hs ov11 (by decide) e) (fun h hs => ?_)
    refine fr_bd (fun _ => ?_)
    refine fr_st (fun _ e => ow_pI hs (by decide) ox0 e) (fun h hs => ?_)
    exact hk59 ox0 hs
theorem ow_X15_record_59 {O : Nat → Prop} {h0 : sv_H} (oc : sv_cl O h0) : ∀ (n : Nat) {x0 : Nat} {x1 : Int32} {x2 : Int32} {x3 : Int32} {x4 : Int32} {x5 : Int32} {x6 : Int32} {h : sv_H}, O x0 → sv_ow [1605] [1601, 1602, 1603, 1604] O h0 h → sv_fr (sv_ow [1605] [1601, 1602, 1603, 1604] O) h0 (fn_X15_record_59 n x0 x1 x2 x3 x4 x5 x6 h) := by
  intro n
  induction n with
  | zero => intro x0 x1 x2 x3 x4 x5 x6 h ox0 hs r hE e; cases (show (none : Option (Int32 × sv_H)) = some (r, hE) from e)
  | succ n ih => intro x0 x1 x2 x3 x4 x5 x6 h ox0 hs; exact ow_X15_record_59b oc (fun ox0 hs => ih ox0 hs) ox0 hs
theorem ow_X15_record_0 {O : Nat → Prop} {h0 : sv_H} (oc : sv_cl O h0) {x0 : Nat} {x1 : Int32} {x2 : Int32} {x3 : Int32} {x4 : Int32} {x5 : Int32} {h : sv_H} (ox0 : O x0) (hs : sv_ow [1605] [1601, 1602, 1603, 1604] O h0 h) : sv_fr (sv_ow [1605] [1601, 1602, 1603, 1604] O) h0 (fn_X15_record x0 x1 x2 x3 x4 x5 h) := by
  unfold fn_X15_record
  refine fr_if ?_ fr_no
  refine fr_cl (fun _ _ e => (by rw [ro_X15_isIn e]; exact hs)) (fun _ h hs => ?_)
  refine fr_if ?_ ?_
  · exact ow_X15_record_54 oc hs
  · refine fr_cl (fun _ _ e => (by rw [ro_X15_isIn e]; exact hs)) (fun _ h hs => ?_)
    refine fr_if ?_ ?_
    · exact ow_X15_record_54 oc hs
    · refine fr_cl (fun _ _ e => (by rw [ro_X15_isIn e]; exact hs)) (fun _ h hs => ?_)
      refine fr_if ?_ ?_
      · exact ow_X15_record_54 oc hs
      · refine fr_if ?_ ?_
        · exact ow_X15_record_54 oc hs
        · refine fr_if ?_ ?_
          · exact ow_X15_record_54 oc hs
          · refine fr_bd (fun _ => ?_)
            refine fr_if ?_ ?_
            · exact ow_X15_record_59 oc sv_fuel ox0 hs
            · exact ow_X15_record_54 oc hs
theorem ow_X15_record {O : Nat → Prop} {x0 : Nat} {x1 : Int32} {x2 : Int32} {x3 : Int32} {x4 : Int32} {x5 : Int32} {h : sv_H} {r : Int32} {hE : sv_H} (oc : sv_cl O h) (ox0 : O x0) (hw : fn_X15_record x0 x1 x2 x3 x4 x5 h = some (r, hE)) : sv_ow [1605] [1601, 1602, 1603, 1604] O h hE := ow_X15_record_0 oc ox0 (sv_ow.refl h) r hE hw

theorem ow_X17_addInput_29 {O : Nat → Prop} {h0 : sv_H} (oc : sv_cl O h0) {s0 : Int32} {h : sv_H} (hs : sv_ow [1605, 1800] [1601, 1602, 1603, 1604] O h0 h) : sv_fr (sv_ow [1605, 1800] [1601, 1602, 1603, 1604] O) h0 (fn_X17_addInput_29 s0 h) := by
  unfold fn_X17_addInput_29
  exact fr_rt hs
theorem ow_X17_addInput_0 {O : Nat → Prop} {h0 : sv_H} (oc : sv_cl O h0) {x0 : Nat} {x1 : Int32} {x2 : Int32} {x3 : Int32} {x4 : Int32} {h : sv_H} (ox0 : O x0) (hs : sv_ow [1605, 1800] [1601, 1602, 1603, 1604] O h0 h) : sv_fr (sv_ow [1605, 1800] [1601, 1602, 1603, 1604] O) h0 (fn_X17_addInput x0 x1 x2 x3 x4 h) := by
  unfold fn_X17_addInput
  refine fr_if ?_ fr_no
  refine fr_st (fun _ e => ow_pI hs (by decide) ox0 e) (fun h hs => ?_)
  refine fr_bd (fun _ => ?_)
  refine fr_if ?_ ?_
  · exact ow_X17_addInput_29 oc hs
  · refine fr_be (fun v3 e => ?_)
    have ov3 := ow_gO oc hs ox0 e
    clear e
    refine fr_cl (fun _ _ e => (hs.trans ((ow_X15_record (oc.of hs) ov3 e).weak (by decide) (by decide)))) (fun _ h hs => ?_)
    exact ow_X17_addInput_29 oc hs
theorem ow_X17_addInput {O : Nat → Prop} {x0 : Nat} {x1 : Int32} {x2 : Int32} {x3 : Int32} {x4 : Int32} {h : sv_H} {r : Int32} {hE : sv_H} (oc : sv_cl O h) (ox0 : O x0) (hw : fn_X17_addInput x0 x1 x2 x3 x4 h = some (r, hE)) : sv_ow [1605, 1800] [1601, 1602, 1603, 1604] O h hE := ow_X17_addInput_0 oc ox0 (sv_ow.refl h) r hE hw

theorem ow_X12_dropInputs_15 {O : Nat → Prop} {h0 : sv_H} (oc : sv_cl O h0) {h : sv_H} (hs : sv_ow [602] [] O h0 h) : sv_fr (sv_ow [602] [] O) h0 (fn_X12_dropInputs_15 h) := by
  unfold fn_X12_dropInputs_15
  exact fr_rt hs
theorem ow_X12_dropInputs_0 {O : Nat → Prop} {h0 : sv_H} (oc : sv_cl O h0) {x0 : Nat} {x1 : Int32} {h : sv_H} (ox0 : O x0) (hs : sv_ow [602] [] O h0 h) : sv_fr (sv_ow [602] [] O) h0 (fn_X12_dropInputs x0 x1 h) := by
  unfold fn_X12_dropInputs
  refine fr_if ?_ fr_no
  refine fr_if ?_ ?_
  · exact ow_X12_dropInputs_15 oc hs
  · refine fr_be (fun v1 e => ?_)
    have ov1 := ow_gO oc hs ox0 e
    clear e
    refine fr_bd (fun _ => ?_)
    refine fr_if ?_ ?_
    · refine fr_be (fun v3 e => ?_)
      have ov3 := ow_gO oc hs ox0 e
      clear e
      refine fr_bd (fun _ => ?_)
      refine fr_st (fun _ e => ow_pI hs (by decide) ov3 e) (fun h hs => ?_)
      exact fr_rt hs
    · exact ow_X12_dropInputs_15 oc hs
theorem ow_X12_dropInputs {O : Nat → Prop} {x0 : Nat} {x1 : Int32} {h : sv_H} {r : Int32} {hE : sv_H} (oc : sv_cl O h) (ox0 : O x0) (hw : fn_X12_dropInputs x0 x1 h = some (r, hE)) : sv_ow [602] [] O h hE := ow_X12_dropInputs_0 oc ox0 (sv_ow.refl h) r hE hw

theorem ow_X15_undo_12 {O : Nat → Prop} {h0 : sv_H} (oc : sv_cl O h0) {h : sv_H} (hs : sv_ow [1605] [] O h0 h) : sv_fr (sv_ow [1605] [] O) h0 (fn_X15_undo_12 h) := by
  unfold fn_X15_undo_12
  exact fr_rt hs
theorem ow_X15_undo_0 {O : Nat → Prop} {h0 : sv_H} (oc : sv_cl O h0) {x0 : Nat} {x1 : Int32} {h : sv_H} (ox0 : O x0) (hs : sv_ow [1605] [] O h0 h) : sv_fr (sv_ow [1605] [] O) h0 (fn_X15_undo x0 x1 h) := by
  unfold fn_X15_undo
  refine fr_if ?_ fr_no
  refine fr_if ?_ ?_
  · exact ow_X15_undo_12 oc hs
  · refine fr_bd (fun _ => ?_)
    refine fr_if ?_ ?_
    · refine fr_bd (fun _ => ?_)
      refine fr_st (fun _ e => ow_pI hs (by decide) ox0 e) (fun h hs => ?_)
      exact fr_rt hs
    · exact ow_X15_undo_12 oc hs
theorem ow_X15_undo {O : Nat → Prop} {x0 : Nat} {x1 : Int32} {h : sv_H} {r : Int32} {hE : sv_H} (oc : sv_cl O h) (ox0 : O x0) (hw : fn_X15_undo x0 x1 h = some (r, hE)) : sv_ow [1605] [] O h hE := ow_X15_undo_0 oc ox0 (sv_ow.refl h) r hE hw

theorem ow_X17_dropInputs_0 {O : Nat → Prop} {h0 : sv_H} (oc : sv_cl O h0) {x0 : Nat} {x1 : Int32} {h : sv_H} (ox0 : O x0) (hs : sv_ow [1605, 1800] [] O h0 h) : sv_fr (sv_ow [1605, 1800] [] O) h0 (fn_X17_dropInputs x0 x1 h) := by
  unfold fn_X17_dropInputs
  refine fr_if ?_ fr_no
  refine fr_st (fun _ e => ow_pI hs (by decide) ox0 e) (fun h hs => ?_)
  refine fr_be (fun v2 e => ?_)
  have ov2 := ow_gO oc hs ox0 e
  clear e
  refine fr_cl (fun _ _ e => (hs.trans ((ow_X15_undo (oc.of hs) ov2 e).weak (by decide) (by decide)))) (fun _ h hs => ?_)
  exact fr_rz hs
theorem ow_X17_dropInputs {O : Nat → Prop} {x0 : Nat} {x1 : Int32} {h : sv_H} {r : Int32} {hE : sv_H} (oc : sv_cl O h) (ox0 : O x0) (hw : fn_X17_dropInputs x0 x1 h = some (r, hE)) : sv_ow [1605, 1800] [] O h hE := ow_X17_dropInputs_0 oc ox0 (sv_ow.refl h) r hE hw

theorem ow_X3_aim_0 {O : Nat → Prop} {h0 : sv_H} (oc : sv_cl O h0) {x0 : Nat} {x1 : Int32} {x2 : Int32} {x3 : Int32} {x4 : Int32} {h : sv_H} (ox0 : O x0) (hs : sv_ow [407, 408, 409, 410] [] O h0 h) : sv_fr (sv_ow [407, 408, 409, 410] [] O) h0 (fn_X3_aim x0 x1 x2 x3 x4 h) := by
  unfold fn_X3_aim
  refine fr_if ?_ fr_no
  refine fr_st (fun _ e => ow_pI hs (by decide) ox0 e) (fun h hs => ?_)
  refine fr_st (fun _ e => ow_pI hs (by decide) ox0 e) (fun h hs => ?_)
  refine fr_st (fun _ e => ow_pI hs (by decide) ox0 e) (fun h hs => ?_)
  refine fr_st (fun _ e => ow_pI hs (by decide) ox0 e) (fun h hs => ?_)
  exact fr_rt hs
theorem ow_X3_aim {O : Nat → Prop} {x0 : Nat} {x1 : Int32} {x2 : Int32} {x3 : Int32} {x4 : Int32} {h : sv_H} {r : Unit} {hE : sv_H} (oc : sv_cl O h) (ox0 : O x0) (hw : fn_X3_aim x0 x1 x2 x3 x4 h = some (r, hE)) : sv_ow [407, 408, 409, 410] [] O h hE := ow_X3_aim_0 oc ox0 (sv_ow.refl h) r hE hw

theorem ow_X3_makeGap_166 {O : Nat → Prop} {h0 : sv_H} (oc : sv_cl O h0) {x5 : Int32} {h : sv_H} (hs : sv_ow [406] [400, 401, 402, 403, 404, 405] O h0 h) : sv_fr (sv_ow [406] [400, 401, 402, 403, 404, 405] O) h0 (fn_X3_makeGap_166 x5 h) := by
  unfold fn_X3_makeGap_166
  exact fr_rt hs
theorem ow_X3_makeGap_22b {O : Nat → Prop} {h0 : sv_H} (oc : sv_cl O h0) {k22 : Nat → Int64 → Int64 → Int32 → Int32 → sv_H → Option (Int32 × sv_H)} (hk22 : ∀ {x0 : Nat} {x1 : Int64} {x3 : Int64} {x5 : Int32} {x6 : Int32} {h : sv_H}, O x0 → sv_ow [406] [400, 401, 402, 403, 404, 405] O h0 h → sv_fr (sv_ow [406] [400, 401, 402, 403, 404, 405] O) h0 (k22 x0 x1 x3 x5 x6 h)) {x0 : Nat} {x1 : Int64} {x3 : Int64} {x5 : Int32} {x6 : Int32} {h : sv_H} (ox0 : O x0) (hs : sv_ow [406] [400, 401, 402, 403, 404, 405] O h0 h) : sv_fr (sv_ow [406] [400, 401, 402, 403, 404, 405] O) h0 (fn_X3_makeGap_22b k22 x0 x1 x3 x5 x6 h) := by
  unfold fn_X3_makeGap_22b
  refine fr_if ?_ ?_
  · exact ow_X3_makeGap_166 oc hs
  · refine fr_if ?_ ?_
    · exact ow_X3_makeGap_166 oc hs
    · refine fr_be (fun v1 e => ?_)
      have ov1 := ow_gR hs ox0 e
      clear e
      refine fr_bd (fun _ => ?_)
      refine fr_be (fun v3 e => ?_)
      have ov3 := ow_gR hs ox0 e
      clear e
      refine fr_bd (fun _ => ?_)
      refine fr_cl (fun _ _ e => (by rw [ro_X12_compareQuotients e]; exact hs)) (fun _ h hs => ?_)
      refine fr_if ?_ ?_
      · refine fr_be (fun v7 e => ?_)
        have ov7 := ow_gR hs ox0 e
        clear e
        refine fr_be (fun v8 e => ?_)
        have ov8 := ow_gR hs ox0 e
        clear e
        refine fr_bd (fun _ => ?_)
        refine fr_st (fun _ e => ow_sI hs ov7 (by decide) e) (fun h hs => ?_)
        refine fr_be (fun v11 e => ?_)
        have ov11 := ow_gR hs ox0 e
        clear e
        refine fr_be (fun v12 e => ?_)
        have ov12 := ow_gR hs ox0 e
        clear e
        refine fr_bd (fun _ => ?_)
        refine fr_st (fun _ e => ow_sZ hs ov11 (by decide) e) (fun h hs => ?_)
        refine fr_be (fun v15 e => ?_)
        have ov15 := ow_gR hs ox0 e
        clear e
        refine fr_be (fun v16 e => ?_)
        have ov16 := ow_gR hs ox0 e
        clear e
        refine fr_bd (fun _ => ?_)
        refine fr_st (fun _ e => ow_sJ hs ov15 (by decide) e) (fun h hs => ?_)
        refine fr_be (fun v19 e => ?_)
        have ov19 := ow_gR hs ox0 e
        clear e
        refine fr_be (fun v20 e => ?_)
        have ov20 := ow_gR hs ox0 e
        clear e
        refine fr_bd (fun _ => ?_)
        refine fr_st (fun _ e => ow_sJ hs ov19 (by decide) e) (fun h hs => ?_)
        refine fr_be (fun v23 e => ?_)
        have ov23 := ow_gR hs ox0 e
        clear e
        refine fr_be (fun v24 e => ?_)
        have ov24 := ow_gR hs ox0 e
        clear e
        refine fr_bd (fun _ => ?_)
        refine fr_st (fun _ e => ow_sJ hs ov23 (by decide) e) (fun h hs => ?_)
        refine fr_be (fun v27 e => ?_)
        have ov27 := ow_gR hs ox0 e
        clear e
        refine fr_be (fun v28 e => ?_)
        have ov28 := ow_gR hs ox0 e
        clear e
        refine fr_bd (fun _ => ?_)
        refine fr_st (fun _ e => ow_sJ hs ov27 (by decide) e) (fun h hs => ?_)
        exact hk22 ox0 hs
      · exact fr_rt hs
theorem ow_X3_makeGap_22 {O : Nat → Prop} {h0 : sv_H} (oc : sv_cl O h0) : ∀ (n : Nat) {x0 : Nat} {x1 : Int64} {x3 : Int64} {x5 : Int32} {x6 : Int32} {h : sv_H}, O x0 → sv_ow [406] [400, 401, 402, 403, 404, 405] O h0 h → sv_fr (sv_ow [406] [400, 401, 402, 403, 404, 405] O) h0 (fn_X3_makeGap_22 n x0 x1 x3 x5 x6 h) := by
  intro n
  induction n with
  | zero => intro x0 x1 x3 x5 x6 h ox0 hs r hE e; cases (show (none : Option (Int32 × sv_H)) = some (r, hE) from e)
  | succ n ih => intro x0 x1 x3 x5 x6 h ox0 hs; exact ow_X3_makeGap_22b oc (fun ox0 hs => ih ox0 hs) ox0 hs
theorem ow_X3_makeGap_0 {O : Nat → Prop} {h0 : sv_H} (oc : sv_cl O h0) {x0 : Nat} {x1 : Int64} {x3 : Int64} {h : sv_H} (ox0 : O x0) (hs : sv_ow [406] [400, 401, 402, 403, 404, 405] O h0 h) : sv_fr (sv_ow [406] [400, 401, 402, 403, 404, 405] O) h0 (fn_X3_makeGap x0 x1 x3 h) := by
  unfold fn_X3_makeGap
  refine fr_if ?_ fr_no
  refine fr_bd (fun _ => ?_)
  refine fr_bd (fun _ => ?_)
  refine fr_st (fun _ e => ow_pI hs (by decide) ox0 e) (fun h hs => ?_)
  refine fr_bd (fun _ => ?_)
  exact ow_X3_makeGap_22 oc sv_fuel ox0 hs
theorem ow_X3_makeGap {O : Nat → Prop} {x0 : Nat} {x1 : Int64} {x3 : Int64} {h : sv_H} {r : Int32} {hE : sv_H} (oc : sv_cl O h) (ox0 : O x0) (hw : fn_X3_makeGap x0 x1 x3 h = some (r, hE)) : sv_ow [406] [400, 401, 402, 403, 404, 405] O h hE := ow_X3_makeGap_0 oc ox0 (sv_ow.refl h) r hE hw

theorem ow_X3_meet_189 {O : Nat → Prop} {h0 : sv_H} (oc : sv_cl O h0) {h : sv_H} (hs : sv_ow [406] [400, 401, 402, 403, 404, 405] O h0 h) : sv_fr (sv_ow [406] [400, 401, 402, 403, 404, 405] O) h0 (fn_X3_meet_189 h) := by
  unfold fn_X3_meet_189
  exact fr_rt hs
theorem ow_X3_meet_226 {O : Nat → Prop} {h0 : sv_H} (oc : sv_cl O h0) {x0 : Nat} {x4 : Int64} {x6 : Int64} {x10 : Int64} {x12 : Int64} {x14 : Int32} {s0 : Nat} {s1 : Int32} {s2 : Int32} {h : sv_H} (ox0 : O x0) (os0 : sv_rl 401 O h0 s0) (hs : sv_ow [406] [400, 401, 402, 403, 404, 405] O h0 h) : sv_fr (sv_ow [406] [400, 401, 402, 403, 404, 405] O) h0 (fn_X3_meet_226 x0 x4 x6 x10 x12 x14 s0 s1 s2 h) := by
  unfold fn_X3_meet_226
  refine fr_st (fun _ e => ow_sZ hs os0 (by decide) e) (fun h hs => ?_)
  refine fr_be (fun v2 e => ?_)
  have ov2 := ow_gR hs ox0 e
  clear e
  refine fr_st (fun _ e => ow_sJ hs ov2 (by decide) e) (fun h hs => ?_)
  refine fr_be (fun v4 e => ?_)
  have ov4 := ow_gR hs ox0 e
  clear e
  refine fr_st (fun _ e => ow_sJ hs ov4 (by decide) e) (fun h hs => ?_)
  refine fr_be (fun v6 e => ?_)
  have ov6 := ow_gR hs ox0 e
  clear e
  refine fr_st (fun _ e => ow_sJ hs ov6 (by decide) e) (fun h hs => ?_)
  refine fr_be (fun v8 e => ?_)
  have ov8 := ow_gR hs ox0 e
  clear e
  refine fr_st (fun _ e => ow_sJ hs ov8 (by decide) e) (fun h hs => ?_)
  exact fr_rt hs
theorem ow_X3_meet_159 {O : Nat → Prop} {h0 : sv_H} (oc : sv_cl O h0) {x0 : Nat} {x2 : Int32} {x3 : Int32} {x4 : Int64} {x6 : Int64} {x8 : Int64} {s0 : Int64} {h : sv_H} (ox0 : O x0) (hs : sv_ow [406] [400, 401, 402, 403, 404, 405] O h0 h) : sv_fr (sv_ow [406] [400, 401, 402, 403, 404, 405] O) h0 (fn_X3_meet_159 x0 x2 x3 x4 x6 x8 s0 h) := by
  unfold fn_X3_meet_159
  refine fr_let (fun _ => ?_)
  refine fr_if ?_ ?_
  · exact ow_X3_meet_189 oc hs
  · refine fr_if ?_ ?_
    · refine fr_cl (fun _ _ e => (hs.trans ((ow_X3_makeGap (oc.of hs) ox0 e).weak (by decide) (by decide)))) (fun _ h hs => ?_)
      refine fr_be (fun v4 e => ?_)
      have ov4 := ow_gR hs ox0 e
      clear e
      refine fr_st (fun _ e => ow_sI hs ov4 (by decide) e) (fun h hs => ?_)
      refine fr_be (fun v6 e => ?_)
      have ov6 := ow_gR hs ox0 e
      clear e
      refine fr_if ?_ ?_
      · exact ow_X3_meet_226 oc ox0 ov6 hs
      · exact ow_X3_meet_226 oc ox0 ov6 hs
    · exact ow_X3_meet_189 oc hs
theorem ow_X3_meet_94 {O : Nat → Prop} {h0 : sv_H} (oc : sv_cl O h0) {x0 : Nat} {x1 : Nat} {x2 : Int32} {x3 : Int32} {x4 : Int64} {x6 : Int64} {s0 : Int32} {s1 : Int32} {h : sv_H} (ox0 : O x0) (ox1 : O x1) (hs : sv_ow [406] [400, 401, 402, 403, 404, 405] O h0 h) : sv_fr (sv_ow [406] [400, 401, 402, 403, 404, 405] O) h0 (fn_X3_meet_94 x0 x1 x2 x3 x4 x6 s0 s1 h) := by
  unfold fn_X3_meet_94
  refine fr_if ?_ ?_
  · exact fr_rt hs
  · refine fr_bd (fun _ => ?_)
    refine fr_bd (fun _ => ?_)
    refine fr_bd (fun _ => ?_)
    refine fr_bd (fun _ => ?_)
    refine fr_bd (fun _ => ?_)
    refine fr_bd (fun _ => ?_)
    refine fr_bd (fun _ => ?_)
    refine fr_bd (fun _ => ?_)
    refine fr_cl (fun _ _ e => (by rw [ro_X12_cross e]; exact hs)) (fun _ h hs => ?_)
    refine fr_if ?_ ?_
    · exact ow_X3_meet_159 oc ox0 hs
    · exact ow_X3_meet_159 oc ox0 hs
theorem ow_X3_meet_82 {O : Nat → Prop} {h0 : sv_H} (oc : sv_cl O h0) {x0 : Nat} {x1 : Nat} {x2 : Int32} {x3 : Int32} {x4 : Int64} {x6 : Int64} {s0 : Int32} {h : sv_H} (ox0 : O x0) (ox1 : O x1) (hs : sv_ow [406] [400, 401, 402, 403, 404, 405] O h0 h) : sv_fr (sv_ow [406] [400, 401, 402, 403, 404, 405] O) h0 (fn_X3_meet_82 x0 x1 x2 x3 x4 x6 s0 h) := by
  unfold fn_X3_meet_82
  refine fr_if ?_ ?_
  · exact ow_X3_meet_94 oc ox0 ox1 hs
  · exact ow_X3_meet_94 oc ox0 ox1 hs
theorem ow_X3_meet_0 {O : Nat → Prop} {h0 : sv_H} (oc : sv_cl O h0) {x0 : Nat} {x1 : Nat} {x2 : Int32} {x3 : Int32} {h : sv_H} (ox0 : O x0) (ox1 : O x1) (hs : sv_ow [406] [400, 401, 402, 403, 404, 405] O h0 h) : sv_fr (sv_ow [406] [400, 401, 402, 403, 404, 405] O) h0 (fn_X3_meet x0 x1 x2 x3 h) := by
  unfold fn_X3_meet
  refine fr_if ?_ fr_no
  refine fr_bd (fun _ => ?_)
  refine fr_bd (fun _ => ?_)
  refine fr_bd (fun _ => ?_)
  refine fr_bd (fun _ => ?_)
  refine fr_bd (fun _ => ?_)
  refine fr_bd (fun _ => ?_)
  refine fr_cl (fun _ _ e => (by rw [ro_X12_cross e]; exact hs)) (fun _ h hs => ?_)
  refine fr_bd (fun _ => ?_)
  refine fr_bd (fun _ => ?_)
  refine fr_bd (fun _ => ?_)
  refine fr_bd (fun _ => ?_)
  refine fr_bd (fun _ => ?_)
  refine fr_bd (fun _ => ?_)
  refine fr_cl (fun _ _ e => (by rw [ro_X12_cross e]; exact hs)) (fun _ h hs => ?_)
  refine fr_if ?_ ?_
  · exact ow_X3_meet_82 oc ox0 ox1 hs
  · exact ow_X3_meet_82 oc ox0 ox1 hs
theorem ow_X3_meet {O : Nat → Prop} {x0 : Nat} {x1 : Nat} {x2 : Int32} {x3 : Int32} {h : sv_H} {r : Unit} {hE : sv_H} (oc : sv_cl O h) (ox0 : O x0) (ox1 : O x1) (hw : fn_X3_meet x0 x1 x2 x3 h = some (r, hE)) : sv_ow [406] [400, 401, 402, 403, 404, 405] O h hE := ow_X3_meet_0 oc ox0 ox1 (sv_ow.refl h) r hE hw

theorem ow_X3_meetClose_89 {O : Nat → Prop} {h0 : sv_H} (oc : sv_cl O h0) {k30 : Nat → Nat → Int32 → Int32 → Int32 → sv_H → Option (Unit × sv_H)} (hk30 : ∀ {x0 : Nat} {x1 : Nat} {x2 : Int32} {x3 : Int32} {x4 : Int32} {h : sv_H}, O x0 → O x1 → sv_ow [406] [400, 401, 402, 403, 404, 405] O h0 h → sv_fr (sv_ow [406] [400, 401, 402, 403, 404, 405] O) h0 (k30 x0 x1 x2 x3 x4 h)) {x0 : Nat} {x1 : Nat} {x2 : Int32} {x3 : Int32} {x4 : Int32} {h : sv_H} (ox0 : O x0) (ox1 : O x1) (hs : sv_ow [406] [400, 401, 402, 403, 404, 405] O h0 h) : sv_fr (sv_ow [406] [400, 401, 402, 403, 404, 405] O) h0 (fn_X3_meetClose_89 k30 x0 x1 x2 x3 x4 h) := by
  unfold fn_X3_meetClose_89
  exact hk30 ox0 ox1 hs
theorem ow_X3_meetClose_30b {O : Nat → Prop} {h0 : sv_H} (oc : sv_cl O h0) {k30 : Nat → Nat → Int32 → Int32 → Int32 → sv_H → Option (Unit × sv_H)} (hk30 : ∀ {x0 : Nat} {x1 : Nat} {x2 : Int32} {x3 : Int32} {x4 : Int32} {h : sv_H}, O x0 → O x1 → sv_ow [406] [400, 401, 402, 403, 404, 405] O h0 h → sv_fr (sv_ow [406] [400, 401, 402, 403, 404, 405] O) h0 (k30 x0 x1 x2 x3 x4 h)) {x0 : Nat} {x1 : Nat} {x2 : Int32} {x3 : Int32} {x4 : Int32} {h : sv_H} (ox0 : O x0) (ox1 : O x1) (hs : sv_ow [406] [400, 401, 402, 403, 404, 405] O h0 h) : sv_fr (sv_ow [406] [400, 401, 402, 403, 404, 405] O) h0 (fn_X3_meetClose_30b k30 x0 x1 x2 x3 x4 h) := by
  unfold fn_X3_meetClose_30b
  refine fr_bd (fun _ => ?_)
  refine fr_if ?_ ?_
  · exact fr_rt hs
  · refine fr_be (fun v2 e => ?_)
    have ov2 := ow_gO oc hs ox1 e
    clear e
    refine fr_be (fun v3 e => ?_)
    have ov3 := ow_lO oc hs ov2 e
    clear e
    refine fr_bd (fun _ => ?_)
    refine fr_bd (fun _ => ?_)
    refine fr_bd (fun _ => ?_)
    refine fr_bd (fun _ => ?_)
    refine fr_cl (fun _ _ e => (by rw [ro_X11_reachesBox e]; exact hs)) (fun _ h hs => ?_)
    refine fr_if ?_ ?_
    · exact ow_X3_meetClose_89 oc hk30 ox0 ox1 hs
    · refine fr_cl (fun _ _ e => (hs.trans ((ow_X3_meet (oc.of hs) ox0 ov3 e).weak (by decide) (by decide)))) (fun _ h hs => ?_)
      exact ow_X3_meetClose_89 oc hk30 ox0 ox1 hs
theorem ow_X3_meetClose_30 {O : Nat → Prop} {h0 : sv_H} (oc : sv_cl O h0) : ∀ (n : Nat) {x0 : Nat} {x1 : Nat} {x2 : Int32} {x3 : Int32} {x4 : Int32} {h : sv_H}, O x0 → O x1 → sv_ow [406] [400, 401, 402, 403, 404, 405] O h0 h → sv_fr (sv_ow [406] [400, 401, 402, 403, 404, 405] O) h0 (fn_X3_meetClose_30 n x0 x1 x2 x3 x4 h) := by
  intro n
  induction n with
  | zero => intro x0 x1 x2 x3 x4 h ox0 ox1 hs r hE e; cases (show (none : Option (Unit × sv_H)) = some (r, hE) from e)
  | succ n ih => intro x0 x1 x2 x3 x4 h ox0 ox1 hs; exact ow_X3_meetClose_30b oc (fun ox0 ox1 hs => ih ox0 ox1 hs) ox0 ox1 hs
theorem ow_X3_meetClose_0 {O : Nat → Prop} {h0 : sv_H} (oc : sv_cl O h0) {x0 : Nat} {x1 : Nat} {x2 : Int32} {h : sv_H} (ox0 : O x0) (ox1 : O x1) (hs : sv_ow [406] [400, 401, 402, 403, 404, 405] O h0 h) : sv_fr (sv_ow [406] [400, 401, 402, 403, 404, 405] O) h0 (fn_X3_meetClose x0 x1 x2 h) := by
  unfold fn_X3_meetClose
  refine fr_if ?_ fr_no
  refine fr_st (fun _ e => ow_pI hs (by decide) ox0 e) (fun h hs => ?_)
  refine fr_bd (fun _ => ?_)
  refine fr_let (fun _ => ?_)
  refine fr_bd (fun _ => ?_)
  refine fr_let (fun _ => ?_)
  refine fr_let (fun _ => ?_)
  refine fr_if fr_no ?_
  exact ow_X3_meetClose_30 oc sv_fuel ox0 ox1 hs
theorem ow_X3_meetClose {O : Nat → Prop} {x0 : Nat} {x1 : Nat} {x2 : Int32} {h : sv_H} {r : Unit} {hE : sv_H} (oc : sv_cl O h) (ox0 : O x0) (ox1 : O x1) (hw : fn_X3_meetClose x0 x1 x2 h = some (r, hE)) : sv_ow [406] [400, 401, 402, 403, 404, 405] O h hE := ow_X3_meetClose_0 oc ox0 ox1 (sv_ow.refl h) r hE hw

theorem ow_X6_startMover_0 {O : Nat → Prop} {h0 : sv_H} (oc : sv_cl O h0) {x0 : Nat} {x1 : Int32} {x2 : Int32} {x3 : Int32} {h : sv_H} (ox0 : O x0) (hs : sv_ow [709, 710, 711, 712, 713] [] O h0 h) : sv_fr (sv_ow [709, 710, 711, 712, 713] [] O) h0 (fn_X6_startMover x0 x1 x2 x3 h) := by
  unfold fn_X6_startMover
  refine fr_if ?_ fr_no
  refine fr_st (fun _ e => ow_pI hs (by decide) ox0 e) (fun h hs => ?_)
  refine fr_st (fun _ e => ow_pI hs (by decide) ox0 e) (fun h hs => ?_)
  refine fr_st (fun _ e => ow_pI hs (by decide) ox0 e) (fun h hs => ?_)
  refine fr_bd (fun _ => ?_)
  refine fr_st (fun _ e => ow_pI hs (by decide) ox0 e) (fun h hs => ?_)
  refine fr_st (fun _ e => ow_pI hs (by decide) ox0 e) (fun h hs => ?_)
  exact fr_rt hs
theorem ow_X6_startMover {O : Nat → Prop} {x0 : Nat} {x1 : Int32} {x2 : Int32} {x3 : Int32} {h : sv_H} {r : Unit} {hE : sv_H} (oc : sv_cl O h) (ox0 : O x0) (hw : fn_X6_startMover x0 x1 x2 x3 h = some (r, hE)) : sv_ow [709, 710, 711, 712, 713] [] O h hE := ow_X6_startMover_0 oc ox0 (sv_ow.refl h) r hE hw

theorem ow_X2_startOne_103 {O : Nat → Prop} {h0 : sv_H} (oc : sv_cl O h0) {h : sv_H} (hs : sv_ow [709, 710, 711, 712, 713] [] O h0 h) : sv_fr (sv_ow [709, 710, 711, 712, 713] [] O) h0 (fn_X2_startOne_103 h) := by
  unfold fn_X2_startOne_103
  exact fr_rt hs
theorem ow_X2_startOne_0 {O : Nat → Prop} {h0 : sv_H} (oc : sv_cl O h0) {x0 : Nat} {x1 : Int32} {x2 : Int32} {h : sv_H} (ox0 : O x0) (hs : sv_ow [709, 710, 711, 712, 713] [] O h0 h) : sv_fr (sv_ow [709, 710, 711, 712, 713] [] O) h0 (fn_X2_startOne x0 x1 x2 h) := by
  unfold fn_X2_startOne
  refine fr_if ?_ fr_no
  refine fr_be (fun v1 e => ?_)
  have ov1 := ow_gO oc hs ox0 e
  clear e
  refine fr_be (fun v2 e => ?_)
  have ov2 := ow_lO oc hs ov1 e
  clear e
  refine fr_bd (fun _ => ?_)
  refine fr_if ?_ ?_
  · refine fr_if ?_ ?_
    · refine fr_cl (fun _ _ e => (by rw [ro_X2_lowCeiling e]; exact hs)) (fun _ h hs => ?_)
      refine fr_bd (fun _ => ?_)
      refine fr_let (fun _ => ?_)
      refine fr_cl (fun _ _ e => (hs.trans ((ow_X6_startMover (oc.of hs) ov2 e).weak (by decide) (by decide)))) (fun _ h hs => ?_)
      exact ow_X2_startOne_103 oc hs
    · refine fr_if ?_ ?_
      · refine fr_cl (fun _ _ e => (by rw [ro_X2_lowFloor e]; exact hs)) (fun _ h hs => ?_)
        refine fr_cl (fun _ _ e => (hs.trans ((ow_X6_startMover (oc.of hs) ov2 e).weak (by decide) (by decide)))) (fun _ h hs => ?_)
        exact ow_X2_startOne_103 oc hs
      · refine fr_if ?_ ?_
        · refine fr_cl (fun _ _ e => (by rw [ro_X2_highFloor e]; exact hs)) (fun _ h hs => ?_)
          refine fr_bd (fun _ => ?_)
          refine fr_let (fun _ => ?_)
          refine fr_cl (fun _ _ e => (hs.trans ((ow_X6_startMover (oc.of hs) ov2 e).weak (by decide) (by decide)))) (fun _ h hs => ?_)
          exact ow_X2_startOne_103 oc hs
        · exact ow_X2_startOne_103 oc hs
  · refine fr_if ?_ ?_
    · refine fr_bd (fun _ => ?_)
      refine fr_if ?_ ?_
      · refine fr_st (fun _ e => ow_pI hs (by decide) ov2 e) (fun h hs => ?_)
        exact ow_X2_startOne_103 oc hs
      · exact ow_X2_startOne_103 oc hs
    · exact ow_X2_startOne_103 oc hs
theorem ow_X2_startOne {O : Nat → Prop} {x0 : Nat} {x1 : Int32} {x2 : Int32} {h : sv_H} {r : Unit} {hE : sv_H} (oc : sv_cl O h) (ox0 : O x0) (hw : fn_X2_startOne x0 x1 x2 h = some (r, hE)) : sv_ow [709, 710, 711, 712, 713] [] O h hE := ow_X2_startOne_0 oc ox0 (sv_ow.refl h) r hE hw

theorem ow_X2_startAll_40 {O : Nat → Prop} {h0 : sv_H} (oc : sv_cl O h0) {h : sv_H} (hs : sv_ow [709, 710, 711, 712, 713] [] O h0 h) : sv_fr (sv_ow [709, 710, 711, 712, 713] [] O) h0 (fn_X2_startAll_40 h) := by
  unfold fn_X2_startAll_40
  exact fr_rt hs
theorem ow_X2_startAll_34 {O : Nat → Prop} {h0 : sv_H} (oc : sv_cl O h0) {k2 : Nat → Int32 → Int32 → Int32 → sv_H → Option (Unit × sv_H)} (hk2 : ∀ {x0 : Nat} {x1 : Int32} {x2 : Int32} {x3 : Int32} {h : sv_H}, O x0 → sv_ow [709, 710, 711, 712, 713] [] O h0 h → sv_fr (sv_ow [709, 710, 711, 712, 713] [] O) h0 (k2 x0 x1 x2 x3 h)) {x0 : Nat} {x1 : Int32} {x2 : Int32} {x3 : Int32} {h : sv_H} (ox0 : O x0) (hs : sv_ow [709, 710, 711, 712, 713] [] O h0 h) : sv_fr (sv_ow [709, 710, 711, 712, 713] [] O) h0 (fn_X2_startAll_34 k2 x0 x1 x2 x3 h) := by
  unfold fn_X2_startAll_34
  exact hk2 ox0 hs
theorem ow_X2_startAll_2b {O : Nat → Prop} {h0 : sv_H} (oc : sv_cl O h0) {k2 : Nat → Int32 → Int32 → Int32 → sv_H → Option (Unit × sv_H)} (hk2 : ∀ {x0 : Nat} {x1 : Int32} {x2 : Int32} {x3 : Int32} {h : sv_H}, O x0 → sv_ow [709, 710, 711, 712, 713] [] O h0 h → sv_fr (sv_ow [709, 710, 711, 712, 713] [] O) h0 (k2 x0 x1 x2 x3 h)) {x0 : Nat} {x1 : Int32} {x2 : Int32} {x3 : Int32} {h : sv_H} (ox0 : O x0) (hs : sv_ow [709, 710, 711, 712, 713] [] O h0 h) : sv_fr (sv_ow [709, 710, 711, 712, 713] [] O) h0 (fn_X2_startAll_2b k2 x0 x1 x2 x3 h) := by
  unfold fn_X2_startAll_2b
  refine fr_bd (fun _ => ?_)
  refine fr_if ?_ ?_
  · exact ow_X2_startAll_40 oc hs
  · refine fr_if ?_ ?_
    · exact ow_X2_startAll_40 oc hs
    · refine fr_be (fun v2 e => ?_)
      have ov2 := ow_gO oc hs ox0 e
      clear e
      refine fr_be (fun v3 e => ?_)
      have ov3 := ow_lO oc hs ov2 e
      clear e
      refine fr_bd (fun _ => ?_)
      refine fr_if ?_ ?_
      · refine fr_cl (fun _ _ e => (hs.trans ((ow_X2_startOne (oc.of hs) ox0 e).weak (by decide) (by decide)))) (fun _ h hs => ?_)
        exact ow_X2_startAll_34 oc hk2 ox0 hs
      · exact ow_X2_startAll_34 oc hk2 ox0 hs
theorem ow_X2_startAll_2 {O : Nat → Prop} {h0 : sv_H} (oc : sv_cl O h0) : ∀ (n : Nat) {x0 : Nat} {x1 : Int32} {x2 : Int32} {x3 : Int32} {h : sv_H}, O x0 → sv_ow [709, 710, 711, 712, 713] [] O h0 h → sv_fr (sv_ow [709, 710, 711, 712, 713] [] O) h0 (fn_X2_startAll_2 n x0 x1 x2 x3 h) := by
  intro n
  induction n with
  | zero => intro x0 x1 x2 x3 h ox0 hs r hE e; cases (show (none : Option (Unit × sv_H)) = some (r, hE) from e)
  | succ n ih => intro x0 x1 x2 x3 h ox0 hs; exact ow_X2_startAll_2b oc (fun ox0 hs => ih ox0 hs) ox0 hs
theorem ow_X2_startAll_0 {O : Nat → Prop} {h0 : sv_H} (oc : sv_cl O h0) {x0 : Nat} {x1 : Int32} {x2 : Int32} {h : sv_H} (ox0 : O x0) (hs : sv_ow [709, 710, 711, 712, 713] [] O h0 h) : sv_fr (sv_ow [709, 710, 711, 712, 713] [] O) h0 (fn_X2_startAll x0 x1 x2 h) := by
  unfold fn_X2_startAll
  refine fr_if ?_ fr_no
  exact ow_X2_startAll_2 oc sv_fuel ox0 hs
theorem ow_X2_startAll {O : Nat → Prop} {x0 : Nat} {x1 : Int32} {x2 : Int32} {h : sv_H} {r : Unit} {hE : sv_H} (oc : sv_cl O h) (ox0 : O x0) (hw : fn_X2_startAll x0 x1 x2 h = some (r, hE)) : sv_ow [709, 710, 711, 712, 713] [] O h hE := ow_X2_startAll_0 oc ox0 (sv_ow.refl h) r hE hw

theorem ow_X10_go_57 {O : Nat → Prop} {h0 : sv_H} (oc : sv_cl O h0) {h : sv_H} (hs : sv_ow [406, 407, 408, 409, 410, 709, 710, 711, 712, 713, 1102, 1103, 1105] [400, 401, 402, 403, 404, 405] O h0 h) : sv_fr (sv_ow [406, 407, 408, 409, 410, 709, 710, 711, 712, 713, 1102, 1103, 1105] [400, 401, 402, 403, 404, 405] O) h0 (fn_X10_go_57 h) := by
  unfold fn_X10_go_57
  exact fr_rt hs
theorem ow_X10_go_185 {O : Nat → Prop} {h0 : sv_H} (oc : sv_cl O h0) {k135 : Nat → Int32 → sv_H → Option (Int32 × sv_H)} (hk135 : ∀ {x0 : Nat} {x3 : Int32} {h : sv_H}, O x0 → sv_ow [406, 407, 408, 409, 410, 709, 710, 711, 712, 713, 1102, 1103, 1105] [400, 401, 402, 403, 404, 405] O h0 h → sv_fr (sv_ow [406, 407, 408, 409, 410, 709, 710, 711, 712, 713, 1102, 1103, 1105] [400, 401, 402, 403, 404, 405] O) h0 (k135 x0 x3 h)) {x0 : Nat} {x3 : Int32} {x4 : Nat} {s0 : Nat} {s1 : Nat} {s2 : Int32} {h : sv_H} (ox0 : O x0) (ox4 : O x4) (os0 : O s0) (os1 : O s1) (hs : sv_ow [406, 407, 408, 409, 410, 709, 710, 711, 712, 713, 1102, 1103, 1105] [400, 401, 402, 403, 404, 405] O h0 h) : sv_fr (sv_ow [406, 407, 408, 409, 410, 709, 710, 711, 712, 713, 1102, 1103, 1105] [400, 401, 402, 403, 404, 405] O) h0 (fn_X10_go_185 k135 x0 x3 x4 s0 s1 s2 h) := by
  unfold fn_X10_go_185
  refine fr_cl (fun _ _ e => (by rw [ro_X11_sectorOn e]; exact hs)) (fun _ h hs => ?_)
  refine fr_st (fun _ e => ow_pI hs (by decide) os0 e) (fun h hs => ?_)
  refine fr_be (fun v4 e => ?_)
  have ov4 := ow_gO oc hs ox0 e
  clear e
  refine fr_bd (fun _ => ?_)
  refine fr_cl (fun _ _ e => (by rw [ro_X10_moverByCrossing e]; exact hs)) (fun _ h hs => ?_)
  refine fr_bd (fun _ => ?_)
  refine fr_cl (fun _ _ e => (hs.trans ((ow_X2_startAll (oc.of hs) ov4 e).weak (by decide) (by decide)))) (fun _ h hs => ?_)
  exact hk135 ox0 hs
theorem ow_X10_go_135b {O : Nat → Prop} {h0 : sv_H} (oc : sv_cl O h0) {k135 : Nat → Int32 → sv_H → Option (Int32 × sv_H)} (hk135 : ∀ {x0 : Nat} {x3 : Int32} {h : sv_H}, O x0 → sv_ow [406, 407, 408, 409, 410, 709, 710, 711, 712, 713, 1102, 1103, 1105] [400, 401, 402, 403, 404, 405] O h0 h → sv_fr (sv_ow [406, 407, 408, 409, 410, 709, 710, 711, 712, 713, 1102, 1103, 1105] [400, 401, 402, 403, 404, 405] O) h0 (k135 x0 x3 h)) {x0 : Nat} {x3 : Int32} {h : sv_H} (ox0 : O x0) (hs : sv_ow [406, 407, 408, 409, 410, 709, 710, 711, 712, 713, 1102, 1103, 1105] [400, 401, 402, 403, 404, 405] O h0 h) : sv_fr (sv_ow [406, 407, 408, 409, 410, 709, 710, 711, 712, 713, 1102, 1103, 1105] [400, 401, 402, 403, 404, 405] O) h0 (fn_X10_go_135b k135 x0 x3 h) := by
  unfold fn_X10_go_135b
  refine fr_be (fun v1 e => ?_)
  have ov1 := ow_gO oc hs ox0 e
  clear e
  refine fr_bd (fun _ => ?_)
  refine fr_if ?_ ?_
  · exact fr_rt hs
  · refine fr_be (fun v3 e => ?_)
    have ov3 := ow_gO oc hs ox0 e
    clear e
    refine fr_be (fun v4 e => ?_)
    have ov4 := ow_gO oc hs ov3 e
    clear e
    refine fr_be (fun v5 e => ?_)
    have ov5 := ow_gO oc hs ox0 e
    clear e
    refine fr_be (fun v6 e => ?_)
    have ov6 := ow_gR hs ov5 e
    clear e
    refine fr_bd (fun _ => ?_)
    refine fr_be (fun v8 e => ?_)
    have ov8 := ow_lO oc hs ov4 e
    clear e
    refine fr_be (fun v9 e => ?_)
    have ov9 := ow_gO oc hs ox0 e
    clear e
    refine fr_be (fun v10 e => ?_)
    have ov10 := ow_gR hs ov9 e
    clear e
    refine fr_bd (fun _ => ?_)
    refine fr_if ?_ ?_
    · exact ow_X10_go_185 oc hk135 ox0 ov8 ox0 ov8 hs
    · exact ow_X10_go_185 oc hk135 ox0 ov8 ox0 ov8 hs
theorem ow_X10_go_135 {O : Nat → Prop} {h0 : sv_H} (oc : sv_cl O h0) : ∀ (n : Nat) {x0 : Nat} {x3 : Int32} {h : sv_H}, O x0 → sv_ow [406, 407, 408, 409, 410, 709, 710, 711, 712, 713, 1102, 1103, 1105] [400, 401, 402, 403, 404, 405] O h0 h → sv_fr (sv_ow [406, 407, 408, 409, 410, 709, 710, 711, 712, 713, 1102, 1103, 1105] [400, 401, 402, 403, 404, 405] O) h0 (fn_X10_go_135 n x0 x3 h) := by
  intro n
  induction n with
  | zero => intro x0 x3 h ox0 hs r hE e; cases (show (none : Option (Int32 × sv_H)) = some (r, hE) from e)
  | succ n ih => intro x0 x3 h ox0 hs; exact ow_X10_go_135b oc (fun ox0 hs => ih ox0 hs) ox0 hs
theorem ow_X10_go_61b {O : Nat → Prop} {h0 : sv_H} (oc : sv_cl O h0) {k61 : Nat → Int32 → Int32 → Int32 → sv_H → Option (Int32 × sv_H)} (hk61 : ∀ {x0 : Nat} {x1 : Int32} {x2 : Int32} {x3 : Int32} {h : sv_H}, O x0 → sv_ow [406, 407, 408, 409, 410, 709, 710, 711, 712, 713, 1102, 1103, 1105] [400, 401, 402, 403, 404, 405] O h0 h → sv_fr (sv_ow [406, 407, 408, 409, 410, 709, 710, 711, 712, 713, 1102, 1103, 1105] [400, 401, 402, 403, 404, 405] O) h0 (k61 x0 x1 x2 x3 h)) {x0 : Nat} {x1 : Int32} {x2 : Int32} {x3 : Int32} {h : sv_H} (ox0 : O x0) (hs : sv_ow [406, 407, 408, 409, 410, 709, 710, 711, 712, 713, 1102, 1103, 1105] [400, 401, 402, 403, 404, 405] O h0 h) : sv_fr (sv_ow [406, 407, 408, 409, 410, 709, 710, 711, 712, 713, 1102, 1103, 1105] [400, 401, 402, 403, 404, 405] O) h0 (fn_X10_go_61b k61 x0 x1 x2 x3 h) := by
  unfold fn_X10_go_61b
  refine fr_be (fun v1 e => ?_)
  have ov1 := ow_gO oc hs ox0 e
  clear e
  refine fr_bd (fun _ => ?_)
  refine fr_if ?_ ?_
  · refine fr_bd (fun _ => ?_)
    refine fr_st (fun _ e => ow_pI hs (by decide) ox0 e) (fun h hs => ?_)
    refine fr_bd (fun _ => ?_)
    refine fr_st (fun _ e => ow_pI hs (by decide) ox0 e) (fun h hs => ?_)
    exact ow_X10_go_135 oc sv_fuel ox0 hs
  · refine fr_be (fun v7 e => ?_)
    have ov7 := ow_gO oc hs ox0 e
    clear e
    refine fr_be (fun v8 e => ?_)
    have ov8 := ow_gO oc hs ov7 e
    clear e
    refine fr_be (fun v9 e => ?_)
    have ov9 := ow_gO oc hs ox0 e
    clear e
    refine fr_be (fun v10 e => ?_)
    have ov10 := ow_gR hs ov9 e
    clear e
    refine fr_bd (fun _ => ?_)
    refine fr_be (fun v12 e => ?_)
    have ov12 := ow_lO oc hs ov8 e
    clear e
    refine fr_be (fun v13 e => ?_)
    have ov13 := ow_gO oc hs ox0 e
    clear e
    refine fr_be (fun v14 e => ?_)
    have ov14 := ow_gR hs ov13 e
    clear e
    refine fr_bd (fun _ => ?_)
    refine fr_cl (fun _ _ e => (by rw [ro_X10_stops e]; exact hs)) (fun _ h hs => ?_)
    refine fr_if ?_ ?_
    · exact hk61 ox0 hs
    · exact fr_rt hs
theorem ow_X10_go_61 {O : Nat → Prop} {h0 : sv_H} (oc : sv_cl O h0) : ∀ (n : Nat) {x0 : Nat} {x1 : Int32} {x2 : Int32} {x3 : Int32} {h : sv_H}, O x0 → sv_ow [406, 407, 408, 409, 410, 709, 710, 711, 712, 713, 1102, 1103, 1105] [400, 401, 402, 403, 404, 405] O h0 h → sv_fr (sv_ow [406, 407, 408, 409, 410, 709, 710, 711, 712, 713, 1102, 1103, 1105] [400, 401, 402, 403, 404, 405] O) h0 (fn_X10_go_61 n x0 x1 x2 x3 h) := by
  intro n
  induction n with
  | zero => intro x0 x1 x2 x3 h ox0 hs r hE e; cases (show (none : Option (Int32 × sv_H)) = some (r, hE) from e)
  | succ n ih => intro x0 x1 x2 x3 h ox0 hs; exact ow_X10_go_61b oc (fun ox0 hs => ih ox0 hs) ox0 hs
theorem ow_X10_go_0 {O : Nat → Prop} {h0 : sv_H} (oc : sv_cl O h0) {x0 : Nat} {x1 : Int32} {x2 : Int32} {h : sv_H} (ox0 : O x0) (hs : sv_ow [406, 407, 408, 409, 410, 709, 710, 711, 712, 713, 1102, 1103, 1105] [400, 401, 402, 403, 404, 405] O h0 h) : sv_fr (sv_ow [406, 407, 408, 409, 410, 709, 710, 711, 712, 713, 1102, 1103, 1105] [400, 401, 402, 403, 404, 405] O) h0 (fn_X10_go x0 x1 x2 h) := by
  unfold fn_X10_go
  refine fr_if ?_ fr_no
  refine fr_be (fun v1 e => ?_)
  have ov1 := ow_gO oc hs ox0 e
  clear e
  refine fr_bd (fun _ => ?_)
  refine fr_bd (fun _ => ?_)
  refine fr_cl (fun _ _ e => (hs.trans ((ow_X3_aim (oc.of hs) ov1 e).weak (by decide) (by decide)))) (fun _ h hs => ?_)
  refine fr_be (fun v5 e => ?_)
  have ov5 := ow_gO oc hs ox0 e
  clear e
  refine fr_be (fun v6 e => ?_)
  have ov6 := ow_gO oc hs ox0 e
  clear e
  refine fr_cl (fun _ _ e => (hs.trans ((ow_X3_meetClose (oc.of hs) ov5 ov6 e).weak (by decide) (by decide)))) (fun _ h hs => ?_)
  refine fr_bd (fun _ => ?_)
  refine fr_let (fun _ => ?_)
  refine fr_if ?_ ?_
  · exact ow_X10_go_57 oc hs
  · refine fr_bd (fun _ => ?_)
    refine fr_let (fun _ => ?_)
    refine fr_if ?_ ?_
    · exact ow_X10_go_61 oc sv_fuel ox0 hs
    · exact ow_X10_go_57 oc hs
theorem ow_X10_go {O : Nat → Prop} {x0 : Nat} {x1 : Int32} {x2 : Int32} {h : sv_H} {r : Int32} {hE : sv_H} (oc : sv_cl O h) (ox0 : O x0) (hw : fn_X10_go x0 x1 x2 h = some (r, hE)) : sv_ow [406, 407, 408, 409, 410, 709, 710, 711, 712, 713, 1102, 1103, 1105] [400, 401, 402, 403, 404, 405] O h hE := ow_X10_go_0 oc ox0 (sv_ow.refl h) r hE hw

theorem ow_X10_use_51 {O : Nat → Prop} {h0 : sv_H} (oc : sv_cl O h0) {h : sv_H} (hs : sv_ow [406, 407, 408, 409, 410, 709, 710, 711, 712, 713] [400, 401, 402, 403, 404, 405] O h0 h) : sv_fr (sv_ow [406, 407, 408, 409, 410, 709, 710, 711, 712, 713] [400, 401, 402, 403, 404, 405] O) h0 (fn_X10_use_51 h) := by
  unfold fn_X10_use_51
  exact fr_rt hs
theorem ow_X10_use_121 {O : Nat → Prop} {h0 : sv_H} (oc : sv_cl O h0) {h : sv_H} (hs : sv_ow [406, 407, 408, 409, 410, 709, 710, 711, 712, 713] [400, 401, 402, 403, 404, 405] O h0 h) : sv_fr (sv_ow [406, 407, 408, 409, 410, 709, 710, 711, 712, 713] [400, 401, 402, 403, 404, 405] O) h0 (fn_X10_use_121 h) := by
  unfold fn_X10_use_121
  exact fr_rt hs
theorem ow_X10_use_101 {O : Nat → Prop} {h0 : sv_H} (oc : sv_cl O h0) {x0 : Nat} {x3 : Nat} {h : sv_H} (ox0 : O x0) (ox3 : O x3) (hs : sv_ow [406, 407, 408, 409, 410, 709, 710, 711, 712, 713] [400, 401, 402, 403, 404, 405] O h0 h) : sv_fr (sv_ow [406, 407, 408, 409, 410, 709, 710, 711, 712, 713] [400, 401, 402, 403, 404, 405] O) h0 (fn_X10_use_101 x0 x3 h) := by
  unfold fn_X10_use_101
  refine fr_bd (fun _ => ?_)
  refine fr_if ?_ ?_
  · refine fr_be (fun v2 e => ?_)
    have ov2 := ow_gO oc hs ox0 e
    clear e
    refine fr_bd (fun _ => ?_)
    refine fr_cl (fun _ _ e => (hs.trans ((ow_X2_startAll (oc.of hs) ov2 e).weak (by decide) (by decide)))) (fun _ h hs => ?_)
    exact ow_X10_use_121 oc hs
  · exact ow_X10_use_121 oc hs
theorem ow_X10_use_0 {O : Nat → Prop} {h0 : sv_H} (oc : sv_cl O h0) {x0 : Nat} {x1 : Int32} {x2 : Int32} {h : sv_H} (ox0 : O x0) (hs : sv_ow [406, 407, 408, 409, 410, 709, 710, 711, 712, 713] [400, 401, 402, 403, 404, 405] O h0 h) : sv_fr (sv_ow [406, 407, 408, 409, 410, 709, 710, 711, 712, 713] [400, 401, 402, 403, 404, 405] O) h0 (fn_X10_use x0 x1 x2 h) := by
  unfold fn_X10_use
  refine fr_if ?_ fr_no
  refine fr_be (fun v1 e => ?_)
  have ov1 := ow_gO oc hs ox0 e
  clear e
  refine fr_bd (fun _ => ?_)
  refine fr_bd (fun _ => ?_)
  refine fr_cl (fun _ _ e => (hs.trans ((ow_X3_aim (oc.of hs) ov1 e).weak (by decide) (by decide)))) (fun _ h hs => ?_)
  refine fr_be (fun v5 e => ?_)
  have ov5 := ow_gO oc hs ox0 e
  clear e
  refine fr_be (fun v6 e => ?_)
  have ov6 := ow_gO oc hs ox0 e
  clear e
  refine fr_cl (fun _ _ e => (hs.trans ((ow_X3_meetClose (oc.of hs) ov5 ov6 e).weak (by decide) (by decide)))) (fun _ h hs => ?_)
  refine fr_be (fun v8 e => ?_)
  have ov8 := ow_gO oc hs ox0 e
  clear e
  refine fr_bd (fun _ => ?_)
  refine fr_if ?_ ?_
  · exact ow_X10_use_51 oc hs
  · refine fr_be (fun v10 e => ?_)
    have ov10 := ow_gO oc hs ox0 e
    clear e
    refine fr_be (fun v11 e => ?_)
    have ov11 := ow_gR hs ov10 e
    clear e
    refine fr_bd (fun _ => ?_)
    refine fr_if ?_ ?_
    · exact ow_X10_use_51 oc hs
    · refine fr_be (fun v13 e => ?_)
      have ov13 := ow_gO oc hs ox0 e
      clear e
      refine fr_be (fun v14 e => ?_)
      have ov14 := ow_gO oc hs ov13 e
      clear e
      refine fr_be (fun v15 e => ?_)
      have ov15 := ow_gO oc hs ox0 e
      clear e
      refine fr_be (fun v16 e => ?_)
      have ov16 := ow_gR hs ov15 e
      clear e
      refine fr_bd (fun _ => ?_)
      refine fr_be (fun v18 e => ?_)
      have ov18 := ow_lO oc hs ov14 e
      clear e
      refine fr_bd (fun _ => ?_)
      refine fr_if ?_ ?_
      · refine fr_bd (fun _ => ?_)
        refine fr_if ?_ ?_
        · exact ow_X10_use_101 oc ox0 ov18 hs
        · refine fr_be (fun v21 e => ?_)
          have ov21 := ow_gO oc hs ox0 e
          clear e
          refine fr_bd (fun _ => ?_)
          refine fr_cl (fun _ _ e => (hs.trans ((ow_X2_startOne (oc.of hs) ov21 e).weak (by decide) (by decide)))) (fun _ h hs => ?_)
          exact ow_X10_use_121 oc hs
      · exact ow_X10_use_101 oc ox0 ov18 hs
theorem ow_X10_use {O : Nat → Prop} {x0 : Nat} {x1 : Int32} {x2 : Int32} {h : sv_H} {r : Unit} {hE : sv_H} (oc : sv_cl O h) (ox0 : O x0) (hw : fn_X10_use x0 x1 x2 h = some (r, hE)) : sv_ow [406, 407, 408, 409, 410, 709, 710, 711, 712, 713] [400, 401, 402, 403, 404, 405] O h hE := ow_X10_use_0 oc ox0 (sv_ow.refl h) r hE hw

theorem ow_X6_waitOn_33 {O : Nat → Prop} {h0 : sv_H} (oc : sv_cl O h0) {h : sv_H} (hs : sv_ow [710, 711] [] O h0 h) : sv_fr (sv_ow [710, 711] [] O) h0 (fn_X6_waitOn_33 h) := by
  unfold fn_X6_waitOn_33
  exact fr_rt hs
theorem ow_X6_waitOn_30 {O : Nat → Prop} {h0 : sv_H} (oc : sv_cl O h0) {s0 : Nat} {s1 : Int32} {h : sv_H} (os0 : O s0) (hs : sv_ow [710, 711] [] O h0 h) : sv_fr (sv_ow [710, 711] [] O) h0 (fn_X6_waitOn_30 s0 s1 h) := by
  unfold fn_X6_waitOn_30
  refine fr_st (fun _ e => ow_pI hs (by decide) os0 e) (fun h hs => ?_)
  exact ow_X6_waitOn_33 oc hs
theorem ow_X6_waitOn_0 {O : Nat → Prop} {h0 : sv_H} (oc : sv_cl O h0) {x0 : Nat} {h : sv_H} (ox0 : O x0) (hs : sv_ow [710, 711] [] O h0 h) : sv_fr (sv_ow [710, 711] [] O) h0 (fn_X6_waitOn x0 h) := by
  unfold fn_X6_waitOn
  refine fr_if ?_ fr_no
  refine fr_bd (fun _ => ?_)
  refine fr_st (fun _ e => ow_pI hs (by decide) ox0 e) (fun h hs => ?_)
  refine fr_bd (fun _ => ?_)
  refine fr_if ?_ ?_
  · exact ow_X6_waitOn_33 oc hs
  · refine fr_bd (fun _ => ?_)
    refine fr_if ?_ ?_
    · exact ow_X6_waitOn_30 oc ox0 hs
    · exact ow_X6_waitOn_30 oc ox0 hs
theorem ow_X6_waitOn {O : Nat → Prop} {x0 : Nat} {h : sv_H} {r : Unit} {hE : sv_H} (oc : sv_cl O h) (ox0 : O x0) (hw : fn_X6_waitOn x0 h = some (r, hE)) : sv_ow [710, 711] [] O h hE := ow_X6_waitOn_0 oc ox0 (sv_ow.refl h) r hE hw

theorem ow_X6_waitFor_0 {O : Nat → Prop} {h0 : sv_H} (oc : sv_cl O h0) {x0 : Nat} {x1 : Int32} {h : sv_H} (ox0 : O x0) (hs : sv_ow [710, 711] [] O h0 h) : sv_fr (sv_ow [710, 711] [] O) h0 (fn_X6_waitFor x0 x1 h) := by
  unfold fn_X6_waitFor
  refine fr_if ?_ fr_no
  refine fr_st (fun _ e => ow_pI hs (by decide) ox0 e) (fun h hs => ?_)
  refine fr_st (fun _ e => ow_pI hs (by decide) ox0 e) (fun h hs => ?_)
  exact fr_rt hs
theorem ow_X6_waitFor {O : Nat → Prop} {x0 : Nat} {x1 : Int32} {h : sv_H} {r : Unit} {hE : sv_H} (oc : sv_cl O h) (ox0 : O x0) (hw : fn_X6_waitFor x0 x1 h = some (r, hE)) : sv_ow [710, 711] [] O h hE := ow_X6_waitFor_0 oc ox0 (sv_ow.refl h) r hE hw

theorem ow_X6_openDoor_35 {O : Nat → Prop} {h0 : sv_H} (oc : sv_cl O h0) {h : sv_H} (hs : sv_ow [708, 710, 711] [] O h0 h) : sv_fr (sv_ow [708, 710, 711] [] O) h0 (fn_X6_openDoor_35 h) := by
  unfold fn_X6_openDoor_35
  exact fr_rt hs
theorem ow_X6_openDoor_0 {O : Nat → Prop} {h0 : sv_H} (oc : sv_cl O h0) {x0 : Nat} {h : sv_H} (ox0 : O x0) (hs : sv_ow [708, 710, 711] [] O h0 h) : sv_fr (sv_ow [708, 710, 711] [] O) h0 (fn_X6_openDoor x0 h) := by
  unfold fn_X6_openDoor
  refine fr_if ?_ fr_no
  refine fr_bd (fun _ => ?_)
  refine fr_bd (fun _ => ?_)
  refine fr_let (fun _ => ?_)
  refine fr_st (fun _ e => ow_pI hs (by decide) ox0 e) (fun h hs => ?_)
  refine fr_bd (fun _ => ?_)
  refine fr_bd (fun _ => ?_)
  refine fr_if ?_ ?_
  · refine fr_cl (fun _ _ e => (hs.trans ((ow_X6_waitFor (oc.of hs) ox0 e).weak (by decide) (by decide)))) (fun _ h hs => ?_)
    exact ow_X6_openDoor_35 oc hs
  · exact ow_X6_openDoor_35 oc hs
theorem ow_X6_openDoor {O : Nat → Prop} {x0 : Nat} {h : sv_H} {r : Unit} {hE : sv_H} (oc : sv_cl O h) (ox0 : O x0) (hw : fn_X6_openDoor x0 h = some (r, hE)) : sv_ow [708, 710, 711] [] O h hE := ow_X6_openDoor_0 oc ox0 (sv_ow.refl h) r hE hw

theorem ow_X6_closeDoor_56 {O : Nat → Prop} {h0 : sv_H} (oc : sv_cl O h0) {h : sv_H} (hs : sv_ow [708, 709, 710, 711] [] O h0 h) : sv_fr (sv_ow [708, 709, 710, 711] [] O) h0 (fn_X6_closeDoor_56 h) := by
  unfold fn_X6_closeDoor_56
  exact fr_rt hs
theorem ow_X6_closeDoor_36 {O : Nat → Prop} {h0 : sv_H} (oc : sv_cl O h0) {x0 : Nat} {x2 : Int32} {h : sv_H} (ox0 : O x0) (hs : sv_ow [708, 709, 710, 711] [] O h0 h) : sv_fr (sv_ow [708, 709, 710, 711] [] O) h0 (fn_X6_closeDoor_36 x0 x2 h) := by
  unfold fn_X6_closeDoor_36
  refine fr_st (fun _ e => ow_pI hs (by decide) ox0 e) (fun h hs => ?_)
  refine fr_bd (fun _ => ?_)
  refine fr_bd (fun _ => ?_)
  refine fr_if ?_ ?_
  · refine fr_cl (fun _ _ e => (hs.trans ((ow_X6_endMover (oc.of hs) ox0 e).weak (by decide) (by decide)))) (fun _ h hs => ?_)
    exact ow_X6_closeDoor_56 oc hs
  · exact ow_X6_closeDoor_56 oc hs
theorem ow_X6_closeDoor_0 {O : Nat → Prop} {h0 : sv_H} (oc : sv_cl O h0) {x0 : Nat} {x1 : Int32} {h : sv_H} (ox0 : O x0) (hs : sv_ow [708, 709, 710, 711] [] O h0 h) : sv_fr (sv_ow [708, 709, 710, 711] [] O) h0 (fn_X6_closeDoor x0 x1 h) := by
  unfold fn_X6_closeDoor
  refine fr_if ?_ fr_no
  refine fr_bd (fun _ => ?_)
  refine fr_bd (fun _ => ?_)
  refine fr_let (fun _ => ?_)
  refine fr_if ?_ ?_
  · exact ow_X6_closeDoor_36 oc ox0 hs
  · refine fr_bd (fun _ => ?_)
    refine fr_if ?_ ?_
    · exact ow_X6_closeDoor_36 oc ox0 hs
    · refine fr_st (fun _ e => ow_pI hs (by decide) ox0 e) (fun h hs => ?_)
      exact fr_rt hs
theorem ow_X6_closeDoor {O : Nat → Prop} {x0 : Nat} {x1 : Int32} {h : sv_H} {r : Unit} {hE : sv_H} (oc : sv_cl O h) (ox0 : O x0) (hw : fn_X6_closeDoor x0 x1 h = some (r, hE)) : sv_ow [708, 709, 710, 711] [] O h hE := ow_X6_closeDoor_0 oc ox0 (sv_ow.refl h) r hE hw

theorem ow_X6_sinkLift_34 {O : Nat → Prop} {h0 : sv_H} (oc : sv_cl O h0) {h : sv_H} (hs : sv_ow [707, 710, 711] [] O h0 h) : sv_fr (sv_ow [707, 710, 711] [] O) h0 (fn_X6_sinkLift_34 h) := by
  unfold fn_X6_sinkLift_34
  exact fr_rt hs
theorem ow_X6_sinkLift_0 {O : Nat → Prop} {h0 : sv_H} (oc : sv_cl O h0) {x0 : Nat} {h : sv_H} (ox0 : O x0) (hs : sv_ow [707, 710, 711] [] O h0 h) : sv_fr (sv_ow [707, 710, 711] [] O) h0 (fn_X6_sinkLift x0 h) := by
  unfold fn_X6_sinkLift
  refine fr_if ?_ fr_no
  refine fr_bd (fun _ => ?_)
  refine fr_bd (fun _ => ?_)
  refine fr_let (fun _ => ?_)
  refine fr_st (fun _ e => ow_pI hs (by decide) ox0 e) (fun h hs => ?_)
  refine fr_bd (fun _ => ?_)
  refine fr_bd (fun _ => ?_)
  refine fr_if ?_ ?_
  · refine fr_cl (fun _ _ e => (hs.trans ((ow_X6_waitFor (oc.of hs) ox0 e).weak (by decide) (by decide)))) (fun _ h hs => ?_)
    exact ow_X6_sinkLift_34 oc hs
  · exact ow_X6_sinkLift_34 oc hs
theorem ow_X6_sinkLift {O : Nat → Prop} {x0 : Nat} {h : sv_H} {r : Unit} {hE : sv_H} (oc : sv_cl O h) (ox0 : O x0) (hw : fn_X6_sinkLift x0 h = some (r, hE)) : sv_ow [707, 710, 711] [] O h hE := ow_X6_sinkLift_0 oc ox0 (sv_ow.refl h) r hE hw

theorem ow_X6_raiseFloor_47 {O : Nat → Prop} {h0 : sv_H} (oc : sv_cl O h0) {h : sv_H} (hs : sv_ow [707, 709, 710, 711] [] O h0 h) : sv_fr (sv_ow [707, 709, 710, 711] [] O) h0 (fn_X6_raiseFloor_47 h) := by
  unfold fn_X6_raiseFloor_47
  exact fr_rt hs
theorem ow_X6_raiseFloor_29 {O : Nat → Prop} {h0 : sv_H} (oc : sv_cl O h0) {x0 : Nat} {x2 : Int32} {x4 : Int32} {h : sv_H} (ox0 : O x0) (hs : sv_ow [707, 709, 710, 711] [] O h0 h) : sv_fr (sv_ow [707, 709, 710, 711] [] O) h0 (fn_X6_raiseFloor_29 x0 x2 x4 h) := by
  unfold fn_X6_raiseFloor_29
  refine fr_st (fun _ e => ow_pI hs (by decide) ox0 e) (fun h hs => ?_)
  refine fr_bd (fun _ => ?_)
  refine fr_if ?_ ?_
  · refine fr_cl (fun _ _ e => (hs.trans ((ow_X6_endMover (oc.of hs) ox0 e).weak (by decide) (by decide)))) (fun _ h hs => ?_)
    exact ow_X6_raiseFloor_47 oc hs
  · exact ow_X6_raiseFloor_47 oc hs
theorem ow_X6_raiseFloor_0 {O : Nat → Prop} {h0 : sv_H} (oc : sv_cl O h0) {x0 : Nat} {x1 : Int32} {x2 : Int32} {x3 : Int32} {h : sv_H} (ox0 : O x0) (hs : sv_ow [707, 709, 710, 711] [] O h0 h) : sv_fr (sv_ow [707, 709, 710, 711] [] O) h0 (fn_X6_raiseFloor x0 x1 x2 x3 h) := by
  unfold fn_X6_raiseFloor
  refine fr_if ?_ fr_no
  refine fr_bd (fun _ => ?_)
  refine fr_let (fun _ => ?_)
  refine fr_if ?_ ?_
  · exact ow_X6_raiseFloor_29 oc ox0 hs
  · refine fr_bd (fun _ => ?_)
    refine fr_if ?_ ?_
    · exact ow_X6_raiseFloor_29 oc ox0 hs
    · exact fr_rt hs
theorem ow_X6_raiseFloor {O : Nat → Prop} {x0 : Nat} {x1 : Int32} {x2 : Int32} {x3 : Int32} {h : sv_H} {r : Unit} {hE : sv_H} (oc : sv_cl O h) (ox0 : O x0) (hw : fn_X6_raiseFloor x0 x1 x2 x3 h = some (r, hE)) : sv_ow [707, 709, 710, 711] [] O h hE := ow_X6_raiseFloor_0 oc ox0 (sv_ow.refl h) r hE hw

theorem ow_X6_tick_104 {O : Nat → Prop} {h0 : sv_H} (oc : sv_cl O h0) {h : sv_H} (hs : sv_ow [707, 708, 709, 710, 711] [] O h0 h) : sv_fr (sv_ow [707, 708, 709, 710, 711] [] O) h0 (fn_X6_tick_104 h) := by
  unfold fn_X6_tick_104
  exact fr_rt hs
theorem ow_X6_tick_44 {O : Nat → Prop} {h0 : sv_H} (oc : sv_cl O h0) {x0 : Nat} {x1 : Int32} {h : sv_H} (ox0 : O x0) (hs : sv_ow [707, 708, 709, 710, 711] [] O h0 h) : sv_fr (sv_ow [707, 708, 709, 710, 711] [] O) h0 (fn_X6_tick_44 x0 x1 h) := by
  unfold fn_X6_tick_44
  refine fr_bd (fun _ => ?_)
  refine fr_if ?_ ?_
  · refine fr_cl (fun _ _ e => (hs.trans ((ow_X6_closeDoor (oc.of hs) ox0 e).weak (by decide) (by decide)))) (fun _ h hs => ?_)
    exact ow_X6_tick_104 oc hs
  · refine fr_bd (fun _ => ?_)
    refine fr_if ?_ ?_
    · refine fr_bd (fun _ => ?_)
      refine fr_if ?_ ?_
      · refine fr_bd (fun _ => ?_)
        refine fr_cl (fun _ _ e => (hs.trans ((ow_X6_raiseFloor (oc.of hs) ox0 e).weak (by decide) (by decide)))) (fun _ h hs => ?_)
        exact ow_X6_tick_104 oc hs
      · refine fr_bd (fun _ => ?_)
        refine fr_cl (fun _ _ e => (hs.trans ((ow_X6_raiseFloor (oc.of hs) ox0 e).weak (by decide) (by decide)))) (fun _ h hs => ?_)
        exact ow_X6_tick_104 oc hs
    · refine fr_cl (fun _ _ e => (hs.trans ((ow_X6_sinkLift (oc.of hs) ox0 e).weak (by decide) (by decide)))) (fun _ h hs => ?_)
      exact ow_X6_tick_104 oc hs
theorem ow_X6_tick_0 {O : Nat → Prop} {h0 : sv_H} (oc : sv_cl O h0) {x0 : Nat} {x1 : Int32} {h : sv_H} (ox0 : O x0) (hs : sv_ow [707, 708, 709, 710, 711] [] O h0 h) : sv_fr (sv_ow [707, 708, 709, 710, 711] [] O) h0 (fn_X6_tick x0 x1 h) := by
  unfold fn_X6_tick
  refine fr_if ?_ fr_no
  refine fr_bd (fun _ => ?_)
  refine fr_if ?_ ?_
  · exact fr_rt hs
  · refine fr_bd (fun _ => ?_)
    refine fr_if ?_ ?_
    · refine fr_cl (fun _ _ e => (hs.trans ((ow_X6_waitOn (oc.of hs) ox0 e).weak (by decide) (by decide)))) (fun _ h hs => ?_)
      exact ow_X6_tick_104 oc hs
    · refine fr_bd (fun _ => ?_)
      refine fr_if ?_ ?_
      · refine fr_bd (fun _ => ?_)
        refine fr_if ?_ ?_
        · exact ow_X6_tick_44 oc ox0 hs
        · refine fr_cl (fun _ _ e => (hs.trans ((ow_X6_openDoor (oc.of hs) ox0 e).weak (by decide) (by decide)))) (fun _ h hs => ?_)
          exact ow_X6_tick_104 oc hs
      · exact ow_X6_tick_44 oc ox0 hs
theorem ow_X6_tick {O : Nat → Prop} {x0 : Nat} {x1 : Int32} {h : sv_H} {r : Unit} {hE : sv_H} (oc : sv_cl O h) (ox0 : O x0) (hw : fn_X6_tick x0 x1 h = some (r, hE)) : sv_ow [707, 708, 709, 710, 711] [] O h hE := ow_X6_tick_0 oc ox0 (sv_ow.refl h) r hE hw

theorem ow_X2_tick_26 {O : Nat → Prop} {h0 : sv_H} (oc : sv_cl O h0) {k2 : Nat → Int32 → Int32 → sv_H → Option (Unit × sv_H)} (hk2 : ∀ {x0 : Nat} {x1 : Int32} {x2 : Int32} {h : sv_H}, O x0 → sv_ow [707, 708, 709, 710, 711] [] O h0 h → sv_fr (sv_ow [707, 708, 709, 710, 711] [] O) h0 (k2 x0 x1 x2 h)) {x0 : Nat} {x1 : Int32} {x2 : Int32} {s0 : Nat} {s1 : Int32} {h : sv_H} (ox0 : O x0) (os0 : O s0) (hs : sv_ow [707, 708, 709, 710, 711] [] O h0 h) : sv_fr (sv_ow [707, 708, 709, 710, 711] [] O) h0 (fn_X2_tick_26 k2 x0 x1 x2 s0 s1 h) := by
  unfold fn_X2_tick_26
  refine fr_cl (fun _ _ e => (hs.trans ((ow_X6_tick (oc.of hs) os0 e).weak (by decide) (by decide)))) (fun _ h hs => ?_)
  exact hk2 ox0 hs
theorem ow_X2_tick_2b {O : Nat → Prop} {h0 : sv_H} (oc : sv_cl O h0) {k2 : Nat → Int32 → Int32 → sv_H → Option (Unit × sv_H)} (hk2 : ∀ {x0 : Nat} {x1 : Int32} {x2 : Int32} {h : sv_H}, O x0 → sv_ow [707, 708, 709, 710, 711] [] O h0 h → sv_fr (sv_ow [707, 708, 709, 710, 711] [] O) h0 (k2 x0 x1 x2 h)) {x0 : Nat} {x1 : Int32} {x2 : Int32} {h : sv_H} (ox0 : O x0) (hs : sv_ow [707, 708, 709, 710, 711] [] O h0 h) : sv_fr (sv_ow [707, 708, 709, 710, 711] [] O) h0 (fn_X2_tick_2b k2 x0 x1 x2 h) := by
  unfold fn_X2_tick_2b
  refine fr_bd (fun _ => ?_)
  refine fr_if ?_ ?_
  · exact fr_rt hs
  · refine fr_be (fun v2 e => ?_)
    have ov2 := ow_gO oc hs ox0 e
    clear e
    refine fr_be (fun v3 e => ?_)
    have ov3 := ow_lO oc hs ov2 e
    clear e
    refine fr_if ?_ ?_
    · exact ow_X2_tick_26 oc hk2 ox0 ov3 hs
    · exact ow_X2_tick_26 oc hk2 ox0 ov3 hs
theorem ow_X2_tick_2 {O : Nat → Prop} {h0 : sv_H} (oc : sv_cl O h0) : ∀ (n : Nat) {x0 : Nat} {x1 : Int32} {x2 : Int32} {h : sv_H}, O x0 → sv_ow [707, 708, 709, 710, 711] [] O h0 h → sv_fr (sv_ow [707, 708, 709, 710, 711] [] O) h0 (fn_X2_tick_2 n x0 x1 x2 h) := by
  intro n
  induction n with
  | zero => intro x0 x1 x2 h ox0 hs r hE e; cases (show (none : Option (Unit × sv_H)) = some (r, hE) from e)
  | succ n ih => intro x0 x1 x2 h ox0 hs; exact ow_X2_tick_2b oc (fun ox0 hs => ih ox0 hs) ox0 hs
theorem ow_X2_tick_0 {O : Nat → Prop} {h0 : sv_H} (oc : sv_cl O h0) {x0 : Nat} {x1 : Int32} {h : sv_H} (ox0 : O x0) (hs : sv_ow [707, 708, 709, 710, 711] [] O h0 h) : sv_fr (sv_ow [707, 708, 709, 710, 711] [] O) h0 (fn_X2_tick x0 x1 h) := by
  unfold fn_X2_tick
  refine fr_if ?_ fr_no
  exact ow_X2_tick_2 oc sv_fuel ox0 hs
theorem ow_X2_tick {O : Nat → Prop} {x0 : Nat} {x1 : Int32} {h : sv_H} {r : Unit} {hE : sv_H} (oc : sv_cl O h) (ox0 : O x0) (hw : fn_X2_tick x0 x1 h = some (r, hE)) : sv_ow [707, 708, 709, 710, 711] [] O h hE := ow_X2_tick_0 oc ox0 (sv_ow.refl h) r hE hw

theorem ow_X10_step_124 {O : Nat → Prop} {h0 : sv_H} (oc : sv_cl O h0) {x0 : Nat} {x8 : Int32} {h : sv_H} (ox0 : O x0) (hs : sv_ow [406, 407, 408, 409, 410, 707, 708, 709, 710, 711, 712, 713, 1102, 1103, 1104, 1105, 1106] [400, 401, 402, 403, 404, 405] O h0 h) : sv_fr (sv_ow [406, 407, 408, 409, 410, 707, 708, 709, 710, 711, 712, 713, 1102, 1103, 1104, 1105, 1106] [400, 401, 402, 403, 404, 405] O) h0 (fn_X10_step_124 x0 x8 h) := by
  unfold fn_X10_step_124
  refine fr_bd (fun _ => ?_)
  refine fr_st (fun _ e => ow_pI hs (by decide) ox0 e) (fun h hs => ?_)
  refine fr_be (fun v3 e => ?_)
  have ov3 := ow_gO oc hs ox0 e
  clear e
  refine fr_bd (fun _ => ?_)
  refine fr_cl (fun _ _ e => (hs.trans ((ow_X2_tick (oc.of hs) ov3 e).weak (by decide) (by decide)))) (fun _ h hs => ?_)
  exact fr_rt hs
theorem ow_X10_step_111 {O : Nat → Prop} {h0 : sv_H} (oc : sv_cl O h0) {x0 : Nat} {x1 : Int32} {x2 : Int32} {x3 : Int32} {x8 : Int32} {h : sv_H} (ox0 : O x0) (hs : sv_ow [406, 407, 408, 409, 410, 707, 708, 709, 710, 711, 712, 713, 1102, 1103, 1104, 1105, 1106] [400, 401, 402, 403, 404, 405] O h0 h) : sv_fr (sv_ow [406, 407, 408, 409, 410, 707, 708, 709, 710, 711, 712, 713, 1102, 1103, 1104, 1105, 1106] [400, 401, 402, 403, 404, 405] O) h0 (fn_X10_step_111 x0 x1 x2 x3 x8 h) := by
  unfold fn_X10_step_111
  refine fr_cl (fun _ _ e => (by rw [ro_X5_usesOf e]; exact hs)) (fun _ h hs => ?_)
  refine fr_if ?_ ?_
  · exact ow_X10_step_124 oc ox0 hs
  · refine fr_cl (fun _ _ e => (hs.trans ((ow_X10_use (oc.of hs) ox0 e).weak (by decide) (by decide)))) (fun _ h hs => ?_)
    exact ow_X10_step_124 oc ox0 hs
theorem ow_X10_step_109 {O : Nat → Prop} {h0 : sv_H} (oc : sv_cl O h0) {x0 : Nat} {x1 : Int32} {x2 : Int32} {x3 : Int32} {s0 : Int32} {h : sv_H} (ox0 : O x0) (hs : sv_ow [406, 407, 408, 409, 410, 707, 708, 709, 710, 711, 712, 713, 1102, 1103, 1104, 1105, 1106] [400, 401, 402, 403, 404, 405] O h0 h) : sv_fr (sv_ow [406, 407, 408, 409, 410, 707, 708, 709, 710, 711, 712, 713, 1102, 1103, 1104, 1105, 1106] [400, 401, 402, 403, 404, 405] O) h0 (fn_X10_step_109 x0 x1 x2 x3 s0 h) := by
  unfold fn_X10_step_109
  exact ow_X10_step_111 oc ox0 hs
theorem ow_X10_step_93 {O : Nat → Prop} {h0 : sv_H} (oc : sv_cl O h0) {x0 : Nat} {x1 : Int32} {x2 : Int32} {x3 : Int32} {x6 : Int32} {x7 : Int32} {h : sv_H} (ox0 : O x0) (hs : sv_ow [406, 407, 408, 409, 410, 707, 708, 709, 710, 711, 712, 713, 1102, 1103, 1104, 1105, 1106] [400, 401, 402, 403, 404, 405] O h0 h) : sv_fr (sv_ow [406, 407, 408, 409, 410, 707, 708, 709, 710, 711, 712, 713, 1102, 1103, 1104, 1105, 1106] [400, 401, 402, 403, 404, 405] O) h0 (fn_X10_step_93 x0 x1 x2 x3 x6 x7 h) := by
  unfold fn_X10_step_93
  refine fr_cl (fun _ _ e => (hs.trans ((ow_X10_go (oc.of hs) ox0 e).weak (by decide) (by decide)))) (fun _ h hs => ?_)
  refine fr_if ?_ ?_
  · exact ow_X10_step_109 oc ox0 hs
  · exact ow_X10_step_109 oc ox0 hs
theorem ow_X10_step_0 {O : Nat → Prop} {h0 : sv_H} (oc : sv_cl O h0) {x0 : Nat} {x1 : Int32} {h : sv_H} (ox0 : O x0) (hs : sv_ow [406, 407, 408, 409, 410, 707, 708, 709, 710, 711, 712, 713, 1102, 1103, 1104, 1105, 1106] [400, 401, 402, 403, 404, 405] O h0 h) : sv_fr (sv_ow [406, 407, 408, 409, 410, 707, 708, 709, 710, 711, 712, 713, 1102, 1103, 1104, 1105, 1106] [400, 401, 402, 403, 404, 405] O) h0 (fn_X10_step x0 x1 h) := by
  unfold fn_X10_step
  refine fr_if ?_ fr_no
  refine fr_bd (fun _ => ?_)
  refine fr_cl (fun _ _ e => (by rw [ro_X5_turnOf e]; exact hs)) (fun _ h hs => ?_)
  refine fr_cl (fun _ _ e => (by rw [ro_J9_floorMod_7cf53 e]; exact hs)) (fun _ h hs => ?_)
  refine fr_st (fun _ e => ow_pI hs (by decide) ox0 e) (fun h hs => ?_)
  refine fr_bd (fun _ => ?_)
  refine fr_cl (fun _ _ e => (by rw [ro_X12_cosine e]; exact hs)) (fun _ h hs => ?_)
  refine fr_bd (fun _ => ?_)
  refine fr_cl (fun _ _ e => (by rw [ro_X12_sine e]; exact hs)) (fun _ h hs => ?_)
  refine fr_cl (fun _ _ e => (by rw [ro_X5_aheadOf e]; exact hs)) (fun _ h hs => ?_)
  refine fr_cl (fun _ _ e => (by rw [ro_X5_asideOf e]; exact hs)) (fun _ h hs => ?_)
  refine fr_cl (fun _ _ e => (by rw [ro_J9_floorDiv_7cf53 e]; exact hs)) (fun _ h hs => ?_)
  refine fr_cl (fun _ _ e => (by rw [ro_J9_floorDiv_7cf53 e]; exact hs)) (fun _ h hs => ?_)
  refine fr_if ?_ ?_
  · refine fr_if ?_ ?_
    · exact ow_X10_step_111 oc ox0 hs
    · exact ow_X10_step_93 oc ox0 hs
  · exact ow_X10_step_93 oc ox0 hs
theorem ow_X10_step {O : Nat → Prop} {x0 : Nat} {x1 : Int32} {h : sv_H} {r : Int32} {hE : sv_H} (oc : sv_cl O h) (ox0 : O x0) (hw : fn_X10_step x0 x1 h = some (r, hE)) : sv_ow [406, 407, 408, 409, 410, 707, 708, 709, 710, 711, 712, 713, 1102, 1103, 1104, 1105, 1106] [400, 401, 402, 403, 404, 405] O h hE := ow_X10_step_0 oc ox0 (sv_ow.refl h) r hE hw

theorem ow_X17_meets_242 {O : Nat → Prop} {h0 : sv_H} (oc : sv_cl O h0) {s0 : Int32} {h : sv_H} (hs : sv_ow [1815, 1816, 1817, 1818, 1819] [] O h0 h) : sv_fr (sv_ow [1815, 1816, 1817, 1818, 1819] [] O) h0 (fn_X17_meets_242 s0 h) := by
  unfold fn_X17_meets_242
  exact fr_rz hs
theorem ow_X17_meets_241 {O : Nat → Prop} {h0 : sv_H} (oc : sv_cl O h0) {h : sv_H} (hs : sv_ow [1815, 1816, 1817, 1818, 1819] [] O h0 h) : sv_fr (sv_ow [1815, 1816, 1817, 1818, 1819] [] O) h0 (fn_X17_meets_241 h) := by
  unfold fn_X17_meets_241
  exact ow_X17_meets_242 oc hs
theorem ow_X17_meets_225 {O : Nat → Prop} {h0 : sv_H} (oc : sv_cl O h0) {x0 : Nat} {s0 : Int32} {s1 : Int32} {h : sv_H} (ox0 : O x0) (hs : sv_ow [1815, 1816, 1817, 1818, 1819] [] O h0 h) : sv_fr (sv_ow [1815, 1816, 1817, 1818, 1819] [] O) h0 (fn_X17_meets_225 x0 s0 s1 h) := by
  unfold fn_X17_meets_225
  refine fr_if ?_ ?_
  · exact ow_X17_meets_241 oc hs
  · refine fr_bd (fun _ => ?_)
    refine fr_if ?_ ?_
    · exact ow_X17_meets_241 oc hs
    · exact ow_X17_meets_242 oc hs
theorem ow_X17_meets_211 {O : Nat → Prop} {h0 : sv_H} (oc : sv_cl O h0) {x0 : Nat} {s0 : Int32} {h : sv_H} (ox0 : O x0) (hs : sv_ow [1815, 1816, 1817, 1818, 1819] [] O h0 h) : sv_fr (sv_ow [1815, 1816, 1817, 1818, 1819] [] O) h0 (fn_X17_meets_211 x0 s0 h) := by
  unfold fn_X17_meets_211
  refine fr_bd (fun _ => ?_)
  refine fr_if ?_ ?_
  · exact ow_X17_meets_225 oc ox0 hs
  · exact ow_X17_meets_225 oc ox0 hs
theorem ow_X17_meets_197 {O : Nat → Prop} {h0 : sv_H} (oc : sv_cl O h0) {x0 : Nat} {h : sv_H} (ox0 : O x0) (hs : sv_ow [1815, 1816, 1817, 1818, 1819] [] O h0 h) : sv_fr (sv_ow [1815, 1816, 1817, 1818, 1819] [] O) h0 (fn_X17_meets_197 x0 h) := by
  unfold fn_X17_meets_197
  refine fr_bd (fun _ => ?_)
  refine fr_if ?_ ?_
  · exact ow_X17_meets_211 oc ox0 hs
  · exact ow_X17_meets_211 oc ox0 hs
theorem ow_X17_meets_167 {O : Nat → Prop} {h0 : sv_H} (oc : sv_cl O h0) {x0 : Nat} {s0 : Nat} {s1 : Int32} {h : sv_H} (ox0 : O x0) (os0 : O s0) (hs : sv_ow [1815, 1816, 1817, 1818, 1819] [] O h0 h) : sv_fr (sv_ow [1815, 1816, 1817, 1818, 1819] [] O) h0 (fn_X17_meets_167 x0 s0 s1 h) := by
  unfold fn_X17_meets_167
  refine fr_st (fun _ e => ow_pZ hs (by decide) os0 e) (fun h hs => ?_)
  refine fr_bd (fun _ => ?_)
  refine fr_if ?_ ?_
  · exact ow_X17_meets_197 oc ox0 hs
  · refine fr_bd (fun _ => ?_)
    refine fr_st (fun _ e => ow_pJ hs (by decide) ox0 e) (fun h hs => ?_)
    refine fr_bd (fun _ => ?_)
    refine fr_st (fun _ e => ow_pJ hs (by decide) ox0 e) (fun h hs => ?_)
    exact ow_X17_meets_197 oc ox0 hs
theorem ow_X17_meets_0 {O : Nat → Prop} {h0 : sv_H} (oc : sv_cl O h0) {x0 : Nat} {x1 : Int32} {h : sv_H} (ox0 : O x0) (hs : sv_ow [1815, 1816, 1817, 1818, 1819] [] O h0 h) : sv_fr (sv_ow [1815, 1816, 1817, 1818, 1819] [] O) h0 (fn_X17_meets x0 x1 h) := by
  unfold fn_X17_meets
  refine fr_if ?_ fr_no
  refine fr_be (fun v1 e => ?_)
  have ov1 := ow_gO oc hs ox0 e
  clear e
  refine fr_be (fun v2 e => ?_)
  have ov2 := ow_gR hs ov1 e
  clear e
  refine fr_bd (fun _ => ?_)
  refine fr_be (fun v4 e => ?_)
  have ov4 := ow_gO oc hs ox0 e
  clear e
  refine fr_be (fun v5 e => ?_)
  have ov5 := ow_gR hs ov4 e
  clear e
  refine fr_bd (fun _ => ?_)
  refine fr_be (fun v7 e => ?_)
  have ov7 := ow_gO oc hs ox0 e
  clear e
  refine fr_be (fun v8 e => ?_)
  have ov8 := ow_gR hs ov7 e
  clear e
  refine fr_bd (fun _ => ?_)
  refine fr_be (fun v10 e => ?_)
  have ov10 := ow_gO oc hs ox0 e
  clear e
  refine fr_be (fun v11 e => ?_)
  have ov11 := ow_gR hs ov10 e
  clear e
  refine fr_bd (fun _ => ?_)
  refine fr_bd (fun _ => ?_)
  refine fr_bd (fun _ => ?_)
  refine fr_bd (fun _ => ?_)
  refine fr_bd (fun _ => ?_)
  refine fr_cl (fun _ _ e => (by rw [ro_X17_cross e]; exact hs)) (fun _ h hs => ?_)
  refine fr_st (fun _ e => ow_pJ hs (by decide) ox0 e) (fun h hs => ?_)
  refine fr_bd (fun _ => ?_)
  refine fr_bd (fun _ => ?_)
  refine fr_bd (fun _ => ?_)
  refine fr_bd (fun _ => ?_)
  refine fr_cl (fun _ _ e => (by rw [ro_X17_cross e]; exact hs)) (fun _ h hs => ?_)
  refine fr_st (fun _ e => ow_pJ hs (by decide) ox0 e) (fun h hs => ?_)
  refine fr_bd (fun _ => ?_)
  refine fr_bd (fun _ => ?_)
  refine fr_cl (fun _ _ e => (by rw [ro_X17_cross e]; exact hs)) (fun _ h hs => ?_)
  refine fr_st (fun _ e => ow_pJ hs (by decide) ox0 e) (fun h hs => ?_)
  refine fr_bd (fun _ => ?_)
  refine fr_bd (fun _ => ?_)
  refine fr_st (fun _ e => ow_pJ hs (by decide) ox0 e) (fun h hs => ?_)
  refine fr_bd (fun _ => ?_)
  refine fr_if ?_ ?_
  · exact ow_X17_meets_167 oc ox0 ox0 hs
  · exact ow_X17_meets_167 oc ox0 ox0 hs
theorem ow_X17_meets {O : Nat → Prop} {x0 : Nat} {x1 : Int32} {h : sv_H} {r : Int32} {hE : sv_H} (oc : sv_cl O h) (ox0 : O x0) (hw : fn_X17_meets x0 x1 h = some (r, hE)) : sv_ow [1815, 1816, 1817, 1818, 1819] [] O h hE := ow_X17_meets_0 oc ox0 (sv_ow.refl h) r hE hw

theorem ow_X17_gather_134 {O : Nat → Prop} {h0 : sv_H} (oc : sv_cl O h0) {k18 : Nat → Int32 → sv_H → Option (Unit × sv_H)} (hk18 : ∀ {x0 : Nat} {x5 : Int32} {h : sv_H}, O x0 → sv_ow [1815, 1816, 1817, 1818, 1819, 1821, 1827, 1828] [1820] O h0 h → sv_fr (sv_ow [1815, 1816, 1817, 1818, 1819, 1821, 1827, 1828] [1820] O) h0 (k18 x0 x5 h)) {x0 : Nat} {x5 : Int32} {h : sv_H} (ox0 : O x0) (hs : sv_ow [1815, 1816, 1817, 1818, 1819, 1821, 1827, 1828] [1820] O h0 h) : sv_fr (sv_ow [1815, 1816, 1817, 1818, 1819, 1821, 1827, 1828] [1820] O) h0 (fn_X17_gather_134 k18 x0 x5 h) := by
  unfold fn_X17_gather_134
  exact hk18 ox0 hs
theorem ow_X17_gather_115 {O : Nat → Prop} {h0 : sv_H} (oc : sv_cl O h0) {k18 : Nat → Int32 → sv_H → Option (Unit × sv_H)} (hk18 : ∀ {x0 : Nat} {x5 : Int32} {h : sv_H}, O x0 → sv_ow [1815, 1816, 1817, 1818, 1819, 1821, 1827, 1828] [1820] O h0 h → sv_fr (sv_ow [1815, 1816, 1817, 1818, 1819, 1821, 1827, 1828] [1820] O) h0 (k18 x0 x5 h)) {x0 : Nat} {x5 : Int32} {x10 : Int32} {h : sv_H} (ox0 : O x0) (hs : sv_ow [1815, 1816, 1817, 1818, 1819, 1821, 1827, 1828] [1820] O h0 h) : sv_fr (sv_ow [1815, 1816, 1817, 1818, 1819, 1821, 1827, 1828] [1820] O) h0 (fn_X17_gather_115 k18 x0 x5 x10 h) := by
  unfold fn_X17_gather_115
  refine fr_be (fun v1 e => ?_)
  have ov1 := ow_gR hs ox0 e
  clear e
  refine fr_st (fun _ e => ow_sI hs ov1 (by decide) e) (fun h hs => ?_)
  refine fr_bd (fun _ => ?_)
  refine fr_st (fun _ e => ow_pI hs (by decide) ox0 e) (fun h hs => ?_)
  exact ow_X17_gather_134 oc hk18 ox0 hs
theorem ow_X17_gather_54b {O : Nat → Prop} {h0 : sv_H} (oc : sv_cl O h0) {k18 : Nat → Int32 → sv_H → Option (Unit × sv_H)} (hk18 : ∀ {x0 : Nat} {x5 : Int32} {h : sv_H}, O x0 → sv_ow [1815, 1816, 1817, 1818, 1819, 1821, 1827, 1828] [1820] O h0 h → sv_fr (sv_ow [1815, 1816, 1817, 1818, 1819, 1821, 1827, 1828] [1820] O) h0 (k18 x0 x5 h)) {k54 : Nat → Int32 → Int64 → Int64 → Int32 → sv_H → Option (Unit × sv_H)} (hk54 : ∀ {x0 : Nat} {x5 : Int32} {x6 : Int64} {x8 : Int64} {x10 : Int32} {h : sv_H}, O x0 → sv_ow [1815, 1816, 1817, 1818, 1819, 1821, 1827, 1828] [1820] O h0 h → sv_fr (sv_ow [1815, 1816, 1817, 1818, 1819, 1821, 1827, 1828] [1820] O) h0 (k54 x0 x5 x6 x8 x10 h)) {x0 : Nat} {x5 : Int32} {x6 : Int64} {x8 : Int64} {x10 : Int32} {h : sv_H} (ox0 : O x0) (hs : sv_ow [1815, 1816, 1817, 1818, 1819, 1821, 1827, 1828] [1820] O h0 h) : sv_fr (sv_ow [1815, 1816, 1817, 1818, 1819, 1821, 1827, 1828] [1820] O) h0 (fn_X17_gather_54b k18 k54 x0 x5 x6 x8 x10 h) := by
  unfold fn_X17_gather_54b
  refine fr_if ?_ ?_
  · exact ow_X17_gather_115 oc hk18 ox0 hs
  · refine fr_be (fun v1 e => ?_)
    have ov1 := ow_gR hs ox0 e
    clear e
    refine fr_bd (fun _ => ?_)
    refine fr_cl (fun _ _ e => (hs.trans ((ow_X17_meets (oc.of hs) ox0 e).weak (by decide) (by decide)))) (fun _ h hs => ?_)
    refine fr_if ?_ ?_
    · exact ow_X17_gather_115 oc hk18 ox0 hs
    · refine fr_bd (fun _ => ?_)
      refine fr_bd (fun _ => ?_)
      refine fr_cl (fun _ _ e => (by rw [ro_X16_order e]; exact hs)) (fun _ h hs => ?_)
      refine fr_if ?_ ?_
      · exact ow_X17_gather_115 oc hk18 ox0 hs
      · refine fr_be (fun v9 e => ?_)
        have ov9 := ow_gR hs ox0 e
        clear e
        refine fr_be (fun v10 e => ?_)
        have ov10 := ow_gR hs ox0 e
        clear e
        refine fr_bd (fun _ => ?_)
        refine fr_st (fun _ e => ow_sI hs ov9 (by decide) e) (fun h hs => ?_)
        exact hk54 ox0 hs
theorem ow_X17_gather_54 {O : Nat → Prop} {h0 : sv_H} (oc : sv_cl O h0) {k18 : Nat → Int32 → sv_H → Option (Unit × sv_H)} (hk18 : ∀ {x0 : Nat} {x5 : Int32} {h : sv_H}, O x0 → sv_ow [1815, 1816, 1817, 1818, 1819, 1821, 1827, 1828] [1820] O h0 h → sv_fr (sv_ow [1815, 1816, 1817, 1818, 1819, 1821, 1827, 1828] [1820] O) h0 (k18 x0 x5 h)) : ∀ (n : Nat) {x0 : Nat} {x5 : Int32} {x6 : Int64} {x8 : Int64} {x10 : Int32} {h : sv_H}, O x0 → sv_ow [1815, 1816, 1817, 1818, 1819, 1821, 1827, 1828] [1820] O h0 h → sv_fr (sv_ow [1815, 1816, 1817, 1818, 1819, 1821, 1827, 1828] [1820] O) h0 (fn_X17_gather_54 k18 n x0 x5 x6 x8 x10 h) := by
  intro n
  induction n with
  | zero => intro x0 x5 x6 x8 x10 h ox0 hs r hE e; cases (show (none : Option (Unit × sv_H)) = some (r, hE) from e)
  | succ n ih => intro x0 x5 x6 x8 x10 h ox0 hs; exact ow_X17_gather_54b oc hk18 (fun ox0 hs => ih ox0 hs) ox0 hs
theorem ow_X17_gather_18b {O : Nat → Prop} {h0 : sv_H} (oc : sv_cl O h0) {k18 : Nat → Int32 → sv_H → Option (Unit × sv_H)} (hk18 : ∀ {x0 : Nat} {x5 : Int32} {h : sv_H}, O x0 → sv_ow [1815, 1816, 1817, 1818, 1819, 1821, 1827, 1828] [1820] O h0 h → sv_fr (sv_ow [1815, 1816, 1817, 1818, 1819, 1821, 1827, 1828] [1820] O) h0 (k18 x0 x5 h)) {x0 : Nat} {x5 : Int32} {h : sv_H} (ox0 : O x0) (hs : sv_ow [1815, 1816, 1817, 1818, 1819, 1821, 1827, 1828] [1820] O h0 h) : sv_fr (sv_ow [1815, 1816, 1817, 1818, 1819, 1821, 1827, 1828] [1820] O) h0 (fn_X17_gather_18b k18 x0 x5 h) := by
  unfold fn_X17_gather_18b
  refine fr_cl (fun _ _ e => (by rw [ro_X17_walls e]; exact hs)) (fun _ h hs => ?_)
  refine fr_if ?_ ?_
  · exact fr_rt hs
  · refine fr_cl (fun _ _ e => (hs.trans ((ow_X17_meets (oc.of hs) ox0 e).weak (by decide) (by decide)))) (fun _ h hs => ?_)
    refine fr_if ?_ ?_
    · exact ow_X17_gather_134 oc hk18 ox0 hs
    · refine fr_bd (fun _ => ?_)
      refine fr_bd (fun _ => ?_)
      refine fr_bd (fun _ => ?_)
      exact ow_X17_gather_54 oc hk18 sv_fuel ox0 hs
theorem ow_X17_gather_18 {O : Nat → Prop} {h0 : sv_H} (oc : sv_cl O h0) : ∀ (n : Nat) {x0 : Nat} {x5 : Int32} {h : sv_H}, O x0 → sv_ow [1815, 1816, 1817, 1818, 1819, 1821, 1827, 1828] [1820] O h0 h → sv_fr (sv_ow [1815, 1816, 1817, 1818, 1819, 1821, 1827, 1828] [1820] O) h0 (fn_X17_gather_18 n x0 x5 h) := by
  intro n
  induction n with
  | zero => intro x0 x5 h ox0 hs r hE e; cases (show (none : Option (Unit × sv_H)) = some (r, hE) from e)
  | succ n ih => intro x0 x5 h ox0 hs; exact ow_X17_gather_18b oc (fun ox0 hs => ih ox0 hs) ox0 hs
theorem ow_X17_gather_0 {O : Nat → Prop} {h0 : sv_H} (oc : sv_cl O h0) {x0 : Nat} {x1 : Int64} {x3 : Int64} {h : sv_H} (ox0 : O x0) (hs : sv_ow [1815, 1816, 1817, 1818, 1819, 1821, 1827, 1828] [1820] O h0 h) : sv_fr (sv_ow [1815, 1816, 1817, 1818, 1819, 1821, 1827, 1828] [1820] O) h0 (fn_X17_gather x0 x1 x3 h) := by
  unfold fn_X17_gather
  refine fr_if ?_ fr_no
  refine fr_st (fun _ e => ow_pJ hs (by decide) ox0 e) (fun h hs => ?_)
  refine fr_st (fun _ e => ow_pJ hs (by decide) ox0 e) (fun h hs => ?_)
  refine fr_st (fun _ e => ow_pI hs (by decide) ox0 e) (fun h hs => ?_)
  exact ow_X17_gather_18 oc sv_fuel ox0 hs
theorem ow_X17_gather {O : Nat → Prop} {x0 : Nat} {x1 : Int64} {x3 : Int64} {h : sv_H} {r : Unit} {hE : sv_H} (oc : sv_cl O h) (ox0 : O x0) (hw : fn_X17_gather x0 x1 x3 h = some (r, hE)) : sv_ow [1815, 1816, 1817, 1818, 1819, 1821, 1827, 1828] [1820] O h hE := ow_X17_gather_0 oc ox0 (sv_ow.refl h) r hE hw

theorem ow_X13_begin_17 {O : Nat → Prop} {h0 : sv_H} (oc : sv_cl O h0) {h : sv_H} (hs : sv_ow [] [1410, 1411, 1412, 1413, 1414] O h0 h) : sv_fr (sv_ow [] [1410, 1411, 1412, 1413, 1414] O) h0 (fn_X13_begin_17 h) := by
  unfold fn_X13_begin_17
  exact fr_rt hs
theorem ow_X13_begin_223 {O : Nat → Prop} {h0 : sv_H} (oc : sv_cl O h0) {s0 : Nat} {s1 : Int32} {s2 : Int32} {h : sv_H} (os0 : sv_rl 1413 O h0 s0) (hs : sv_ow [] [1410, 1411, 1412, 1413, 1414] O h0 h) : sv_fr (sv_ow [] [1410, 1411, 1412, 1413, 1414] O) h0 (fn_X13_begin_223 s0 s1 s2 h) := by
  unfold fn_X13_begin_223
  refine fr_st (fun _ e => ow_sI hs os0 (by decide) e) (fun h hs => ?_)
  exact fr_rt hs
theorem ow_X13_begin_128 {O : Nat → Prop} {h0 : sv_H} (oc : sv_cl O h0) {x0 : Nat} {x1 : Int32} {x2 : Int32} {s0 : Nat} {s1 : Int32} {s2 : Int32} {h : sv_H} (ox0 : O x0) (os0 : sv_rl 1411 O h0 s0) (hs : sv_ow [] [1410, 1411, 1412, 1413, 1414] O h0 h) : sv_fr (sv_ow [] [1410, 1411, 1412, 1413, 1414] O) h0 (fn_X13_begin_128 x0 x1 x2 s0 s1 s2 h) := by
  unfold fn_X13_begin_128
  refine fr_st (fun _ e => ow_sI hs os0 (by decide) e) (fun h hs => ?_)
  refine fr_be (fun v2 e => ?_)
  have ov2 := ow_gR hs ox0 e
  clear e
  refine fr_be (fun v3 e => ?_)
  have ov3 := ow_gR hs ox0 e
  clear e
  refine fr_bd (fun _ => ?_)
  refine fr_st (fun _ e => ow_sI hs ov2 (by decide) e) (fun h hs => ?_)
  refine fr_cl (fun _ _ e => (by rw [ro_X13_lowCeiling e]; exact hs)) (fun _ h hs => ?_)
  refine fr_cl (fun _ _ e => (by rw [ro_X13_highFloor e]; exact hs)) (fun _ h hs => ?_)
  refine fr_be (fun v10 e => ?_)
  have ov10 := ow_gR hs ox0 e
  clear e
  refine fr_if ?_ ?_
  · refine fr_be (fun v17 e => ?_)
    have ov17 := ow_gR hs ox0 e
    clear e
    refine fr_bd (fun _ => ?_)
    refine fr_if ?_ ?_
    · refine fr_be (fun v19 e => ?_)
      have ov19 := ow_gR hs ox0 e
      clear e
      refine fr_bd (fun _ => ?_)
      exact ow_X13_begin_223 oc ov10 hs
    · exact ow_X13_begin_223 oc ov10 hs
  · refine fr_if ?_ ?_
    · refine fr_cl (fun _ _ e => (by rw [ro_X13_lowFloor e]; exact hs)) (fun _ h hs => ?_)
      exact ow_X13_begin_223 oc ov10 hs
    · refine fr_be (fun v11 e => ?_)
      have ov11 := ow_gR hs ox0 e
      clear e
      refine fr_bd (fun _ => ?_)
      refine fr_if ?_ ?_
      · refine fr_be (fun v13 e => ?_)
        have ov13 := ow_gR hs ox0 e
        clear e
        refine fr_bd (fun _ => ?_)
        exact ow_X13_begin_223 oc ov10 hs
      · exact ow_X13_begin_223 oc ov10 hs
theorem ow_X13_begin_96 {O : Nat → Prop} {h0 : sv_H} (oc : sv_cl O h0) {x3 : Int32} {s0 : Nat} {s1 : Int32} {s2 : Int32} {h : sv_H} (os0 : sv_rl 1412 O h0 s0) (hs : sv_ow [] [1410, 1411, 1412, 1413, 1414] O h0 h) : sv_fr (sv_ow [] [1410, 1411, 1412, 1413, 1414] O) h0 (fn_X13_begin_96 x3 s0 s1 s2 h) := by
  unfold fn_X13_begin_96
  refine fr_st (fun _ e => ow_sI hs os0 (by decide) e) (fun h hs => ?_)
  exact fr_rz hs
theorem ow_X13_begin_76 {O : Nat → Prop} {h0 : sv_H} (oc : sv_cl O h0) {x0 : Nat} {x1 : Int32} {x3 : Int32} {s0 : Nat} {s1 : Int32} {s2 : Int32} {h : sv_H} (ox0 : O x0) (os0 : sv_rl 1411 O h0 s0) (hs : sv_ow [] [1410, 1411, 1412, 1413, 1414] O h0 h) : sv_fr (sv_ow [] [1410, 1411, 1412, 1413, 1414] O) h0 (fn_X13_begin_76 x0 x1 x3 s0 s1 s2 h) := by
  unfold fn_X13_begin_76
  refine fr_st (fun _ e => ow_sI hs os0 (by decide) e) (fun h hs => ?_)
  refine fr_be (fun v2 e => ?_)
  have ov2 := ow_gR hs ox0 e
  clear e
  refine fr_if ?_ ?_
  · refine fr_be (fun v3 e => ?_)
    have ov3 := ow_gR hs ox0 e
    clear e
    refine fr_bd (fun _ => ?_)
    exact ow_X13_begin_96 oc ov2 hs
  · exact ow_X13_begin_96 oc ov2 hs
theorem ow_X13_begin_56 {O : Nat → Prop} {h0 : sv_H} (oc : sv_cl O h0) {x0 : Nat} {x1 : Int32} {s0 : Int32} {h : sv_H} (ox0 : O x0) (hs : sv_ow [] [1410, 1411, 1412, 1413, 1414] O h0 h) : sv_fr (sv_ow [] [1410, 1411, 1412, 1413, 1414] O) h0 (fn_X13_begin_56 x0 x1 s0 h) := by
  unfold fn_X13_begin_56
  refine fr_be (fun v1 e => ?_)
  have ov1 := ow_gR hs ox0 e
  clear e
  refine fr_if ?_ ?_
  · refine fr_be (fun v2 e => ?_)
    have ov2 := ow_gR hs ox0 e
    clear e
    refine fr_bd (fun _ => ?_)
    exact ow_X13_begin_76 oc ox0 ov1 hs
  · exact ow_X13_begin_76 oc ox0 ov1 hs
theorem ow_X13_begin_55 {O : Nat → Prop} {h0 : sv_H} (oc : sv_cl O h0) {x0 : Nat} {x1 : Int32} {h : sv_H} (ox0 : O x0) (hs : sv_ow [] [1410, 1411, 1412, 1413, 1414] O h0 h) : sv_fr (sv_ow [] [1410, 1411, 1412, 1413, 1414] O) h0 (fn_X13_begin_55 x0 x1 h) := by
  unfold fn_X13_begin_55
  exact ow_X13_begin_56 oc ox0 hs
theorem ow_X13_begin_0 {O : Nat → Prop} {h0 : sv_H} (oc : sv_cl O h0) {x0 : Nat} {x1 : Int32} {x2 : Int32} {h : sv_H} (ox0 : O x0) (hs : sv_ow [] [1410, 1411, 1412, 1413, 1414] O h0 h) : sv_fr (sv_ow [] [1410, 1411, 1412, 1413, 1414] O) h0 (fn_X13_begin x0 x1 x2 h) := by
  unfold fn_X13_begin
  refine fr_if ?_ fr_no
  refine fr_cl (fun _ _ e => (by rw [ro_X13_isSector e]; exact hs)) (fun _ h hs => ?_)
  refine fr_if ?_ ?_
  · exact ow_X13_begin_17 oc hs
  · refine fr_if ?_ ?_
    · exact ow_X13_begin_17 oc hs
    · refine fr_if ?_ ?_
      · refine fr_be (fun v3 e => ?_)
        have ov3 := ow_gR hs ox0 e
        clear e
        refine fr_bd (fun _ => ?_)
        refine fr_if ?_ ?_
        · refine fr_be (fun v5 e => ?_)
          have ov5 := ow_gR hs ox0 e
          clear e
          refine fr_st (fun _ e => ow_sI hs ov5 (by decide) e) (fun h hs => ?_)
          refine fr_be (fun v7 e => ?_)
          have ov7 := ow_gR hs ox0 e
          clear e
          refine fr_st (fun _ e => ow_sI hs ov7 (by decide) e) (fun h hs => ?_)
          refine fr_be (fun v9 e => ?_)
          have ov9 := ow_gR hs ox0 e
          clear e
          refine fr_if ?_ ?_
          · exact ow_X13_begin_128 oc ox0 ov9 hs
          · exact ow_X13_begin_128 oc ox0 ov9 hs
        · refine fr_if ?_ ?_
          · refine fr_be (fun v10 e => ?_)
            have ov10 := ow_gR hs ox0 e
            clear e
            refine fr_bd (fun _ => ?_)
            refine fr_if ?_ ?_
            · refine fr_be (fun v12 e => ?_)
              have ov12 := ow_gR hs ox0 e
              clear e
              refine fr_bd (fun _ => ?_)
              refine fr_if ?_ ?_
              · exact ow_X13_begin_55 oc ox0 hs
              · exact ow_X13_begin_56 oc ox0 hs
            · exact ow_X13_begin_55 oc ox0 hs
          · exact ow_X13_begin_55 oc ox0 hs
      · exact ow_X13_begin_17 oc hs
theorem ow_X13_begin {O : Nat → Prop} {x0 : Nat} {x1 : Int32} {x2 : Int32} {h : sv_H} {r : Int32} {hE : sv_H} (oc : sv_cl O h) (ox0 : O x0) (hw : fn_X13_begin x0 x1 x2 h = some (r, hE)) : sv_ow [] [1410, 1411, 1412, 1413, 1414] O h hE := ow_X13_begin_0 oc ox0 (sv_ow.refl h) r hE hw

theorem ow_X17_startAll_40 {O : Nat → Prop} {h0 : sv_H} (oc : sv_cl O h0) {k2 : Nat → Int32 → Int32 → Int32 → sv_H → Option (Unit × sv_H)} (hk2 : ∀ {x0 : Nat} {x1 : Int32} {x2 : Int32} {x3 : Int32} {h : sv_H}, O x0 → sv_ow [] [1410, 1411, 1412, 1413, 1414] O h0 h → sv_fr (sv_ow [] [1410, 1411, 1412, 1413, 1414] O) h0 (k2 x0 x1 x2 x3 h)) {x0 : Nat} {x1 : Int32} {x2 : Int32} {x3 : Int32} {s0 : Int32} {h : sv_H} (ox0 : O x0) (hs : sv_ow [] [1410, 1411, 1412, 1413, 1414] O h0 h) : sv_fr (sv_ow [] [1410, 1411, 1412, 1413, 1414] O) h0 (fn_X17_startAll_40 k2 x0 x1 x2 x3 s0 h) := by
  unfold fn_X17_startAll_40
  exact hk2 ox0 hs
theorem ow_X17_startAll_39 {O : Nat → Prop} {h0 : sv_H} (oc : sv_cl O h0) {k2 : Nat → Int32 → Int32 → Int32 → sv_H → Option (Unit × sv_H)} (hk2 : ∀ {x0 : Nat} {x1 : Int32} {x2 : Int32} {x3 : Int32} {h : sv_H}, O x0 → sv_ow [] [1410, 1411, 1412, 1413, 1414] O h0 h → sv_fr (sv_ow [] [1410, 1411, 1412, 1413, 1414] O) h0 (k2 x0 x1 x2 x3 h)) {x0 : Nat} {x1 : Int32} {x2 : Int32} {x3 : Int32} {h : sv_H} (ox0 : O x0) (hs : sv_ow [] [1410, 1411, 1412, 1413, 1414] O h0 h) : sv_fr (sv_ow [] [1410, 1411, 1412, 1413, 1414] O) h0 (fn_X17_startAll_39 k2 x0 x1 x2 x3 h) := by
  unfold fn_X17_startAll_39
  exact ow_X17_startAll_40 oc hk2 ox0 hs
theorem ow_X17_startAll_2b {O : Nat → Prop} {h0 : sv_H} (oc : sv_cl O h0) {k2 : Nat → Int32 → Int32 → Int32 → sv_H → Option (Unit × sv_H)} (hk2 : ∀ {x0 : Nat} {x1 : Int32} {x2 : Int32} {x3 : Int32} {h : sv_H}, O x0 → sv_ow [] [1410, 1411, 1412, 1413, 1414] O h0 h → sv_fr (sv_ow [] [1410, 1411, 1412, 1413, 1414] O) h0 (k2 x0 x1 x2 x3 h)) {x0 : Nat} {x1 : Int32} {x2 : Int32} {x3 : Int32} {h : sv_H} (ox0 : O x0) (hs : sv_ow [] [1410, 1411, 1412, 1413, 1414] O h0 h) : sv_fr (sv_ow [] [1410, 1411, 1412, 1413, 1414] O) h0 (fn_X17_startAll_2b k2 x0 x1 x2 x3 h) := by
  unfold fn_X17_startAll_2b
  refine fr_cl (fun _ _ e => (by rw [ro_X17_sectors e]; exact hs)) (fun _ h hs => ?_)
  refine fr_if ?_ ?_
  · exact fr_rt hs
  · refine fr_be (fun v3 e => ?_)
    have ov3 := ow_gO oc hs ox0 e
    clear e
    refine fr_be (fun v4 e => ?_)
    have ov4 := ow_gR hs ov3 e
    clear e
    refine fr_bd (fun _ => ?_)
    refine fr_if ?_ ?_
    · refine fr_be (fun v6 e => ?_)
      have ov6 := ow_gO oc hs ox0 e
      clear e
      refine fr_cl (fun _ _ e => (hs.trans ((ow_X13_begin (oc.of hs) ov6 e).weak (by decide) (by decide)))) (fun _ h hs => ?_)
      refine fr_if ?_ ?_
      · exact ow_X17_startAll_39 oc hk2 ox0 hs
      · exact ow_X17_startAll_40 oc hk2 ox0 hs
    · exact ow_X17_startAll_39 oc hk2 ox0 hs
theorem ow_X17_startAll_2 {O : Nat → Prop} {h0 : sv_H} (oc : sv_cl O h0) : ∀ (n : Nat) {x0 : Nat} {x1 : Int32} {x2 : Int32} {x3 : Int32} {h : sv_H}, O x0 → sv_ow [] [1410, 1411, 1412, 1413, 1414] O h0 h → sv_fr (sv_ow [] [1410, 1411, 1412, 1413, 1414] O) h0 (fn_X17_startAll_2 n x0 x1 x2 x3 h) := by
  intro n
  induction n with
  | zero => intro x0 x1 x2 x3 h ox0 hs r hE e; cases (show (none : Option (Unit × sv_H)) = some (r, hE) from e)
  | succ n ih => intro x0 x1 x2 x3 h ox0 hs; exact ow_X17_startAll_2b oc (fun ox0 hs => ih ox0 hs) ox0 hs
theorem ow_X17_startAll_0 {O : Nat → Prop} {h0 : sv_H} (oc : sv_cl O h0) {x0 : Nat} {x1 : Int32} {x2 : Int32} {h : sv_H} (ox0 : O x0) (hs : sv_ow [] [1410, 1411, 1412, 1413, 1414] O h0 h) : sv_fr (sv_ow [] [1410, 1411, 1412, 1413, 1414] O) h0 (fn_X17_startAll x0 x1 x2 h) := by
  unfold fn_X17_startAll
  refine fr_if ?_ fr_no
  exact ow_X17_startAll_2 oc sv_fuel ox0 hs
theorem ow_X17_startAll {O : Nat → Prop} {x0 : Nat} {x1 : Int32} {x2 : Int32} {h : sv_H} {r : Unit} {hE : sv_H} (oc : sv_cl O h) (ox0 : O x0) (hw : fn_X17_startAll x0 x1 x2 h = some (r, hE)) : sv_ow [] [1410, 1411, 1412, 1413, 1414] O h hE := ow_X17_startAll_0 oc ox0 (sv_ow.refl h) r hE hw

theorem ow_X17_walks_139 {O : Nat → Prop} {h0 : sv_H} (oc : sv_cl O h0) {h : sv_H} (hs : sv_ow [1811, 1812, 1814, 1815, 1816, 1817, 1818, 1819, 1821, 1827, 1828] [1410, 1411, 1412, 1413, 1414, 1820] O h0 h) : sv_fr (sv_ow [1811, 1812, 1814, 1815, 1816, 1817, 1818, 1819, 1821, 1827, 1828] [1410, 1411, 1412, 1413, 1414, 1820] O) h0 (fn_X17_walks_139 h) := by
  unfold fn_X17_walks_139
  exact fr_rt hs
theorem ow_X17_walks_247 {O : Nat → Prop} {h0 : sv_H} (oc : sv_cl O h0) {k169 : Nat → Int32 → Int32 → sv_H → Option (Int32 × sv_H)} (hk169 : ∀ {x0 : Nat} {x4 : Int32} {x5 : Int32} {h : sv_H}, O x0 → sv_ow [1811, 1812, 1814, 1815, 1816, 1817, 1818, 1819, 1821, 1827, 1828] [1410, 1411, 1412, 1413, 1414, 1820] O h0 h → sv_fr (sv_ow [1811, 1812, 1814, 1815, 1816, 1817, 1818, 1819, 1821, 1827, 1828] [1410, 1411, 1412, 1413, 1414, 1820] O) h0 (k169 x0 x4 x5 h)) {x0 : Nat} {x4 : Int32} {x5 : Int32} {h : sv_H} (ox0 : O x0) (hs : sv_ow [1811, 1812, 1814, 1815, 1816, 1817, 1818, 1819, 1821, 1827, 1828] [1410, 1411, 1412, 1413, 1414, 1820] O h0 h) : sv_fr (sv_ow [1811, 1812, 1814, 1815, 1816, 1817, 1818, 1819, 1821, 1827, 1828] [1410, 1411, 1412, 1413, 1414, 1820] O) h0 (fn_X17_walks_247 k169 x0 x4 x5 h) := by
  unfold fn_X17_walks_247
  exact hk169 ox0 hs
theorem ow_X17_walks_244 {O : Nat → Prop} {h0 : sv_H} (oc : sv_cl O h0) {k169 : Nat → Int32 → Int32 → sv_H → Option (Int32 × sv_H)} (hk169 : ∀ {x0 : Nat} {x4 : Int32} {x5 : Int32} {h : sv_H}, O x0 → sv_ow [1811, 1812, 1814, 1815, 1816, 1817, 1818, 1819, 1821, 1827, 1828] [1410, 1411, 1412, 1413, 1414, 1820] O h0 h → sv_fr (sv_ow [1811, 1812, 1814, 1815, 1816, 1817, 1818, 1819, 1821, 1827, 1828] [1410, 1411, 1412, 1413, 1414, 1820] O) h0 (k169 x0 x4 x5 h)) {x0 : Nat} {x4 : Int32} {x5 : Int32} {s0 : Nat} {s1 : Int32} {s2 : Int32} {h : sv_H} (ox0 : O x0) (os0 : O s0) (hs : sv_ow [1811, 1812, 1814, 1815, 1816, 1817, 1818, 1819, 1821, 1827, 1828] [1410, 1411, 1412, 1413, 1414, 1820] O h0 h) : sv_fr (sv_ow [1811, 1812, 1814, 1815, 1816, 1817, 1818, 1819, 1821, 1827, 1828] [1410, 1411, 1412, 1413, 1414, 1820] O) h0 (fn_X17_walks_244 k169 x0 x4 x5 s0 s1 s2 h) := by
  unfold fn_X17_walks_244
  refine fr_cl (fun _ _ e => (hs.trans ((ow_X17_startAll (oc.of hs) os0 e).weak (by decide) (by decide)))) (fun _ h hs => ?_)
  exact ow_X17_walks_247 oc hk169 ox0 hs
theorem ow_X17_walks_209 {O : Nat → Prop} {h0 : sv_H} (oc : sv_cl O h0) {k169 : Nat → Int32 → Int32 → sv_H → Option (Int32 × sv_H)} (hk169 : ∀ {x0 : Nat} {x4 : Int32} {x5 : Int32} {h : sv_H}, O x0 → sv_ow [1811, 1812, 1814, 1815, 1816, 1817, 1818, 1819, 1821, 1827, 1828] [1410, 1411, 1412, 1413, 1414, 1820] O h0 h → sv_fr (sv_ow [1811, 1812, 1814, 1815, 1816, 1817, 1818, 1819, 1821, 1827, 1828] [1410, 1411, 1412, 1413, 1414, 1820] O) h0 (k169 x0 x4 x5 h)) {x0 : Nat} {x4 : Int32} {x5 : Int32} {x6 : Int32} {h : sv_H} (ox0 : O x0) (hs : sv_ow [1811, 1812, 1814, 1815, 1816, 1817, 1818, 1819, 1821, 1827, 1828] [1410, 1411, 1412, 1413, 1414, 1820] O h0 h) : sv_fr (sv_ow [1811, 1812, 1814, 1815, 1816, 1817, 1818, 1819, 1821, 1827, 1828] [1410, 1411, 1412, 1413, 1414, 1820] O) h0 (fn_X17_walks_209 k169 x0 x4 x5 x6 h) := by
  unfold fn_X17_walks_209
  refine fr_be (fun v1 e => ?_)
  have ov1 := ow_gR hs ox0 e
  clear e
  refine fr_bd (fun _ => ?_)
  refine fr_cl (fun _ _ e => (by rw [ro_X17_wallPart e]; exact hs)) (fun _ h hs => ?_)
  refine fr_if ?_ ?_
  · exact ow_X17_walks_244 oc hk169 ox0 ox0 hs
  · refine fr_if ?_ ?_
    · exact ow_X17_walks_244 oc hk169 ox0 ox0 hs
    · exact ow_X17_walks_244 oc hk169 ox0 ox0 hs
theorem ow_X17_walks_169b {O : Nat → Prop} {h0 : sv_H} (oc : sv_cl O h0) {k169 : Nat → Int32 → Int32 → sv_H → Option (Int32 × sv_H)} (hk169 : ∀ {x0 : Nat} {x4 : Int32} {x5 : Int32} {h : sv_H}, O x0 → sv_ow [1811, 1812, 1814, 1815, 1816, 1817, 1818, 1819, 1821, 1827, 1828] [1410, 1411, 1412, 1413, 1414, 1820] O h0 h → sv_fr (sv_ow [1811, 1812, 1814, 1815, 1816, 1817, 1818, 1819, 1821, 1827, 1828] [1410, 1411, 1412, 1413, 1414, 1820] O) h0 (k169 x0 x4 x5 h)) {x0 : Nat} {x4 : Int32} {x5 : Int32} {h : sv_H} (ox0 : O x0) (hs : sv_ow [1811, 1812, 1814, 1815, 1816, 1817, 1818, 1819, 1821, 1827, 1828] [1410, 1411, 1412, 1413, 1414, 1820] O h0 h) : sv_fr (sv_ow [1811, 1812, 1814, 1815, 1816, 1817, 1818, 1819, 1821, 1827, 1828] [1410, 1411, 1412, 1413, 1414, 1820] O) h0 (fn_X17_walks_169b k169 x0 x4 x5 h) := by
  unfold fn_X17_walks_169b
  refine fr_if ?_ ?_
  · exact fr_rt hs
  · refine fr_be (fun v1 e => ?_)
    have ov1 := ow_gR hs ox0 e
    clear e
    refine fr_bd (fun _ => ?_)
    refine fr_cl (fun _ _ e => (by rw [ro_X17_wallPart e]; exact hs)) (fun _ h hs => ?_)
    refine fr_if ?_ ?_
    · exact ow_X17_walks_209 oc hk169 ox0 hs
    · refine fr_if ?_ ?_
      · exact ow_X17_walks_209 oc hk169 ox0 hs
      · refine fr_if ?_ ?_
        · exact ow_X17_walks_209 oc hk169 ox0 hs
        · exact ow_X17_walks_247 oc hk169 ox0 hs
theorem ow_X17_walks_169 {O : Nat → Prop} {h0 : sv_H} (oc : sv_cl O h0) : ∀ (n : Nat) {x0 : Nat} {x4 : Int32} {x5 : Int32} {h : sv_H}, O x0 → sv_ow [1811, 1812, 1814, 1815, 1816, 1817, 1818, 1819, 1821, 1827, 1828] [1410, 1411, 1412, 1413, 1414, 1820] O h0 h → sv_fr (sv_ow [1811, 1812, 1814, 1815, 1816, 1817, 1818, 1819, 1821, 1827, 1828] [1410, 1411, 1412, 1413, 1414, 1820] O) h0 (fn_X17_walks_169 n x0 x4 x5 h) := by
  intro n
  induction n with
  | zero => intro x0 x4 x5 h ox0 hs r hE e; cases (show (none : Option (Int32 × sv_H)) = some (r, hE) from e)
  | succ n ih => intro x0 x4 x5 h ox0 hs; exact ow_X17_walks_169b oc (fun ox0 hs => ih ox0 hs) ox0 hs
theorem ow_X17_walks_85 {O : Nat → Prop} {h0 : sv_H} (oc : sv_cl O h0) {k19 : Nat → Int32 → Int32 → Int32 → Int32 → Int32 → sv_H → Option (Int32 × sv_H)} (hk19 : ∀ {x0 : Nat} {x1 : Int32} {x2 : Int32} {x3 : Int32} {x4 : Int32} {x5 : Int32} {h : sv_H}, O x0 → sv_ow [1811, 1812, 1814, 1815, 1816, 1817, 1818, 1819, 1821, 1827, 1828] [1410, 1411, 1412, 1413, 1414, 1820] O h0 h → sv_fr (sv_ow [1811, 1812, 1814, 1815, 1816, 1817, 1818, 1819, 1821, 1827, 1828] [1410, 1411, 1412, 1413, 1414, 1820] O) h0 (k19 x0 x1 x2 x3 x4 x5 h)) {x0 : Nat} {x1 : Int32} {x2 : Int32} {x3 : Int32} {x4 : Int32} {x5 : Int32} {h : sv_H} (ox0 : O x0) (hs : sv_ow [1811, 1812, 1814, 1815, 1816, 1817, 1818, 1819, 1821, 1827, 1828] [1410, 1411, 1412, 1413, 1414, 1820] O h0 h) : sv_fr (sv_ow [1811, 1812, 1814, 1815, 1816, 1817, 1818, 1819, 1821, 1827, 1828] [1410, 1411, 1412, 1413, 1414, 1820] O) h0 (fn_X17_walks_85 k19 x0 x1 x2 x3 x4 x5 h) := by
  unfold fn_X17_walks_85
  exact hk19 ox0 hs
theorem ow_X17_walks_19b {O : Nat → Prop} {h0 : sv_H} (oc : sv_cl O h0) {k19 : Nat → Int32 → Int32 → Int32 → Int32 → Int32 → sv_H → Option (Int32 × sv_H)} (hk19 : ∀ {x0 : Nat} {x1 : Int32} {x2 : Int32} {x3 : Int32} {x4 : Int32} {x5 : Int32} {h : sv_H}, O x0 → sv_ow [1811, 1812, 1814, 1815, 1816, 1817, 1818, 1819, 1821, 1827, 1828] [1410, 1411, 1412, 1413, 1414, 1820] O h0 h → sv_fr (sv_ow [1811, 1812, 1814, 1815, 1816, 1817, 1818, 1819, 1821, 1827, 1828] [1410, 1411, 1412, 1413, 1414, 1820] O) h0 (k19 x0 x1 x2 x3 x4 x5 h)) {x0 : Nat} {x1 : Int32} {x2 : Int32} {x3 : Int32} {x4 : Int32} {x5 : Int32} {h : sv_H} (ox0 : O x0) (hs : sv_ow [1811, 1812, 1814, 1815, 1816, 1817, 1818, 1819, 1821, 1827, 1828] [1410, 1411, 1412, 1413, 1414, 1820] O h0 h) : sv_fr (sv_ow [1811, 1812, 1814, 1815, 1816, 1817, 1818, 1819, 1821, 1827, 1828] [1410, 1411, 1412, 1413, 1414, 1820] O) h0 (fn_X17_walks_19b k19 x0 x1 x2 x3 x4 x5 h) := by
  unfold fn_X17_walks_19b
  refine fr_bd (fun _ => ?_)
  refine fr_if ?_ ?_
  · refine fr_bd (fun _ => ?_)
    refine fr_if ?_ ?_
    · exact ow_X17_walks_139 oc hs
    · refine fr_bd (fun _ => ?_)
      refine fr_if ?_ ?_
      · exact ow_X17_walks_139 oc hs
      · refine fr_bd (fun _ => ?_)
        refine fr_if ?_ ?_
        · exact ow_X17_walks_139 oc hs
        · refine fr_bd (fun _ => ?_)
          refine fr_if ?_ ?_
          · refine fr_bd (fun _ => ?_)
            refine fr_st (fun _ e => ow_pI hs (by decide) ox0 e) (fun h hs => ?_)
            refine fr_bd (fun _ => ?_)
            refine fr_st (fun _ e => ow_pI hs (by decide) ox0 e) (fun h hs => ?_)
            refine fr_st (fun _ e => ow_pI hs (by decide) ox0 e) (fun h hs => ?_)
            exact ow_X17_walks_169 oc sv_fuel ox0 hs
          · exact ow_X17_walks_139 oc hs
  · refine fr_be (fun v11 e => ?_)
    have ov11 := ow_gR hs ox0 e
    clear e
    refine fr_bd (fun _ => ?_)
    refine fr_cl (fun _ _ e => (hs.trans ((ow_X17_meets (oc.of hs) ox0 e).weak (by decide) (by decide)))) (fun _ h hs => ?_)
    refine fr_bd (fun _ => ?_)
    refine fr_bd (fun _ => ?_)
    refine fr_if ?_ ?_
    · exact ow_X17_walks_85 oc hk19 ox0 hs
    · refine fr_be (fun v17 e => ?_)
      have ov17 := ow_gR hs ox0 e
      clear e
      refine fr_bd (fun _ => ?_)
      refine fr_cl (fun _ _ e => (by rw [ro_X17_stops e]; exact hs)) (fun _ h hs => ?_)
      refine fr_if ?_ ?_
      · refine fr_be (fun v21 e => ?_)
        have ov21 := ow_gR hs ox0 e
        clear e
        refine fr_bd (fun _ => ?_)
        refine fr_cl (fun _ _ e => (by rw [ro_X17_sideOf e]; exact hs)) (fun _ h hs => ?_)
        exact ow_X17_walks_85 oc hk19 ox0 hs
      · exact fr_rt hs
theorem ow_X17_walks_19 {O : Nat → Prop} {h0 : sv_H} (oc : sv_cl O h0) : ∀ (n : Nat) {x0 : Nat} {x1 : Int32} {x2 : Int32} {x3 : Int32} {x4 : Int32} {x5 : Int32} {h : sv_H}, O x0 → sv_ow [1811, 1812, 1814, 1815, 1816, 1817, 1818, 1819, 1821, 1827, 1828] [1410, 1411, 1412, 1413, 1414, 1820] O h0 h → sv_fr (sv_ow [1811, 1812, 1814, 1815, 1816, 1817, 1818, 1819, 1821, 1827, 1828] [1410, 1411, 1412, 1413, 1414, 1820] O) h0 (fn_X17_walks_19 n x0 x1 x2 x3 x4 x5 h) := by
  intro n
  induction n with
  | zero => intro x0 x1 x2 x3 x4 x5 h ox0 hs r hE e; cases (show (none : Option (Int32 × sv_H)) = some (r, hE) from e)
  | succ n ih => intro x0 x1 x2 x3 x4 x5 h ox0 hs; exact ow_X17_walks_19b oc (fun ox0 hs => ih ox0 hs) ox0 hs
theorem ow_X17_walks_0 {O : Nat → Prop} {h0 : sv_H} (oc : sv_cl O h0) {x0 : Nat} {x1 : Int32} {x2 : Int32} {h : sv_H} (ox0 : O x0) (hs : sv_ow [1811, 1812, 1814, 1815, 1816, 1817, 1818, 1819, 1821, 1827, 1828] [1410, 1411, 1412, 1413, 1414, 1820] O h0 h) : sv_fr (sv_ow [1811, 1812, 1814, 1815, 1816, 1817, 1818, 1819, 1821, 1827, 1828] [1410, 1411, 1412, 1413, 1414, 1820] O) h0 (fn_X17_walks x0 x1 x2 h) := by
  unfold fn_X17_walks
  refine fr_if ?_ fr_no
  refine fr_cl (fun _ _ e => (hs.trans ((ow_X17_gather (oc.of hs) ox0 e).weak (by decide) (by decide)))) (fun _ h hs => ?_)
  refine fr_bd (fun _ => ?_)
  exact ow_X17_walks_19 oc sv_fuel ox0 hs
theorem ow_X17_walks {O : Nat → Prop} {x0 : Nat} {x1 : Int32} {x2 : Int32} {h : sv_H} {r : Int32} {hE : sv_H} (oc : sv_cl O h) (ox0 : O x0) (hw : fn_X17_walks x0 x1 x2 h = some (r, hE)) : sv_ow [1811, 1812, 1814, 1815, 1816, 1817, 1818, 1819, 1821, 1827, 1828] [1410, 1411, 1412, 1413, 1414, 1820] O h hE := ow_X17_walks_0 oc ox0 (sv_ow.refl h) r hE hw

theorem ow_X17_use_63 {O : Nat → Prop} {h0 : sv_H} (oc : sv_cl O h0) {h : sv_H} (hs : sv_ow [1815, 1816, 1817, 1818, 1819, 1821, 1827, 1828] [1410, 1411, 1412, 1413, 1414, 1820] O h0 h) : sv_fr (sv_ow [1815, 1816, 1817, 1818, 1819, 1821, 1827, 1828] [1410, 1411, 1412, 1413, 1414, 1820] O) h0 (fn_X17_use_63 h) := by
  unfold fn_X17_use_63
  exact fr_rt hs
theorem ow_X17_use_132 {O : Nat → Prop} {h0 : sv_H} (oc : sv_cl O h0) {h : sv_H} (hs : sv_ow [1815, 1816, 1817, 1818, 1819, 1821, 1827, 1828] [1410, 1411, 1412, 1413, 1414, 1820] O h0 h) : sv_fr (sv_ow [1815, 1816, 1817, 1818, 1819, 1821, 1827, 1828] [1410, 1411, 1412, 1413, 1414, 1820] O) h0 (fn_X17_use_132 h) := by
  unfold fn_X17_use_132
  exact fr_rt hs
theorem ow_X17_use_109 {O : Nat → Prop} {h0 : sv_H} (oc : sv_cl O h0) {x0 : Nat} {x1 : Int32} {h : sv_H} (ox0 : O x0) (hs : sv_ow [1815, 1816, 1817, 1818, 1819, 1821, 1827, 1828] [1410, 1411, 1412, 1413, 1414, 1820] O h0 h) : sv_fr (sv_ow [1815, 1816, 1817, 1818, 1819, 1821, 1827, 1828] [1410, 1411, 1412, 1413, 1414, 1820] O) h0 (fn_X17_use_109 x0 x1 h) := by
  unfold fn_X17_use_109
  refine fr_cl (fun _ _ e => (by rw [ro_X17_wallPart e]; exact hs)) (fun _ h hs => ?_)
  refine fr_if ?_ ?_
  · refine fr_cl (fun _ _ e => (by rw [ro_X17_wallPart e]; exact hs)) (fun _ h hs => ?_)
    refine fr_cl (fun _ _ e => (hs.trans ((ow_X17_startAll (oc.of hs) ox0 e).weak (by decide) (by decide)))) (fun _ h hs => ?_)
    exact ow_X17_use_132 oc hs
  · exact ow_X17_use_132 oc hs
theorem ow_X17_use_0 {O : Nat → Prop} {h0 : sv_H} (oc : sv_cl O h0) {x0 : Nat} {h : sv_H} (ox0 : O x0) (hs : sv_ow [1815, 1816, 1817, 1818, 1819, 1821, 1827, 1828] [1410, 1411, 1412, 1413, 1414, 1820] O h0 h) : sv_fr (sv_ow [1815, 1816, 1817, 1818, 1819, 1821, 1827, 1828] [1410, 1411, 1412, 1413, 1414, 1820] O) h0 (fn_X17_use x0 h) := by
  unfold fn_X17_use
  refine fr_if ?_ fr_no
  refine fr_bd (fun _ => ?_)
  refine fr_cl (fun _ _ e => (by rw [ro_X17_cosine e]; exact hs)) (fun _ h hs => ?_)
  refine fr_bd (fun _ => ?_)
  refine fr_cl (fun _ _ e => (by rw [ro_X17_sine e]; exact hs)) (fun _ h hs => ?_)
  refine fr_cl (fun _ _ e => (hs.trans ((ow_X17_gather (oc.of hs) ox0 e).weak (by decide) (by decide)))) (fun _ h hs => ?_)
  refine fr_bd (fun _ => ?_)
  refine fr_if ?_ ?_
  · exact ow_X17_use_63 oc hs
  · refine fr_be (fun v9 e => ?_)
    have ov9 := ow_gR hs ox0 e
    clear e
    refine fr_bd (fun _ => ?_)
    refine fr_cl (fun _ _ e => (hs.trans ((ow_X17_meets (oc.of hs) ox0 e).weak (by decide) (by decide)))) (fun _ h hs => ?_)
    refine fr_if ?_ ?_
    · exact ow_X17_use_63 oc hs
    · refine fr_bd (fun _ => ?_)
      refine fr_bd (fun _ => ?_)
      refine fr_if ?_ ?_
      · exact ow_X17_use_63 oc hs
      · refine fr_bd (fun _ => ?_)
        refine fr_if ?_ ?_
        · exact ow_X17_use_63 oc hs
        · refine fr_be (fun v16 e => ?_)
          have ov16 := ow_gR hs ox0 e
          clear e
          refine fr_bd (fun _ => ?_)
          refine fr_cl (fun _ _ e => (by rw [ro_X17_wallPart e]; exact hs)) (fun _ h hs => ?_)
          refine fr_cl (fun _ _ e => (by rw [ro_X17_wallPart e]; exact hs)) (fun _ h hs => ?_)
          refine fr_if ?_ ?_
          · refine fr_if ?_ ?_
            · exact ow_X17_use_109 oc ox0 hs
            · refine fr_be (fun v22 e => ?_)
              have ov22 := ow_gO oc hs ox0 e
              clear e
              refine fr_cl (fun _ _ e => (hs.trans ((ow_X13_begin (oc.of hs) ov22 e).weak (by decide) (by decide)))) (fun _ h hs => ?_)
              exact ow_X17_use_132 oc hs
          · exact ow_X17_use_109 oc ox0 hs
theorem ow_X17_use {O : Nat → Prop} {x0 : Nat} {h : sv_H} {r : Unit} {hE : sv_H} (oc : sv_cl O h) (ox0 : O x0) (hw : fn_X17_use x0 h = some (r, hE)) : sv_ow [1815, 1816, 1817, 1818, 1819, 1821, 1827, 1828] [1410, 1411, 1412, 1413, 1414, 1820] O h hE := ow_X17_use_0 oc ox0 (sv_ow.refl h) r hE hw

theorem ow_X13_await_0 {O : Nat → Prop} {h0 : sv_H} (oc : sv_cl O h0) {x0 : Nat} {x1 : Int32} {x2 : Int32} {h : sv_H} (ox0 : O x0) (hs : sv_ow [] [1411, 1412] O h0 h) : sv_fr (sv_ow [] [1411, 1412] O) h0 (fn_X13_await x0 x1 x2 h) := by
  unfold fn_X13_await
  refine fr_if ?_ fr_no
  refine fr_be (fun v1 e => ?_)
  have ov1 := ow_gR hs ox0 e
  clear e
  refine fr_st (fun _ e => ow_sI hs ov1 (by decide) e) (fun h hs => ?_)
  refine fr_be (fun v3 e => ?_)
  have ov3 := ow_gR hs ox0 e
  clear e
  refine fr_st (fun _ e => ow_sI hs ov3 (by decide) e) (fun h hs => ?_)
  exact fr_rt hs
theorem ow_X13_await {O : Nat → Prop} {x0 : Nat} {x1 : Int32} {x2 : Int32} {h : sv_H} {r : Unit} {hE : sv_H} (oc : sv_cl O h) (ox0 : O x0) (hw : fn_X13_await x0 x1 x2 h = some (r, hE)) : sv_ow [] [1411, 1412] O h hE := ow_X13_await_0 oc ox0 (sv_ow.refl h) r hE hw

theorem ow_X13_end_0 {O : Nat → Prop} {h0 : sv_H} (oc : sv_cl O h0) {x0 : Nat} {x1 : Int32} {h : sv_H} (ox0 : O x0) (hs : sv_ow [] [1410, 1411, 1413] O h0 h) : sv_fr (sv_ow [] [1410, 1411, 1413] O) h0 (fn_X13_end x0 x1 h) := by
  unfold fn_X13_end
  refine fr_if ?_ fr_no
  refine fr_be (fun v1 e => ?_)
  have ov1 := ow_gR hs ox0 e
  clear e
  refine fr_st (fun _ e => ow_sI hs ov1 (by decide) e) (fun h hs => ?_)
  refine fr_be (fun v3 e => ?_)
  have ov3 := ow_gR hs ox0 e
  clear e
  refine fr_st (fun _ e => ow_sI hs ov3 (by decide) e) (fun h hs => ?_)
  refine fr_be (fun v5 e => ?_)
  have ov5 := ow_gR hs ox0 e
  clear e
  refine fr_st (fun _ e => ow_sI hs ov5 (by decide) e) (fun h hs => ?_)
  exact fr_rt hs
theorem ow_X13_end {O : Nat → Prop} {x0 : Nat} {x1 : Int32} {h : sv_H} {r : Unit} {hE : sv_H} (oc : sv_cl O h) (ox0 : O x0) (hw : fn_X13_end x0 x1 h = some (r, hE)) : sv_ow [] [1410, 1411, 1413] O h hE := ow_X13_end_0 oc ox0 (sv_ow.refl h) r hE hw

theorem ow_X13_stepDoor_157 {O : Nat → Prop} {h0 : sv_H} (oc : sv_cl O h0) {h : sv_H} (hs : sv_ow [1417] [1409, 1410, 1411, 1412, 1413] O h0 h) : sv_fr (sv_ow [1417] [1409, 1410, 1411, 1412, 1413] O) h0 (fn_X13_stepDoor_157 h) := by
  unfold fn_X13_stepDoor_157
  exact fr_rt hs
theorem ow_X13_stepDoor_135 {O : Nat → Prop} {h0 : sv_H} (oc : sv_cl O h0) {x0 : Nat} {x1 : Int32} {x2 : Int32} {h : sv_H} (ox0 : O x0) (hs : sv_ow [1417] [1409, 1410, 1411, 1412, 1413] O h0 h) : sv_fr (sv_ow [1417] [1409, 1410, 1411, 1412, 1413] O) h0 (fn_X13_stepDoor_135 x0 x1 x2 h) := by
  unfold fn_X13_stepDoor_135
  refine fr_be (fun v1 e => ?_)
  have ov1 := ow_gR hs ox0 e
  clear e
  refine fr_st (fun _ e => ow_sI hs ov1 (by decide) e) (fun h hs => ?_)
  refine fr_be (fun v3 e => ?_)
  have ov3 := ow_gR hs ox0 e
  clear e
  refine fr_bd (fun _ => ?_)
  refine fr_if ?_ ?_
  · refine fr_cl (fun _ _ e => (hs.trans ((ow_X13_end (oc.of hs) ox0 e).weak (by decide) (by decide)))) (fun _ h hs => ?_)
    exact ow_X13_stepDoor_157 oc hs
  · exact ow_X13_stepDoor_157 oc hs
theorem ow_X13_stepDoor_95 {O : Nat → Prop} {h0 : sv_H} (oc : sv_cl O h0) {x0 : Nat} {x1 : Int32} {s0 : Int32} {h : sv_H} (ox0 : O x0) (hs : sv_ow [1417] [1409, 1410, 1411, 1412, 1413] O h0 h) : sv_fr (sv_ow [1417] [1409, 1410, 1411, 1412, 1413] O) h0 (fn_X13_stepDoor_95 x0 x1 s0 h) := by
  unfold fn_X13_stepDoor_95
  refine fr_bd (fun _ => ?_)
  refine fr_if ?_ ?_
  · refine fr_be (fun v2 e => ?_)
    have ov2 := ow_gR hs ox0 e
    clear e
    refine fr_bd (fun _ => ?_)
    refine fr_if ?_ ?_
    · exact ow_X13_stepDoor_135 oc ox0 hs
    · refine fr_bd (fun _ => ?_)
      refine fr_st (fun _ e => ow_pI hs (by decide) ox0 e) (fun h hs => ?_)
      refine fr_be (fun v6 e => ?_)
      have ov6 := ow_gR hs ox0 e
      clear e
      refine fr_st (fun _ e => ow_sI hs ov6 (by decide) e) (fun h hs => ?_)
      exact fr_rt hs
  · exact ow_X13_stepDoor_135 oc ox0 hs
theorem ow_X13_stepDoor_74 {O : Nat → Prop} {h0 : sv_H} (oc : sv_cl O h0) {h : sv_H} (hs : sv_ow [1417] [1409, 1410, 1411, 1412, 1413] O h0 h) : sv_fr (sv_ow [1417] [1409, 1410, 1411, 1412, 1413] O) h0 (fn_X13_stepDoor_74 h) := by
  unfold fn_X13_stepDoor_74
  exact fr_rt hs
theorem ow_X13_stepDoor_51 {O : Nat → Prop} {h0 : sv_H} (oc : sv_cl O h0) {x0 : Nat} {x1 : Int32} {s0 : Nat} {s1 : Int32} {s2 : Int32} {h : sv_H} (ox0 : O x0) (os0 : sv_rl 1409 O h0 s0) (hs : sv_ow [1417] [1409, 1410, 1411, 1412, 1413] O h0 h) : sv_fr (sv_ow [1417] [1409, 1410, 1411, 1412, 1413] O) h0 (fn_X13_stepDoor_51 x0 x1 s0 s1 s2 h) := by
  unfold fn_X13_stepDoor_51
  refine fr_st (fun _ e => ow_sI hs os0 (by decide) e) (fun h hs => ?_)
  refine fr_be (fun v2 e => ?_)
  have ov2 := ow_gR hs ox0 e
  clear e
  refine fr_bd (fun _ => ?_)
  refine fr_be (fun v4 e => ?_)
  have ov4 := ow_gR hs ox0 e
  clear e
  refine fr_bd (fun _ => ?_)
  refine fr_if ?_ ?_
  · refine fr_cl (fun _ _ e => (hs.trans ((ow_X13_await (oc.of hs) ox0 e).weak (by decide) (by decide)))) (fun _ h hs => ?_)
    exact ow_X13_stepDoor_74 oc hs
  · exact ow_X13_stepDoor_74 oc hs
theorem ow_X13_stepDoor_0 {O : Nat → Prop} {h0 : sv_H} (oc : sv_cl O h0) {x0 : Nat} {x1 : Int32} {h : sv_H} (ox0 : O x0) (hs : sv_ow [1417] [1409, 1410, 1411, 1412, 1413] O h0 h) : sv_fr (sv_ow [1417] [1409, 1410, 1411, 1412, 1413] O) h0 (fn_X13_stepDoor x0 x1 h) := by
  unfold fn_X13_stepDoor
  refine fr_if ?_ fr_no
  refine fr_be (fun v1 e => ?_)
  have ov1 := ow_gR hs ox0 e
  clear e
  refine fr_bd (fun _ => ?_)
  refine fr_be (fun v3 e => ?_)
  have ov3 := ow_gR hs ox0 e
  clear e
  refine fr_bd (fun _ => ?_)
  refine fr_be (fun v5 e => ?_)
  have ov5 := ow_gR hs ox0 e
  clear e
  refine fr_bd (fun _ => ?_)
  refine fr_if ?_ ?_
  · refine fr_be (fun v7 e => ?_)
    have ov7 := ow_gR hs ox0 e
    clear e
    refine fr_bd (fun _ => ?_)
    refine fr_if ?_ ?_
    · exact ow_X13_stepDoor_95 oc ox0 hs
    · refine fr_be (fun v9 e => ?_)
      have ov9 := ow_gR hs ox0 e
      clear e
      refine fr_bd (fun _ => ?_)
      exact ow_X13_stepDoor_95 oc ox0 hs
  · refine fr_be (fun v11 e => ?_)
    have ov11 := ow_gR hs ox0 e
    clear e
    refine fr_be (fun v12 e => ?_)
    have ov12 := ow_gR hs ox0 e
    clear e
    refine fr_bd (fun _ => ?_)
    refine fr_if ?_ ?_
    · exact ow_X13_stepDoor_51 oc ox0 ov11 hs
    · refine fr_be (fun v14 e => ?_)
      have ov14 := ow_gR hs ox0 e
      clear e
      refine fr_bd (fun _ => ?_)
      exact ow_X13_stepDoor_51 oc ox0 ov11 hs
theorem ow_X13_stepDoor {O : Nat → Prop} {x0 : Nat} {x1 : Int32} {h : sv_H} {r : Unit} {hE : sv_H} (oc : sv_cl O h) (ox0 : O x0) (hw : fn_X13_stepDoor x0 x1 h = some (r, hE)) : sv_ow [1417] [1409, 1410, 1411, 1412, 1413] O h hE := ow_X13_stepDoor_0 oc ox0 (sv_ow.refl h) r hE hw

theorem ow_X13_rise_78 {O : Nat → Prop} {h0 : sv_H} (oc : sv_cl O h0) {h : sv_H} (hs : sv_ow [1417] [1408, 1410, 1411, 1413] O h0 h) : sv_fr (sv_ow [1417] [1408, 1410, 1411, 1413] O) h0 (fn_X13_rise_78 h) := by
  unfold fn_X13_rise_78
  exact fr_rt hs
theorem ow_X13_rise_59 {O : Nat → Prop} {h0 : sv_H} (oc : sv_cl O h0) {x0 : Nat} {x1 : Int32} {x3 : Int32} {x4 : Int32} {h : sv_H} (ox0 : O x0) (hs : sv_ow [1417] [1408, 1410, 1411, 1413] O h0 h) : sv_fr (sv_ow [1417] [1408, 1410, 1411, 1413] O) h0 (fn_X13_rise_59 x0 x1 x3 x4 h) := by
  unfold fn_X13_rise_59
  refine fr_be (fun v1 e => ?_)
  have ov1 := ow_gR hs ox0 e
  clear e
  refine fr_st (fun _ e => ow_sI hs ov1 (by decide) e) (fun h hs => ?_)
  refine fr_if ?_ ?_
  · refine fr_cl (fun _ _ e => (hs.trans ((ow_X13_end (oc.of hs) ox0 e).weak (by decide) (by decide)))) (fun _ h hs => ?_)
    exact ow_X13_rise_78 oc hs
  · exact ow_X13_rise_78 oc hs
theorem ow_X13_rise_24 {O : Nat → Prop} {h0 : sv_H} (oc : sv_cl O h0) {x0 : Nat} {x1 : Int32} {x3 : Int32} {s0 : Int32} {h : sv_H} (ox0 : O x0) (hs : sv_ow [1417] [1408, 1410, 1411, 1413] O h0 h) : sv_fr (sv_ow [1417] [1408, 1410, 1411, 1413] O) h0 (fn_X13_rise_24 x0 x1 x3 s0 h) := by
  unfold fn_X13_rise_24
  refine fr_bd (fun _ => ?_)
  refine fr_if ?_ ?_
  · refine fr_be (fun v2 e => ?_)
    have ov2 := ow_gR hs ox0 e
    clear e
    refine fr_bd (fun _ => ?_)
    refine fr_if ?_ ?_
    · exact ow_X13_rise_59 oc ox0 hs
    · refine fr_bd (fun _ => ?_)
      refine fr_st (fun _ e => ow_pI hs (by decide) ox0 e) (fun h hs => ?_)
      exact fr_rt hs
  · exact ow_X13_rise_59 oc ox0 hs
theorem ow_X13_rise_0 {O : Nat → Prop} {h0 : sv_H} (oc : sv_cl O h0) {x0 : Nat} {x1 : Int32} {x2 : Int32} {x3 : Int32} {h : sv_H} (ox0 : O x0) (hs : sv_ow [1417] [1408, 1410, 1411, 1413] O h0 h) : sv_fr (sv_ow [1417] [1408, 1410, 1411, 1413] O) h0 (fn_X13_rise x0 x1 x2 x3 h) := by
  unfold fn_X13_rise
  refine fr_if ?_ fr_no
  refine fr_be (fun v1 e => ?_)
  have ov1 := ow_gR hs ox0 e
  clear e
  refine fr_bd (fun _ => ?_)
  refine fr_if ?_ ?_
  · refine fr_be (fun v3 e => ?_)
    have ov3 := ow_gR hs ox0 e
    clear e
    refine fr_bd (fun _ => ?_)
    exact ow_X13_rise_24 oc ox0 hs
  · exact ow_X13_rise_24 oc ox0 hs
theorem ow_X13_rise {O : Nat → Prop} {x0 : Nat} {x1 : Int32} {x2 : Int32} {x3 : Int32} {h : sv_H} {r : Unit} {hE : sv_H} (oc : sv_cl O h) (ox0 : O x0) (hw : fn_X13_rise x0 x1 x2 x3 h = some (r, hE)) : sv_ow [1417] [1408, 1410, 1411, 1413] O h hE := ow_X13_rise_0 oc ox0 (sv_ow.refl h) r hE hw

theorem ow_X13_step_128 {O : Nat → Prop} {h0 : sv_H} (oc : sv_cl O h0) {h : sv_H} (hs : sv_ow [1417] [1408, 1409, 1410, 1411, 1412, 1413] O h0 h) : sv_fr (sv_ow [1417] [1408, 1409, 1410, 1411, 1412, 1413] O) h0 (fn_X13_step_128 h) := by
  unfold fn_X13_step_128
  exact fr_rt hs
theorem ow_X13_step_105 {O : Nat → Prop} {h0 : sv_H} (oc : sv_cl O h0) {x0 : Nat} {x1 : Int32} {s0 : Nat} {s1 : Int32} {s2 : Int32} {h : sv_H} (ox0 : O x0) (os0 : sv_rl 1408 O h0 s0) (hs : sv_ow [1417] [1408, 1409, 1410, 1411, 1412, 1413] O h0 h) : sv_fr (sv_ow [1417] [1408, 1409, 1410, 1411, 1412, 1413] O) h0 (fn_X13_step_105 x0 x1 s0 s1 s2 h) := by
  unfold fn_X13_step_105
  refine fr_st (fun _ e => ow_sI hs os0 (by decide) e) (fun h hs => ?_)
  refine fr_be (fun v2 e => ?_)
  have ov2 := ow_gR hs ox0 e
  clear e
  refine fr_bd (fun _ => ?_)
  refine fr_be (fun v4 e => ?_)
  have ov4 := ow_gR hs ox0 e
  clear e
  refine fr_bd (fun _ => ?_)
  refine fr_if ?_ ?_
  · refine fr_cl (fun _ _ e => (hs.trans ((ow_X13_await (oc.of hs) ox0 e).weak (by decide) (by decide)))) (fun _ h hs => ?_)
    exact ow_X13_step_128 oc hs
  · exact ow_X13_step_128 oc hs
theorem ow_X13_step_0 {O : Nat → Prop} {h0 : sv_H} (oc : sv_cl O h0) {x0 : Nat} {x1 : Int32} {h : sv_H} (ox0 : O x0) (hs : sv_ow [1417] [1408, 1409, 1410, 1411, 1412, 1413] O h0 h) : sv_fr (sv_ow [1417] [1408, 1409, 1410, 1411, 1412, 1413] O) h0 (fn_X13_step x0 x1 h) := by
  unfold fn_X13_step
  refine fr_if ?_ fr_no
  refine fr_be (fun v1 e => ?_)
  have ov1 := ow_gR hs ox0 e
  clear e
  refine fr_bd (fun _ => ?_)
  refine fr_if ?_ ?_
  · refine fr_cl (fun _ _ e => (hs.trans ((ow_X13_stepDoor (oc.of hs) ox0 e).weak (by decide) (by decide)))) (fun _ h hs => ?_)
    exact ow_X13_step_128 oc hs
  · refine fr_be (fun v3 e => ?_)
    have ov3 := ow_gR hs ox0 e
    clear e
    refine fr_bd (fun _ => ?_)
    refine fr_if ?_ ?_
    · refine fr_be (fun v19 e => ?_)
      have ov19 := ow_gR hs ox0 e
      clear e
      refine fr_bd (fun _ => ?_)
      refine fr_cl (fun _ _ e => (hs.trans ((ow_X13_rise (oc.of hs) ox0 e).weak (by decide) (by decide)))) (fun _ h hs => ?_)
      exact ow_X13_step_128 oc hs
    · refine fr_be (fun v5 e => ?_)
      have ov5 := ow_gR hs ox0 e
      clear e
      refine fr_bd (fun _ => ?_)
      refine fr_if ?_ ?_
      · refine fr_be (fun v7 e => ?_)
        have ov7 := ow_gR hs ox0 e
        clear e
        refine fr_be (fun v8 e => ?_)
        have ov8 := ow_gR hs ox0 e
        clear e
        refine fr_bd (fun _ => ?_)
        refine fr_be (fun v10 e => ?_)
        have ov10 := ow_gR hs ox0 e
        clear e
        refine fr_bd (fun _ => ?_)
        refine fr_if ?_ ?_
        · refine fr_be (fun v12 e => ?_)
          have ov12 := ow_gR hs ox0 e
          clear e
          refine fr_bd (fun _ => ?_)
          exact ow_X13_step_105 oc ox0 ov7 hs
        · refine fr_be (fun v14 e => ?_)
          have ov14 := ow_gR hs ox0 e
          clear e
          refine fr_bd (fun _ => ?_)
          exact ow_X13_step_105 oc ox0 ov7 hs
      · refine fr_be (fun v16 e => ?_)
        have ov16 := ow_gR hs ox0 e
        clear e
        refine fr_bd (fun _ => ?_)
        refine fr_cl (fun _ _ e => (hs.trans ((ow_X13_rise (oc.of hs) ox0 e).weak (by decide) (by decide)))) (fun _ h hs => ?_)
        exact ow_X13_step_128 oc hs
theorem ow_X13_step {O : Nat → Prop} {x0 : Nat} {x1 : Int32} {h : sv_H} {r : Unit} {hE : sv_H} (oc : sv_cl O h) (ox0 : O x0) (hw : fn_X13_step x0 x1 h = some (r, hE)) : sv_ow [1417] [1408, 1409, 1410, 1411, 1412, 1413] O h hE := ow_X13_step_0 oc ox0 (sv_ow.refl h) r hE hw

theorem ow_X13_ticks_11 {O : Nat → Prop} {h0 : sv_H} (oc : sv_cl O h0) {h : sv_H} (hs : sv_ow [1415, 1417] [1408, 1409, 1410, 1411, 1412, 1413] O h0 h) : sv_fr (sv_ow [1415, 1417] [1408, 1409, 1410, 1411, 1412, 1413] O) h0 (fn_X13_ticks_11 h) := by
  unfold fn_X13_ticks_11
  exact fr_rt hs
theorem ow_X13_ticks_118 {O : Nat → Prop} {h0 : sv_H} (oc : sv_cl O h0) {k15 : Nat → Int32 → Int32 → sv_H → Option (Int32 × sv_H)} (hk15 : ∀ {x0 : Nat} {x1 : Int32} {x2 : Int32} {h : sv_H}, O x0 → sv_ow [1415, 1417] [1408, 1409, 1410, 1411, 1412, 1413] O h0 h → sv_fr (sv_ow [1415, 1417] [1408, 1409, 1410, 1411, 1412, 1413] O) h0 (k15 x0 x1 x2 h)) {k32 : Nat → Int32 → Int32 → Int32 → sv_H → Option (Int32 × sv_H)} (hk32 : ∀ {x0 : Nat} {x1 : Int32} {x2 : Int32} {x3 : Int32} {h : sv_H}, O x0 → sv_ow [1415, 1417] [1408, 1409, 1410, 1411, 1412, 1413] O h0 h → sv_fr (sv_ow [1415, 1417] [1408, 1409, 1410, 1411, 1412, 1413] O) h0 (k32 x0 x1 x2 x3 h)) {x0 : Nat} {x1 : Int32} {x2 : Int32} {x3 : Int32} {h : sv_H} (ox0 : O x0) (hs : sv_ow [1415, 1417] [1408, 1409, 1410, 1411, 1412, 1413] O h0 h) : sv_fr (sv_ow [1415, 1417] [1408, 1409, 1410, 1411, 1412, 1413] O) h0 (fn_X13_ticks_118 k15 k32 x0 x1 x2 x3 h) := by
  unfold fn_X13_ticks_118
  exact hk32 ox0 hs
theorem ow_X13_ticks_104 {O : Nat → Prop} {h0 : sv_H} (oc : sv_cl O h0) {k15 : Nat → Int32 → Int32 → sv_H → Option (Int32 × sv_H)} (hk15 : ∀ {x0 : Nat} {x1 : Int32} {x2 : Int32} {h : sv_H}, O x0 → sv_ow [1415, 1417] [1408, 1409, 1410, 1411, 1412, 1413] O h0 h → sv_fr (sv_ow [1415, 1417] [1408, 1409, 1410, 1411, 1412, 1413] O) h0 (k15 x0 x1 x2 h)) {k32 : Nat → Int32 → Int32 → Int32 → sv_H → Option (Int32 × sv_H)} (hk32 : ∀ {x0 : Nat} {x1 : Int32} {x2 : Int32} {x3 : Int32} {h : sv_H}, O x0 → sv_ow [1415, 1417] [1408, 1409, 1410, 1411, 1412, 1413] O h0 h → sv_fr (sv_ow [1415, 1417] [1408, 1409, 1410, 1411, 1412, 1413] O) h0 (k32 x0 x1 x2 x3 h)) {x0 : Nat} {x1 : Int32} {x2 : Int32} {x3 : Int32} {h : sv_H} (ox0 : O x0) (hs : sv_ow [1415, 1417] [1408, 1409, 1410, 1411, 1412, 1413] O h0 h) : sv_fr (sv_ow [1415, 1417] [1408, 1409, 1410, 1411, 1412, 1413] O) h0 (fn_X13_ticks_104 k15 k32 x0 x1 x2 x3 h) := by
  unfold fn_X13_ticks_104
  refine fr_be (fun v1 e => ?_)
  have ov1 := ow_gR hs ox0 e
  clear e
  refine fr_bd (fun _ => ?_)
  refine fr_if ?_ ?_
  · exact ow_X13_ticks_118 oc hk15 hk32 ox0 hs
  · refine fr_cl (fun _ _ e => (hs.trans ((ow_X13_step (oc.of hs) ox0 e).weak (by decide) (by decide)))) (fun _ h hs => ?_)
    exact ow_X13_ticks_118 oc hk15 hk32 ox0 hs
theorem ow_X13_ticks_100 {O : Nat → Prop} {h0 : sv_H} (oc : sv_cl O h0) {k15 : Nat → Int32 → Int32 → sv_H → Option (Int32 × sv_H)} (hk15 : ∀ {x0 : Nat} {x1 : Int32} {x2 : Int32} {h : sv_H}, O x0 → sv_ow [1415, 1417] [1408, 1409, 1410, 1411, 1412, 1413] O h0 h → sv_fr (sv_ow [1415, 1417] [1408, 1409, 1410, 1411, 1412, 1413] O) h0 (k15 x0 x1 x2 h)) {k32 : Nat → Int32 → Int32 → Int32 → sv_H → Option (Int32 × sv_H)} (hk32 : ∀ {x0 : Nat} {x1 : Int32} {x2 : Int32} {x3 : Int32} {h : sv_H}, O x0 → sv_ow [1415, 1417] [1408, 1409, 1410, 1411, 1412, 1413] O h0 h → sv_fr (sv_ow [1415, 1417] [1408, 1409, 1410, 1411, 1412, 1413] O) h0 (k32 x0 x1 x2 x3 h)) {x0 : Nat} {x1 : Int32} {x2 : Int32} {x3 : Int32} {s0 : Nat} {s1 : Int32} {s2 : Int32} {h : sv_H} (ox0 : O x0) (os0 : sv_rl 1411 O h0 s0) (hs : sv_ow [1415, 1417] [1408, 1409, 1410, 1411, 1412, 1413] O h0 h) : sv_fr (sv_ow [1415, 1417] [1408, 1409, 1410, 1411, 1412, 1413] O) h0 (fn_X13_ticks_100 k15 k32 x0 x1 x2 x3 s0 s1 s2 h) := by
  unfold fn_X13_ticks_100
  refine fr_st (fun _ e => ow_sI hs os0 (by decide) e) (fun h hs => ?_)
  exact ow_X13_ticks_118 oc hk15 hk32 ox0 hs
theorem ow_X13_ticks_32b {O : Nat → Prop} {h0 : sv_H} (oc : sv_cl O h0) {k15 : Nat → Int32 → Int32 → sv_H → Option (Int32 × sv_H)} (hk15 : ∀ {x0 : Nat} {x1 : Int32} {x2 : Int32} {h : sv_H}, O x0 → sv_ow [1415, 1417] [1408, 1409, 1410, 1411, 1412, 1413] O h0 h → sv_fr (sv_ow [1415, 1417] [1408, 1409, 1410, 1411, 1412, 1413] O) h0 (k15 x0 x1 x2 h)) {k32 : Nat → Int32 → Int32 → Int32 → sv_H → Option (Int32 × sv_H)} (hk32 : ∀ {x0 : Nat} {x1 : Int32} {x2 : Int32} {x3 : Int32} {h : sv_H}, O x0 → sv_ow [1415, 1417] [1408, 1409, 1410, 1411, 1412, 1413] O h0 h → sv_fr (sv_ow [1415, 1417] [1408, 1409, 1410, 1411, 1412, 1413] O) h0 (k32 x0 x1 x2 x3 h)) {x0 : Nat} {x1 : Int32} {x2 : Int32} {x3 : Int32} {h : sv_H} (ox0 : O x0) (hs : sv_ow [1415, 1417] [1408, 1409, 1410, 1411, 1412, 1413] O h0 h) : sv_fr (sv_ow [1415, 1417] [1408, 1409, 1410, 1411, 1412, 1413] O) h0 (fn_X13_ticks_32b k15 k32 x0 x1 x2 x3 h) := by
  unfold fn_X13_ticks_32b
  refine fr_bd (fun _ => ?_)
  refine fr_if ?_ ?_
  · exact hk15 ox0 hs
  · refine fr_be (fun v2 e => ?_)
    have ov2 := ow_gR hs ox0 e
    clear e
    refine fr_bd (fun _ => ?_)
    refine fr_if ?_ ?_
    · exact ow_X13_ticks_104 oc hk15 hk32 ox0 hs
    · refine fr_be (fun v4 e => ?_)
      have ov4 := ow_gR hs ox0 e
      clear e
      refine fr_bd (fun _ => ?_)
      refine fr_if ?_ ?_
      · exact ow_X13_ticks_104 oc hk15 hk32 ox0 hs
      · refine fr_be (fun v6 e => ?_)
        have ov6 := ow_gR hs ox0 e
        clear e
        refine fr_bd (fun _ => ?_)
        refine fr_st (fun _ e => ow_sI hs ov6 (by decide) e) (fun h hs => ?_)
        refine fr_be (fun v9 e => ?_)
        have ov9 := ow_gR hs ox0 e
        clear e
        refine fr_be (fun v10 e => ?_)
        have ov10 := ow_gR hs ox0 e
        clear e
        refine fr_bd (fun _ => ?_)
        refine fr_if ?_ ?_
        · refine fr_be (fun v12 e => ?_)
          have ov12 := ow_gR hs ox0 e
          clear e
          refine fr_bd (fun _ => ?_)
          refine fr_if ?_ ?_
          · exact ow_X13_ticks_100 oc hk15 hk32 ox0 ov9 hs
          · exact ow_X13_ticks_100 oc hk15 hk32 ox0 ov9 hs
        · exact ow_X13_ticks_100 oc hk15 hk32 ox0 ov9 hs
theorem ow_X13_ticks_32 {O : Nat → Prop} {h0 : sv_H} (oc : sv_cl O h0) {k15 : Nat → Int32 → Int32 → sv_H → Option (Int32 × sv_H)} (hk15 : ∀ {x0 : Nat} {x1 : Int32} {x2 : Int32} {h : sv_H}, O x0 → sv_ow [1415, 1417] [1408, 1409, 1410, 1411, 1412, 1413] O h0 h → sv_fr (sv_ow [1415, 1417] [1408, 1409, 1410, 1411, 1412, 1413] O) h0 (k15 x0 x1 x2 h)) : ∀ (n : Nat) {x0 : Nat} {x1 : Int32} {x2 : Int32} {x3 : Int32} {h : sv_H}, O x0 → sv_ow [1415, 1417] [1408, 1409, 1410, 1411, 1412, 1413] O h0 h → sv_fr (sv_ow [1415, 1417] [1408, 1409, 1410, 1411, 1412, 1413] O) h0 (fn_X13_ticks_32 k15 n x0 x1 x2 x3 h) := by
  intro n
  induction n with
  | zero => intro x0 x1 x2 x3 h ox0 hs r hE e; cases (show (none : Option (Int32 × sv_H)) = some (r, hE) from e)
  | succ n ih => intro x0 x1 x2 x3 h ox0 hs; exact ow_X13_ticks_32b oc hk15 (fun ox0 hs => ih ox0 hs) ox0 hs
theorem ow_X13_ticks_15b {O : Nat → Prop} {h0 : sv_H} (oc : sv_cl O h0) {k15 : Nat → Int32 → Int32 → sv_H → Option (Int32 × sv_H)} (hk15 : ∀ {x0 : Nat} {x1 : Int32} {x2 : Int32} {h : sv_H}, O x0 → sv_ow [1415, 1417] [1408, 1409, 1410, 1411, 1412, 1413] O h0 h → sv_fr (sv_ow [1415, 1417] [1408, 1409, 1410, 1411, 1412, 1413] O) h0 (k15 x0 x1 x2 h)) {x0 : Nat} {x1 : Int32} {x2 : Int32} {h : sv_H} (ox0 : O x0) (hs : sv_ow [1415, 1417] [1408, 1409, 1410, 1411, 1412, 1413] O h0 h) : sv_fr (sv_ow [1415, 1417] [1408, 1409, 1410, 1411, 1412, 1413] O) h0 (fn_X13_ticks_15b k15 x0 x1 x2 h) := by
  unfold fn_X13_ticks_15b
  refine fr_if ?_ ?_
  · refine fr_bd (fun _ => ?_)
    exact fr_rt hs
  · refine fr_bd (fun _ => ?_)
    refine fr_st (fun _ e => ow_pI hs (by decide) ox0 e) (fun h hs => ?_)
    exact ow_X13_ticks_32 oc hk15 sv_fuel ox0 hs
theorem ow_X13_ticks_15 {O : Nat → Prop} {h0 : sv_H} (oc : sv_cl O h0) : ∀ (n : Nat) {x0 : Nat} {x1 : Int32} {x2 : Int32} {h : sv_H}, O x0 → sv_ow [1415, 1417] [1408, 1409, 1410, 1411, 1412, 1413] O h0 h → sv_fr (sv_ow [1415, 1417] [1408, 1409, 1410, 1411, 1412, 1413] O) h0 (fn_X13_ticks_15 n x0 x1 x2 h) := by
  intro n
  induction n with
  | zero => intro x0 x1 x2 h ox0 hs r hE e; cases (show (none : Option (Int32 × sv_H)) = some (r, hE) from e)
  | succ n ih => intro x0 x1 x2 h ox0 hs; exact ow_X13_ticks_15b oc (fun ox0 hs => ih ox0 hs) ox0 hs
theorem ow_X13_ticks_0 {O : Nat → Prop} {h0 : sv_H} (oc : sv_cl O h0) {x0 : Nat} {x1 : Int32} {h : sv_H} (ox0 : O x0) (hs : sv_ow [1415, 1417] [1408, 1409, 1410, 1411, 1412, 1413] O h0 h) : sv_fr (sv_ow [1415, 1417] [1408, 1409, 1410, 1411, 1412, 1413] O) h0 (fn_X13_ticks x0 x1 h) := by
  unfold fn_X13_ticks
  refine fr_if ?_ fr_no
  refine fr_if ?_ ?_
  · exact ow_X13_ticks_11 oc hs
  · refine fr_if ?_ ?_
    · exact ow_X13_ticks_15 oc sv_fuel ox0 hs
    · exact ow_X13_ticks_11 oc hs
theorem ow_X13_ticks {O : Nat → Prop} {x0 : Nat} {x1 : Int32} {h : sv_H} {r : Int32} {hE : sv_H} (oc : sv_cl O h) (ox0 : O x0) (hw : fn_X13_ticks x0 x1 h = some (r, hE)) : sv_ow [1415, 1417] [1408, 1409, 1410, 1411, 1412, 1413] O h hE := ow_X13_ticks_0 oc ox0 (sv_ow.refl h) r hE hw

theorem ow_X17_go_121 {O : Nat → Prop} {h0 : sv_H} (oc : sv_cl O h0) {x0 : Nat} {x7 : Int32} {h : sv_H} (ox0 : O x0) (hs : sv_ow [1415, 1416, 1417, 1811, 1812, 1813, 1814, 1815, 1816, 1817, 1818, 1819, 1821, 1827, 1828] [1408, 1409, 1410, 1411, 1412, 1413, 1414, 1820] O h0 h) : sv_fr (sv_ow [1415, 1416, 1417, 1811, 1812, 1813, 1814, 1815, 1816, 1817, 1818, 1819, 1821, 1827, 1828] [1408, 1409, 1410, 1411, 1412, 1413, 1414, 1820] O) h0 (fn_X17_go_121 x0 x7 h) := by
  unfold fn_X17_go_121
  refine fr_be (fun v1 e => ?_)
  have ov1 := ow_gO oc hs ox0 e
  clear e
  refine fr_bd (fun _ => ?_)
  refine fr_st (fun _ e => ow_pI hs (by decide) ov1 e) (fun h hs => ?_)
  refine fr_be (fun v4 e => ?_)
  have ov4 := ow_gO oc hs ox0 e
  clear e
  refine fr_cl (fun _ _ e => (hs.trans ((ow_X13_ticks (oc.of hs) ov4 e).weak (by decide) (by decide)))) (fun _ h hs => ?_)
  exact fr_rt hs
theorem ow_X17_go_110 {O : Nat → Prop} {h0 : sv_H} (oc : sv_cl O h0) {x0 : Nat} {x4 : Int32} {s0 : Int32} {h : sv_H} (ox0 : O x0) (hs : sv_ow [1415, 1416, 1417, 1811, 1812, 1813, 1814, 1815, 1816, 1817, 1818, 1819, 1821, 1827, 1828] [1408, 1409, 1410, 1411, 1412, 1413, 1414, 1820] O h0 h) : sv_fr (sv_ow [1415, 1416, 1417, 1811, 1812, 1813, 1814, 1815, 1816, 1817, 1818, 1819, 1821, 1827, 1828] [1408, 1409, 1410, 1411, 1412, 1413, 1414, 1820] O) h0 (fn_X17_go_110 x0 x4 s0 h) := by
  unfold fn_X17_go_110
  refine fr_if ?_ ?_
  · exact ow_X17_go_121 oc ox0 hs
  · refine fr_cl (fun _ _ e => (hs.trans ((ow_X17_use (oc.of hs) ox0 e).weak (by decide) (by decide)))) (fun _ h hs => ?_)
    exact ow_X17_go_121 oc ox0 hs
theorem ow_X17_go_94 {O : Nat → Prop} {h0 : sv_H} (oc : sv_cl O h0) {x0 : Nat} {x4 : Int32} {x5 : Int32} {x6 : Int32} {h : sv_H} (ox0 : O x0) (hs : sv_ow [1415, 1416, 1417, 1811, 1812, 1813, 1814, 1815, 1816, 1817, 1818, 1819, 1821, 1827, 1828] [1408, 1409, 1410, 1411, 1412, 1413, 1414, 1820] O h0 h) : sv_fr (sv_ow [1415, 1416, 1417, 1811, 1812, 1813, 1814, 1815, 1816, 1817, 1818, 1819, 1821, 1827, 1828] [1408, 1409, 1410, 1411, 1412, 1413, 1414, 1820] O) h0 (fn_X17_go_94 x0 x4 x5 x6 h) := by
  unfold fn_X17_go_94
  refine fr_cl (fun _ _ e => (hs.trans ((ow_X17_walks (oc.of hs) ox0 e).weak (by decide) (by decide)))) (fun _ h hs => ?_)
  refine fr_if ?_ ?_
  · exact ow_X17_go_110 oc ox0 hs
  · exact ow_X17_go_110 oc ox0 hs
theorem ow_X17_go_0 {O : Nat → Prop} {h0 : sv_H} (oc : sv_cl O h0) {x0 : Nat} {x1 : Int32} {x2 : Int32} {x3 : Int32} {x4 : Int32} {h : sv_H} (ox0 : O x0) (hs : sv_ow [1415, 1416, 1417, 1811, 1812, 1813, 1814, 1815, 1816, 1817, 1818, 1819, 1821, 1827, 1828] [1408, 1409, 1410, 1411, 1412, 1413, 1414, 1820] O h0 h) : sv_fr (sv_ow [1415, 1416, 1417, 1811, 1812, 1813, 1814, 1815, 1816, 1817, 1818, 1819, 1821, 1827, 1828] [1408, 1409, 1410, 1411, 1412, 1413, 1414, 1820] O) h0 (fn_X17_go x0 x1 x2 x3 x4 h) := by
  unfold fn_X17_go
  refine fr_if ?_ fr_no
  refine fr_bd (fun _ => ?_)
  refine fr_st (fun _ e => ow_pI hs (by decide) ox0 e) (fun h hs => ?_)
  refine fr_bd (fun _ => ?_)
  refine fr_cl (fun _ _ e => (by rw [ro_X17_cosine e]; exact hs)) (fun _ h hs => ?_)
  refine fr_bd (fun _ => ?_)
  refine fr_cl (fun _ _ e => (by rw [ro_X17_sine e]; exact hs)) (fun _ h hs => ?_)
  refine fr_cl (fun _ _ e => (by rw [ro_X17_down e]; exact hs)) (fun _ h hs => ?_)
  refine fr_bd (fun _ => ?_)
  refine fr_cl (fun _ _ e => (by rw [ro_X17_sine e]; exact hs)) (fun _ h hs => ?_)
  refine fr_bd (fun _ => ?_)
  refine fr_cl (fun _ _ e => (by rw [ro_X17_cosine e]; exact hs)) (fun _ h hs => ?_)
  refine fr_cl (fun _ _ e => (by rw [ro_X17_down e]; exact hs)) (fun _ h hs => ?_)
  refine fr_if ?_ ?_
  · refine fr_if ?_ ?_
    · exact ow_X17_go_110 oc ox0 hs
    · exact ow_X17_go_94 oc ox0 hs
  · exact ow_X17_go_94 oc ox0 hs
theorem ow_X17_go {O : Nat → Prop} {x0 : Nat} {x1 : Int32} {x2 : Int32} {x3 : Int32} {x4 : Int32} {h : sv_H} {r : Int32} {hE : sv_H} (oc : sv_cl O h) (ox0 : O x0) (hw : fn_X17_go x0 x1 x2 x3 x4 h = some (r, hE)) : sv_ow [1415, 1416, 1417, 1811, 1812, 1813, 1814, 1815, 1816, 1817, 1818, 1819, 1821, 1827, 1828] [1408, 1409, 1410, 1411, 1412, 1413, 1414, 1820] O h hE := ow_X17_go_0 oc ox0 (sv_ow.refl h) r hE hw

theorem ow_X17_playTo_27 {O : Nat → Prop} {h0 : sv_H} (oc : sv_cl O h0) {h : sv_H} (hs : sv_ow [1415, 1416, 1417, 1800, 1811, 1812, 1813, 1814, 1815, 1816, 1817, 1818, 1819, 1821, 1827, 1828] [1408, 1409, 1410, 1411, 1412, 1413, 1414, 1820] O h0 h) : sv_fr (sv_ow [1415, 1416, 1417, 1800, 1811, 1812, 1813, 1814, 1815, 1816, 1817, 1818, 1819, 1821, 1827, 1828] [1408, 1409, 1410, 1411, 1412, 1413, 1414, 1820] O) h0 (fn_X17_playTo_27 h) := by
  unfold fn_X17_playTo_27
  exact fr_rt hs
theorem ow_X17_playTo_92 {O : Nat → Prop} {h0 : sv_H} (oc : sv_cl O h0) {k37 : Nat → Int32 → Int32 → Int32 → sv_H → Option (Int32 × sv_H)} (hk37 : ∀ {x0 : Nat} {x1 : Int32} {x2 : Int32} {x3 : Int32} {h : sv_H}, O x0 → sv_ow [1415, 1416, 1417, 1800, 1811, 1812, 1813, 1814, 1815, 1816, 1817, 1818, 1819, 1821, 1827, 1828] [1408, 1409, 1410, 1411, 1412, 1413, 1414, 1820] O h0 h → sv_fr (sv_ow [1415, 1416, 1417, 1800, 1811, 1812, 1813, 1814, 1815, 1816, 1817, 1818, 1819, 1821, 1827, 1828] [1408, 1409, 1410, 1411, 1412, 1413, 1414, 1820] O) h0 (k37 x0 x1 x2 x3 h)) {x0 : Nat} {x1 : Int32} {x3 : Int32} {s0 : Int32} {s1 : Int32} {h : sv_H} (ox0 : O x0) (hs : sv_ow [1415, 1416, 1417, 1800, 1811, 1812, 1813, 1814, 1815, 1816, 1817, 1818, 1819, 1821, 1827, 1828] [1408, 1409, 1410, 1411, 1412, 1413, 1414, 1820] O h0 h) : sv_fr (sv_ow [1415, 1416, 1417, 1800, 1811, 1812, 1813, 1814, 1815, 1816, 1817, 1818, 1819, 1821, 1827, 1828] [1408, 1409, 1410, 1411, 1412, 1413, 1414, 1820] O) h0 (fn_X17_playTo_92 k37 x0 x1 x3 s0 s1 h) := by
  unfold fn_X17_playTo_92
  exact hk37 ox0 hs
theorem ow_X17_playTo_37b {O : Nat → Prop} {h0 : sv_H} (oc : sv_cl O h0) {k37 : Nat → Int32 → Int32 → Int32 → sv_H → Option (Int32 × sv_H)} (hk37 : ∀ {x0 : Nat} {x1 : Int32} {x2 : Int32} {x3 : Int32} {h : sv_H}, O x0 → sv_ow [1415, 1416, 1417, 1800, 1811, 1812, 1813, 1814, 1815, 1816, 1817, 1818, 1819, 1821, 1827, 1828] [1408, 1409, 1410, 1411, 1412, 1413, 1414, 1820] O h0 h → sv_fr (sv_ow [1415, 1416, 1417, 1800, 1811, 1812, 1813, 1814, 1815, 1816, 1817, 1818, 1819, 1821, 1827, 1828] [1408, 1409, 1410, 1411, 1412, 1413, 1414, 1820] O) h0 (k37 x0 x1 x2 x3 h)) {x0 : Nat} {x1 : Int32} {x2 : Int32} {x3 : Int32} {h : sv_H} (ox0 : O x0) (hs : sv_ow [1415, 1416, 1417, 1800, 1811, 1812, 1813, 1814, 1815, 1816, 1817, 1818, 1819, 1821, 1827, 1828] [1408, 1409, 1410, 1411, 1412, 1413, 1414, 1820] O h0 h) : sv_fr (sv_ow [1415, 1416, 1417, 1800, 1811, 1812, 1813, 1814, 1815, 1816, 1817, 1818, 1819, 1821, 1827, 1828] [1408, 1409, 1410, 1411, 1412, 1413, 1414, 1820] O) h0 (fn_X17_playTo_37b k37 x0 x1 x2 x3 h) := by
  unfold fn_X17_playTo_37b
  refine fr_if ?_ ?_
  · exact fr_rt hs
  · refine fr_be (fun v1 e => ?_)
    have ov1 := ow_gO oc hs ox0 e
    clear e
    refine fr_be (fun v2 e => ?_)
    have ov2 := ow_gR hs ov1 e
    clear e
    refine fr_bd (fun _ => ?_)
    refine fr_be (fun v4 e => ?_)
    have ov4 := ow_gO oc hs ox0 e
    clear e
    refine fr_be (fun v5 e => ?_)
    have ov5 := ow_gR hs ov4 e
    clear e
    refine fr_bd (fun _ => ?_)
    refine fr_be (fun v7 e => ?_)
    have ov7 := ow_gO oc hs ox0 e
    clear e
    refine fr_be (fun v8 e => ?_)
    have ov8 := ow_gR hs ov7 e
    clear e
    refine fr_bd (fun _ => ?_)
    refine fr_be (fun v10 e => ?_)
    have ov10 := ow_gO oc hs ox0 e
    clear e
    refine fr_be (fun v11 e => ?_)
    have ov11 := ow_gR hs ov10 e
    clear e
    refine fr_bd (fun _ => ?_)
    refine fr_cl (fun _ _ e => (hs.trans ((ow_X17_go (oc.of hs) ox0 e).weak (by decide) (by decide)))) (fun _ h hs => ?_)
    refine fr_if ?_ ?_
    · exact ow_X17_playTo_92 oc hk37 ox0 hs
    · exact ow_X17_playTo_92 oc hk37 ox0 hs
theorem ow_X17_playTo_37 {O : Nat → Prop} {h0 : sv_H} (oc : sv_cl O h0) : ∀ (n : Nat) {x0 : Nat} {x1 : Int32} {x2 : Int32} {x3 : Int32} {h : sv_H}, O x0 → sv_ow [1415, 1416, 1417, 1800, 1811, 1812, 1813, 1814, 1815, 1816, 1817, 1818, 1819, 1821, 1827, 1828] [1408, 1409, 1410, 1411, 1412, 1413, 1414, 1820] O h0 h → sv_fr (sv_ow [1415, 1416, 1417, 1800, 1811, 1812, 1813, 1814, 1815, 1816, 1817, 1818, 1819, 1821, 1827, 1828] [1408, 1409, 1410, 1411, 1412, 1413, 1414, 1820] O) h0 (fn_X17_playTo_37 n x0 x1 x2 x3 h) := by
  intro n
  induction n with
  | zero => intro x0 x1 x2 x3 h ox0 hs r hE e; cases (show (none : Option (Int32 × sv_H)) = some (r, hE) from e)
  | succ n ih => intro x0 x1 x2 x3 h ox0 hs; exact ow_X17_playTo_37b oc (fun ox0 hs => ih ox0 hs) ox0 hs
theorem ow_X17_playTo_0 {O : Nat → Prop} {h0 : sv_H} (oc : sv_cl O h0) {x0 : Nat} {x1 : Int32} {h : sv_H} (ox0 : O x0) (hs : sv_ow [1415, 1416, 1417, 1800, 1811, 1812, 1813, 1814, 1815, 1816, 1817, 1818, 1819, 1821, 1827, 1828] [1408, 1409, 1410, 1411, 1412, 1413, 1414, 1820] O h0 h) : sv_fr (sv_ow [1415, 1416, 1417, 1800, 1811, 1812, 1813, 1814, 1815, 1816, 1817, 1818, 1819, 1821, 1827, 1828] [1408, 1409, 1410, 1411, 1412, 1413, 1414, 1820] O) h0 (fn_X17_playTo x0 x1 h) := by
  unfold fn_X17_playTo
  refine fr_if ?_ fr_no
  refine fr_st (fun _ e => ow_pI hs (by decide) ox0 e) (fun h hs => ?_)
  refine fr_bd (fun _ => ?_)
  refine fr_if ?_ ?_
  · exact ow_X17_playTo_27 oc hs
  · refine fr_if ?_ ?_
    · exact ow_X17_playTo_27 oc hs
    · refine fr_be (fun v3 e => ?_)
      have ov3 := ow_gO oc hs ox0 e
      clear e
      refine fr_bd (fun _ => ?_)
      refine fr_if ?_ ?_
      · refine fr_cl (fun _ _ e => (hs.trans ((ow_X17_begin (oc.of hs) ox0 e).weak (by decide) (by decide)))) (fun _ h hs => ?_)
        exact ow_X17_playTo_37 oc sv_fuel ox0 hs
      · exact ow_X17_playTo_27 oc hs
theorem ow_X17_playTo {O : Nat → Prop} {x0 : Nat} {x1 : Int32} {h : sv_H} {r : Int32} {hE : sv_H} (oc : sv_cl O h) (ox0 : O x0) (hw : fn_X17_playTo x0 x1 h = some (r, hE)) : sv_ow [1415, 1416, 1417, 1800, 1811, 1812, 1813, 1814, 1815, 1816, 1817, 1818, 1819, 1821, 1827, 1828] [1408, 1409, 1410, 1411, 1412, 1413, 1414, 1820] O h hE := ow_X17_playTo_0 oc ox0 (sv_ow.refl h) r hE hw

theorem ow_X12_stepBy_16 {O : Nat → Prop} {h0 : sv_H} (oc : sv_cl O h0) {h : sv_H} (hs : sv_ow [406, 407, 408, 409, 410, 707, 708, 709, 710, 711, 712, 713, 1102, 1103, 1104, 1105, 1106] [400, 401, 402, 403, 404, 405] O h0 h) : sv_fr (sv_ow [406, 407, 408, 409, 410, 707, 708, 709, 710, 711, 712, 713, 1102, 1103, 1104, 1105, 1106] [400, 401, 402, 403, 404, 405] O) h0 (fn_X12_stepBy_16 h) := by
  unfold fn_X12_stepBy_16
  exact fr_rt hs
theorem ow_X12_stepBy_0 {O : Nat → Prop} {h0 : sv_H} (oc : sv_cl O h0) {x0 : Nat} {x1 : Int32} {x2 : Int32} {x3 : Int32} {x4 : Int32} {h : sv_H} (ox0 : O x0) (hs : sv_ow [406, 407, 408, 409, 410, 707, 708, 709, 710, 711, 712, 713, 1102, 1103, 1104, 1105, 1106] [400, 401, 402, 403, 404, 405] O h0 h) : sv_fr (sv_ow [406, 407, 408, 409, 410, 707, 708, 709, 710, 711, 712, 713, 1102, 1103, 1104, 1105, 1106] [400, 401, 402, 403, 404, 405] O) h0 (fn_X12_stepBy x0 x1 x2 x3 x4 h) := by
  unfold fn_X12_stepBy
  refine fr_if ?_ fr_no
  refine fr_cl (fun _ _ e => (by rw [ro_X12_hasMap e]; exact hs)) (fun _ h hs => ?_)
  refine fr_if ?_ ?_
  · exact ow_X12_stepBy_16 oc hs
  · refine fr_cl (fun _ _ e => (by rw [ro_X5_isInput e]; exact hs)) (fun _ h hs => ?_)
    refine fr_if ?_ ?_
    · exact ow_X12_stepBy_16 oc hs
    · refine fr_be (fun v5 e => ?_)
      have ov5 := ow_gO oc hs ox0 e
      clear e
      refine fr_cl (fun _ _ e => (by rw [ro_X5_inputOf e]; exact hs)) (fun _ h hs => ?_)
      refine fr_cl (fun _ _ e => (hs.trans ((ow_X10_step (oc.of hs) ov5 e).weak (by decide) (by decide)))) (fun _ h hs => ?_)
      exact fr_rt hs
theorem ow_X12_stepBy {O : Nat → Prop} {x0 : Nat} {x1 : Int32} {x2 : Int32} {x3 : Int32} {x4 : Int32} {h : sv_H} {r : Int32} {hE : sv_H} (oc : sv_cl O h) (ox0 : O x0) (hw : fn_X12_stepBy x0 x1 x2 x3 x4 h = some (r, hE)) : sv_ow [406, 407, 408, 409, 410, 707, 708, 709, 710, 711, 712, 713, 1102, 1103, 1104, 1105, 1106] [400, 401, 402, 403, 404, 405] O h hE := ow_X12_stepBy_0 oc ox0 (sv_ow.refl h) r hE hw

theorem ow_X17_stepBy_64 {O : Nat → Prop} {h0 : sv_H} (oc : sv_cl O h0) {s0 : Int32} {h : sv_H} (hs : sv_ow [1415, 1416, 1417, 1800, 1811, 1812, 1813, 1814, 1815, 1816, 1817, 1818, 1819, 1821, 1827, 1828] [1408, 1409, 1410, 1411, 1412, 1413, 1414, 1820] O h0 h) : sv_fr (sv_ow [1415, 1416, 1417, 1800, 1811, 1812, 1813, 1814, 1815, 1816, 1817, 1818, 1819, 1821, 1827, 1828] [1408, 1409, 1410, 1411, 1412, 1413, 1414, 1820] O) h0 (fn_X17_stepBy_64 s0 h) := by
  unfold fn_X17_stepBy_64
  exact fr_rt hs
theorem ow_X17_stepBy_44 {O : Nat → Prop} {h0 : sv_H} (oc : sv_cl O h0) {x0 : Nat} {x1 : Int32} {x2 : Int32} {x3 : Int32} {x4 : Int32} {s0 : Int32} {h : sv_H} (ox0 : O x0) (hs : sv_ow [1415, 1416, 1417, 1800, 1811, 1812, 1813, 1814, 1815, 1816, 1817, 1818, 1819, 1821, 1827, 1828] [1408, 1409, 1410, 1411, 1412, 1413, 1414, 1820] O h0 h) : sv_fr (sv_ow [1415, 1416, 1417, 1800, 1811, 1812, 1813, 1814, 1815, 1816, 1817, 1818, 1819, 1821, 1827, 1828] [1408, 1409, 1410, 1411, 1412, 1413, 1414, 1820] O) h0 (fn_X17_stepBy_44 x0 x1 x2 x3 x4 s0 h) := by
  unfold fn_X17_stepBy_44
  refine fr_if ?_ ?_
  · exact ow_X17_stepBy_64 oc hs
  · refine fr_cl (fun _ _ e => (hs.trans ((ow_X17_go (oc.of hs) ox0 e).weak (by decide) (by decide)))) (fun _ h hs => ?_)
    exact ow_X17_stepBy_64 oc hs
theorem ow_X17_stepBy_43 {O : Nat → Prop} {h0 : sv_H} (oc : sv_cl O h0) {x0 : Nat} {x1 : Int32} {x2 : Int32} {x3 : Int32} {x4 : Int32} {h : sv_H} (ox0 : O x0) (hs : sv_ow [1415, 1416, 1417, 1800, 1811, 1812, 1813, 1814, 1815, 1816, 1817, 1818, 1819, 1821, 1827, 1828] [1408, 1409, 1410, 1411, 1412, 1413, 1414, 1820] O h0 h) : sv_fr (sv_ow [1415, 1416, 1417, 1800, 1811, 1812, 1813, 1814, 1815, 1816, 1817, 1818, 1819, 1821, 1827, 1828] [1408, 1409, 1410, 1411, 1412, 1413, 1414, 1820] O) h0 (fn_X17_stepBy_43 x0 x1 x2 x3 x4 h) := by
  unfold fn_X17_stepBy_43
  exact ow_X17_stepBy_44 oc ox0 hs
theorem ow_X17_stepBy_0 {O : Nat → Prop} {h0 : sv_H} (oc : sv_cl O h0) {x0 : Nat} {x1 : Int32} {x2 : Int32} {x3 : Int32} {x4 : Int32} {h : sv_H} (ox0 : O x0) (hs : sv_ow [1415, 1416, 1417, 1800, 1811, 1812, 1813, 1814, 1815, 1816, 1817, 1818, 1819, 1821, 1827, 1828] [1408, 1409, 1410, 1411, 1412, 1413, 1414, 1820] O h0 h) : sv_fr (sv_ow [1415, 1416, 1417, 1800, 1811, 1812, 1813, 1814, 1815, 1816, 1817, 1818, 1819, 1821, 1827, 1828] [1408, 1409, 1410, 1411, 1412, 1413, 1414, 1820] O) h0 (fn_X17_stepBy x0 x1 x2 x3 x4 h) := by
  unfold fn_X17_stepBy
  refine fr_if ?_ fr_no
  refine fr_st (fun _ e => ow_pI hs (by decide) ox0 e) (fun h hs => ?_)
  refine fr_bd (fun _ => ?_)
  refine fr_if ?_ ?_
  · exact ow_X17_stepBy_43 oc ox0 hs
  · refine fr_cl (fun _ _ e => (by rw [ro_X15_isIn e]; exact hs)) (fun _ h hs => ?_)
    refine fr_if ?_ ?_
    · exact ow_X17_stepBy_43 oc ox0 hs
    · refine fr_cl (fun _ _ e => (by rw [ro_X15_isIn e]; exact hs)) (fun _ h hs => ?_)
      refine fr_if ?_ ?_
      · exact ow_X17_stepBy_43 oc ox0 hs
      · refine fr_cl (fun _ _ e => (by rw [ro_X15_isIn e]; exact hs)) (fun _ h hs => ?_)
        refine fr_if ?_ ?_
        · exact ow_X17_stepBy_43 oc ox0 hs
        · exact ow_X17_stepBy_44 oc ox0 hs
theorem ow_X17_stepBy {O : Nat → Prop} {x0 : Nat} {x1 : Int32} {x2 : Int32} {x3 : Int32} {x4 : Int32} {h : sv_H} {r : Int32} {hE : sv_H} (oc : sv_cl O h) (ox0 : O x0) (hw : fn_X17_stepBy x0 x1 x2 x3 x4 h = some (r, hE)) : sv_ow [1415, 1416, 1417, 1800, 1811, 1812, 1813, 1814, 1815, 1816, 1817, 1818, 1819, 1821, 1827, 1828] [1408, 1409, 1410, 1411, 1412, 1413, 1414, 1820] O h hE := ow_X17_stepBy_0 oc ox0 (sv_ow.refl h) r hE hw

theorem ow_X17_walkerOf_0 {O : Nat → Prop} {h0 : sv_H} (oc : sv_cl O h0) {x0 : Nat} {x1 : Int32} {h : sv_H} (ox0 : O x0) (hs : sv_ow [1800] [] O h0 h) : sv_fr (sv_ow [1800] [] O) h0 (fn_X17_walkerOf x0 x1 h) := by
  unfold fn_X17_walkerOf
  refine fr_if ?_ fr_no
  refine fr_st (fun _ e => ow_pI hs (by decide) ox0 e) (fun h hs => ?_)
  refine fr_bd (fun _ => ?_)
  refine fr_if ?_ ?_
  · exact fr_rt hs
  · refine fr_if ?_ ?_
    · refine fr_bd (fun _ => ?_)
      exact fr_rt hs
    refine fr_if ?_ ?_
    · refine fr_bd (fun _ => ?_)
      exact fr_rt hs
    refine fr_if ?_ ?_
    · refine fr_bd (fun _ => ?_)
      exact fr_rt hs
    refine fr_if ?_ ?_
    · refine fr_bd (fun _ => ?_)
      exact fr_rt hs
    refine fr_if ?_ ?_
    · refine fr_cl (fun _ _ e => (by rw [ro_X17_eye e]; exact hs)) (fun _ h hs => ?_)
      exact fr_rt hs
    refine fr_if ?_ ?_
    · refine fr_be (fun v9 e => ?_)
      have ov9 := ow_gO oc hs ox0 e
      clear e
      refine fr_bd (fun _ => ?_)
      exact fr_rt hs
    exact fr_rt hs
theorem ow_X17_walkerOf {O : Nat → Prop} {x0 : Nat} {x1 : Int32} {h : sv_H} {r : Int32} {hE : sv_H} (oc : sv_cl O h) (ox0 : O x0) (hw : fn_X17_walkerOf x0 x1 h = some (r, hE)) : sv_ow [1800] [] O h hE := ow_X17_walkerOf_0 oc ox0 (sv_ow.refl h) r hE hw

theorem ow_X17_sectorOf_41 {O : Nat → Prop} {h0 : sv_H} (oc : sv_cl O h0) {s0 : Int32} {h : sv_H} (hs : sv_ow [1800] [] O h0 h) : sv_fr (sv_ow [1800] [] O) h0 (fn_X17_sectorOf_41 s0 h) := by
  unfold fn_X17_sectorOf_41
  exact fr_rt hs
theorem ow_X17_sectorOf_26 {O : Nat → Prop} {h0 : sv_H} (oc : sv_cl O h0) {h : sv_H} (hs : sv_ow [1800] [] O h0 h) : sv_fr (sv_ow [1800] [] O) h0 (fn_X17_sectorOf_26 h) := by
  unfold fn_X17_sectorOf_26
  exact ow_X17_sectorOf_41 oc hs
theorem ow_X17_sectorOf_0 {O : Nat → Prop} {h0 : sv_H} (oc : sv_cl O h0) {x0 : Nat} {x1 : Int32} {x2 : Int32} {h : sv_H} (ox0 : O x0) (hs : sv_ow [1800] [] O h0 h) : sv_fr (sv_ow [1800] [] O) h0 (fn_X17_sectorOf x0 x1 x2 h) := by
  unfold fn_X17_sectorOf
  refine fr_if ?_ fr_no
  refine fr_st (fun _ e => ow_pI hs (by decide) ox0 e) (fun h hs => ?_)
  refine fr_if ?_ ?_
  · exact ow_X17_sectorOf_26 oc hs
  · refine fr_cl (fun _ _ e => (by rw [ro_X17_sectors e]; exact hs)) (fun _ h hs => ?_)
    refine fr_if ?_ ?_
    · exact ow_X17_sectorOf_26 oc hs
    · refine fr_if ?_ ?_
      · exact ow_X17_sectorOf_26 oc hs
      · refine fr_if ?_ ?_
        · refine fr_be (fun v4 e => ?_)
          have ov4 := ow_gO oc hs ox0 e
          clear e
          refine fr_cl (fun _ _ e => (by rw [ro_X13_of e]; exact hs)) (fun _ h hs => ?_)
          exact ow_X17_sectorOf_41 oc hs
        · exact ow_X17_sectorOf_26 oc hs
theorem ow_X17_sectorOf {O : Nat → Prop} {x0 : Nat} {x1 : Int32} {x2 : Int32} {h : sv_H} {r : Int32} {hE : sv_H} (oc : sv_cl O h) (ox0 : O x0) (hw : fn_X17_sectorOf x0 x1 x2 h = some (r, hE)) : sv_ow [1800] [] O h hE := ow_X17_sectorOf_0 oc ox0 (sv_ow.refl h) r hE hw

theorem ow_X3_meetAll_7b {O : Nat → Prop} {h0 : sv_H} (oc : sv_cl O h0) {k7 : Nat → Nat → Int32 → sv_H → Option (Unit × sv_H)} (hk7 : ∀ {x0 : Nat} {x1 : Nat} {x2 : Int32} {h : sv_H}, O x0 → O x1 → sv_ow [406] [400, 401, 402, 403, 404, 405] O h0 h → sv_fr (sv_ow [406] [400, 401, 402, 403, 404, 405] O) h0 (k7 x0 x1 x2 h)) {x0 : Nat} {x1 : Nat} {x2 : Int32} {h : sv_H} (ox0 : O x0) (ox1 : O x1) (hs : sv_ow [406] [400, 401, 402, 403, 404, 405] O h0 h) : sv_fr (sv_ow [406] [400, 401, 402, 403, 404, 405] O) h0 (fn_X3_meetAll_7b k7 x0 x1 x2 h) := by
  unfold fn_X3_meetAll_7b
  refine fr_bd (fun _ => ?_)
  refine fr_if ?_ ?_
  · exact fr_rt hs
  · refine fr_be (fun v2 e => ?_)
    have ov2 := ow_gO oc hs ox1 e
    clear e
    refine fr_be (fun v3 e => ?_)
    have ov3 := ow_lO oc hs ov2 e
    clear e
    refine fr_cl (fun _ _ e => (hs.trans ((ow_X3_meet (oc.of hs) ox0 ov3 e).weak (by decide) (by decide)))) (fun _ h hs => ?_)
    exact hk7 ox0 ox1 hs
theorem ow_X3_meetAll_7 {O : Nat → Prop} {h0 : sv_H} (oc : sv_cl O h0) : ∀ (n : Nat) {x0 : Nat} {x1 : Nat} {x2 : Int32} {h : sv_H}, O x0 → O x1 → sv_ow [406] [400, 401, 402, 403, 404, 405] O h0 h → sv_fr (sv_ow [406] [400, 401, 402, 403, 404, 405] O) h0 (fn_X3_meetAll_7 n x0 x1 x2 h) := by
  intro n
  induction n with
  | zero => intro x0 x1 x2 h ox0 ox1 hs r hE e; cases (show (none : Option (Unit × sv_H)) = some (r, hE) from e)
  | succ n ih => intro x0 x1 x2 h ox0 ox1 hs; exact ow_X3_meetAll_7b oc (fun ox0 ox1 hs => ih ox0 ox1 hs) ox0 ox1 hs
theorem ow_X3_meetAll_0 {O : Nat → Prop} {h0 : sv_H} (oc : sv_cl O h0) {x0 : Nat} {x1 : Nat} {h : sv_H} (ox0 : O x0) (ox1 : O x1) (hs : sv_ow [406] [400, 401, 402, 403, 404, 405] O h0 h) : sv_fr (sv_ow [406] [400, 401, 402, 403, 404, 405] O) h0 (fn_X3_meetAll x0 x1 h) := by
  unfold fn_X3_meetAll
  refine fr_if ?_ fr_no
  refine fr_st (fun _ e => ow_pI hs (by decide) ox0 e) (fun h hs => ?_)
  exact ow_X3_meetAll_7 oc sv_fuel ox0 ox1 hs
theorem ow_X3_meetAll {O : Nat → Prop} {x0 : Nat} {x1 : Nat} {h : sv_H} {r : Unit} {hE : sv_H} (oc : sv_cl O h) (ox0 : O x0) (ox1 : O x1) (hw : fn_X3_meetAll x0 x1 h = some (r, hE)) : sv_ow [406] [400, 401, 402, 403, 404, 405] O h hE := ow_X3_meetAll_0 oc ox0 ox1 (sv_ow.refl h) r hE hw

theorem ow_X9_paintPlane_46 {O : Nat → Prop} {h0 : sv_H} (oc : sv_cl O h0) {k3 : Nat → Nat → Int32 → Int32 → Int32 → Int32 → Int32 → sv_H → Option (Unit × sv_H)} (hk3 : ∀ {x0 : Nat} {x1 : Nat} {x3 : Int32} {x4 : Int32} {x5 : Int32} {x6 : Int32} {x7 : Int32} {h : sv_H}, O x0 → O x1 → sv_ow [] [1002] O h0 h → sv_fr (sv_ow [] [1002] O) h0 (k3 x0 x1 x3 x4 x5 x6 x7 h)) {x0 : Nat} {x1 : Nat} {x3 : Int32} {x4 : Int32} {x5 : Int32} {x6 : Int32} {x7 : Int32} {x8 : Int64} {x10 : Int64} {h : sv_H} (ox0 : O x0) (ox1 : O x1) (hs : sv_ow [] [1002] O h0 h) : sv_fr (sv_ow [] [1002] O) h0 (fn_X9_paintPlane_46 k3 x0 x1 x3 x4 x5 x6 x7 x8 x10 h) := by
  unfold fn_X9_paintPlane_46
  refine fr_be (fun v1 e => ?_)
  have ov1 := ow_gO oc hs ox0 e
  clear e
  refine fr_bd (fun _ => ?_)
  refine fr_be (fun v3 e => ?_)
  have ov3 := ow_gO oc hs ox0 e
  clear e
  refine fr_bd (fun _ => ?_)
  refine fr_cl (fun _ _ e => (by rw [ro_J9_floorDiv_f86c9 e]; exact hs)) (fun _ h hs => ?_)
  refine fr_be (fun v7 e => ?_)
  have ov7 := ow_gO oc hs ox0 e
  clear e
  refine fr_bd (fun _ => ?_)
  refine fr_be (fun v9 e => ?_)
  have ov9 := ow_gO oc hs ox0 e
  clear e
  refine fr_bd (fun _ => ?_)
  refine fr_cl (fun _ _ e => (by rw [ro_J9_floorDiv_f86c9 e]; exact hs)) (fun _ h hs => ?_)
  refine fr_cl (fun _ _ e => (by rw [ro_J9_floorDiv_f86c9 e]; exact hs)) (fun _ h hs => ?_)
  refine fr_let (fun _ => ?_)
  refine fr_be (fun v16 e => ?_)
  have ov16 := ow_gR hs ox0 e
  clear e
  refine fr_cl (fun _ _ e => (by rw [ro_X2_texel e]; exact hs)) (fun _ h hs => ?_)
  refine fr_st (fun _ e => ow_sI hs ov16 (by decide) e) (fun h hs => ?_)
  exact hk3 ox0 ox1 hs
theorem ow_X9_paintPlane_3b {O : Nat → Prop} {h0 : sv_H} (oc : sv_cl O h0) {k3 : Nat → Nat → Int32 → Int32 → Int32 → Int32 → Int32 → sv_H → Option (Unit × sv_H)} (hk3 : ∀ {x0 : Nat} {x1 : Nat} {x3 : Int32} {x4 : Int32} {x5 : Int32} {x6 : Int32} {x7 : Int32} {h : sv_H}, O x0 → O x1 → sv_ow [] [1002] O h0 h → sv_fr (sv_ow [] [1002] O) h0 (k3 x0 x1 x3 x4 x5 x6 x7 h)) {x0 : Nat} {x1 : Nat} {x3 : Int32} {x4 : Int32} {x5 : Int32} {x6 : Int32} {x7 : Int32} {h : sv_H} (ox0 : O x0) (ox1 : O x1) (hs : sv_ow [] [1002] O h0 h) : sv_fr (sv_ow [] [1002] O) h0 (fn_X9_paintPlane_3b k3 x0 x1 x3 x4 x5 x6 x7 h) := by
  unfold fn_X9_paintPlane_3b
  refine fr_if ?_ ?_
  · exact fr_rt hs
  · refine fr_bd (fun _ => ?_)
    refine fr_if ?_ ?_
    · exact ow_X9_paintPlane_46 oc hk3 ox0 ox1 hs
    · exact ow_X9_paintPlane_46 oc hk3 ox0 ox1 hs
theorem ow_X9_paintPlane_3 {O : Nat → Prop} {h0 : sv_H} (oc : sv_cl O h0) : ∀ (n : Nat) {x0 : Nat} {x1 : Nat} {x3 : Int32} {x4 : Int32} {x5 : Int32} {x6 : Int32} {x7 : Int32} {h : sv_H}, O x0 → O x1 → sv_ow [] [1002] O h0 h → sv_fr (sv_ow [] [1002] O) h0 (fn_X9_paintPlane_3 n x0 x1 x3 x4 x5 x6 x7 h) := by
  intro n
  induction n with
  | zero => intro x0 x1 x3 x4 x5 x6 x7 h ox0 ox1 hs r hE e; cases (show (none : Option (Unit × sv_H)) = some (r, hE) from e)
  | succ n ih => intro x0 x1 x3 x4 x5 x6 x7 h ox0 ox1 hs; exact ow_X9_paintPlane_3b oc (fun ox0 ox1 hs => ih ox0 ox1 hs) ox0 ox1 hs
theorem ow_X9_paintPlane_0 {O : Nat → Prop} {h0 : sv_H} (oc : sv_cl O h0) {x0 : Nat} {x1 : Nat} {x2 : Int32} {x3 : Int32} {x4 : Int32} {x5 : Int32} {x6 : Int32} {h : sv_H} (ox0 : O x0) (ox1 : O x1) (hs : sv_ow [] [1002] O h0 h) : sv_fr (sv_ow [] [1002] O) h0 (fn_X9_paintPlane x0 x1 x2 x3 x4 x5 x6 h) := by
  unfold fn_X9_paintPlane
  refine fr_if ?_ fr_no
  exact ow_X9_paintPlane_3 oc sv_fuel ox0 ox1 hs
theorem ow_X9_paintPlane {O : Nat → Prop} {x0 : Nat} {x1 : Nat} {x2 : Int32} {x3 : Int32} {x4 : Int32} {x5 : Int32} {x6 : Int32} {h : sv_H} {r : Unit} {hE : sv_H} (oc : sv_cl O h) (ox0 : O x0) (ox1 : O x1) (hw : fn_X9_paintPlane x0 x1 x2 x3 x4 x5 x6 h = some (r, hE)) : sv_ow [] [1002] O h hE := ow_X9_paintPlane_0 oc ox0 ox1 (sv_ow.refl h) r hE hw

theorem ow_X9_markRows_3b {O : Nat → Prop} {h0 : sv_H} (oc : sv_cl O h0) {k3 : Nat → Int32 → Int32 → Int32 → sv_H → Option (Unit × sv_H)} (hk3 : ∀ {x0 : Nat} {x2 : Int32} {x3 : Int32} {x4 : Int32} {h : sv_H}, O x0 → sv_ow [] [1001] O h0 h → sv_fr (sv_ow [] [1001] O) h0 (k3 x0 x2 x3 x4 h)) {x0 : Nat} {x2 : Int32} {x3 : Int32} {x4 : Int32} {h : sv_H} (ox0 : O x0) (hs : sv_ow [] [1001] O h0 h) : sv_fr (sv_ow [] [1001] O) h0 (fn_X9_markRows_3b k3 x0 x2 x3 x4 h) := by
  unfold fn_X9_markRows_3b
  refine fr_if ?_ ?_
  · exact fr_rt hs
  · refine fr_be (fun v1 e => ?_)
    have ov1 := ow_gR hs ox0 e
    clear e
    refine fr_st (fun _ e => ow_sI hs ov1 (by decide) e) (fun h hs => ?_)
    exact hk3 ox0 hs
theorem ow_X9_markRows_3 {O : Nat → Prop} {h0 : sv_H} (oc : sv_cl O h0) : ∀ (n : Nat) {x0 : Nat} {x2 : Int32} {x3 : Int32} {x4 : Int32} {h : sv_H}, O x0 → sv_ow [] [1001] O h0 h → sv_fr (sv_ow [] [1001] O) h0 (fn_X9_markRows_3 n x0 x2 x3 x4 h) := by
  intro n
  induction n with
  | zero => intro x0 x2 x3 x4 h ox0 hs r hE e; cases (show (none : Option (Unit × sv_H)) = some (r, hE) from e)
  | succ n ih => intro x0 x2 x3 x4 h ox0 hs; exact ow_X9_markRows_3b oc (fun ox0 hs => ih ox0 hs) ox0 hs
theorem ow_X9_markRows_0 {O : Nat → Prop} {h0 : sv_H} (oc : sv_cl O h0) {x0 : Nat} {x1 : Int32} {x2 : Int32} {x3 : Int32} {h : sv_H} (ox0 : O x0) (hs : sv_ow [] [1001] O h0 h) : sv_fr (sv_ow [] [1001] O) h0 (fn_X9_markRows x0 x1 x2 x3 h) := by
  unfold fn_X9_markRows
  refine fr_if ?_ fr_no
  exact ow_X9_markRows_3 oc sv_fuel ox0 hs
theorem ow_X9_markRows {O : Nat → Prop} {x0 : Nat} {x1 : Int32} {x2 : Int32} {x3 : Int32} {h : sv_H} {r : Unit} {hE : sv_H} (oc : sv_cl O h) (ox0 : O x0) (hw : fn_X9_markRows x0 x1 x2 x3 h = some (r, hE)) : sv_ow [] [1001] O h hE := ow_X9_markRows_0 oc ox0 (sv_ow.refl h) r hE hw

theorem ow_X9_paintCeiling_60b {O : Nat → Prop} {h0 : sv_H} (oc : sv_cl O h0) {k60 : Nat → Int32 → Int32 → Int32 → sv_H → Option (Unit × sv_H)} (hk60 : ∀ {x0 : Nat} {x2 : Int32} {x3 : Int32} {x6 : Int32} {h : sv_H}, O x0 → sv_ow [] [1001, 1002] O h0 h → sv_fr (sv_ow [] [1001, 1002] O) h0 (k60 x0 x2 x3 x6 h)) {x0 : Nat} {x2 : Int32} {x3 : Int32} {x6 : Int32} {h : sv_H} (ox0 : O x0) (hs : sv_ow [] [1001, 1002] O h0 h) : sv_fr (sv_ow [] [1001, 1002] O) h0 (fn_X9_paintCeiling_60b k60 x0 x2 x3 x6 h) := by
  unfold fn_X9_paintCeiling_60b
  refine fr_if ?_ ?_
  · refine fr_bd (fun _ => ?_)
    refine fr_cl (fun _ _ e => (hs.trans ((ow_X9_markRows (oc.of hs) ox0 e).weak (by decide) (by decide)))) (fun _ h hs => ?_)
    exact fr_rt hs
  · refine fr_be (fun v3 e => ?_)
    have ov3 := ow_gR hs ox0 e
    clear e
    refine fr_st (fun _ e => ow_sI hs ov3 (by decide) e) (fun h hs => ?_)
    exact hk60 ox0 hs
theorem ow_X9_paintCeiling_60 {O : Nat → Prop} {h0 : sv_H} (oc : sv_cl O h0) : ∀ (n : Nat) {x0 : Nat} {x2 : Int32} {x3 : Int32} {x6 : Int32} {h : sv_H}, O x0 → sv_ow [] [1001, 1002] O h0 h → sv_fr (sv_ow [] [1001, 1002] O) h0 (fn_X9_paintCeiling_60 n x0 x2 x3 x6 h) := by
  intro n
  induction n with
  | zero => intro x0 x2 x3 x6 h ox0 hs r hE e; cases (show (none : Option (Unit × sv_H)) = some (r, hE) from e)
  | succ n ih => intro x0 x2 x3 x6 h ox0 hs; exact ow_X9_paintCeiling_60b oc (fun ox0 hs => ih ox0 hs) ox0 hs
theorem ow_X9_paintCeiling_0 {O : Nat → Prop} {h0 : sv_H} (oc : sv_cl O h0) {x0 : Nat} {x1 : Nat} {x2 : Int32} {x3 : Int32} {x4 : Int32} {h : sv_H} (ox0 : O x0) (ox1 : O x1) (hs : sv_ow [] [1001, 1002] O h0 h) : sv_fr (sv_ow [] [1001, 1002] O) h0 (fn_X9_paintCeiling x0 x1 x2 x3 x4 h) := by
  unfold fn_X9_paintCeiling
  refine fr_if ?_ fr_no
  refine fr_be (fun v1 e => ?_)
  have ov1 := ow_gO oc hs ox1 e
  clear e
  refine fr_be (fun v2 e => ?_)
  have ov2 := ow_lO oc hs ov1 e
  clear e
  refine fr_bd (fun _ => ?_)
  refine fr_if ?_ ?_
  · refine fr_bd (fun _ => ?_)
    exact ow_X9_paintCeiling_60 oc sv_fuel ox0 hs
  · refine fr_bd (fun _ => ?_)
    refine fr_bd (fun _ => ?_)
    refine fr_bd (fun _ => ?_)
    refine fr_cl (fun _ _ e => (hs.trans ((ow_X9_paintPlane (oc.of hs) ox0 ox1 e).weak (by decide) (by decide)))) (fun _ h hs => ?_)
    refine fr_bd (fun _ => ?_)
    refine fr_cl (fun _ _ e => (hs.trans ((ow_X9_markRows (oc.of hs) ox0 e).weak (by decide) (by decide)))) (fun _ h hs => ?_)
    exact fr_rt hs
theorem ow_X9_paintCeiling {O : Nat → Prop} {x0 : Nat} {x1 : Nat} {x2 : Int32} {x3 : Int32} {x4 : Int32} {h : sv_H} {r : Unit} {hE : sv_H} (oc : sv_cl O h) (ox0 : O x0) (ox1 : O x1) (hw : fn_X9_paintCeiling x0 x1 x2 x3 x4 h = some (r, hE)) : sv_ow [] [1001, 1002] O h hE := ow_X9_paintCeiling_0 oc ox0 ox1 (sv_ow.refl h) r hE hw

theorem ow_X9_paintWall_159b {O : Nat → Prop} {h0 : sv_H} (oc : sv_cl O h0) {k159 : Nat → Nat → Int32 → Int32 → Int32 → Int32 → Int32 → Int64 → Int64 → Int64 → Int32 → sv_H → Option (Unit × sv_H)} (hk159 : ∀ {x0 : Nat} {x1 : Nat} {x2 : Int32} {x3 : Int32} {x4 : Int32} {x5 : Int32} {x9 : Int32} {x10 : Int64} {x12 : Int64} {x14 : Int64} {x16 : Int32} {h : sv_H}, O x0 → O x1 → sv_ow [] [1001, 1002] O h0 h → sv_fr (sv_ow [] [1001, 1002] O) h0 (k159 x0 x1 x2 x3 x4 x5 x9 x10 x12 x14 x16 h)) {x0 : Nat} {x1 : Nat} {x2 : Int32} {x3 : Int32} {x4 : Int32} {x5 : Int32} {x9 : Int32} {x10 : Int64} {x12 : Int64} {x14 : Int64} {x16 : Int32} {h : sv_H} (ox0 : O x0) (ox1 : O x1) (hs : sv_ow [] [1001, 1002] O h0 h) : sv_fr (sv_ow [] [1001, 1002] O) h0 (fn_X9_paintWall_159b k159 x0 x1 x2 x3 x4 x5 x9 x10 x12 x14 x16 h) := by
  unfold fn_X9_paintWall_159b
  refine fr_if ?_ ?_
  · refine fr_be (fun v1 e => ?_)
    have ov1 := ow_gO oc hs ox0 e
    clear e
    refine fr_be (fun v2 e => ?_)
    have ov2 := ow_gR hs ov1 e
    clear e
    refine fr_bd (fun _ => ?_)
    refine fr_cl (fun _ _ e => (hs.trans ((ow_X9_markRows (oc.of hs) ox0 e).weak (by decide) (by decide)))) (fun _ h hs => ?_)
    exact fr_rt hs
  · refine fr_bd (fun _ => ?_)
    refine fr_be (fun v6 e => ?_)
    have ov6 := ow_gO oc hs ox0 e
    clear e
    refine fr_be (fun v7 e => ?_)
    have ov7 := ow_gR hs ov6 e
    clear e
    refine fr_bd (fun _ => ?_)
    refine fr_be (fun v9 e => ?_)
    have ov9 := ow_gO oc hs ox0 e
    clear e
    refine fr_be (fun v10 e => ?_)
    have ov10 := ow_gR hs ov9 e
    clear e
    refine fr_bd (fun _ => ?_)
    refine fr_cl (fun _ _ e => (by rw [ro_J9_floorDiv_f86c9 e]; exact hs)) (fun _ h hs => ?_)
    refine fr_be (fun v14 e => ?_)
    have ov14 := ow_gR hs ox0 e
    clear e
    refine fr_cl (fun _ _ e => (by rw [ro_X2_texel e]; exact hs)) (fun _ h hs => ?_)
    refine fr_st (fun _ e => ow_sI hs ov14 (by decide) e) (fun h hs => ?_)
    exact hk159 ox0 ox1 hs
theorem ow_X9_paintWall_159 {O : Nat → Prop} {h0 : sv_H} (oc : sv_cl O h0) : ∀ (n : Nat) {x0 : Nat} {x1 : Nat} {x2 : Int32} {x3 : Int32} {x4 : Int32} {x5 : Int32} {x9 : Int32} {x10 : Int64} {x12 : Int64} {x14 : Int64} {x16 : Int32} {h : sv_H}, O x0 → O x1 → sv_ow [] [1001, 1002] O h0 h → sv_fr (sv_ow [] [1001, 1002] O) h0 (fn_X9_paintWall_159 n x0 x1 x2 x3 x4 x5 x9 x10 x12 x14 x16 h) := by
  intro n
  induction n with
  | zero => intro x0 x1 x2 x3 x4 x5 x9 x10 x12 x14 x16 h ox0 ox1 hs r hE e; cases (show (none : Option (Unit × sv_H)) = some (r, hE) from e)
  | succ n ih => intro x0 x1 x2 x3 x4 x5 x9 x10 x12 x14 x16 h ox0 ox1 hs; exact ow_X9_paintWall_159b oc (fun ox0 ox1 hs => ih ox0 ox1 hs) ox0 ox1 hs
theorem ow_X9_paintWall_73 {O : Nat → Prop} {h0 : sv_H} (oc : sv_cl O h0) {x0 : Nat} {x1 : Nat} {x2 : Int32} {x3 : Int32} {x4 : Int32} {x5 : Int32} {x6 : Int32} {x7 : Nat} {s0 : Nat} {s1 : Int32} {h : sv_H} (ox0 : O x0) (ox1 : O x1) (ox7 : O x7) (os0 : sv_rl 1211 O h0 s0) (hs : sv_ow [] [1001, 1002] O h0 h) : sv_fr (sv_ow [] [1001, 1002] O) h0 (fn_X9_paintWall_73 x0 x1 x2 x3 x4 x5 x6 x7 s0 s1 h) := by
  unfold fn_X9_paintWall_73
  refine fr_bd (fun _ => ?_)
  refine fr_cl (fun _ _ e => (by rw [ro_X9_acrossAt e]; exact hs)) (fun _ h hs => ?_)
  refine fr_bd (fun _ => ?_)
  refine fr_cl (fun _ _ e => (by rw [ro_X2_heightOf e]; exact hs)) (fun _ h hs => ?_)
  refine fr_cl (fun _ _ e => (by rw [ro_X9_anchorOf e]; exact hs)) (fun _ h hs => ?_)
  refine fr_bd (fun _ => ?_)
  refine fr_be (fun v10 e => ?_)
  have ov10 := ow_gO oc hs ox0 e
  clear e
  refine fr_be (fun v11 e => ?_)
  have ov11 := ow_gR hs ov10 e
  clear e
  refine fr_bd (fun _ => ?_)
  refine fr_be (fun v13 e => ?_)
  have ov13 := ow_gO oc hs ox0 e
  clear e
  refine fr_be (fun v14 e => ?_)
  have ov14 := ow_gR hs ov13 e
  clear e
  refine fr_bd (fun _ => ?_)
  refine fr_if fr_no ?_
  refine fr_let (fun _ => ?_)
  exact ow_X9_paintWall_159 oc sv_fuel ox0 ox1 hs
theorem ow_X9_paintWall_44 {O : Nat → Prop} {h0 : sv_H} (oc : sv_cl O h0) {x0 : Nat} {x1 : Nat} {x2 : Int32} {x3 : Int32} {x4 : Int32} {x5 : Int32} {x6 : Int32} {x7 : Nat} {s0 : Int32} {h : sv_H} (ox0 : O x0) (ox1 : O x1) (ox7 : O x7) (hs : sv_ow [] [1001, 1002] O h0 h) : sv_fr (sv_ow [] [1001, 1002] O) h0 (fn_X9_paintWall_44 x0 x1 x2 x3 x4 x5 x6 x7 s0 h) := by
  unfold fn_X9_paintWall_44
  refine fr_be (fun v1 e => ?_)
  have ov1 := ow_gR hs ox7 e
  clear e
  refine fr_be (fun v2 e => ?_)
  have ov2 := ow_gO oc hs ox0 e
  clear e
  refine fr_be (fun v3 e => ?_)
  have ov3 := ow_gR hs ov2 e
  clear e
  refine fr_bd (fun _ => ?_)
  refine fr_if ?_ ?_
  · exact ow_X9_paintWall_73 oc ox0 ox1 ox7 ov1 hs
  · exact ow_X9_paintWall_73 oc ox0 ox1 ox7 ov1 hs
theorem ow_X9_paintWall_0 {O : Nat → Prop} {h0 : sv_H} (oc : sv_cl O h0) {x0 : Nat} {x1 : Nat} {x2 : Int32} {x3 : Int32} {x4 : Int32} {x5 : Int32} {x6 : Int32} {h : sv_H} (ox0 : O x0) (ox1 : O x1) (hs : sv_ow [] [1001, 1002] O h0 h) : sv_fr (sv_ow [] [1001, 1002] O) h0 (fn_X9_paintWall x0 x1 x2 x3 x4 x5 x6 h) := by
  unfold fn_X9_paintWall
  refine fr_if ?_ fr_no
  refine fr_if ?_ ?_
  · refine fr_be (fun v1 e => ?_)
    have ov1 := ow_gO oc hs ox1 e
    clear e
    refine fr_be (fun v2 e => ?_)
    have ov2 := ow_gO oc hs ox0 e
    clear e
    refine fr_be (fun v3 e => ?_)
    have ov3 := ow_gR hs ov2 e
    clear e
    refine fr_bd (fun _ => ?_)
    refine fr_be (fun v5 e => ?_)
    have ov5 := ow_lO oc hs ov1 e
    clear e
    refine fr_if ?_ ?_
    · exact ow_X9_paintWall_44 oc ox0 ox1 ov5 hs
    · refine fr_if ?_ ?_
      · exact ow_X9_paintWall_44 oc ox0 ox1 ov5 hs
      · exact ow_X9_paintWall_44 oc ox0 ox1 ov5 hs
  · exact fr_rt hs
theorem ow_X9_paintWall {O : Nat → Prop} {x0 : Nat} {x1 : Nat} {x2 : Int32} {x3 : Int32} {x4 : Int32} {x5 : Int32} {x6 : Int32} {h : sv_H} {r : Unit} {hE : sv_H} (oc : sv_cl O h) (ox0 : O x0) (ox1 : O x1) (hw : fn_X9_paintWall x0 x1 x2 x3 x4 x5 x6 h = some (r, hE)) : sv_ow [] [1001, 1002] O h hE := ow_X9_paintWall_0 oc ox0 ox1 (sv_ow.refl h) r hE hw

theorem ow_X9_paintUpTo_258 {O : Nat → Prop} {h0 : sv_H} (oc : sv_cl O h0) {x0 : Nat} {x1 : Nat} {x2 : Int32} {x4 : Int32} {x7 : Int32} {x10 : Int32} {s0 : Int32} {h : sv_H} (ox0 : O x0) (ox1 : O x1) (hs : sv_ow [1006, 1007] [1001, 1002] O h0 h) : sv_fr (sv_ow [1006, 1007] [1001, 1002] O) h0 (fn_X9_paintUpTo_258 x0 x1 x2 x4 x7 x10 s0 h) := by
  unfold fn_X9_paintUpTo_258
  refine fr_cl (fun _ _ e => (hs.trans ((ow_X9_paintWall (oc.of hs) ox0 ox1 e).weak (by decide) (by decide)))) (fun _ h hs => ?_)
  refine fr_st (fun _ e => ow_pI hs (by decide) ox0 e) (fun h hs => ?_)
  refine fr_st (fun _ e => ow_pI hs (by decide) ox0 e) (fun h hs => ?_)
  exact fr_rt hs
theorem ow_X9_paintUpTo_208 {O : Nat → Prop} {h0 : sv_H} (oc : sv_cl O h0) {x0 : Nat} {x1 : Nat} {x2 : Int32} {x4 : Int32} {x5 : Nat} {x6 : Int32} {x7 : Int32} {x9 : Nat} {s0 : Int32} {h : sv_H} (ox0 : O x0) (ox1 : O x1) (ox5 : O x5) (ox9 : O x9) (hs : sv_ow [1006, 1007] [1001, 1002] O h0 h) : sv_fr (sv_ow [1006, 1007] [1001, 1002] O) h0 (fn_X9_paintUpTo_208 x0 x1 x2 x4 x5 x6 x7 x9 s0 h) := by
  unfold fn_X9_paintUpTo_208
  refine fr_cl (fun _ _ e => (hs.trans ((ow_X9_paintWall (oc.of hs) ox0 ox1 e).weak (by decide) (by decide)))) (fun _ h hs => ?_)
  refine fr_bd (fun _ => ?_)
  refine fr_bd (fun _ => ?_)
  refine fr_if ?_ ?_
  · exact ow_X9_paintUpTo_258 oc ox0 ox1 hs
  · refine fr_bd (fun _ => ?_)
    refine fr_cl (fun _ _ e => (by rw [ro_X9_rowOf e]; exact hs)) (fun _ h hs => ?_)
    refine fr_cl (fun _ _ e => (by rw [ro_X9_between e]; exact hs)) (fun _ h hs => ?_)
    exact ow_X9_paintUpTo_258 oc ox0 ox1 hs
theorem ow_X9_paintUpTo_131 {O : Nat → Prop} {h0 : sv_H} (oc : sv_cl O h0) {x0 : Nat} {x1 : Nat} {x2 : Int32} {x4 : Int32} {x5 : Nat} {x6 : Int32} {x7 : Int32} {s0 : Nat} {s1 : Int32} {h : sv_H} (ox0 : O x0) (ox1 : O x1) (ox5 : O x5) (os0 : O s0) (hs : sv_ow [1006, 1007] [1001, 1002] O h0 h) : sv_fr (sv_ow [1006, 1007] [1001, 1002] O) h0 (fn_X9_paintUpTo_131 x0 x1 x2 x4 x5 x6 x7 s0 s1 h) := by
  unfold fn_X9_paintUpTo_131
  refine fr_cl (fun _ _ e => (by rw [ro_X11_sectorOn e]; exact hs)) (fun _ h hs => ?_)
  refine fr_if ?_ ?_
  · refine fr_cl (fun _ _ e => (hs.trans ((ow_X9_paintWall (oc.of hs) ox0 ox1 e).weak (by decide) (by decide)))) (fun _ h hs => ?_)
    refine fr_bd (fun _ => ?_)
    refine fr_st (fun _ e => ow_pI hs (by decide) ox0 e) (fun h hs => ?_)
    exact fr_rt hs
  · refine fr_be (fun v3 e => ?_)
    have ov3 := ow_gO oc hs ox1 e
    clear e
    refine fr_be (fun v4 e => ?_)
    have ov4 := ow_lO oc hs ov3 e
    clear e
    refine fr_bd (fun _ => ?_)
    refine fr_bd (fun _ => ?_)
    refine fr_if ?_ ?_
    · exact ow_X9_paintUpTo_208 oc ox0 ox1 ox5 ov4 hs
    · refine fr_bd (fun _ => ?_)
      refine fr_cl (fun _ _ e => (by rw [ro_X9_rowOf e]; exact hs)) (fun _ h hs => ?_)
      refine fr_cl (fun _ _ e => (by rw [ro_X9_between e]; exact hs)) (fun _ h hs => ?_)
      exact ow_X9_paintUpTo_208 oc ox0 ox1 ox5 ov4 hs
theorem ow_X9_paintUpTo_0 {O : Nat → Prop} {h0 : sv_H} (oc : sv_cl O h0) {x0 : Nat} {x1 : Nat} {x2 : Int32} {x3 : Int32} {x4 : Int32} {h : sv_H} (ox0 : O x0) (ox1 : O x1) (hs : sv_ow [1006, 1007] [1001, 1002] O h0 h) : sv_fr (sv_ow [1006, 1007] [1001, 1002] O) h0 (fn_X9_paintUpTo x0 x1 x2 x3 x4 h) := by
  unfold fn_X9_paintUpTo
  refine fr_if ?_ fr_no
  refine fr_be (fun v1 e => ?_)
  have ov1 := ow_gO oc hs ox1 e
  clear e
  refine fr_be (fun v2 e => ?_)
  have ov2 := ow_lO oc hs ov1 e
  clear e
  refine fr_bd (fun _ => ?_)
  refine fr_cl (fun _ _ e => (by rw [ro_X9_rowOf e]; exact hs)) (fun _ h hs => ?_)
  refine fr_bd (fun _ => ?_)
  refine fr_bd (fun _ => ?_)
  refine fr_cl (fun _ _ e => (by rw [ro_X9_between e]; exact hs)) (fun _ h hs => ?_)
  refine fr_bd (fun _ => ?_)
  refine fr_cl (fun _ _ e => (by rw [ro_X9_rowOf e]; exact hs)) (fun _ h hs => ?_)
  refine fr_bd (fun _ => ?_)
  refine fr_cl (fun _ _ e => (by rw [ro_X9_between e]; exact hs)) (fun _ h hs => ?_)
  refine fr_cl (fun _ _ e => (hs.trans ((ow_X9_paintCeiling (oc.of hs) ox0 ox1 e).weak (by decide) (by decide)))) (fun _ h hs => ?_)
  refine fr_bd (fun _ => ?_)
  refine fr_bd (fun _ => ?_)
  refine fr_bd (fun _ => ?_)
  refine fr_cl (fun _ _ e => (hs.trans ((ow_X9_paintPlane (oc.of hs) ox0 ox1 e).weak (by decide) (by decide)))) (fun _ h hs => ?_)
  refine fr_bd (fun _ => ?_)
  refine fr_cl (fun _ _ e => (hs.trans ((ow_X9_markRows (oc.of hs) ox0 e).weak (by decide) (by decide)))) (fun _ h hs => ?_)
  refine fr_be (fun v23 e => ?_)
  have ov23 := ow_gO oc hs ox1 e
  clear e
  refine fr_be (fun v24 e => ?_)
  have ov24 := ow_gO oc hs ox0 e
  clear e
  refine fr_be (fun v25 e => ?_)
  have ov25 := ow_gR hs ov24 e
  clear e
  refine fr_bd (fun _ => ?_)
  refine fr_be (fun v27 e => ?_)
  have ov27 := ow_lO oc hs ov23 e
  clear e
  refine fr_be (fun v28 e => ?_)
  have ov28 := ow_gO oc hs ox0 e
  clear e
  refine fr_be (fun v29 e => ?_)
  have ov29 := ow_gR hs ov28 e
  clear e
  refine fr_bd (fun _ => ?_)
  refine fr_if ?_ ?_
  · exact ow_X9_paintUpTo_131 oc ox0 ox1 ov2 ov27 hs
  · exact ow_X9_paintUpTo_131 oc ox0 ox1 ov2 ov27 hs
theorem ow_X9_paintUpTo {O : Nat → Prop} {x0 : Nat} {x1 : Nat} {x2 : Int32} {x3 : Int32} {x4 : Int32} {h : sv_H} {r : Unit} {hE : sv_H} (oc : sv_cl O h) (ox0 : O x0) (ox1 : O x1) (hw : fn_X9_paintUpTo x0 x1 x2 x3 x4 h = some (r, hE)) : sv_ow [1006, 1007] [1001, 1002] O h hE := ow_X9_paintUpTo_0 oc ox0 ox1 (sv_ow.refl h) r hE hw

theorem ow_X9_look_244 {O : Nat → Prop} {h0 : sv_H} (oc : sv_cl O h0) {h : sv_H} (hs : sv_ow [406, 407, 408, 409, 410, 1004, 1005, 1006, 1007] [1001, 1002, 1003, 400, 401, 402, 403, 404, 405] O h0 h) : sv_fr (sv_ow [406, 407, 408, 409, 410, 1004, 1005, 1006, 1007] [1001, 1002, 1003, 400, 401, 402, 403, 404, 405] O) h0 (fn_X9_look_244 h) := by
  unfold fn_X9_look_244
  exact fr_rt hs
theorem ow_X9_look_238 {O : Nat → Prop} {h0 : sv_H} (oc : sv_cl O h0) {k114 : Nat → Nat → Int32 → sv_H → Option (Unit × sv_H)} (hk114 : ∀ {x0 : Nat} {x1 : Nat} {x6 : Int32} {h : sv_H}, O x0 → O x1 → sv_ow [406, 407, 408, 409, 410, 1004, 1005, 1006, 1007] [1001, 1002, 1003, 400, 401, 402, 403, 404, 405] O h0 h → sv_fr (sv_ow [406, 407, 408, 409, 410, 1004, 1005, 1006, 1007] [1001, 1002, 1003, 400, 401, 402, 403, 404, 405] O) h0 (k114 x0 x1 x6 h)) {x0 : Nat} {x1 : Nat} {x6 : Int32} {h : sv_H} (ox0 : O x0) (ox1 : O x1) (hs : sv_ow [406, 407, 408, 409, 410, 1004, 1005, 1006, 1007] [1001, 1002, 1003, 400, 401, 402, 403, 404, 405] O h0 h) : sv_fr (sv_ow [406, 407, 408, 409, 410, 1004, 1005, 1006, 1007] [1001, 1002, 1003, 400, 401, 402, 403, 404, 405] O) h0 (fn_X9_look_238 k114 x0 x1 x6 h) := by
  unfold fn_X9_look_238
  exact hk114 ox0 ox1 hs
theorem ow_X9_look_114b {O : Nat → Prop} {h0 : sv_H} (oc : sv_cl O h0) {k114 : Nat → Nat → Int32 → sv_H → Option (Unit × sv_H)} (hk114 : ∀ {x0 : Nat} {x1 : Nat} {x6 : Int32} {h : sv_H}, O x0 → O x1 → sv_ow [406, 407, 408, 409, 410, 1004, 1005, 1006, 1007] [1001, 1002, 1003, 400, 401, 402, 403, 404, 405] O h0 h → sv_fr (sv_ow [406, 407, 408, 409, 410, 1004, 1005, 1006, 1007] [1001, 1002, 1003, 400, 401, 402, 403, 404, 405] O) h0 (k114 x0 x1 x6 h)) {x0 : Nat} {x1 : Nat} {x6 : Int32} {h : sv_H} (ox0 : O x0) (ox1 : O x1) (hs : sv_ow [406, 407, 408, 409, 410, 1004, 1005, 1006, 1007] [1001, 1002, 1003, 400, 401, 402, 403, 404, 405] O h0 h) : sv_fr (sv_ow [406, 407, 408, 409, 410, 1004, 1005, 1006, 1007] [1001, 1002, 1003, 400, 401, 402, 403, 404, 405] O) h0 (fn_X9_look_114b k114 x0 x1 x6 h) := by
  unfold fn_X9_look_114b
  refine fr_be (fun v1 e => ?_)
  have ov1 := ow_gO oc hs ox0 e
  clear e
  refine fr_bd (fun _ => ?_)
  refine fr_if ?_ ?_
  · exact ow_X9_look_244 oc hs
  · refine fr_bd (fun _ => ?_)
    refine fr_bd (fun _ => ?_)
    refine fr_if ?_ ?_
    · exact ow_X9_look_244 oc hs
    · refine fr_be (fun v5 e => ?_)
      have ov5 := ow_gO oc hs ox1 e
      clear e
      refine fr_be (fun v6 e => ?_)
      have ov6 := ow_gO oc hs ov5 e
      clear e
      refine fr_be (fun v7 e => ?_)
      have ov7 := ow_gO oc hs ox0 e
      clear e
      refine fr_be (fun v8 e => ?_)
      have ov8 := ow_gR hs ov7 e
      clear e
      refine fr_bd (fun _ => ?_)
      refine fr_be (fun v10 e => ?_)
      have ov10 := ow_lO oc hs ov6 e
      clear e
      refine fr_be (fun v11 e => ?_)
      have ov11 := ow_gO oc hs ox0 e
      clear e
      refine fr_be (fun v12 e => ?_)
      have ov12 := ow_gR hs ov11 e
      clear e
      refine fr_bd (fun _ => ?_)
      refine fr_cl (fun _ _ e => (by rw [ro_X11_sectorOn e]; exact hs)) (fun _ h hs => ?_)
      refine fr_if ?_ ?_
      · exact ow_X9_look_238 oc hk114 ox0 ox1 hs
      · refine fr_be (fun v16 e => ?_)
        have ov16 := ow_gR hs ox0 e
        clear e
        refine fr_bd (fun _ => ?_)
        refine fr_be (fun v18 e => ?_)
        have ov18 := ow_gO oc hs ox0 e
        clear e
        refine fr_be (fun v19 e => ?_)
        have ov19 := ow_gR hs ov18 e
        clear e
        refine fr_bd (fun _ => ?_)
        refine fr_st (fun _ e => ow_sI hs ov16 (by decide) e) (fun h hs => ?_)
        refine fr_bd (fun _ => ?_)
        refine fr_st (fun _ e => ow_pI hs (by decide) ox0 e) (fun h hs => ?_)
        refine fr_be (fun v24 e => ?_)
        have ov24 := ow_gO oc hs ox1 e
        clear e
        refine fr_be (fun v25 e => ?_)
        have ov25 := ow_gO oc hs ox1 e
        clear e
        refine fr_be (fun v26 e => ?_)
        have ov26 := ow_gO oc hs ox1 e
        clear e
        refine fr_be (fun v27 e => ?_)
        have ov27 := ow_gO oc hs ov26 e
        clear e
        refine fr_be (fun v28 e => ?_)
        have ov28 := ow_lO oc hs ov27 e
        clear e
        refine fr_bd (fun _ => ?_)
        refine fr_cl (fun _ _ e => (by rw [ro_X2_lightIn e]; exact hs)) (fun _ h hs => ?_)
        refine fr_cl (fun _ _ e => (hs.trans ((ow_X9_paintUpTo (oc.of hs) ox0 ov24 e).weak (by decide) (by decide)))) (fun _ h hs => ?_)
        exact ow_X9_look_238 oc hk114 ox0 ox1 hs
theorem ow_X9_look_114 {O : Nat → Prop} {h0 : sv_H} (oc : sv_cl O h0) : ∀ (n : Nat) {x0 : Nat} {x1 : Nat} {x6 : Int32} {h : sv_H}, O x0 → O x1 → sv_ow [406, 407, 408, 409, 410, 1004, 1005, 1006, 1007] [1001, 1002, 1003, 400, 401, 402, 403, 404, 405] O h0 h → sv_fr (sv_ow [406, 407, 408, 409, 410, 1004, 1005, 1006, 1007] [1001, 1002, 1003, 400, 401, 402, 403, 404, 405] O) h0 (fn_X9_look_114 n x0 x1 x6 h) := by
  intro n
  induction n with
  | zero => intro x0 x1 x6 h ox0 ox1 hs r hE e; cases (show (none : Option (Unit × sv_H)) = some (r, hE) from e)
  | succ n ih => intro x0 x1 x6 h ox0 ox1 hs; exact ow_X9_look_114b oc (fun ox0 ox1 hs => ih ox0 ox1 hs) ox0 ox1 hs
theorem ow_X9_look_0 {O : Nat → Prop} {h0 : sv_H} (oc : sv_cl O h0) {x0 : Nat} {x1 : Nat} {x2 : Int32} {h : sv_H} (ox0 : O x0) (ox1 : O x1) (hs : sv_ow [406, 407, 408, 409, 410, 1004, 1005, 1006, 1007] [1001, 1002, 1003, 400, 401, 402, 403, 404, 405] O h0 h) : sv_fr (sv_ow [406, 407, 408, 409, 410, 1004, 1005, 1006, 1007] [1001, 1002, 1003, 400, 401, 402, 403, 404, 405] O) h0 (fn_X9_look x0 x1 x2 h) := by
  unfold fn_X9_look
  refine fr_if ?_ fr_no
  refine fr_bd (fun _ => ?_)
  refine fr_cl (fun _ _ e => (by rw [ro_X12_cosine e]; exact hs)) (fun _ h hs => ?_)
  refine fr_bd (fun _ => ?_)
  refine fr_cl (fun _ _ e => (by rw [ro_X12_sine e]; exact hs)) (fun _ h hs => ?_)
  refine fr_be (fun v7 e => ?_)
  have ov7 := ow_gO oc hs ox0 e
  clear e
  refine fr_bd (fun _ => ?_)
  refine fr_bd (fun _ => ?_)
  refine fr_cl (fun _ _ e => (hs.trans ((ow_X3_aim (oc.of hs) ov7 e).weak (by decide) (by decide)))) (fun _ h hs => ?_)
  refine fr_be (fun v11 e => ?_)
  have ov11 := ow_gO oc hs ox0 e
  clear e
  refine fr_be (fun v12 e => ?_)
  have ov12 := ow_gO oc hs ox1 e
  clear e
  refine fr_cl (fun _ _ e => (hs.trans ((ow_X3_meetAll (oc.of hs) ov11 ov12 e).weak (by decide) (by decide)))) (fun _ h hs => ?_)
  refine fr_be (fun v14 e => ?_)
  have ov14 := ow_gR hs ox0 e
  clear e
  refine fr_cl (fun _ _ e => (hs.trans ((ow_J7_fill_53178 (oc.of hs) (ov14.of hs) e).weak (by decide) (by decide)))) (fun _ h hs => ?_)
  refine fr_be (fun v16 e => ?_)
  have ov16 := ow_gR hs ox0 e
  clear e
  refine fr_cl (fun _ _ e => (hs.trans ((ow_J7_fill_53178 (oc.of hs) (ov16.of hs) e).weak (by decide) (by decide)))) (fun _ h hs => ?_)
  refine fr_cl (fun _ _ e => (by rw [ro_X10_eye e]; exact hs)) (fun _ h hs => ?_)
  refine fr_st (fun _ e => ow_pI hs (by decide) ox0 e) (fun h hs => ?_)
  refine fr_st (fun _ e => ow_pI hs (by decide) ox0 e) (fun h hs => ?_)
  refine fr_st (fun _ e => ow_pI hs (by decide) ox0 e) (fun h hs => ?_)
  refine fr_st (fun _ e => ow_pI hs (by decide) ox0 e) (fun h hs => ?_)
  exact ow_X9_look_114 oc sv_fuel ox0 ox1 hs
theorem ow_X9_look {O : Nat → Prop} {x0 : Nat} {x1 : Nat} {x2 : Int32} {h : sv_H} {r : Unit} {hE : sv_H} (oc : sv_cl O h) (ox0 : O x0) (ox1 : O x1) (hw : fn_X9_look x0 x1 x2 h = some (r, hE)) : sv_ow [406, 407, 408, 409, 410, 1004, 1005, 1006, 1007] [1001, 1002, 1003, 400, 401, 402, 403, 404, 405] O h hE := ow_X9_look_0 oc ox0 ox1 (sv_ow.refl h) r hE hw

theorem ow_X12_pixelAt_18 {O : Nat → Prop} {h0 : sv_H} (oc : sv_cl O h0) {h : sv_H} (hs : sv_ow [406, 407, 408, 409, 410, 1004, 1005, 1006, 1007] [1001, 1002, 1003, 400, 401, 402, 403, 404, 405] O h0 h) : sv_fr (sv_ow [406, 407, 408, 409, 410, 1004, 1005, 1006, 1007] [1001, 1002, 1003, 400, 401, 402, 403, 404, 405] O) h0 (fn_X12_pixelAt_18 h) := by
  unfold fn_X12_pixelAt_18
  exact fr_rt hs
theorem ow_X12_pixelAt_0 {O : Nat → Prop} {h0 : sv_H} (oc : sv_cl O h0) {x0 : Nat} {x1 : Int32} {x2 : Int32} {h : sv_H} (ox0 : O x0) (hs : sv_ow [406, 407, 408, 409, 410, 1004, 1005, 1006, 1007] [1001, 1002, 1003, 400, 401, 402, 403, 404, 405] O h0 h) : sv_fr (sv_ow [406, 407, 408, 409, 410, 1004, 1005, 1006, 1007] [1001, 1002, 1003, 400, 401, 402, 403, 404, 405] O) h0 (fn_X12_pixelAt x0 x1 x2 h) := by
  unfold fn_X12_pixelAt
  refine fr_if ?_ fr_no
  refine fr_cl (fun _ _ e => (by rw [ro_X12_isSeen e]; exact hs)) (fun _ h hs => ?_)
  refine fr_if ?_ ?_
  · exact ow_X12_pixelAt_18 oc hs
  · refine fr_if ?_ ?_
    · exact ow_X12_pixelAt_18 oc hs
    · refine fr_if ?_ ?_
      · refine fr_be (fun v3 e => ?_)
        have ov3 := ow_gO oc hs ox0 e
        clear e
        refine fr_be (fun v4 e => ?_)
        have ov4 := ow_gO oc hs ox0 e
        clear e
        refine fr_cl (fun _ _ e => (hs.trans ((ow_X9_look (oc.of hs) ov3 ov4 e).weak (by decide) (by decide)))) (fun _ h hs => ?_)
        refine fr_be (fun v6 e => ?_)
        have ov6 := ow_gO oc hs ox0 e
        clear e
        refine fr_be (fun v7 e => ?_)
        have ov7 := ow_gR hs ov6 e
        clear e
        refine fr_bd (fun _ => ?_)
        exact fr_rt hs
      · exact ow_X12_pixelAt_18 oc hs
theorem ow_X12_pixelAt {O : Nat → Prop} {x0 : Nat} {x1 : Int32} {x2 : Int32} {h : sv_H} {r : Int32} {hE : sv_H} (oc : sv_cl O h) (ox0 : O x0) (hw : fn_X12_pixelAt x0 x1 x2 h = some (r, hE)) : sv_ow [406, 407, 408, 409, 410, 1004, 1005, 1006, 1007] [1001, 1002, 1003, 400, 401, 402, 403, 404, 405] O h hE := ow_X12_pixelAt_0 oc ox0 (sv_ow.refl h) r hE hw

theorem ow_X17_flat_293 {O : Nat → Prop} {h0 : sv_H} (oc : sv_cl O h0) {k80 : Nat → Int32 → Int32 → Int32 → Int32 → Int32 → Int64 → Int32 → sv_H → Option (Unit × sv_H)} (hk80 : ∀ {x0 : Nat} {x2 : Int32} {x3 : Int32} {x4 : Int32} {x5 : Int32} {x6 : Int32} {x7 : Int64} {x9 : Int32} {h : sv_H}, O x0 → sv_ow [] [1824, 1825] O h0 h → sv_fr (sv_ow [] [1824, 1825] O) h0 (k80 x0 x2 x3 x4 x5 x6 x7 x9 h)) {x0 : Nat} {x2 : Int32} {x3 : Int32} {x4 : Int32} {x5 : Int32} {x6 : Int32} {x7 : Int64} {x9 : Int32} {s0 : Nat} {s1 : Int32} {s2 : Int32} {h : sv_H} (ox0 : O x0) (os0 : sv_rl 1825 O h0 s0) (hs : sv_ow [] [1824, 1825] O h0 h) : sv_fr (sv_ow [] [1824, 1825] O) h0 (fn_X17_flat_293 k80 x0 x2 x3 x4 x5 x6 x7 x9 s0 s1 s2 h) := by
  unfold fn_X17_flat_293
  refine fr_st (fun _ e => ow_sI hs os0 (by decide) e) (fun h hs => ?_)
  exact hk80 ox0 hs
theorem ow_X17_flat_289 {O : Nat → Prop} {h0 : sv_H} (oc : sv_cl O h0) {k80 : Nat → Int32 → Int32 → Int32 → Int32 → Int32 → Int64 → Int32 → sv_H → Option (Unit × sv_H)} (hk80 : ∀ {x0 : Nat} {x2 : Int32} {x3 : Int32} {x4 : Int32} {x5 : Int32} {x6 : Int32} {x7 : Int64} {x9 : Int32} {h : sv_H}, O x0 → sv_ow [] [1824, 1825] O h0 h → sv_fr (sv_ow [] [1824, 1825] O) h0 (k80 x0 x2 x3 x4 x5 x6 x7 x9 h)) {x0 : Nat} {x2 : Int32} {x3 : Int32} {x4 : Int32} {x5 : Int32} {x6 : Int32} {x7 : Int64} {x9 : Int32} {s0 : Nat} {s1 : Int32} {s2 : Int32} {s3 : Nat} {s4 : Int32} {s5 : Int64} {h : sv_H} (ox0 : O x0) (os0 : sv_rl 1825 O h0 s0) (os3 : O s3) (hs : sv_ow [] [1824, 1825] O h0 h) : sv_fr (sv_ow [] [1824, 1825] O) h0 (fn_X17_flat_289 k80 x0 x2 x3 x4 x5 x6 x7 x9 s0 s1 s2 s3 s4 s5 h) := by
  unfold fn_X17_flat_289
  refine fr_cl (fun _ _ e => (by rw [ro_X17_shade e]; exact hs)) (fun _ h hs => ?_)
  exact ow_X17_flat_293 oc hk80 ox0 os0 hs
theorem ow_X17_flat_221 {O : Nat → Prop} {h0 : sv_H} (oc : sv_cl O h0) {k80 : Nat → Int32 → Int32 → Int32 → Int32 → Int32 → Int64 → Int32 → sv_H → Option (Unit × sv_H)} (hk80 : ∀ {x0 : Nat} {x2 : Int32} {x3 : Int32} {x4 : Int32} {x5 : Int32} {x6 : Int32} {x7 : Int64} {x9 : Int32} {h : sv_H}, O x0 → sv_ow [] [1824, 1825] O h0 h → sv_fr (sv_ow [] [1824, 1825] O) h0 (k80 x0 x2 x3 x4 x5 x6 x7 x9 h)) {x0 : Nat} {x2 : Int32} {x3 : Int32} {x4 : Int32} {x5 : Int32} {x6 : Int32} {x7 : Int64} {x9 : Int32} {x10 : Int64} {x12 : Int32} {x13 : Int64} {x15 : Int64} {s0 : Nat} {s1 : Int32} {s2 : Int32} {s3 : Int32} {h : sv_H} (ox0 : O x0) (os0 : sv_rl 1824 O h0 s0) (hs : sv_ow [] [1824, 1825] O h0 h) : sv_fr (sv_ow [] [1824, 1825] O) h0 (fn_X17_flat_221 k80 x0 x2 x3 x4 x5 x6 x7 x9 x10 x12 x13 x15 s0 s1 s2 s3 h) := by
  unfold fn_X17_flat_221
  refine fr_st (fun _ e => ow_sI hs os0 (by decide) e) (fun h hs => ?_)
  refine fr_be (fun v2 e => ?_)
  have ov2 := ow_gR hs ox0 e
  clear e
  refine fr_if ?_ ?_
  · refine fr_cl (fun _ _ e => (by rw [ro_X17_texel e]; exact hs)) (fun _ h hs => ?_)
    refine fr_if ?_ ?_
    · exact ow_X17_flat_289 oc hk80 ox0 ov2 ox0 hs
    · refine fr_cl (fun _ _ e => (by rw [ro_X17_down e]; exact hs)) (fun _ h hs => ?_)
      exact ow_X17_flat_289 oc hk80 ox0 ov2 ox0 hs
  · exact ow_X17_flat_293 oc hk80 ox0 ov2 hs
theorem ow_X17_flat_199 {O : Nat → Prop} {h0 : sv_H} (oc : sv_cl O h0) {k80 : Nat → Int32 → Int32 → Int32 → Int32 → Int32 → Int64 → Int32 → sv_H → Option (Unit × sv_H)} (hk80 : ∀ {x0 : Nat} {x2 : Int32} {x3 : Int32} {x4 : Int32} {x5 : Int32} {x6 : Int32} {x7 : Int64} {x9 : Int32} {h : sv_H}, O x0 → sv_ow [] [1824, 1825] O h0 h → sv_fr (sv_ow [] [1824, 1825] O) h0 (k80 x0 x2 x3 x4 x5 x6 x7 x9 h)) {x0 : Nat} {x2 : Int32} {x3 : Int32} {x4 : Int32} {x5 : Int32} {x6 : Int32} {x7 : Int64} {x9 : Int32} {x10 : Int64} {x12 : Int32} {x13 : Int64} {s0 : Int64} {h : sv_H} (ox0 : O x0) (hs : sv_ow [] [1824, 1825] O h0 h) : sv_fr (sv_ow [] [1824, 1825] O) h0 (fn_X17_flat_199 k80 x0 x2 x3 x4 x5 x6 x7 x9 x10 x12 x13 s0 h) := by
  unfold fn_X17_flat_199
  refine fr_be (fun v1 e => ?_)
  have ov1 := ow_gR hs ox0 e
  clear e
  refine fr_if ?_ ?_
  · exact ow_X17_flat_221 oc hk80 ox0 ov1 hs
  · exact ow_X17_flat_221 oc hk80 ox0 ov1 hs
theorem ow_X17_flat_166 {O : Nat → Prop} {h0 : sv_H} (oc : sv_cl O h0) {k80 : Nat → Int32 → Int32 → Int32 → Int32 → Int32 → Int64 → Int32 → sv_H → Option (Unit × sv_H)} (hk80 : ∀ {x0 : Nat} {x2 : Int32} {x3 : Int32} {x4 : Int32} {x5 : Int32} {x6 : Int32} {x7 : Int64} {x9 : Int32} {h : sv_H}, O x0 → sv_ow [] [1824, 1825] O h0 h → sv_fr (sv_ow [] [1824, 1825] O) h0 (k80 x0 x2 x3 x4 x5 x6 x7 x9 h)) {x0 : Nat} {x2 : Int32} {x3 : Int32} {x4 : Int32} {x5 : Int32} {x6 : Int32} {x7 : Int64} {x9 : Int32} {x10 : Int64} {x12 : Int32} {s0 : Int64} {h : sv_H} (ox0 : O x0) (hs : sv_ow [] [1824, 1825] O h0 h) : sv_fr (sv_ow [] [1824, 1825] O) h0 (fn_X17_flat_166 k80 x0 x2 x3 x4 x5 x6 x7 x9 x10 x12 s0 h) := by
  unfold fn_X17_flat_166
  refine fr_if ?_ ?_
  · refine fr_bd (fun _ => ?_)
    exact ow_X17_flat_199 oc hk80 ox0 hs
  · refine fr_bd (fun _ => ?_)
    refine fr_bd (fun _ => ?_)
    refine fr_cl (fun _ _ e => (by rw [ro_X17_down e]; exact hs)) (fun _ h hs => ?_)
    exact ow_X17_flat_199 oc hk80 ox0 hs
theorem ow_X17_flat_133 {O : Nat → Prop} {h0 : sv_H} (oc : sv_cl O h0) {k80 : Nat → Int32 → Int32 → Int32 → Int32 → Int32 → Int64 → Int32 → sv_H → Option (Unit × sv_H)} (hk80 : ∀ {x0 : Nat} {x2 : Int32} {x3 : Int32} {x4 : Int32} {x5 : Int32} {x6 : Int32} {x7 : Int64} {x9 : Int32} {h : sv_H}, O x0 → sv_ow [] [1824, 1825] O h0 h → sv_fr (sv_ow [] [1824, 1825] O) h0 (k80 x0 x2 x3 x4 x5 x6 x7 x9 h)) {x0 : Nat} {x2 : Int32} {x3 : Int32} {x4 : Int32} {x5 : Int32} {x6 : Int32} {x7 : Int64} {x9 : Int32} {x10 : Int64} {s0 : Int32} {h : sv_H} (ox0 : O x0) (hs : sv_ow [] [1824, 1825] O h0 h) : sv_fr (sv_ow [] [1824, 1825] O) h0 (fn_X17_flat_133 k80 x0 x2 x3 x4 x5 x6 x7 x9 x10 s0 h) := by
  unfold fn_X17_flat_133
  refine fr_if ?_ ?_
  · refine fr_bd (fun _ => ?_)
    exact ow_X17_flat_166 oc hk80 ox0 hs
  · refine fr_bd (fun _ => ?_)
    refine fr_bd (fun _ => ?_)
    refine fr_cl (fun _ _ e => (by rw [ro_X17_down e]; exact hs)) (fun _ h hs => ?_)
    exact ow_X17_flat_166 oc hk80 ox0 hs
theorem ow_X17_flat_132 {O : Nat → Prop} {h0 : sv_H} (oc : sv_cl O h0) {k80 : Nat → Int32 → Int32 → Int32 → Int32 → Int32 → Int64 → Int32 → sv_H → Option (Unit × sv_H)} (hk80 : ∀ {x0 : Nat} {x2 : Int32} {x3 : Int32} {x4 : Int32} {x5 : Int32} {x6 : Int32} {x7 : Int64} {x9 : Int32} {h : sv_H}, O x0 → sv_ow [] [1824, 1825] O h0 h → sv_fr (sv_ow [] [1824, 1825] O) h0 (k80 x0 x2 x3 x4 x5 x6 x7 x9 h)) {x0 : Nat} {x2 : Int32} {x3 : Int32} {x4 : Int32} {x5 : Int32} {x6 : Int32} {x7 : Int64} {x9 : Int32} {x10 : Int64} {h : sv_H} (ox0 : O x0) (hs : sv_ow [] [1824, 1825] O h0 h) : sv_fr (sv_ow [] [1824, 1825] O) h0 (fn_X17_flat_132 k80 x0 x2 x3 x4 x5 x6 x7 x9 x10 h) := by
  unfold fn_X17_flat_132
  exact ow_X17_flat_133 oc hk80 ox0 hs
theorem ow_X17_flat_128 {O : Nat → Prop} {h0 : sv_H} (oc : sv_cl O h0) {k80 : Nat → Int32 → Int32 → Int32 → Int32 → Int32 → Int64 → Int32 → sv_H → Option (Unit × sv_H)} (hk80 : ∀ {x0 : Nat} {x2 : Int32} {x3 : Int32} {x4 : Int32} {x5 : Int32} {x6 : Int32} {x7 : Int64} {x9 : Int32} {h : sv_H}, O x0 → sv_ow [] [1824, 1825] O h0 h → sv_fr (sv_ow [] [1824, 1825] O) h0 (k80 x0 x2 x3 x4 x5 x6 x7 x9 h)) {x0 : Nat} {x2 : Int32} {x3 : Int32} {x4 : Int32} {x5 : Int32} {x6 : Int32} {x7 : Int64} {x9 : Int32} {x10 : Int64} {h : sv_H} (ox0 : O x0) (hs : sv_ow [] [1824, 1825] O h0 h) : sv_fr (sv_ow [] [1824, 1825] O) h0 (fn_X17_flat_128 k80 x0 x2 x3 x4 x5 x6 x7 x9 x10 h) := by
  unfold fn_X17_flat_128
  exact ow_X17_flat_133 oc hk80 ox0 hs
theorem ow_X17_flat_114 {O : Nat → Prop} {h0 : sv_H} (oc : sv_cl O h0) {k80 : Nat → Int32 → Int32 → Int32 → Int32 → Int32 → Int64 → Int32 → sv_H → Option (Unit × sv_H)} (hk80 : ∀ {x0 : Nat} {x2 : Int32} {x3 : Int32} {x4 : Int32} {x5 : Int32} {x6 : Int32} {x7 : Int64} {x9 : Int32} {h : sv_H}, O x0 → sv_ow [] [1824, 1825] O h0 h → sv_fr (sv_ow [] [1824, 1825] O) h0 (k80 x0 x2 x3 x4 x5 x6 x7 x9 h)) {x0 : Nat} {x2 : Int32} {x3 : Int32} {x4 : Int32} {x5 : Int32} {x6 : Int32} {x7 : Int64} {x9 : Int32} {x10 : Int64} {h : sv_H} (ox0 : O x0) (hs : sv_ow [] [1824, 1825] O h0 h) : sv_fr (sv_ow [] [1824, 1825] O) h0 (fn_X17_flat_114 k80 x0 x2 x3 x4 x5 x6 x7 x9 x10 h) := by
  unfold fn_X17_flat_114
  refine fr_if ?_ ?_
  · exact ow_X17_flat_132 oc hk80 ox0 hs
  · refine fr_if ?_ ?_
    · exact ow_X17_flat_132 oc hk80 ox0 hs
    · exact ow_X17_flat_128 oc hk80 ox0 hs
theorem ow_X17_flat_80b {O : Nat → Prop} {h0 : sv_H} (oc : sv_cl O h0) {k80 : Nat → Int32 → Int32 → Int32 → Int32 → Int32 → Int64 → Int32 → sv_H → Option (Unit × sv_H)} (hk80 : ∀ {x0 : Nat} {x2 : Int32} {x3 : Int32} {x4 : Int32} {x5 : Int32} {x6 : Int32} {x7 : Int64} {x9 : Int32} {h : sv_H}, O x0 → sv_ow [] [1824, 1825] O h0 h → sv_fr (sv_ow [] [1824, 1825] O) h0 (k80 x0 x2 x3 x4 x5 x6 x7 x9 h)) {x0 : Nat} {x2 : Int32} {x3 : Int32} {x4 : Int32} {x5 : Int32} {x6 : Int32} {x7 : Int64} {x9 : Int32} {h : sv_H} (ox0 : O x0) (hs : sv_ow [] [1824, 1825] O h0 h) : sv_fr (sv_ow [] [1824, 1825] O) h0 (fn_X17_flat_80b k80 x0 x2 x3 x4 x5 x6 x7 x9 h) := by
  unfold fn_X17_flat_80b
  refine fr_if ?_ ?_
  · exact fr_rt hs
  · refine fr_if ?_ ?_
    · exact ow_X17_flat_114 oc hk80 ox0 hs
    · refine fr_if ?_ ?_
      · exact ow_X17_flat_128 oc hk80 ox0 hs
      · exact ow_X17_flat_114 oc hk80 ox0 hs
theorem ow_X17_flat_80 {O : Nat → Prop} {h0 : sv_H} (oc : sv_cl O h0) : ∀ (n : Nat) {x0 : Nat} {x2 : Int32} {x3 : Int32} {x4 : Int32} {x5 : Int32} {x6 : Int32} {x7 : Int64} {x9 : Int32} {h : sv_H}, O x0 → sv_ow [] [1824, 1825] O h0 h → sv_fr (sv_ow [] [1824, 1825] O) h0 (fn_X17_flat_80 n x0 x2 x3 x4 x5 x6 x7 x9 h) := by
  intro n
  induction n with
  | zero => intro x0 x2 x3 x4 x5 x6 x7 x9 h ox0 hs r hE e; cases (show (none : Option (Unit × sv_H)) = some (r, hE) from e)
  | succ n ih => intro x0 x2 x3 x4 x5 x6 x7 x9 h ox0 hs; exact ow_X17_flat_80b oc (fun ox0 hs => ih ox0 hs) ox0 hs
theorem ow_X17_flat_69 {O : Nat → Prop} {h0 : sv_H} (oc : sv_cl O h0) {x0 : Nat} {x1 : Int32} {x2 : Int32} {x3 : Int32} {x4 : Int32} {x5 : Int32} {x6 : Int32} {s0 : Int32} {h : sv_H} (ox0 : O x0) (hs : sv_ow [] [1824, 1825] O h0 h) : sv_fr (sv_ow [] [1824, 1825] O) h0 (fn_X17_flat_69 x0 x1 x2 x3 x4 x5 x6 s0 h) := by
  unfold fn_X17_flat_69
  refine fr_cl (fun _ _ e => (by rw [ro_X17_eye e]; exact hs)) (fun _ h hs => ?_)
  exact ow_X17_flat_80 oc sv_fuel ox0 hs
theorem ow_X17_flat_39 {O : Nat → Prop} {h0 : sv_H} (oc : sv_cl O h0) {x0 : Nat} {x1 : Int32} {x2 : Int32} {x3 : Int32} {x4 : Int32} {x5 : Int32} {s0 : Int32} {h : sv_H} (ox0 : O x0) (hs : sv_ow [] [1824, 1825] O h0 h) : sv_fr (sv_ow [] [1824, 1825] O) h0 (fn_X17_flat_39 x0 x1 x2 x3 x4 x5 s0 h) := by
  unfold fn_X17_flat_39
  refine fr_if ?_ ?_
  · refine fr_be (fun v4 e => ?_)
    have ov4 := ow_gO oc hs ox0 e
    clear e
    refine fr_be (fun v5 e => ?_)
    have ov5 := ow_gR hs ov4 e
    clear e
    refine fr_bd (fun _ => ?_)
    exact ow_X17_flat_69 oc ox0 hs
  · refine fr_be (fun v1 e => ?_)
    have ov1 := ow_gO oc hs ox0 e
    clear e
    refine fr_be (fun v2 e => ?_)
    have ov2 := ow_gR hs ov1 e
    clear e
    refine fr_bd (fun _ => ?_)
    exact ow_X17_flat_69 oc ox0 hs
theorem ow_X17_flat_38 {O : Nat → Prop} {h0 : sv_H} (oc : sv_cl O h0) {x0 : Nat} {x1 : Int32} {x2 : Int32} {x3 : Int32} {x4 : Int32} {x5 : Int32} {h : sv_H} (ox0 : O x0) (hs : sv_ow [] [1824, 1825] O h0 h) : sv_fr (sv_ow [] [1824, 1825] O) h0 (fn_X17_flat_38 x0 x1 x2 x3 x4 x5 h) := by
  unfold fn_X17_flat_38
  exact ow_X17_flat_39 oc ox0 hs
theorem ow_X17_flat_16 {O : Nat → Prop} {h0 : sv_H} (oc : sv_cl O h0) {x0 : Nat} {x1 : Int32} {x2 : Int32} {x3 : Int32} {x4 : Int32} {s0 : Nat} {s1 : Int32} {s2 : Int32} {h : sv_H} (ox0 : O x0) (os0 : O s0) (hs : sv_ow [] [1824, 1825] O h0 h) : sv_fr (sv_ow [] [1824, 1825] O) h0 (fn_X17_flat_16 x0 x1 x2 x3 x4 s0 s1 s2 h) := by
  unfold fn_X17_flat_16
  refine fr_cl (fun _ _ e => (by rw [ro_X14_sector e]; exact hs)) (fun _ h hs => ?_)
  refine fr_if ?_ ?_
  · refine fr_if ?_ ?_
    · exact ow_X17_flat_39 oc ox0 hs
    · exact ow_X17_flat_38 oc ox0 hs
  · exact ow_X17_flat_38 oc ox0 hs
theorem ow_X17_flat_0 {O : Nat → Prop} {h0 : sv_H} (oc : sv_cl O h0) {x0 : Nat} {x1 : Int32} {x2 : Int32} {x3 : Int32} {x4 : Int32} {h : sv_H} (ox0 : O x0) (hs : sv_ow [] [1824, 1825] O h0 h) : sv_fr (sv_ow [] [1824, 1825] O) h0 (fn_X17_flat x0 x1 x2 x3 x4 h) := by
  unfold fn_X17_flat
  refine fr_if ?_ fr_no
  refine fr_be (fun v1 e => ?_)
  have ov1 := ow_gO oc hs ox0 e
  clear e
  refine fr_if ?_ ?_
  · exact ow_X17_flat_16 oc ox0 ov1 hs
  · exact ow_X17_flat_16 oc ox0 ov1 hs
theorem ow_X17_flat {O : Nat → Prop} {x0 : Nat} {x1 : Int32} {x2 : Int32} {x3 : Int32} {x4 : Int32} {h : sv_H} {r : Unit} {hE : sv_H} (oc : sv_cl O h) (ox0 : O x0) (hw : fn_X17_flat x0 x1 x2 x3 x4 h = some (r, hE)) : sv_ow [] [1824, 1825] O h hE := ow_X17_flat_0 oc ox0 (sv_ow.refl h) r hE hw

theorem ow_X17_part_393b {O : Nat → Prop} {h0 : sv_H} (oc : sv_cl O h0) {k393 : Nat → Int32 → Int32 → Int32 → Int32 → Int32 → Int64 → Int32 → Int32 → sv_H → Option (Unit × sv_H)} (hk393 : ∀ {x0 : Nat} {x2 : Int32} {x3 : Int32} {x4 : Int32} {x7 : Int32} {x11 : Int32} {x18 : Int64} {x20 : Int32} {x21 : Int32} {h : sv_H}, O x0 → sv_ow [] [1824, 1825] O h0 h → sv_fr (sv_ow [] [1824, 1825] O) h0 (k393 x0 x2 x3 x4 x7 x11 x18 x20 x21 h)) {x0 : Nat} {x2 : Int32} {x3 : Int32} {x4 : Int32} {x7 : Int32} {x11 : Int32} {x18 : Int64} {x20 : Int32} {x21 : Int32} {h : sv_H} (ox0 : O x0) (hs : sv_ow [] [1824, 1825] O h0 h) : sv_fr (sv_ow [] [1824, 1825] O) h0 (fn_X17_part_393b k393 x0 x2 x3 x4 x7 x11 x18 x20 x21 h) := by
  unfold fn_X17_part_393b
  refine fr_if ?_ ?_
  · exact fr_rt hs
  · refine fr_cl (fun _ _ e => (by rw [ro_X17_eye e]; exact hs)) (fun _ h hs => ?_)
    refine fr_bd (fun _ => ?_)
    refine fr_bd (fun _ => ?_)
    refine fr_cl (fun _ _ e => (by rw [ro_X17_down e]; exact hs)) (fun _ h hs => ?_)
    refine fr_be (fun v7 e => ?_)
    have ov7 := ow_gR hs ox0 e
    clear e
    refine fr_st (fun _ e => ow_sI hs ov7 (by decide) e) (fun h hs => ?_)
    refine fr_be (fun v9 e => ?_)
    have ov9 := ow_gR hs ox0 e
    clear e
    refine fr_cl (fun _ _ e => (by rw [ro_X17_wallPart e]; exact hs)) (fun _ h hs => ?_)
    refine fr_cl (fun _ _ e => (by rw [ro_X17_texel e]; exact hs)) (fun _ h hs => ?_)
    refine fr_st (fun _ e => ow_sI hs ov9 (by decide) e) (fun h hs => ?_)
    exact hk393 ox0 hs
theorem ow_X17_part_393 {O : Nat → Prop} {h0 : sv_H} (oc : sv_cl O h0) : ∀ (n : Nat) {x0 : Nat} {x2 : Int32} {x3 : Int32} {x4 : Int32} {x7 : Int32} {x11 : Int32} {x18 : Int64} {x20 : Int32} {x21 : Int32} {h : sv_H}, O x0 → sv_ow [] [1824, 1825] O h0 h → sv_fr (sv_ow [] [1824, 1825] O) h0 (fn_X17_part_393 n x0 x2 x3 x4 x7 x11 x18 x20 x21 h) := by
  intro n
  induction n with
  | zero => intro x0 x2 x3 x4 x7 x11 x18 x20 x21 h ox0 hs r hE e; cases (show (none : Option (Unit × sv_H)) = some (r, hE) from e)
  | succ n ih => intro x0 x2 x3 x4 x7 x11 x18 x20 x21 h ox0 hs; exact ow_X17_part_393b oc (fun ox0 hs => ih ox0 hs) ox0 hs
theorem ow_X17_part_355 {O : Nat → Prop} {h0 : sv_H} (oc : sv_cl O h0) {x0 : Nat} {x1 : Int32} {x2 : Int32} {x3 : Int32} {x4 : Int32} {x5 : Int32} {x7 : Int32} {x11 : Int32} {s0 : Int64} {h : sv_H} (ox0 : O x0) (hs : sv_ow [] [1824, 1825] O h0 h) : sv_fr (sv_ow [] [1824, 1825] O) h0 (fn_X17_part_355 x0 x1 x2 x3 x4 x5 x7 x11 s0 h) := by
  unfold fn_X17_part_355
  refine fr_cl (fun _ _ e => (by rw [ro_X17_wallPart e]; exact hs)) (fun _ h hs => ?_)
  refine fr_bd (fun _ => ?_)
  refine fr_bd (fun _ => ?_)
  refine fr_cl (fun _ _ e => (by rw [ro_X17_down e]; exact hs)) (fun _ h hs => ?_)
  refine fr_cl (fun _ _ e => (by rw [ro_X17_shade e]; exact hs)) (fun _ h hs => ?_)
  exact ow_X17_part_393 oc sv_fuel ox0 hs
theorem ow_X17_part_305 {O : Nat → Prop} {h0 : sv_H} (oc : sv_cl O h0) {x0 : Nat} {x1 : Int32} {x2 : Int32} {x3 : Int32} {x4 : Int32} {x5 : Int32} {x7 : Int32} {x11 : Int32} {s0 : Int64} {h : sv_H} (ox0 : O x0) (hs : sv_ow [] [1824, 1825] O h0 h) : sv_fr (sv_ow [] [1824, 1825] O) h0 (fn_X17_part_305 x0 x1 x2 x3 x4 x5 x7 x11 s0 h) := by
  unfold fn_X17_part_305
  refine fr_bd (fun _ => ?_)
  refine fr_if ?_ ?_
  · refine fr_bd (fun _ => ?_)
    refine fr_bd (fun _ => ?_)
    refine fr_bd (fun _ => ?_)
    refine fr_cl (fun _ _ e => (by rw [ro_X17_down e]; exact hs)) (fun _ h hs => ?_)
    exact ow_X17_part_355 oc ox0 hs
  · refine fr_bd (fun _ => ?_)
    refine fr_bd (fun _ => ?_)
    refine fr_bd (fun _ => ?_)
    refine fr_cl (fun _ _ e => (by rw [ro_X17_down e]; exact hs)) (fun _ h hs => ?_)
    exact ow_X17_part_355 oc ox0 hs
theorem ow_X17_part_288 {O : Nat → Prop} {h0 : sv_H} (oc : sv_cl O h0) {x0 : Nat} {x1 : Int32} {x2 : Int32} {x3 : Int32} {x4 : Int32} {x5 : Int32} {x7 : Int32} {x11 : Int32} {x12 : Int64} {s0 : Int64} {h : sv_H} (ox0 : O x0) (hs : sv_ow [] [1824, 1825] O h0 h) : sv_fr (sv_ow [] [1824, 1825] O) h0 (fn_X17_part_288 x0 x1 x2 x3 x4 x5 x7 x11 x12 s0 h) := by
  unfold fn_X17_part_288
  refine fr_if ?_ ?_
  · exact ow_X17_part_305 oc ox0 hs
  · exact ow_X17_part_305 oc ox0 hs
theorem ow_X17_part_271 {O : Nat → Prop} {h0 : sv_H} (oc : sv_cl O h0) {x0 : Nat} {x1 : Int32} {x2 : Int32} {x3 : Int32} {x4 : Int32} {x5 : Int32} {x7 : Int32} {x11 : Int32} {x14 : Int64} {s0 : Int64} {h : sv_H} (ox0 : O x0) (hs : sv_ow [] [1824, 1825] O h0 h) : sv_fr (sv_ow [] [1824, 1825] O) h0 (fn_X17_part_271 x0 x1 x2 x3 x4 x5 x7 x11 x14 s0 h) := by
  unfold fn_X17_part_271
  refine fr_if ?_ ?_
  · exact ow_X17_part_288 oc ox0 hs
  · exact ow_X17_part_288 oc ox0 hs
theorem ow_X17_part_206 {O : Nat → Prop} {h0 : sv_H} (oc : sv_cl O h0) {x0 : Nat} {x1 : Int32} {x2 : Int32} {x3 : Int32} {x4 : Int32} {x5 : Int32} {x7 : Int32} {s0 : Int32} {h : sv_H} (ox0 : O x0) (hs : sv_ow [] [1824, 1825] O h0 h) : sv_fr (sv_ow [] [1824, 1825] O) h0 (fn_X17_part_206 x0 x1 x2 x3 x4 x5 x7 s0 h) := by
  unfold fn_X17_part_206
  refine fr_be (fun v1 e => ?_)
  have ov1 := ow_gO oc hs ox0 e
  clear e
  refine fr_be (fun v2 e => ?_)
  have ov2 := ow_gR hs ov1 e
  clear e
  refine fr_bd (fun _ => ?_)
  refine fr_be (fun v4 e => ?_)
  have ov4 := ow_gO oc hs ox0 e
  clear e
  refine fr_be (fun v5 e => ?_)
  have ov5 := ow_gR hs ov4 e
  clear e
  refine fr_bd (fun _ => ?_)
  refine fr_be (fun v7 e => ?_)
  have ov7 := ow_gO oc hs ox0 e
  clear e
  refine fr_be (fun v8 e => ?_)
  have ov8 := ow_gR hs ov7 e
  clear e
  refine fr_bd (fun _ => ?_)
  refine fr_be (fun v10 e => ?_)
  have ov10 := ow_gO oc hs ox0 e
  clear e
  refine fr_be (fun v11 e => ?_)
  have ov11 := ow_gR hs ov10 e
  clear e
  refine fr_bd (fun _ => ?_)
  refine fr_if ?_ ?_
  · exact ow_X17_part_271 oc ox0 hs
  · exact ow_X17_part_271 oc ox0 hs
theorem ow_X17_part_110 {O : Nat → Prop} {h0 : sv_H} (oc : sv_cl O h0) {x0 : Nat} {x1 : Int32} {x2 : Int32} {x3 : Int32} {x4 : Int32} {x5 : Int32} {x6 : Int32} {x7 : Int32} {x8 : Int32} {s0 : Int32} {h : sv_H} (ox0 : O x0) (hs : sv_ow [] [1824, 1825] O h0 h) : sv_fr (sv_ow [] [1824, 1825] O) h0 (fn_X17_part_110 x0 x1 x2 x3 x4 x5 x6 x7 x8 s0 h) := by
  unfold fn_X17_part_110
  refine fr_be (fun v1 e => ?_)
  have ov1 := ow_gO oc hs ox0 e
  clear e
  refine fr_be (fun v2 e => ?_)
  have ov2 := ow_gR hs ov1 e
  clear e
  refine fr_bd (fun _ => ?_)
  refine fr_if ?_ ?_
  · refine fr_if ?_ ?_
    · refine fr_be (fun v10 e => ?_)
      have ov10 := ow_gO oc hs ox0 e
      clear e
      refine fr_be (fun v11 e => ?_)
      have ov11 := ow_gR hs ov10 e
      clear e
      refine fr_bd (fun _ => ?_)
      exact ow_X17_part_206 oc ox0 hs
    · exact ow_X17_part_206 oc ox0 hs
  · refine fr_if ?_ ?_
    · refine fr_if ?_ ?_
      · exact ow_X17_part_206 oc ox0 hs
      · refine fr_be (fun v7 e => ?_)
        have ov7 := ow_gO oc hs ox0 e
        clear e
        refine fr_be (fun v8 e => ?_)
        have ov8 := ow_gR hs ov7 e
        clear e
        refine fr_bd (fun _ => ?_)
        exact ow_X17_part_206 oc ox0 hs
    · refine fr_if ?_ ?_
      · refine fr_be (fun v4 e => ?_)
        have ov4 := ow_gO oc hs ox0 e
        clear e
        refine fr_be (fun v5 e => ?_)
        have ov5 := ow_gR hs ov4 e
        clear e
        refine fr_bd (fun _ => ?_)
        exact ow_X17_part_206 oc ox0 hs
      · exact ow_X17_part_206 oc ox0 hs
theorem ow_X17_part_101 {O : Nat → Prop} {h0 : sv_H} (oc : sv_cl O h0) {x0 : Nat} {x1 : Int32} {x2 : Int32} {x3 : Int32} {x4 : Int32} {x5 : Int32} {x6 : Int32} {x7 : Int32} {x8 : Int32} {s0 : Int32} {s1 : Int32} {h : sv_H} (ox0 : O x0) (hs : sv_ow [] [1824, 1825] O h0 h) : sv_fr (sv_ow [] [1824, 1825] O) h0 (fn_X17_part_101 x0 x1 x2 x3 x4 x5 x6 x7 x8 s0 s1 h) := by
  unfold fn_X17_part_101
  refine fr_if ?_ ?_
  · exact ow_X17_part_110 oc ox0 hs
  · exact ow_X17_part_110 oc ox0 hs
theorem ow_X17_part_81 {O : Nat → Prop} {h0 : sv_H} (oc : sv_cl O h0) {x0 : Nat} {x1 : Int32} {x2 : Int32} {x3 : Int32} {x4 : Int32} {x5 : Int32} {x6 : Int32} {x7 : Int32} {s0 : Int32} {h : sv_H} (ox0 : O x0) (hs : sv_ow [] [1824, 1825] O h0 h) : sv_fr (sv_ow [] [1824, 1825] O) h0 (fn_X17_part_81 x0 x1 x2 x3 x4 x5 x6 x7 s0 h) := by
  unfold fn_X17_part_81
  refine fr_cl (fun _ _ e => (by rw [ro_X17_wallPart e]; exact hs)) (fun _ h hs => ?_)
  refine fr_if ?_ ?_
  · exact ow_X17_part_101 oc ox0 hs
  · exact ow_X17_part_101 oc ox0 hs
theorem ow_X17_part_53 {O : Nat → Prop} {h0 : sv_H} (oc : sv_cl O h0) {x0 : Nat} {x1 : Int32} {x2 : Int32} {x3 : Int32} {x4 : Int32} {x5 : Int32} {x6 : Int32} {s0 : Nat} {s1 : Int32} {s2 : Int32} {s3 : Int32} {h : sv_H} (ox0 : O x0) (os0 : O s0) (hs : sv_ow [] [1824, 1825] O h0 h) : sv_fr (sv_ow [] [1824, 1825] O) h0 (fn_X17_part_53 x0 x1 x2 x3 x4 x5 x6 s0 s1 s2 s3 h) := by
  unfold fn_X17_part_53
  refine fr_cl (fun _ _ e => (by rw [ro_X17_wallPart e]; exact hs)) (fun _ h hs => ?_)
  refine fr_if ?_ ?_
  · exact ow_X17_part_81 oc ox0 hs
  · refine fr_be (fun v3 e => ?_)
    have ov3 := ow_gO oc hs ox0 e
    clear e
    refine fr_cl (fun _ _ e => (by rw [ro_X14_texture e]; exact hs)) (fun _ h hs => ?_)
    exact ow_X17_part_81 oc ox0 hs
theorem ow_X17_part_34 {O : Nat → Prop} {h0 : sv_H} (oc : sv_cl O h0) {x0 : Nat} {x1 : Int32} {x2 : Int32} {x3 : Int32} {x4 : Int32} {x5 : Int32} {x6 : Int32} {s0 : Nat} {s1 : Int32} {s2 : Int32} {h : sv_H} (ox0 : O x0) (os0 : O s0) (hs : sv_ow [] [1824, 1825] O h0 h) : sv_fr (sv_ow [] [1824, 1825] O) h0 (fn_X17_part_34 x0 x1 x2 x3 x4 x5 x6 s0 s1 s2 h) := by
  unfold fn_X17_part_34
  refine fr_if ?_ ?_
  · exact ow_X17_part_53 oc ox0 os0 hs
  · refine fr_if ?_ ?_
    · exact ow_X17_part_53 oc ox0 os0 hs
    · exact ow_X17_part_53 oc ox0 os0 hs
theorem ow_X17_part_0 {O : Nat → Prop} {h0 : sv_H} (oc : sv_cl O h0) {x0 : Nat} {x1 : Int32} {x2 : Int32} {x3 : Int32} {x4 : Int32} {h : sv_H} (ox0 : O x0) (hs : sv_ow [] [1824, 1825] O h0 h) : sv_fr (sv_ow [] [1824, 1825] O) h0 (fn_X17_part x0 x1 x2 x3 x4 h) := by
  unfold fn_X17_part
  refine fr_if ?_ fr_no
  refine fr_cl (fun _ _ e => (by rw [ro_X17_sideOf e]; exact hs)) (fun _ h hs => ?_)
  refine fr_cl (fun _ _ e => (by rw [ro_X17_sideOf e]; exact hs)) (fun _ h hs => ?_)
  refine fr_bd (fun _ => ?_)
  refine fr_if ?_ ?_
  · exact ow_X17_part_34 oc ox0 ox0 hs
  · exact ow_X17_part_34 oc ox0 ox0 hs
theorem ow_X17_part {O : Nat → Prop} {x0 : Nat} {x1 : Int32} {x2 : Int32} {x3 : Int32} {x4 : Int32} {h : sv_H} {r : Unit} {hE : sv_H} (oc : sv_cl O h) (ox0 : O x0) (hw : fn_X17_part x0 x1 x2 x3 x4 h = some (r, hE)) : sv_ow [] [1824, 1825] O h hE := ow_X17_part_0 oc ox0 (sv_ow.refl h) r hE hw

theorem ow_X17_column_399 {O : Nat → Prop} {h0 : sv_H} (oc : sv_cl O h0) {h : sv_H} (hs : sv_ow [1815, 1816, 1817, 1818, 1819, 1821, 1823, 1827, 1828] [1820, 1822, 1824, 1825] O h0 h) : sv_fr (sv_ow [1815, 1816, 1817, 1818, 1819, 1821, 1823, 1827, 1828] [1820, 1822, 1824, 1825] O) h0 (fn_X17_column_399 h) := by
  unfold fn_X17_column_399
  exact fr_rt hs
theorem ow_X17_column_393 {O : Nat → Prop} {h0 : sv_H} (oc : sv_cl O h0) {k113 : Nat → Int32 → Int32 → Int32 → sv_H → Option (Unit × sv_H)} (hk113 : ∀ {x0 : Nat} {x2 : Int32} {x3 : Int32} {x4 : Int32} {h : sv_H}, O x0 → sv_ow [1815, 1816, 1817, 1818, 1819, 1821, 1823, 1827, 1828] [1820, 1822, 1824, 1825] O h0 h → sv_fr (sv_ow [1815, 1816, 1817, 1818, 1819, 1821, 1823, 1827, 1828] [1820, 1822, 1824, 1825] O) h0 (k113 x0 x2 x3 x4 h)) {x0 : Nat} {x2 : Int32} {x3 : Int32} {x4 : Int32} {h : sv_H} (ox0 : O x0) (hs : sv_ow [1815, 1816, 1817, 1818, 1819, 1821, 1823, 1827, 1828] [1820, 1822, 1824, 1825] O h0 h) : sv_fr (sv_ow [1815, 1816, 1817, 1818, 1819, 1821, 1823, 1827, 1828] [1820, 1822, 1824, 1825] O) h0 (fn_X17_column_393 k113 x0 x2 x3 x4 h) := by
  unfold fn_X17_column_393
  exact hk113 ox0 hs
theorem ow_X17_column_363 {O : Nat → Prop} {h0 : sv_H} (oc : sv_cl O h0) {k113 : Nat → Int32 → Int32 → Int32 → sv_H → Option (Unit × sv_H)} (hk113 : ∀ {x0 : Nat} {x2 : Int32} {x3 : Int32} {x4 : Int32} {h : sv_H}, O x0 → sv_ow [1815, 1816, 1817, 1818, 1819, 1821, 1823, 1827, 1828] [1820, 1822, 1824, 1825] O h0 h → sv_fr (sv_ow [1815, 1816, 1817, 1818, 1819, 1821, 1823, 1827, 1828] [1820, 1822, 1824, 1825] O) h0 (k113 x0 x2 x3 x4 h)) {x0 : Nat} {x4 : Int32} {x5 : Int32} {x9 : Int32} {x10 : Int32} {x11 : Int32} {s0 : Int32} {h : sv_H} (ox0 : O x0) (hs : sv_ow [1815, 1816, 1817, 1818, 1819, 1821, 1823, 1827, 1828] [1820, 1822, 1824, 1825] O h0 h) : sv_fr (sv_ow [1815, 1816, 1817, 1818, 1819, 1821, 1823, 1827, 1828] [1820, 1822, 1824, 1825] O) h0 (fn_X17_column_363 k113 x0 x4 x5 x9 x10 x11 s0 h) := by
  unfold fn_X17_column_363
  refine fr_cl (fun _ _ e => (hs.trans ((ow_X17_part (oc.of hs) ox0 e).weak (by decide) (by decide)))) (fun _ h hs => ?_)
  refine fr_cl (fun _ _ e => (hs.trans ((ow_X17_part (oc.of hs) ox0 e).weak (by decide) (by decide)))) (fun _ h hs => ?_)
  exact ow_X17_column_393 oc hk113 ox0 hs
theorem ow_X17_column_315 {O : Nat → Prop} {h0 : sv_H} (oc : sv_cl O h0) {k113 : Nat → Int32 → Int32 → Int32 → sv_H → Option (Unit × sv_H)} (hk113 : ∀ {x0 : Nat} {x2 : Int32} {x3 : Int32} {x4 : Int32} {h : sv_H}, O x0 → sv_ow [1815, 1816, 1817, 1818, 1819, 1821, 1823, 1827, 1828] [1820, 1822, 1824, 1825] O h0 h → sv_fr (sv_ow [1815, 1816, 1817, 1818, 1819, 1821, 1823, 1827, 1828] [1820, 1822, 1824, 1825] O) h0 (k113 x0 x2 x3 x4 h)) {x0 : Nat} {x4 : Int32} {x5 : Int32} {x7 : Int32} {x8 : Int32} {x9 : Int32} {x10 : Int32} {s0 : Int32} {h : sv_H} (ox0 : O x0) (hs : sv_ow [1815, 1816, 1817, 1818, 1819, 1821, 1823, 1827, 1828] [1820, 1822, 1824, 1825] O h0 h) : sv_fr (sv_ow [1815, 1816, 1817, 1818, 1819, 1821, 1823, 1827, 1828] [1820, 1822, 1824, 1825] O) h0 (fn_X17_column_315 k113 x0 x4 x5 x7 x8 x9 x10 s0 h) := by
  unfold fn_X17_column_315
  refine fr_be (fun v1 e => ?_)
  have ov1 := ow_gO oc hs ox0 e
  clear e
  refine fr_be (fun v2 e => ?_)
  have ov2 := ow_gR hs ov1 e
  clear e
  refine fr_bd (fun _ => ?_)
  refine fr_be (fun v4 e => ?_)
  have ov4 := ow_gO oc hs ox0 e
  clear e
  refine fr_be (fun v5 e => ?_)
  have ov5 := ow_gR hs ov4 e
  clear e
  refine fr_bd (fun _ => ?_)
  refine fr_if ?_ ?_
  · exact ow_X17_column_363 oc hk113 ox0 hs
  · refine fr_be (fun v7 e => ?_)
    have ov7 := ow_gO oc hs ox0 e
    clear e
    refine fr_be (fun v8 e => ?_)
    have ov8 := ow_gR hs ov7 e
    clear e
    refine fr_bd (fun _ => ?_)
    refine fr_cl (fun _ _ e => (by rw [ro_X17_rowOf e]; exact hs)) (fun _ h hs => ?_)
    exact ow_X17_column_363 oc hk113 ox0 hs
theorem ow_X17_column_113b {O : Nat → Prop} {h0 : sv_H} (oc : sv_cl O h0) {k113 : Nat → Int32 → Int32 → Int32 → sv_H → Option (Unit × sv_H)} (hk113 : ∀ {x0 : Nat} {x2 : Int32} {x3 : Int32} {x4 : Int32} {h : sv_H}, O x0 → sv_ow [1815, 1816, 1817, 1818, 1819, 1821, 1823, 1827, 1828] [1820, 1822, 1824, 1825] O h0 h → sv_fr (sv_ow [1815, 1816, 1817, 1818, 1819, 1821, 1823, 1827, 1828] [1820, 1822, 1824, 1825] O) h0 (k113 x0 x2 x3 x4 h)) {x0 : Nat} {x2 : Int32} {x3 : Int32} {x4 : Int32} {h : sv_H} (ox0 : O x0) (hs : sv_ow [1815, 1816, 1817, 1818, 1819, 1821, 1823, 1827, 1828] [1820, 1822, 1824, 1825] O h0 h) : sv_fr (sv_ow [1815, 1816, 1817, 1818, 1819, 1821, 1823, 1827, 1828] [1820, 1822, 1824, 1825] O) h0 (fn_X17_column_113b k113 x0 x2 x3 x4 h) := by
  unfold fn_X17_column_113b
  refine fr_bd (fun _ => ?_)
  refine fr_if ?_ ?_
  · exact ow_X17_column_399 oc hs
  · refine fr_if ?_ ?_
    · exact ow_X17_column_399 oc hs
    · refine fr_be (fun v2 e => ?_)
      have ov2 := ow_gR hs ox0 e
      clear e
      refine fr_bd (fun _ => ?_)
      refine fr_cl (fun _ _ e => (hs.trans ((ow_X17_meets (oc.of hs) ox0 e).weak (by decide) (by decide)))) (fun _ h hs => ?_)
      refine fr_cl (fun _ _ e => (by rw [ro_X17_sideOf e]; exact hs)) (fun _ h hs => ?_)
      refine fr_cl (fun _ _ e => (by rw [ro_X17_sideOf e]; exact hs)) (fun _ h hs => ?_)
      refine fr_if ?_ ?_
      · refine fr_be (fun v10 e => ?_)
        have ov10 := ow_gR hs ox0 e
        clear e
        refine fr_bd (fun _ => ?_)
        refine fr_st (fun _ e => ow_sI hs ov10 (by decide) e) (fun h hs => ?_)
        refine fr_bd (fun _ => ?_)
        refine fr_st (fun _ e => ow_pI hs (by decide) ox0 e) (fun h hs => ?_)
        refine fr_be (fun v15 e => ?_)
        have ov15 := ow_gO oc hs ox0 e
        clear e
        refine fr_be (fun v16 e => ?_)
        have ov16 := ow_gR hs ov15 e
        clear e
        refine fr_bd (fun _ => ?_)
        refine fr_cl (fun _ _ e => (by rw [ro_X17_rowOf e]; exact hs)) (fun _ h hs => ?_)
        refine fr_be (fun v20 e => ?_)
        have ov20 := ow_gO oc hs ox0 e
        clear e
        refine fr_be (fun v21 e => ?_)
        have ov21 := ow_gR hs ov20 e
        clear e
        refine fr_bd (fun _ => ?_)
        refine fr_cl (fun _ _ e => (by rw [ro_X17_rowOf e]; exact hs)) (fun _ h hs => ?_)
        refine fr_cl (fun _ _ e => (hs.trans ((ow_X17_flat (oc.of hs) ox0 e).weak (by decide) (by decide)))) (fun _ h hs => ?_)
        refine fr_cl (fun _ _ e => (hs.trans ((ow_X17_flat (oc.of hs) ox0 e).weak (by decide) (by decide)))) (fun _ h hs => ?_)
        refine fr_if ?_ ?_
        · refine fr_be (fun v27 e => ?_)
          have ov27 := ow_gO oc hs ox0 e
          clear e
          refine fr_be (fun v28 e => ?_)
          have ov28 := ow_gR hs ov27 e
          clear e
          refine fr_bd (fun _ => ?_)
          refine fr_be (fun v30 e => ?_)
          have ov30 := ow_gO oc hs ox0 e
          clear e
          refine fr_be (fun v31 e => ?_)
          have ov31 := ow_gR hs ov30 e
          clear e
          refine fr_bd (fun _ => ?_)
          refine fr_if ?_ ?_
          · exact ow_X17_column_315 oc hk113 ox0 hs
          · refine fr_be (fun v33 e => ?_)
            have ov33 := ow_gO oc hs ox0 e
            clear e
            refine fr_be (fun v34 e => ?_)
            have ov34 := ow_gR hs ov33 e
            clear e
            refine fr_bd (fun _ => ?_)
            refine fr_cl (fun _ _ e => (by rw [ro_X17_rowOf e]; exact hs)) (fun _ h hs => ?_)
            exact ow_X17_column_315 oc hk113 ox0 hs
        · refine fr_cl (fun _ _ e => (hs.trans ((ow_X17_part (oc.of hs) ox0 e).weak (by decide) (by decide)))) (fun _ h hs => ?_)
          exact ow_X17_column_393 oc hk113 ox0 hs
      · exact ow_X17_column_393 oc hk113 ox0 hs
theorem ow_X17_column_113 {O : Nat → Prop} {h0 : sv_H} (oc : sv_cl O h0) : ∀ (n : Nat) {x0 : Nat} {x2 : Int32} {x3 : Int32} {x4 : Int32} {h : sv_H}, O x0 → sv_ow [1815, 1816, 1817, 1818, 1819, 1821, 1823, 1827, 1828] [1820, 1822, 1824, 1825] O h0 h → sv_fr (sv_ow [1815, 1816, 1817, 1818, 1819, 1821, 1823, 1827, 1828] [1820, 1822, 1824, 1825] O) h0 (fn_X17_column_113 n x0 x2 x3 x4 h) := by
  intro n
  induction n with
  | zero => intro x0 x2 x3 x4 h ox0 hs r hE e; cases (show (none : Option (Unit × sv_H)) = some (r, hE) from e)
  | succ n ih => intro x0 x2 x3 x4 h ox0 hs; exact ow_X17_column_113b oc (fun ox0 hs => ih ox0 hs) ox0 hs
theorem ow_X17_column_81b {O : Nat → Prop} {h0 : sv_H} (oc : sv_cl O h0) {k81 : Nat → Int32 → Int32 → Int32 → sv_H → Option (Unit × sv_H)} (hk81 : ∀ {x0 : Nat} {x2 : Int32} {x3 : Int32} {x4 : Int32} {h : sv_H}, O x0 → sv_ow [1815, 1816, 1817, 1818, 1819, 1821, 1823, 1827, 1828] [1820, 1822, 1824, 1825] O h0 h → sv_fr (sv_ow [1815, 1816, 1817, 1818, 1819, 1821, 1823, 1827, 1828] [1820, 1822, 1824, 1825] O) h0 (k81 x0 x2 x3 x4 h)) {x0 : Nat} {x2 : Int32} {x3 : Int32} {x4 : Int32} {h : sv_H} (ox0 : O x0) (hs : sv_ow [1815, 1816, 1817, 1818, 1819, 1821, 1823, 1827, 1828] [1820, 1822, 1824, 1825] O h0 h) : sv_fr (sv_ow [1815, 1816, 1817, 1818, 1819, 1821, 1823, 1827, 1828] [1820, 1822, 1824, 1825] O) h0 (fn_X17_column_81b k81 x0 x2 x3 x4 h) := by
  unfold fn_X17_column_81b
  refine fr_if ?_ ?_
  · exact ow_X17_column_113 oc sv_fuel ox0 hs
  · refine fr_be (fun v1 e => ?_)
    have ov1 := ow_gR hs ox0 e
    clear e
    refine fr_st (fun _ e => ow_sI hs ov1 (by decide) e) (fun h hs => ?_)
    refine fr_be (fun v3 e => ?_)
    have ov3 := ow_gR hs ox0 e
    clear e
    refine fr_st (fun _ e => ow_sI hs ov3 (by decide) e) (fun h hs => ?_)
    exact hk81 ox0 hs
theorem ow_X17_column_81 {O : Nat → Prop} {h0 : sv_H} (oc : sv_cl O h0) : ∀ (n : Nat) {x0 : Nat} {x2 : Int32} {x3 : Int32} {x4 : Int32} {h : sv_H}, O x0 → sv_ow [1815, 1816, 1817, 1818, 1819, 1821, 1823, 1827, 1828] [1820, 1822, 1824, 1825] O h0 h → sv_fr (sv_ow [1815, 1816, 1817, 1818, 1819, 1821, 1823, 1827, 1828] [1820, 1822, 1824, 1825] O) h0 (fn_X17_column_81 n x0 x2 x3 x4 h) := by
  intro n
  induction n with
  | zero => intro x0 x2 x3 x4 h ox0 hs r hE e; cases (show (none : Option (Unit × sv_H)) = some (r, hE) from e)
  | succ n ih => intro x0 x2 x3 x4 h ox0 hs; exact ow_X17_column_81b oc (fun ox0 hs => ih ox0 hs) ox0 hs
theorem ow_X17_column_0 {O : Nat → Prop} {h0 : sv_H} (oc : sv_cl O h0) {x0 : Nat} {x1 : Int32} {h : sv_H} (ox0 : O x0) (hs : sv_ow [1815, 1816, 1817, 1818, 1819, 1821, 1823, 1827, 1828] [1820, 1822, 1824, 1825] O h0 h) : sv_fr (sv_ow [1815, 1816, 1817, 1818, 1819, 1821, 1823, 1827, 1828] [1820, 1822, 1824, 1825] O) h0 (fn_X17_column x0 x1 h) := by
  unfold fn_X17_column
  refine fr_if ?_ fr_no
  refine fr_bd (fun _ => ?_)
  refine fr_cl (fun _ _ e => (by rw [ro_X17_cosine e]; exact hs)) (fun _ h hs => ?_)
  refine fr_bd (fun _ => ?_)
  refine fr_cl (fun _ _ e => (by rw [ro_X17_sine e]; exact hs)) (fun _ h hs => ?_)
  refine fr_bd (fun _ => ?_)
  refine fr_cl (fun _ _ e => (by rw [ro_X17_sine e]; exact hs)) (fun _ h hs => ?_)
  refine fr_bd (fun _ => ?_)
  refine fr_cl (fun _ _ e => (by rw [ro_X17_cosine e]; exact hs)) (fun _ h hs => ?_)
  refine fr_cl (fun _ _ e => (hs.trans ((ow_X17_gather (oc.of hs) ox0 e).weak (by decide) (by decide)))) (fun _ h hs => ?_)
  refine fr_st (fun _ e => ow_pI hs (by decide) ox0 e) (fun h hs => ?_)
  exact ow_X17_column_81 oc sv_fuel ox0 hs
theorem ow_X17_column {O : Nat → Prop} {x0 : Nat} {x1 : Int32} {h : sv_H} {r : Unit} {hE : sv_H} (oc : sv_cl O h) (ox0 : O x0) (hw : fn_X17_column x0 x1 h = some (r, hE)) : sv_ow [1815, 1816, 1817, 1818, 1819, 1821, 1823, 1827, 1828] [1820, 1822, 1824, 1825] O h hE := ow_X17_column_0 oc ox0 (sv_ow.refl h) r hE hw

theorem ow_X17_pixelAt_0 {O : Nat → Prop} {h0 : sv_H} (oc : sv_cl O h0) {x0 : Nat} {x1 : Int32} {x2 : Int32} {h : sv_H} (ox0 : O x0) (hs : sv_ow [1800, 1815, 1816, 1817, 1818, 1819, 1821, 1823, 1827, 1828] [1820, 1822, 1824, 1825] O h0 h) : sv_fr (sv_ow [1800, 1815, 1816, 1817, 1818, 1819, 1821, 1823, 1827, 1828] [1820, 1822, 1824, 1825] O) h0 (fn_X17_pixelAt x0 x1 x2 h) := by
  unfold fn_X17_pixelAt
  refine fr_if ?_ fr_no
  refine fr_st (fun _ e => ow_pI hs (by decide) ox0 e) (fun h hs => ?_)
  refine fr_cl (fun _ _ e => (by rw [ro_X17_isPixel e]; exact hs)) (fun _ h hs => ?_)
  refine fr_if ?_ ?_
  · exact fr_rt hs
  · refine fr_cl (fun _ _ e => (hs.trans ((ow_X17_column (oc.of hs) ox0 e).weak (by decide) (by decide)))) (fun _ h hs => ?_)
    refine fr_be (fun v5 e => ?_)
    have ov5 := ow_gR hs ox0 e
    clear e
    refine fr_bd (fun _ => ?_)
    exact fr_rt hs
theorem ow_X17_pixelAt {O : Nat → Prop} {x0 : Nat} {x1 : Int32} {x2 : Int32} {h : sv_H} {r : Int32} {hE : sv_H} (oc : sv_cl O h) (ox0 : O x0) (hw : fn_X17_pixelAt x0 x1 x2 h = some (r, hE)) : sv_ow [1800, 1815, 1816, 1817, 1818, 1819, 1821, 1823, 1827, 1828] [1820, 1822, 1824, 1825] O h hE := ow_X17_pixelAt_0 oc ox0 (sv_ow.refl h) r hE hw

theorem ow_X12_surfaceAt_18 {O : Nat → Prop} {h0 : sv_H} (oc : sv_cl O h0) {h : sv_H} (hs : sv_ow [406, 407, 408, 409, 410, 1004, 1005, 1006, 1007] [1001, 1002, 1003, 400, 401, 402, 403, 404, 405] O h0 h) : sv_fr (sv_ow [406, 407, 408, 409, 410, 1004, 1005, 1006, 1007] [1001, 1002, 1003, 400, 401, 402, 403, 404, 405] O) h0 (fn_X12_surfaceAt_18 h) := by
  unfold fn_X12_surfaceAt_18
  exact fr_rt hs
theorem ow_X12_surfaceAt_0 {O : Nat → Prop} {h0 : sv_H} (oc : sv_cl O h0) {x0 : Nat} {x1 : Int32} {x2 : Int32} {h : sv_H} (ox0 : O x0) (hs : sv_ow [406, 407, 408, 409, 410, 1004, 1005, 1006, 1007] [1001, 1002, 1003, 400, 401, 402, 403, 404, 405] O h0 h) : sv_fr (sv_ow [406, 407, 408, 409, 410, 1004, 1005, 1006, 1007] [1001, 1002, 1003, 400, 401, 402, 403, 404, 405] O) h0 (fn_X12_surfaceAt x0 x1 x2 h) := by
  unfold fn_X12_surfaceAt
  refine fr_if ?_ fr_no
  refine fr_cl (fun _ _ e => (by rw [ro_X12_isSeen e]; exact hs)) (fun _ h hs => ?_)
  refine fr_if ?_ ?_
  · exact ow_X12_surfaceAt_18 oc hs
  · refine fr_if ?_ ?_
    · exact ow_X12_surfaceAt_18 oc hs
    · refine fr_if ?_ ?_
      · refine fr_be (fun v3 e => ?_)
        have ov3 := ow_gO oc hs ox0 e
        clear e
        refine fr_be (fun v4 e => ?_)
        have ov4 := ow_gO oc hs ox0 e
        clear e
        refine fr_cl (fun _ _ e => (hs.trans ((ow_X9_look (oc.of hs) ov3 ov4 e).weak (by decide) (by decide)))) (fun _ h hs => ?_)
        refine fr_be (fun v6 e => ?_)
        have ov6 := ow_gO oc hs ox0 e
        clear e
        refine fr_be (fun v7 e => ?_)
        have ov7 := ow_gR hs ov6 e
        clear e
        refine fr_bd (fun _ => ?_)
        exact fr_rt hs
      · exact ow_X12_surfaceAt_18 oc hs
theorem ow_X12_surfaceAt {O : Nat → Prop} {x0 : Nat} {x1 : Int32} {x2 : Int32} {h : sv_H} {r : Int32} {hE : sv_H} (oc : sv_cl O h) (ox0 : O x0) (hw : fn_X12_surfaceAt x0 x1 x2 h = some (r, hE)) : sv_ow [406, 407, 408, 409, 410, 1004, 1005, 1006, 1007] [1001, 1002, 1003, 400, 401, 402, 403, 404, 405] O h hE := ow_X12_surfaceAt_0 oc ox0 (sv_ow.refl h) r hE hw

theorem ow_X17_surfaceAt_0 {O : Nat → Prop} {h0 : sv_H} (oc : sv_cl O h0) {x0 : Nat} {x1 : Int32} {x2 : Int32} {h : sv_H} (ox0 : O x0) (hs : sv_ow [1800, 1815, 1816, 1817, 1818, 1819, 1821, 1823, 1827, 1828] [1820, 1822, 1824, 1825] O h0 h) : sv_fr (sv_ow [1800, 1815, 1816, 1817, 1818, 1819, 1821, 1823, 1827, 1828] [1820, 1822, 1824, 1825] O) h0 (fn_X17_surfaceAt x0 x1 x2 h) := by
  unfold fn_X17_surfaceAt
  refine fr_if ?_ fr_no
  refine fr_st (fun _ e => ow_pI hs (by decide) ox0 e) (fun h hs => ?_)
  refine fr_cl (fun _ _ e => (by rw [ro_X17_isPixel e]; exact hs)) (fun _ h hs => ?_)
  refine fr_if ?_ ?_
  · exact fr_rt hs
  · refine fr_cl (fun _ _ e => (hs.trans ((ow_X17_column (oc.of hs) ox0 e).weak (by decide) (by decide)))) (fun _ h hs => ?_)
    refine fr_be (fun v5 e => ?_)
    have ov5 := ow_gR hs ox0 e
    clear e
    refine fr_bd (fun _ => ?_)
    exact fr_rt hs
theorem ow_X17_surfaceAt {O : Nat → Prop} {x0 : Nat} {x1 : Int32} {x2 : Int32} {h : sv_H} {r : Int32} {hE : sv_H} (oc : sv_cl O h) (ox0 : O x0) (hw : fn_X17_surfaceAt x0 x1 x2 h = some (r, hE)) : sv_ow [1800, 1815, 1816, 1817, 1818, 1819, 1821, 1823, 1827, 1828] [1820, 1822, 1824, 1825] O h hE := ow_X17_surfaceAt_0 oc ox0 (sv_ow.refl h) r hE hw

theorem ow_X12_metAt_12 {O : Nat → Prop} {h0 : sv_H} (oc : sv_cl O h0) {h : sv_H} (hs : sv_ow [406, 407, 408, 409, 410, 1004, 1005, 1006, 1007] [1001, 1002, 1003, 400, 401, 402, 403, 404, 405] O h0 h) : sv_fr (sv_ow [406, 407, 408, 409, 410, 1004, 1005, 1006, 1007] [1001, 1002, 1003, 400, 401, 402, 403, 404, 405] O) h0 (fn_X12_metAt_12 h) := by
  unfold fn_X12_metAt_12
  exact fr_rt hs
theorem ow_X12_metAt_50 {O : Nat → Prop} {h0 : sv_H} (oc : sv_cl O h0) {s0 : Int32} {h : sv_H} (hs : sv_ow [406, 407, 408, 409, 410, 1004, 1005, 1006, 1007] [1001, 1002, 1003, 400, 401, 402, 403, 404, 405] O h0 h) : sv_fr (sv_ow [406, 407, 408, 409, 410, 1004, 1005, 1006, 1007] [1001, 1002, 1003, 400, 401, 402, 403, 404, 405] O) h0 (fn_X12_metAt_50 s0 h) := by
  unfold fn_X12_metAt_50
  exact fr_rt hs
theorem ow_X12_metAt_0 {O : Nat → Prop} {h0 : sv_H} (oc : sv_cl O h0) {x0 : Nat} {x1 : Int32} {x2 : Int32} {h : sv_H} (ox0 : O x0) (hs : sv_ow [406, 407, 408, 409, 410, 1004, 1005, 1006, 1007] [1001, 1002, 1003, 400, 401, 402, 403, 404, 405] O h0 h) : sv_fr (sv_ow [406, 407, 408, 409, 410, 1004, 1005, 1006, 1007] [1001, 1002, 1003, 400, 401, 402, 403, 404, 405] O) h0 (fn_X12_metAt x0 x1 x2 h) := by
  unfold fn_X12_metAt
  refine fr_if ?_ fr_no
  refine fr_cl (fun _ _ e => (by rw [ro_X12_isSeen e]; exact hs)) (fun _ h hs => ?_)
  refine fr_if ?_ ?_
  · exact ow_X12_metAt_12 oc hs
  · refine fr_if ?_ ?_
    · refine fr_be (fun v3 e => ?_)
      have ov3 := ow_gO oc hs ox0 e
      clear e
      refine fr_be (fun v4 e => ?_)
      have ov4 := ow_gO oc hs ox0 e
      clear e
      refine fr_cl (fun _ _ e => (hs.trans ((ow_X9_look (oc.of hs) ov3 ov4 e).weak (by decide) (by decide)))) (fun _ h hs => ?_)
      refine fr_be (fun v6 e => ?_)
      have ov6 := ow_gO oc hs ox0 e
      clear e
      refine fr_bd (fun _ => ?_)
      refine fr_if ?_ ?_
      · exact ow_X12_metAt_50 oc hs
      · refine fr_be (fun v8 e => ?_)
        have ov8 := ow_gO oc hs ox0 e
        clear e
        refine fr_be (fun v9 e => ?_)
        have ov9 := ow_gR hs ov8 e
        clear e
        refine fr_bd (fun _ => ?_)
        exact ow_X12_metAt_50 oc hs
    · exact ow_X12_metAt_12 oc hs
theorem ow_X12_metAt {O : Nat → Prop} {x0 : Nat} {x1 : Int32} {x2 : Int32} {h : sv_H} {r : Int32} {hE : sv_H} (oc : sv_cl O h) (ox0 : O x0) (hw : fn_X12_metAt x0 x1 x2 h = some (r, hE)) : sv_ow [406, 407, 408, 409, 410, 1004, 1005, 1006, 1007] [1001, 1002, 1003, 400, 401, 402, 403, 404, 405] O h hE := ow_X12_metAt_0 oc ox0 (sv_ow.refl h) r hE hw

theorem ow_X17_metAt_43 {O : Nat → Prop} {h0 : sv_H} (oc : sv_cl O h0) {s0 : Int32} {h : sv_H} (hs : sv_ow [1800, 1815, 1816, 1817, 1818, 1819, 1821, 1823, 1827, 1828] [1820, 1822, 1824, 1825] O h0 h) : sv_fr (sv_ow [1800, 1815, 1816, 1817, 1818, 1819, 1821, 1823, 1827, 1828] [1820, 1822, 1824, 1825] O) h0 (fn_X17_metAt_43 s0 h) := by
  unfold fn_X17_metAt_43
  exact fr_rt hs
theorem ow_X17_metAt_42 {O : Nat → Prop} {h0 : sv_H} (oc : sv_cl O h0) {h : sv_H} (hs : sv_ow [1800, 1815, 1816, 1817, 1818, 1819, 1821, 1823, 1827, 1828] [1820, 1822, 1824, 1825] O h0 h) : sv_fr (sv_ow [1800, 1815, 1816, 1817, 1818, 1819, 1821, 1823, 1827, 1828] [1820, 1822, 1824, 1825] O) h0 (fn_X17_metAt_42 h) := by
  unfold fn_X17_metAt_42
  exact ow_X17_metAt_43 oc hs
theorem ow_X17_metAt_0 {O : Nat → Prop} {h0 : sv_H} (oc : sv_cl O h0) {x0 : Nat} {x1 : Int32} {x2 : Int32} {h : sv_H} (ox0 : O x0) (hs : sv_ow [1800, 1815, 1816, 1817, 1818, 1819, 1821, 1823, 1827, 1828] [1820, 1822, 1824, 1825] O h0 h) : sv_fr (sv_ow [1800, 1815, 1816, 1817, 1818, 1819, 1821, 1823, 1827, 1828] [1820, 1822, 1824, 1825] O) h0 (fn_X17_metAt x0 x1 x2 h) := by
  unfold fn_X17_metAt
  refine fr_if ?_ fr_no
  refine fr_st (fun _ e => ow_pI hs (by decide) ox0 e) (fun h hs => ?_)
  refine fr_cl (fun _ _ e => (by rw [ro_X17_isPixel e]; exact hs)) (fun _ h hs => ?_)
  refine fr_if ?_ ?_
  · exact fr_rt hs
  · refine fr_cl (fun _ _ e => (hs.trans ((ow_X17_column (oc.of hs) ox0 e).weak (by decide) (by decide)))) (fun _ h hs => ?_)
    refine fr_if ?_ ?_
    · exact ow_X17_metAt_42 oc hs
    · refine fr_bd (fun _ => ?_)
      refine fr_if ?_ ?_
      · exact ow_X17_metAt_42 oc hs
      · refine fr_be (fun v6 e => ?_)
        have ov6 := ow_gR hs ox0 e
        clear e
        refine fr_bd (fun _ => ?_)
        exact ow_X17_metAt_43 oc hs
theorem ow_X17_metAt {O : Nat → Prop} {x0 : Nat} {x1 : Int32} {x2 : Int32} {h : sv_H} {r : Int32} {hE : sv_H} (oc : sv_cl O h) (ox0 : O x0) (hw : fn_X17_metAt x0 x1 x2 h = some (r, hE)) : sv_ow [1800, 1815, 1816, 1817, 1818, 1819, 1821, 1823, 1827, 1828] [1820, 1822, 1824, 1825] O h hE := ow_X17_metAt_0 oc ox0 (sv_ow.refl h) r hE hw

theorem ow_X12_frameOf_62b {O : Nat → Prop} {h0 : sv_H} (oc : sv_cl O h0) {k36 : Nat → Int64 → Int64 → Int32 → sv_H → Option (Int64 × sv_H)} (hk36 : ∀ {x0 : Nat} {x1 : Int64} {x3 : Int64} {x5 : Int32} {h : sv_H}, O x0 → sv_ow [406, 407, 408, 409, 410, 1004, 1005, 1006, 1007] [1001, 1002, 1003, 400, 401, 402, 403, 404, 405] O h0 h → sv_fr (sv_ow [406, 407, 408, 409, 410, 1004, 1005, 1006, 1007] [1001, 1002, 1003, 400, 401, 402, 403, 404, 405] O) h0 (k36 x0 x1 x3 x5 h)) {k62 : Nat → Int64 → Int64 → Int32 → Int64 → Int32 → sv_H → Option (Int64 × sv_H)} (hk62 : ∀ {x0 : Nat} {x1 : Int64} {x3 : Int64} {x5 : Int32} {x6 : Int64} {x8 : Int32} {h : sv_H}, O x0 → sv_ow [406, 407, 408, 409, 410, 1004, 1005, 1006, 1007] [1001, 1002, 1003, 400, 401, 402, 403, 404, 405] O h0 h → sv_fr (sv_ow [406, 407, 408, 409, 410, 1004, 1005, 1006, 1007] [1001, 1002, 1003, 400, 401, 402, 403, 404, 405] O) h0 (k62 x0 x1 x3 x5 x6 x8 h)) {x0 : Nat} {x1 : Int64} {x3 : Int64} {x5 : Int32} {x6 : Int64} {x8 : Int32} {h : sv_H} (ox0 : O x0) (hs : sv_ow [406, 407, 408, 409, 410, 1004, 1005, 1006, 1007] [1001, 1002, 1003, 400, 401, 402, 403, 404, 405] O h0 h) : sv_fr (sv_ow [406, 407, 408, 409, 410, 1004, 1005, 1006, 1007] [1001, 1002, 1003, 400, 401, 402, 403, 404, 405] O) h0 (fn_X12_frameOf_62b k36 k62 x0 x1 x3 x5 x6 x8 h) := by
  unfold fn_X12_frameOf_62b
  refine fr_if ?_ ?_
  · exact hk36 ox0 hs
  · refine fr_be (fun v1 e => ?_)
    have ov1 := ow_gO oc hs ox0 e
    clear e
    refine fr_be (fun v2 e => ?_)
    have ov2 := ow_gR hs ov1 e
    clear e
    refine fr_bd (fun _ => ?_)
    exact hk62 ox0 hs
theorem ow_X12_frameOf_62 {O : Nat → Prop} {h0 : sv_H} (oc : sv_cl O h0) {k36 : Nat → Int64 → Int64 → Int32 → sv_H → Option (Int64 × sv_H)} (hk36 : ∀ {x0 : Nat} {x1 : Int64} {x3 : Int64} {x5 : Int32} {h : sv_H}, O x0 → sv_ow [406, 407, 408, 409, 410, 1004, 1005, 1006, 1007] [1001, 1002, 1003, 400, 401, 402, 403, 404, 405] O h0 h → sv_fr (sv_ow [406, 407, 408, 409, 410, 1004, 1005, 1006, 1007] [1001, 1002, 1003, 400, 401, 402, 403, 404, 405] O) h0 (k36 x0 x1 x3 x5 h)) : ∀ (n : Nat) {x0 : Nat} {x1 : Int64} {x3 : Int64} {x5 : Int32} {x6 : Int64} {x8 : Int32} {h : sv_H}, O x0 → sv_ow [406, 407, 408, 409, 410, 1004, 1005, 1006, 1007] [1001, 1002, 1003, 400, 401, 402, 403, 404, 405] O h0 h → sv_fr (sv_ow [406, 407, 408, 409, 410, 1004, 1005, 1006, 1007] [1001, 1002, 1003, 400, 401, 402, 403, 404, 405] O) h0 (fn_X12_frameOf_62 k36 n x0 x1 x3 x5 x6 x8 h) := by
  intro n
  induction n with
  | zero => intro x0 x1 x3 x5 x6 x8 h ox0 hs r hE e; cases (show (none : Option (Int64 × sv_H)) = some (r, hE) from e)
  | succ n ih => intro x0 x1 x3 x5 x6 x8 h ox0 hs; exact ow_X12_frameOf_62b oc hk36 (fun ox0 hs => ih ox0 hs) ox0 hs
theorem ow_X12_frameOf_36b {O : Nat → Prop} {h0 : sv_H} (oc : sv_cl O h0) {k36 : Nat → Int64 → Int64 → Int32 → sv_H → Option (Int64 × sv_H)} (hk36 : ∀ {x0 : Nat} {x1 : Int64} {x3 : Int64} {x5 : Int32} {h : sv_H}, O x0 → sv_ow [406, 407, 408, 409, 410, 1004, 1005, 1006, 1007] [1001, 1002, 1003, 400, 401, 402, 403, 404, 405] O h0 h → sv_fr (sv_ow [406, 407, 408, 409, 410, 1004, 1005, 1006, 1007] [1001, 1002, 1003, 400, 401, 402, 403, 404, 405] O) h0 (k36 x0 x1 x3 x5 h)) {x0 : Nat} {x1 : Int64} {x3 : Int64} {x5 : Int32} {h : sv_H} (ox0 : O x0) (hs : sv_ow [406, 407, 408, 409, 410, 1004, 1005, 1006, 1007] [1001, 1002, 1003, 400, 401, 402, 403, 404, 405] O h0 h) : sv_fr (sv_ow [406, 407, 408, 409, 410, 1004, 1005, 1006, 1007] [1001, 1002, 1003, 400, 401, 402, 403, 404, 405] O) h0 (fn_X12_frameOf_36b k36 x0 x1 x3 x5 h) := by
  unfold fn_X12_frameOf_36b
  refine fr_if ?_ ?_
  · exact fr_rt hs
  · refine fr_be (fun v1 e => ?_)
    have ov1 := ow_gO oc hs ox0 e
    clear e
    refine fr_be (fun v2 e => ?_)
    have ov2 := ow_gO oc hs ox0 e
    clear e
    refine fr_cl (fun _ _ e => (hs.trans ((ow_X9_look (oc.of hs) ov1 ov2 e).weak (by decide) (by decide)))) (fun _ h hs => ?_)
    exact ow_X12_frameOf_62 oc hk36 sv_fuel ox0 hs
theorem ow_X12_frameOf_36 {O : Nat → Prop} {h0 : sv_H} (oc : sv_cl O h0) : ∀ (n : Nat) {x0 : Nat} {x1 : Int64} {x3 : Int64} {x5 : Int32} {h : sv_H}, O x0 → sv_ow [406, 407, 408, 409, 410, 1004, 1005, 1006, 1007] [1001, 1002, 1003, 400, 401, 402, 403, 404, 405] O h0 h → sv_fr (sv_ow [406, 407, 408, 409, 410, 1004, 1005, 1006, 1007] [1001, 1002, 1003, 400, 401, 402, 403, 404, 405] O) h0 (fn_X12_frameOf_36 n x0 x1 x3 x5 h) := by
  intro n
  induction n with
  | zero => intro x0 x1 x3 x5 h ox0 hs r hE e; cases (show (none : Option (Int64 × sv_H)) = some (r, hE) from e)
  | succ n ih => intro x0 x1 x3 x5 h ox0 hs; exact ow_X12_frameOf_36b oc (fun ox0 hs => ih ox0 hs) ox0 hs
theorem ow_X12_frameOf_13b {O : Nat → Prop} {h0 : sv_H} (oc : sv_cl O h0) {k13 : Nat → Int64 → Int32 → sv_H → Option (Int64 × sv_H)} (hk13 : ∀ {x0 : Nat} {x1 : Int64} {x3 : Int32} {h : sv_H}, O x0 → sv_ow [406, 407, 408, 409, 410, 1004, 1005, 1006, 1007] [1001, 1002, 1003, 400, 401, 402, 403, 404, 405] O h0 h → sv_fr (sv_ow [406, 407, 408, 409, 410, 1004, 1005, 1006, 1007] [1001, 1002, 1003, 400, 401, 402, 403, 404, 405] O) h0 (k13 x0 x1 x3 h)) {x0 : Nat} {x1 : Int64} {x3 : Int32} {h : sv_H} (ox0 : O x0) (hs : sv_ow [406, 407, 408, 409, 410, 1004, 1005, 1006, 1007] [1001, 1002, 1003, 400, 401, 402, 403, 404, 405] O h0 h) : sv_fr (sv_ow [406, 407, 408, 409, 410, 1004, 1005, 1006, 1007] [1001, 1002, 1003, 400, 401, 402, 403, 404, 405] O) h0 (fn_X12_frameOf_13b k13 x0 x1 x3 h) := by
  unfold fn_X12_frameOf_13b
  refine fr_if ?_ ?_
  · exact ow_X12_frameOf_36 oc sv_fuel ox0 hs
  · exact hk13 ox0 hs
theorem ow_X12_frameOf_13 {O : Nat → Prop} {h0 : sv_H} (oc : sv_cl O h0) : ∀ (n : Nat) {x0 : Nat} {x1 : Int64} {x3 : Int32} {h : sv_H}, O x0 → sv_ow [406, 407, 408, 409, 410, 1004, 1005, 1006, 1007] [1001, 1002, 1003, 400, 401, 402, 403, 404, 405] O h0 h → sv_fr (sv_ow [406, 407, 408, 409, 410, 1004, 1005, 1006, 1007] [1001, 1002, 1003, 400, 401, 402, 403, 404, 405] O) h0 (fn_X12_frameOf_13 n x0 x1 x3 h) := by
  intro n
  induction n with
  | zero => intro x0 x1 x3 h ox0 hs r hE e; cases (show (none : Option (Int64 × sv_H)) = some (r, hE) from e)
  | succ n ih => intro x0 x1 x3 h ox0 hs; exact ow_X12_frameOf_13b oc (fun ox0 hs => ih ox0 hs) ox0 hs
theorem ow_X12_frameOf_0 {O : Nat → Prop} {h0 : sv_H} (oc : sv_cl O h0) {x0 : Nat} {h : sv_H} (ox0 : O x0) (hs : sv_ow [406, 407, 408, 409, 410, 1004, 1005, 1006, 1007] [1001, 1002, 1003, 400, 401, 402, 403, 404, 405] O h0 h) : sv_fr (sv_ow [406, 407, 408, 409, 410, 1004, 1005, 1006, 1007] [1001, 1002, 1003, 400, 401, 402, 403, 404, 405] O) h0 (fn_X12_frameOf x0 h) := by
  unfold fn_X12_frameOf
  refine fr_if ?_ fr_no
  refine fr_cl (fun _ _ e => (by rw [ro_X12_hasMap e]; exact hs)) (fun _ h hs => ?_)
  refine fr_if ?_ ?_
  · exact fr_rt hs
  · exact ow_X12_frameOf_13 oc sv_fuel ox0 hs
theorem ow_X12_frameOf {O : Nat → Prop} {x0 : Nat} {h : sv_H} {r : Int64} {hE : sv_H} (oc : sv_cl O h) (ox0 : O x0) (hw : fn_X12_frameOf x0 h = some (r, hE)) : sv_ow [406, 407, 408, 409, 410, 1004, 1005, 1006, 1007] [1001, 1002, 1003, 400, 401, 402, 403, 404, 405] O h hE := ow_X12_frameOf_0 oc ox0 (sv_ow.refl h) r hE hw

theorem ow_X17_frameOf_68b {O : Nat → Prop} {h0 : sv_H} (oc : sv_cl O h0) {k68 : Nat → Int64 → Int32 → sv_H → Option (Int64 × sv_H)} (hk68 : ∀ {x0 : Nat} {x1 : Int64} {x3 : Int32} {h : sv_H}, O x0 → sv_ow [1800, 1815, 1816, 1817, 1818, 1819, 1821, 1823, 1827, 1828] [1820, 1822, 1824, 1825, 1826] O h0 h → sv_fr (sv_ow [1800, 1815, 1816, 1817, 1818, 1819, 1821, 1823, 1827, 1828] [1820, 1822, 1824, 1825, 1826] O) h0 (k68 x0 x1 x3 h)) {x0 : Nat} {x1 : Int64} {x3 : Int32} {h : sv_H} (ox0 : O x0) (hs : sv_ow [1800, 1815, 1816, 1817, 1818, 1819, 1821, 1823, 1827, 1828] [1820, 1822, 1824, 1825, 1826] O h0 h) : sv_fr (sv_ow [1800, 1815, 1816, 1817, 1818, 1819, 1821, 1823, 1827, 1828] [1820, 1822, 1824, 1825, 1826] O) h0 (fn_X17_frameOf_68b k68 x0 x1 x3 h) := by
  unfold fn_X17_frameOf_68b
  refine fr_if ?_ ?_
  · exact fr_rt hs
  · refine fr_be (fun v1 e => ?_)
    have ov1 := ow_gR hs ox0 e
    clear e
    refine fr_bd (fun _ => ?_)
    exact hk68 ox0 hs
theorem ow_X17_frameOf_68 {O : Nat → Prop} {h0 : sv_H} (oc : sv_cl O h0) : ∀ (n : Nat) {x0 : Nat} {x1 : Int64} {x3 : Int32} {h : sv_H}, O x0 → sv_ow [1800, 1815, 1816, 1817, 1818, 1819, 1821, 1823, 1827, 1828] [1820, 1822, 1824, 1825, 1826] O h0 h → sv_fr (sv_ow [1800, 1815, 1816, 1817, 1818, 1819, 1821, 1823, 1827, 1828] [1820, 1822, 1824, 1825, 1826] O) h0 (fn_X17_frameOf_68 n x0 x1 x3 h) := by
  intro n
  induction n with
  | zero => intro x0 x1 x3 h ox0 hs r hE e; cases (show (none : Option (Int64 × sv_H)) = some (r, hE) from e)
  | succ n ih => intro x0 x1 x3 h ox0 hs; exact ow_X17_frameOf_68b oc (fun ox0 hs => ih ox0 hs) ox0 hs
theorem ow_X17_frameOf_29b {O : Nat → Prop} {h0 : sv_H} (oc : sv_cl O h0) {k16 : Nat → Int32 → sv_H → Option (Int64 × sv_H)} (hk16 : ∀ {x0 : Nat} {x1 : Int32} {h : sv_H}, O x0 → sv_ow [1800, 1815, 1816, 1817, 1818, 1819, 1821, 1823, 1827, 1828] [1820, 1822, 1824, 1825, 1826] O h0 h → sv_fr (sv_ow [1800, 1815, 1816, 1817, 1818, 1819, 1821, 1823, 1827, 1828] [1820, 1822, 1824, 1825, 1826] O) h0 (k16 x0 x1 h)) {k29 : Nat → Int32 → Int32 → sv_H → Option (Int64 × sv_H)} (hk29 : ∀ {x0 : Nat} {x1 : Int32} {x2 : Int32} {h : sv_H}, O x0 → sv_ow [1800, 1815, 1816, 1817, 1818, 1819, 1821, 1823, 1827, 1828] [1820, 1822, 1824, 1825, 1826] O h0 h → sv_fr (sv_ow [1800, 1815, 1816, 1817, 1818, 1819, 1821, 1823, 1827, 1828] [1820, 1822, 1824, 1825, 1826] O) h0 (k29 x0 x1 x2 h)) {x0 : Nat} {x1 : Int32} {x2 : Int32} {h : sv_H} (ox0 : O x0) (hs : sv_ow [1800, 1815, 1816, 1817, 1818, 1819, 1821, 1823, 1827, 1828] [1820, 1822, 1824, 1825, 1826] O h0 h) : sv_fr (sv_ow [1800, 1815, 1816, 1817, 1818, 1819, 1821, 1823, 1827, 1828] [1820, 1822, 1824, 1825, 1826] O) h0 (fn_X17_frameOf_29b k16 k29 x0 x1 x2 h) := by
  unfold fn_X17_frameOf_29b
  refine fr_if ?_ ?_
  · exact hk16 ox0 hs
  · refine fr_be (fun v1 e => ?_)
    have ov1 := ow_gR hs ox0 e
    clear e
    refine fr_be (fun v2 e => ?_)
    have ov2 := ow_gR hs ox0 e
    clear e
    refine fr_bd (fun _ => ?_)
    refine fr_st (fun _ e => ow_sI hs ov1 (by decide) e) (fun h hs => ?_)
    exact hk29 ox0 hs
theorem ow_X17_frameOf_29 {O : Nat → Prop} {h0 : sv_H} (oc : sv_cl O h0) {k16 : Nat → Int32 → sv_H → Option (Int64 × sv_H)} (hk16 : ∀ {x0 : Nat} {x1 : Int32} {h : sv_H}, O x0 → sv_ow [1800, 1815, 1816, 1817, 1818, 1819, 1821, 1823, 1827, 1828] [1820, 1822, 1824, 1825, 1826] O h0 h → sv_fr (sv_ow [1800, 1815, 1816, 1817, 1818, 1819, 1821, 1823, 1827, 1828] [1820, 1822, 1824, 1825, 1826] O) h0 (k16 x0 x1 h)) : ∀ (n : Nat) {x0 : Nat} {x1 : Int32} {x2 : Int32} {h : sv_H}, O x0 → sv_ow [1800, 1815, 1816, 1817, 1818, 1819, 1821, 1823, 1827, 1828] [1820, 1822, 1824, 1825, 1826] O h0 h → sv_fr (sv_ow [1800, 1815, 1816, 1817, 1818, 1819, 1821, 1823, 1827, 1828] [1820, 1822, 1824, 1825, 1826] O) h0 (fn_X17_frameOf_29 k16 n x0 x1 x2 h) := by
  intro n
  induction n with
  | zero => intro x0 x1 x2 h ox0 hs r hE e; cases (show (none : Option (Int64 × sv_H)) = some (r, hE) from e)
  | succ n ih => intro x0 x1 x2 h ox0 hs; exact ow_X17_frameOf_29b oc hk16 (fun ox0 hs => ih ox0 hs) ox0 hs
theorem ow_X17_frameOf_16b {O : Nat → Prop} {h0 : sv_H} (oc : sv_cl O h0) {k16 : Nat → Int32 → sv_H → Option (Int64 × sv_H)} (hk16 : ∀ {x0 : Nat} {x1 : Int32} {h : sv_H}, O x0 → sv_ow [1800, 1815, 1816, 1817, 1818, 1819, 1821, 1823, 1827, 1828] [1820, 1822, 1824, 1825, 1826] O h0 h → sv_fr (sv_ow [1800, 1815, 1816, 1817, 1818, 1819, 1821, 1823, 1827, 1828] [1820, 1822, 1824, 1825, 1826] O) h0 (k16 x0 x1 h)) {x0 : Nat} {x1 : Int32} {h : sv_H} (ox0 : O x0) (hs : sv_ow [1800, 1815, 1816, 1817, 1818, 1819, 1821, 1823, 1827, 1828] [1820, 1822, 1824, 1825, 1826] O h0 h) : sv_fr (sv_ow [1800, 1815, 1816, 1817, 1818, 1819, 1821, 1823, 1827, 1828] [1820, 1822, 1824, 1825, 1826] O) h0 (fn_X17_frameOf_16b k16 x0 x1 h) := by
  unfold fn_X17_frameOf_16b
  refine fr_if ?_ ?_
  · exact ow_X17_frameOf_68 oc sv_fuel ox0 hs
  · refine fr_cl (fun _ _ e => (hs.trans ((ow_X17_column (oc.of hs) ox0 e).weak (by decide) (by decide)))) (fun _ h hs => ?_)
    exact ow_X17_frameOf_29 oc hk16 sv_fuel ox0 hs
theorem ow_X17_frameOf_16 {O : Nat → Prop} {h0 : sv_H} (oc : sv_cl O h0) : ∀ (n : Nat) {x0 : Nat} {x1 : Int32} {h : sv_H}, O x0 → sv_ow [1800, 1815, 1816, 1817, 1818, 1819, 1821, 1823, 1827, 1828] [1820, 1822, 1824, 1825, 1826] O h0 h → sv_fr (sv_ow [1800, 1815, 1816, 1817, 1818, 1819, 1821, 1823, 1827, 1828] [1820, 1822, 1824, 1825, 1826] O) h0 (fn_X17_frameOf_16 n x0 x1 h) := by
  intro n
  induction n with
  | zero => intro x0 x1 h ox0 hs r hE e; cases (show (none : Option (Int64 × sv_H)) = some (r, hE) from e)
  | succ n ih => intro x0 x1 h ox0 hs; exact ow_X17_frameOf_16b oc (fun ox0 hs => ih ox0 hs) ox0 hs
theorem ow_X17_frameOf_0 {O : Nat → Prop} {h0 : sv_H} (oc : sv_cl O h0) {x0 : Nat} {h : sv_H} (ox0 : O x0) (hs : sv_ow [1800, 1815, 1816, 1817, 1818, 1819, 1821, 1823, 1827, 1828] [1820, 1822, 1824, 1825, 1826] O h0 h) : sv_fr (sv_ow [1800, 1815, 1816, 1817, 1818, 1819, 1821, 1823, 1827, 1828] [1820, 1822, 1824, 1825, 1826] O) h0 (fn_X17_frameOf x0 h) := by
  unfold fn_X17_frameOf
  refine fr_if ?_ fr_no
  refine fr_st (fun _ e => ow_pI hs (by decide) ox0 e) (fun h hs => ?_)
  refine fr_bd (fun _ => ?_)
  refine fr_if ?_ ?_
  · exact fr_rt hs
  · exact ow_X17_frameOf_16 oc sv_fuel ox0 hs
theorem ow_X17_frameOf {O : Nat → Prop} {x0 : Nat} {h : sv_H} {r : Int64} {hE : sv_H} (oc : sv_cl O h) (ox0 : O x0) (hw : fn_X17_frameOf x0 h = some (r, hE)) : sv_ow [1800, 1815, 1816, 1817, 1818, 1819, 1821, 1823, 1827, 1828] [1820, 1822, 1824, 1825, 1826] O h hE := ow_X17_frameOf_0 oc ox0 (sv_ow.refl h) r hE hw

theorem ow_X16_piece_0 {O : Nat → Prop} {h0 : sv_H} (oc : sv_cl O h0) {x0 : Nat} {x1 : Int32} {x2 : Int64} {x4 : Int64} {x6 : Int64} {x8 : Int64} {h : sv_H} (ox0 : O x0) (hs : sv_ow [1711] [1706, 1707, 1708, 1709, 1710] O h0 h) : sv_fr (sv_ow [1711] [1706, 1707, 1708, 1709, 1710] O) h0 (fn_X16_piece x0 x1 x2 x4 x6 x8 h) := by
  unfold fn_X16_piece
  refine fr_if ?_ fr_no
  refine fr_be (fun v1 e => ?_)
  have ov1 := ow_gR hs ox0 e
  clear e
  refine fr_bd (fun _ => ?_)
  refine fr_st (fun _ e => ow_sI hs ov1 (by decide) e) (fun h hs => ?_)
  refine fr_be (fun v4 e => ?_)
  have ov4 := ow_gR hs ox0 e
  clear e
  refine fr_bd (fun _ => ?_)
  refine fr_st (fun _ e => ow_sJ hs ov4 (by decide) e) (fun h hs => ?_)
  refine fr_be (fun v7 e => ?_)
  have ov7 := ow_gR hs ox0 e
  clear e
  refine fr_bd (fun _ => ?_)
  refine fr_st (fun _ e => ow_sJ hs ov7 (by decide) e) (fun h hs => ?_)
  refine fr_be (fun v10 e => ?_)
  have ov10 := ow_gR hs ox0 e
  clear e
  refine fr_bd (fun _ => ?_)
  refine fr_st (fun _ e => ow_sJ hs ov10 (by decide) e) (fun h hs => ?_)
  refine fr_be (fun v13 e => ?_)
  have ov13 := ow_gR hs ox0 e
  clear e
  refine fr_bd (fun _ => ?_)
  refine fr_st (fun _ e => ow_sJ hs ov13 (by decide) e) (fun h hs => ?_)
  refine fr_bd (fun _ => ?_)
  refine fr_st (fun _ e => ow_pI hs (by decide) ox0 e) (fun h hs => ?_)
  refine fr_bd (fun _ => ?_)
  exact fr_rt hs
theorem ow_X16_piece {O : Nat → Prop} {x0 : Nat} {x1 : Int32} {x2 : Int64} {x4 : Int64} {x6 : Int64} {x8 : Int64} {h : sv_H} {r : Int32} {hE : sv_H} (oc : sv_cl O h) (ox0 : O x0) (hw : fn_X16_piece x0 x1 x2 x4 x6 x8 h = some (r, hE)) : sv_ow [1711] [1706, 1707, 1708, 1709, 1710] O h hE := ow_X16_piece_0 oc ox0 (sv_ow.refl h) r hE hw

theorem ow_X16_push_0 {O : Nat → Prop} {h0 : sv_H} (oc : sv_cl O h0) {x0 : Nat} {x1 : Int32} {x2 : Int32} {x3 : Int32} {x4 : Int32} {h : sv_H} (ox0 : O x0) (hs : sv_ow [1717] [1713, 1714, 1715, 1716] O h0 h) : sv_fr (sv_ow [1717] [1713, 1714, 1715, 1716] O) h0 (fn_X16_push x0 x1 x2 x3 x4 h) := by
  unfold fn_X16_push
  refine fr_if ?_ fr_no
  refine fr_be (fun v1 e => ?_)
  have ov1 := ow_gR hs ox0 e
  clear e
  refine fr_bd (fun _ => ?_)
  refine fr_st (fun _ e => ow_sI hs ov1 (by decide) e) (fun h hs => ?_)
  refine fr_be (fun v4 e => ?_)
  have ov4 := ow_gR hs ox0 e
  clear e
  refine fr_bd (fun _ => ?_)
  refine fr_st (fun _ e => ow_sI hs ov4 (by decide) e) (fun h hs => ?_)
  refine fr_be (fun v7 e => ?_)
  have ov7 := ow_gR hs ox0 e
  clear e
  refine fr_bd (fun _ => ?_)
  refine fr_st (fun _ e => ow_sI hs ov7 (by decide) e) (fun h hs => ?_)
  refine fr_be (fun v10 e => ?_)
  have ov10 := ow_gR hs ox0 e
  clear e
  refine fr_bd (fun _ => ?_)
  refine fr_st (fun _ e => ow_sI hs ov10 (by decide) e) (fun h hs => ?_)
  refine fr_bd (fun _ => ?_)
  refine fr_st (fun _ e => ow_pI hs (by decide) ox0 e) (fun h hs => ?_)
  exact fr_rt hs
theorem ow_X16_push {O : Nat → Prop} {x0 : Nat} {x1 : Int32} {x2 : Int32} {x3 : Int32} {x4 : Int32} {h : sv_H} {r : Unit} {hE : sv_H} (oc : sv_cl O h) (ox0 : O x0) (hw : fn_X16_push x0 x1 x2 x3 x4 h = some (r, hE)) : sv_ow [1717] [1713, 1714, 1715, 1716] O h hE := ow_X16_push_0 oc ox0 (sv_ow.refl h) r hE hw

theorem ow_X16_part_156 {O : Nat → Prop} {h0 : sv_H} (oc : sv_cl O h0) {s0 : Int32} {h : sv_H} (hs : sv_ow [1711] [1706, 1707, 1708, 1709, 1710] O h0 h) : sv_fr (sv_ow [1711] [1706, 1707, 1708, 1709, 1710] O) h0 (fn_X16_part_156 s0 h) := by
  unfold fn_X16_part_156
  exact fr_rt hs
theorem ow_X16_part_102 {O : Nat → Prop} {h0 : sv_H} (oc : sv_cl O h0) {x0 : Nat} {x1 : Int32} {x4 : Int32} {x5 : Int64} {x7 : Int64} {s0 : Int32} {h : sv_H} (ox0 : O x0) (hs : sv_ow [1711] [1706, 1707, 1708, 1709, 1710] O h0 h) : sv_fr (sv_ow [1711] [1706, 1707, 1708, 1709, 1710] O) h0 (fn_X16_part_102 x0 x1 x4 x5 x7 s0 h) := by
  unfold fn_X16_part_102
  refine fr_if ?_ ?_
  · refine fr_be (fun v1 e => ?_)
    have ov1 := ow_gR hs ox0 e
    clear e
    refine fr_bd (fun _ => ?_)
    refine fr_be (fun v3 e => ?_)
    have ov3 := ow_gR hs ox0 e
    clear e
    refine fr_bd (fun _ => ?_)
    refine fr_cl (fun _ _ e => (hs.trans ((ow_X16_piece (oc.of hs) ox0 e).weak (by decide) (by decide)))) (fun _ h hs => ?_)
    exact ow_X16_part_156 oc hs
  · refine fr_be (fun v7 e => ?_)
    have ov7 := ow_gR hs ox0 e
    clear e
    refine fr_bd (fun _ => ?_)
    refine fr_be (fun v9 e => ?_)
    have ov9 := ow_gR hs ox0 e
    clear e
    refine fr_bd (fun _ => ?_)
    refine fr_cl (fun _ _ e => (hs.trans ((ow_X16_piece (oc.of hs) ox0 e).weak (by decide) (by decide)))) (fun _ h hs => ?_)
    exact ow_X16_part_156 oc hs
theorem ow_X16_part_74 {O : Nat → Prop} {h0 : sv_H} (oc : sv_cl O h0) {x0 : Nat} {x1 : Int32} {x2 : Int32} {x3 : Int32} {x4 : Int32} {x5 : Int64} {x7 : Int64} {h : sv_H} (ox0 : O x0) (hs : sv_ow [1711] [1706, 1707, 1708, 1709, 1710] O h0 h) : sv_fr (sv_ow [1711] [1706, 1707, 1708, 1709, 1710] O) h0 (fn_X16_part_74 x0 x1 x2 x3 x4 x5 x7 h) := by
  unfold fn_X16_part_74
  refine fr_be (fun v1 e => ?_)
  have ov1 := ow_gR hs ox0 e
  clear e
  refine fr_bd (fun _ => ?_)
  refine fr_be (fun v3 e => ?_)
  have ov3 := ow_gR hs ox0 e
  clear e
  refine fr_bd (fun _ => ?_)
  refine fr_cl (fun _ _ e => (by rw [ro_X16_sideAt e]; exact hs)) (fun _ h hs => ?_)
  refine fr_if ?_ ?_
  · exact ow_X16_part_102 oc ox0 hs
  · exact ow_X16_part_102 oc ox0 hs
theorem ow_X16_part_0 {O : Nat → Prop} {h0 : sv_H} (oc : sv_cl O h0) {x0 : Nat} {x1 : Int32} {x2 : Int32} {x3 : Int32} {h : sv_H} (ox0 : O x0) (hs : sv_ow [1711] [1706, 1707, 1708, 1709, 1710] O h0 h) : sv_fr (sv_ow [1711] [1706, 1707, 1708, 1709, 1710] O) h0 (fn_X16_part x0 x1 x2 x3 h) := by
  unfold fn_X16_part
  refine fr_if ?_ fr_no
  refine fr_be (fun v1 e => ?_)
  have ov1 := ow_gR hs ox0 e
  clear e
  refine fr_bd (fun _ => ?_)
  refine fr_be (fun v3 e => ?_)
  have ov3 := ow_gR hs ox0 e
  clear e
  refine fr_bd (fun _ => ?_)
  refine fr_be (fun v5 e => ?_)
  have ov5 := ow_gR hs ox0 e
  clear e
  refine fr_bd (fun _ => ?_)
  refine fr_cl (fun _ _ e => (by rw [ro_X16_sideOf e]; exact hs)) (fun _ h hs => ?_)
  refine fr_be (fun v9 e => ?_)
  have ov9 := ow_gR hs ox0 e
  clear e
  refine fr_bd (fun _ => ?_)
  refine fr_be (fun v11 e => ?_)
  have ov11 := ow_gR hs ox0 e
  clear e
  refine fr_bd (fun _ => ?_)
  refine fr_cl (fun _ _ e => (by rw [ro_X16_sideOf e]; exact hs)) (fun _ h hs => ?_)
  refine fr_if ?_ ?_
  · exact ow_X16_part_74 oc ox0 hs
  · exact ow_X16_part_74 oc ox0 hs
theorem ow_X16_part {O : Nat → Prop} {x0 : Nat} {x1 : Int32} {x2 : Int32} {x3 : Int32} {h : sv_H} {r : Int32} {hE : sv_H} (oc : sv_cl O h) (ox0 : O x0) (hw : fn_X16_part x0 x1 x2 x3 h = some (r, hE)) : sv_ow [1711] [1706, 1707, 1708, 1709, 1710] O h hE := ow_X16_part_0 oc ox0 (sv_ow.refl h) r hE hw

theorem ow_X16_collect_78 {O : Nat → Prop} {h0 : sv_H} (oc : sv_cl O h0) {k6 : Nat → Int32 → Int32 → Int32 → Int32 → Int32 → Int32 → Int32 → sv_H → Option (Int32 × sv_H)} (hk6 : ∀ {x0 : Nat} {x1 : Int32} {x2 : Int32} {x3 : Int32} {x4 : Int32} {x5 : Int32} {x6 : Int32} {x7 : Int32} {h : sv_H}, O x0 → sv_ow [1711] [1706, 1707, 1708, 1709, 1710, 1712] O h0 h → sv_fr (sv_ow [1711] [1706, 1707, 1708, 1709, 1710, 1712] O) h0 (k6 x0 x1 x2 x3 x4 x5 x6 x7 h)) {x0 : Nat} {x1 : Int32} {x2 : Int32} {x3 : Int32} {x4 : Int32} {x5 : Int32} {x6 : Int32} {x7 : Int32} {h : sv_H} (ox0 : O x0) (hs : sv_ow [1711] [1706, 1707, 1708, 1709, 1710, 1712] O h0 h) : sv_fr (sv_ow [1711] [1706, 1707, 1708, 1709, 1710, 1712] O) h0 (fn_X16_collect_78 k6 x0 x1 x2 x3 x4 x5 x6 x7 h) := by
  unfold fn_X16_collect_78
  exact hk6 ox0 hs
theorem ow_X16_collect_74 {O : Nat → Prop} {h0 : sv_H} (oc : sv_cl O h0) {k6 : Nat → Int32 → Int32 → Int32 → Int32 → Int32 → Int32 → Int32 → sv_H → Option (Int32 × sv_H)} (hk6 : ∀ {x0 : Nat} {x1 : Int32} {x2 : Int32} {x3 : Int32} {x4 : Int32} {x5 : Int32} {x6 : Int32} {x7 : Int32} {h : sv_H}, O x0 → sv_ow [1711] [1706, 1707, 1708, 1709, 1710, 1712] O h0 h → sv_fr (sv_ow [1711] [1706, 1707, 1708, 1709, 1710, 1712] O) h0 (k6 x0 x1 x2 x3 x4 x5 x6 x7 h)) {x0 : Nat} {x1 : Int32} {x2 : Int32} {x3 : Int32} {x4 : Int32} {x5 : Int32} {x6 : Int32} {x7 : Int32} {s0 : Nat} {s1 : Int32} {s2 : Int32} {h : sv_H} (ox0 : O x0) (os0 : sv_rl 1712 O h0 s0) (hs : sv_ow [1711] [1706, 1707, 1708, 1709, 1710, 1712] O h0 h) : sv_fr (sv_ow [1711] [1706, 1707, 1708, 1709, 1710, 1712] O) h0 (fn_X16_collect_74 k6 x0 x1 x2 x3 x4 x5 x6 x7 s0 s1 s2 h) := by
  unfold fn_X16_collect_74
  refine fr_st (fun _ e => ow_sI hs os0 (by decide) e) (fun h hs => ?_)
  exact ow_X16_collect_78 oc hk6 ox0 hs
theorem ow_X16_collect_45 {O : Nat → Prop} {h0 : sv_H} (oc : sv_cl O h0) {k6 : Nat → Int32 → Int32 → Int32 → Int32 → Int32 → Int32 → Int32 → sv_H → Option (Int32 × sv_H)} (hk6 : ∀ {x0 : Nat} {x1 : Int32} {x2 : Int32} {x3 : Int32} {x4 : Int32} {x5 : Int32} {x6 : Int32} {x7 : Int32} {h : sv_H}, O x0 → sv_ow [1711] [1706, 1707, 1708, 1709, 1710, 1712] O h0 h → sv_fr (sv_ow [1711] [1706, 1707, 1708, 1709, 1710, 1712] O) h0 (k6 x0 x1 x2 x3 x4 x5 x6 x7 h)) {x0 : Nat} {x1 : Int32} {x2 : Int32} {x3 : Int32} {x4 : Int32} {x5 : Int32} {x6 : Int32} {x7 : Int32} {x8 : Int32} {x9 : Int32} {h : sv_H} (ox0 : O x0) (hs : sv_ow [1711] [1706, 1707, 1708, 1709, 1710, 1712] O h0 h) : sv_fr (sv_ow [1711] [1706, 1707, 1708, 1709, 1710, 1712] O) h0 (fn_X16_collect_45 k6 x0 x1 x2 x3 x4 x5 x6 x7 x8 x9 h) := by
  unfold fn_X16_collect_45
  refine fr_be (fun v1 e => ?_)
  have ov1 := ow_gR hs ox0 e
  clear e
  refine fr_if ?_ ?_
  · refine fr_cl (fun _ _ e => (hs.trans ((ow_X16_part (oc.of hs) ox0 e).weak (by decide) (by decide)))) (fun _ h hs => ?_)
    exact ow_X16_collect_74 oc hk6 ox0 ov1 hs
  · exact ow_X16_collect_74 oc hk6 ox0 ov1 hs
theorem ow_X16_collect_6b {O : Nat → Prop} {h0 : sv_H} (oc : sv_cl O h0) {k6 : Nat → Int32 → Int32 → Int32 → Int32 → Int32 → Int32 → Int32 → sv_H → Option (Int32 × sv_H)} (hk6 : ∀ {x0 : Nat} {x1 : Int32} {x2 : Int32} {x3 : Int32} {x4 : Int32} {x5 : Int32} {x6 : Int32} {x7 : Int32} {h : sv_H}, O x0 → sv_ow [1711] [1706, 1707, 1708, 1709, 1710, 1712] O h0 h → sv_fr (sv_ow [1711] [1706, 1707, 1708, 1709, 1710, 1712] O) h0 (k6 x0 x1 x2 x3 x4 x5 x6 x7 h)) {x0 : Nat} {x1 : Int32} {x2 : Int32} {x3 : Int32} {x4 : Int32} {x5 : Int32} {x6 : Int32} {x7 : Int32} {h : sv_H} (ox0 : O x0) (hs : sv_ow [1711] [1706, 1707, 1708, 1709, 1710, 1712] O h0 h) : sv_fr (sv_ow [1711] [1706, 1707, 1708, 1709, 1710, 1712] O) h0 (fn_X16_collect_6b k6 x0 x1 x2 x3 x4 x5 x6 x7 h) := by
  unfold fn_X16_collect_6b
  refine fr_if ?_ ?_
  · exact fr_rt hs
  · refine fr_be (fun v1 e => ?_)
    have ov1 := ow_gR hs ox0 e
    clear e
    refine fr_bd (fun _ => ?_)
    refine fr_cl (fun _ _ e => (by rw [ro_X16_lieOf e]; exact hs)) (fun _ h hs => ?_)
    refine fr_if ?_ ?_
    · exact ow_X16_collect_45 oc hk6 ox0 hs
    · refine fr_if ?_ ?_
      · exact ow_X16_collect_45 oc hk6 ox0 hs
      · exact ow_X16_collect_78 oc hk6 ox0 hs
theorem ow_X16_collect_6 {O : Nat → Prop} {h0 : sv_H} (oc : sv_cl O h0) : ∀ (n : Nat) {x0 : Nat} {x1 : Int32} {x2 : Int32} {x3 : Int32} {x4 : Int32} {x5 : Int32} {x6 : Int32} {x7 : Int32} {h : sv_H}, O x0 → sv_ow [1711] [1706, 1707, 1708, 1709, 1710, 1712] O h0 h → sv_fr (sv_ow [1711] [1706, 1707, 1708, 1709, 1710, 1712] O) h0 (fn_X16_collect_6 n x0 x1 x2 x3 x4 x5 x6 x7 h) := by
  intro n
  induction n with
  | zero => intro x0 x1 x2 x3 x4 x5 x6 x7 h ox0 hs r hE e; cases (show (none : Option (Int32 × sv_H)) = some (r, hE) from e)
  | succ n ih => intro x0 x1 x2 x3 x4 x5 x6 x7 h ox0 hs; exact ow_X16_collect_6b oc (fun ox0 hs => ih ox0 hs) ox0 hs
theorem ow_X16_collect_0 {O : Nat → Prop} {h0 : sv_H} (oc : sv_cl O h0) {x0 : Nat} {x1 : Int32} {x2 : Int32} {x3 : Int32} {x4 : Int32} {x5 : Int32} {h : sv_H} (ox0 : O x0) (hs : sv_ow [1711] [1706, 1707, 1708, 1709, 1710, 1712] O h0 h) : sv_fr (sv_ow [1711] [1706, 1707, 1708, 1709, 1710, 1712] O) h0 (fn_X16_collect x0 x1 x2 x3 x4 x5 h) := by
  unfold fn_X16_collect
  refine fr_if ?_ fr_no
  exact ow_X16_collect_6 oc sv_fuel ox0 hs
theorem ow_X16_collect {O : Nat → Prop} {x0 : Nat} {x1 : Int32} {x2 : Int32} {x3 : Int32} {x4 : Int32} {x5 : Int32} {h : sv_H} {r : Int32} {hE : sv_H} (oc : sv_cl O h) (ox0 : O x0) (hw : fn_X16_collect x0 x1 x2 x3 x4 x5 h = some (r, hE)) : sv_ow [1711] [1706, 1707, 1708, 1709, 1710, 1712] O h hE := ow_X16_collect_0 oc ox0 (sv_ow.refl h) r hE hw

theorem ow_X16_divide_188 {O : Nat → Prop} {h0 : sv_H} (oc : sv_cl O h0) {k136 : Nat → Int32 → Int32 → Int32 → Int32 → Int32 → sv_H → Option (Unit × sv_H)} (hk136 : ∀ {x0 : Nat} {x1 : Int32} {x2 : Int32} {x6 : Int32} {x7 : Int32} {x8 : Int32} {h : sv_H}, O x0 → sv_ow [1711, 1717, 1725, 1726, 1727] [1706, 1707, 1708, 1709, 1710, 1712, 1713, 1714, 1715, 1716, 1718, 1719, 1720, 1721, 1722, 1723, 1724] O h0 h → sv_fr (sv_ow [1711, 1717, 1725, 1726, 1727] [1706, 1707, 1708, 1709, 1710, 1712, 1713, 1714, 1715, 1716, 1718, 1719, 1720, 1721, 1722, 1723, 1724] O) h0 (k136 x0 x1 x2 x6 x7 x8 h)) {x0 : Nat} {x1 : Int32} {x2 : Int32} {x6 : Int32} {x7 : Int32} {x8 : Int32} {h : sv_H} (ox0 : O x0) (hs : sv_ow [1711, 1717, 1725, 1726, 1727] [1706, 1707, 1708, 1709, 1710, 1712, 1713, 1714, 1715, 1716, 1718, 1719, 1720, 1721, 1722, 1723, 1724] O h0 h) : sv_fr (sv_ow [1711, 1717, 1725, 1726, 1727] [1706, 1707, 1708, 1709, 1710, 1712, 1713, 1714, 1715, 1716, 1718, 1719, 1720, 1721, 1722, 1723, 1724] O) h0 (fn_X16_divide_188 k136 x0 x1 x2 x6 x7 x8 h) := by
  unfold fn_X16_divide_188
  exact hk136 ox0 hs
theorem ow_X16_divide_136b {O : Nat → Prop} {h0 : sv_H} (oc : sv_cl O h0) {k136 : Nat → Int32 → Int32 → Int32 → Int32 → Int32 → sv_H → Option (Unit × sv_H)} (hk136 : ∀ {x0 : Nat} {x1 : Int32} {x2 : Int32} {x6 : Int32} {x7 : Int32} {x8 : Int32} {h : sv_H}, O x0 → sv_ow [1711, 1717, 1725, 1726, 1727] [1706, 1707, 1708, 1709, 1710, 1712, 1713, 1714, 1715, 1716, 1718, 1719, 1720, 1721, 1722, 1723, 1724] O h0 h → sv_fr (sv_ow [1711, 1717, 1725, 1726, 1727] [1706, 1707, 1708, 1709, 1710, 1712, 1713, 1714, 1715, 1716, 1718, 1719, 1720, 1721, 1722, 1723, 1724] O) h0 (k136 x0 x1 x2 x6 x7 x8 h)) {x0 : Nat} {x1 : Int32} {x2 : Int32} {x6 : Int32} {x7 : Int32} {x8 : Int32} {h : sv_H} (ox0 : O x0) (hs : sv_ow [1711, 1717, 1725, 1726, 1727] [1706, 1707, 1708, 1709, 1710, 1712, 1713, 1714, 1715, 1716, 1718, 1719, 1720, 1721, 1722, 1723, 1724] O h0 h) : sv_fr (sv_ow [1711, 1717, 1725, 1726, 1727] [1706, 1707, 1708, 1709, 1710, 1712, 1713, 1714, 1715, 1716, 1718, 1719, 1720, 1721, 1722, 1723, 1724] O) h0 (fn_X16_divide_136b k136 x0 x1 x2 x6 x7 x8 h) := by
  unfold fn_X16_divide_136b
  refine fr_if ?_ ?_
  · refine fr_be (fun v1 e => ?_)
    have ov1 := ow_gR hs ox0 e
    clear e
    refine fr_bd (fun _ => ?_)
    refine fr_be (fun v3 e => ?_)
    have ov3 := ow_gR hs ox0 e
    clear e
    refine fr_bd (fun _ => ?_)
    refine fr_st (fun _ e => ow_sI hs ov1 (by decide) e) (fun h hs => ?_)
    refine fr_cl (fun _ _ e => (hs.trans ((ow_X16_collect (oc.of hs) ox0 e).weak (by decide) (by decide)))) (fun _ h hs => ?_)
    refine fr_cl (fun _ _ e => (hs.trans ((ow_X16_collect (oc.of hs) ox0 e).weak (by decide) (by decide)))) (fun _ h hs => ?_)
    refine fr_cl (fun _ _ e => (hs.trans ((ow_X16_push (oc.of hs) ox0 e).weak (by decide) (by decide)))) (fun _ h hs => ?_)
    refine fr_cl (fun _ _ e => (hs.trans ((ow_X16_push (oc.of hs) ox0 e).weak (by decide) (by decide)))) (fun _ h hs => ?_)
    exact fr_rt hs
  · refine fr_be (fun v12 e => ?_)
    have ov12 := ow_gR hs ox0 e
    clear e
    refine fr_bd (fun _ => ?_)
    refine fr_cl (fun _ _ e => (by rw [ro_X16_lieOf e]; exact hs)) (fun _ h hs => ?_)
    refine fr_if ?_ ?_
    · refine fr_be (fun v16 e => ?_)
      have ov16 := ow_gR hs ox0 e
      clear e
      refine fr_bd (fun _ => ?_)
      refine fr_be (fun v18 e => ?_)
      have ov18 := ow_gR hs ox0 e
      clear e
      refine fr_bd (fun _ => ?_)
      refine fr_st (fun _ e => ow_sI hs ov16 (by decide) e) (fun h hs => ?_)
      refine fr_bd (fun _ => ?_)
      refine fr_st (fun _ e => ow_pI hs (by decide) ox0 e) (fun h hs => ?_)
      exact ow_X16_divide_188 oc hk136 ox0 hs
    · exact ow_X16_divide_188 oc hk136 ox0 hs
theorem ow_X16_divide_136 {O : Nat → Prop} {h0 : sv_H} (oc : sv_cl O h0) : ∀ (n : Nat) {x0 : Nat} {x1 : Int32} {x2 : Int32} {x6 : Int32} {x7 : Int32} {x8 : Int32} {h : sv_H}, O x0 → sv_ow [1711, 1717, 1725, 1726, 1727] [1706, 1707, 1708, 1709, 1710, 1712, 1713, 1714, 1715, 1716, 1718, 1719, 1720, 1721, 1722, 1723, 1724] O h0 h → sv_fr (sv_ow [1711, 1717, 1725, 1726, 1727] [1706, 1707, 1708, 1709, 1710, 1712, 1713, 1714, 1715, 1716, 1718, 1719, 1720, 1721, 1722, 1723, 1724] O) h0 (fn_X16_divide_136 n x0 x1 x2 x6 x7 x8 h) := by
  intro n
  induction n with
  | zero => intro x0 x1 x2 x6 x7 x8 h ox0 hs r hE e; cases (show (none : Option (Unit × sv_H)) = some (r, hE) from e)
  | succ n ih => intro x0 x1 x2 x6 x7 x8 h ox0 hs; exact ow_X16_divide_136b oc (fun ox0 hs => ih ox0 hs) ox0 hs
theorem ow_X16_divide_121 {O : Nat → Prop} {h0 : sv_H} (oc : sv_cl O h0) {x0 : Nat} {x1 : Int32} {x2 : Int32} {x6 : Int32} {x7 : Int32} {s0 : Nat} {s1 : Int32} {s2 : Int32} {h : sv_H} (ox0 : O x0) (os0 : sv_rl 1721 O h0 s0) (hs : sv_ow [1711, 1717, 1725, 1726, 1727] [1706, 1707, 1708, 1709, 1710, 1712, 1713, 1714, 1715, 1716, 1718, 1719, 1720, 1721, 1722, 1723, 1724] O h0 h) : sv_fr (sv_ow [1711, 1717, 1725, 1726, 1727] [1706, 1707, 1708, 1709, 1710, 1712, 1713, 1714, 1715, 1716, 1718, 1719, 1720, 1721, 1722, 1723, 1724] O) h0 (fn_X16_divide_121 x0 x1 x2 x6 x7 s0 s1 s2 h) := by
  unfold fn_X16_divide_121
  refine fr_st (fun _ e => ow_sI hs os0 (by decide) e) (fun h hs => ?_)
  refine fr_be (fun v2 e => ?_)
  have ov2 := ow_gR hs ox0 e
  clear e
  refine fr_bd (fun _ => ?_)
  refine fr_st (fun _ e => ow_sI hs ov2 (by decide) e) (fun h hs => ?_)
  exact ow_X16_divide_136 oc sv_fuel ox0 hs
theorem ow_X16_divide_51 {O : Nat → Prop} {h0 : sv_H} (oc : sv_cl O h0) {x0 : Nat} {x1 : Int32} {x2 : Int32} {x3 : Int32} {h : sv_H} (ox0 : O x0) (hs : sv_ow [1711, 1717, 1725, 1726, 1727] [1706, 1707, 1708, 1709, 1710, 1712, 1713, 1714, 1715, 1716, 1718, 1719, 1720, 1721, 1722, 1723, 1724] O h0 h) : sv_fr (sv_ow [1711, 1717, 1725, 1726, 1727] [1706, 1707, 1708, 1709, 1710, 1712, 1713, 1714, 1715, 1716, 1718, 1719, 1720, 1721, 1722, 1723, 1724] O) h0 (fn_X16_divide_51 x0 x1 x2 x3 h) := by
  unfold fn_X16_divide_51
  refine fr_if ?_ ?_
  · refine fr_bd (fun _ => ?_)
    refine fr_st (fun _ e => ow_pI hs (by decide) ox0 e) (fun h hs => ?_)
    exact fr_rt hs
  · refine fr_bd (fun _ => ?_)
    refine fr_bd (fun _ => ?_)
    refine fr_st (fun _ e => ow_pI hs (by decide) ox0 e) (fun h hs => ?_)
    refine fr_cl (fun _ _ e => (by rw [ro_X16_bestOf e]; exact hs)) (fun _ h hs => ?_)
    refine fr_be (fun v6 e => ?_)
    have ov6 := ow_gR hs ox0 e
    clear e
    refine fr_st (fun _ e => ow_sI hs ov6 (by decide) e) (fun h hs => ?_)
    refine fr_be (fun v8 e => ?_)
    have ov8 := ow_gR hs ox0 e
    clear e
    refine fr_if ?_ ?_
    · refine fr_be (fun v9 e => ?_)
      have ov9 := ow_gR hs ox0 e
      clear e
      refine fr_bd (fun _ => ?_)
      exact ow_X16_divide_121 oc ox0 ov8 hs
    · exact ow_X16_divide_121 oc ox0 ov8 hs
theorem ow_X16_divide_39 {O : Nat → Prop} {h0 : sv_H} (oc : sv_cl O h0) {x0 : Nat} {x1 : Int32} {x2 : Int32} {x3 : Int32} {x5 : Int32} {h : sv_H} (ox0 : O x0) (hs : sv_ow [1711, 1717, 1725, 1726, 1727] [1706, 1707, 1708, 1709, 1710, 1712, 1713, 1714, 1715, 1716, 1718, 1719, 1720, 1721, 1722, 1723, 1724] O h0 h) : sv_fr (sv_ow [1711, 1717, 1725, 1726, 1727] [1706, 1707, 1708, 1709, 1710, 1712, 1713, 1714, 1715, 1716, 1718, 1719, 1720, 1721, 1722, 1723, 1724] O) h0 (fn_X16_divide_39 x0 x1 x2 x3 x5 h) := by
  unfold fn_X16_divide_39
  refine fr_if ?_ ?_
  · exact ow_X16_divide_51 oc ox0 hs
  · refine fr_be (fun v1 e => ?_)
    have ov1 := ow_gR hs ox0 e
    clear e
    refine fr_st (fun _ e => ow_sI hs ov1 (by decide) e) (fun h hs => ?_)
    exact ow_X16_divide_51 oc ox0 hs
theorem ow_X16_divide_17 {O : Nat → Prop} {h0 : sv_H} (oc : sv_cl O h0) {x0 : Nat} {x1 : Int32} {x2 : Int32} {x3 : Int32} {x4 : Int32} {s0 : Int32} {h : sv_H} (ox0 : O x0) (hs : sv_ow [1711, 1717, 1725, 1726, 1727] [1706, 1707, 1708, 1709, 1710, 1712, 1713, 1714, 1715, 1716, 1718, 1719, 1720, 1721, 1722, 1723, 1724] O h0 h) : sv_fr (sv_ow [1711, 1717, 1725, 1726, 1727] [1706, 1707, 1708, 1709, 1710, 1712, 1713, 1714, 1715, 1716, 1718, 1719, 1720, 1721, 1722, 1723, 1724] O) h0 (fn_X16_divide_17 x0 x1 x2 x3 x4 s0 h) := by
  unfold fn_X16_divide_17
  refine fr_if ?_ ?_
  · exact ow_X16_divide_39 oc ox0 hs
  · refine fr_if ?_ ?_
    · refine fr_be (fun v1 e => ?_)
      have ov1 := ow_gR hs ox0 e
      clear e
      refine fr_st (fun _ e => ow_sI hs ov1 (by decide) e) (fun h hs => ?_)
      exact ow_X16_divide_51 oc ox0 hs
    · exact ow_X16_divide_39 oc ox0 hs
theorem ow_X16_divide_0 {O : Nat → Prop} {h0 : sv_H} (oc : sv_cl O h0) {x0 : Nat} {x1 : Int32} {x2 : Int32} {x3 : Int32} {x4 : Int32} {h : sv_H} (ox0 : O x0) (hs : sv_ow [1711, 1717, 1725, 1726, 1727] [1706, 1707, 1708, 1709, 1710, 1712, 1713, 1714, 1715, 1716, 1718, 1719, 1720, 1721, 1722, 1723, 1724] O h0 h) : sv_fr (sv_ow [1711, 1717, 1725, 1726, 1727] [1706, 1707, 1708, 1709, 1710, 1712, 1713, 1714, 1715, 1716, 1718, 1719, 1720, 1721, 1722, 1723, 1724] O) h0 (fn_X16_divide x0 x1 x2 x3 x4 h) := by
  unfold fn_X16_divide
  refine fr_if ?_ fr_no
  refine fr_if ?_ ?_
  · refine fr_bd (fun _ => ?_)
    exact ow_X16_divide_17 oc ox0 hs
  · refine fr_bd (fun _ => ?_)
    exact ow_X16_divide_17 oc ox0 hs
theorem ow_X16_divide {O : Nat → Prop} {x0 : Nat} {x1 : Int32} {x2 : Int32} {x3 : Int32} {x4 : Int32} {h : sv_H} {r : Unit} {hE : sv_H} (oc : sv_cl O h) (ox0 : O x0) (hw : fn_X16_divide x0 x1 x2 x3 x4 h = some (r, hE)) : sv_ow [1711, 1717, 1725, 1726, 1727] [1706, 1707, 1708, 1709, 1710, 1712, 1713, 1714, 1715, 1716, 1718, 1719, 1720, 1721, 1722, 1723, 1724] O h hE := ow_X16_divide_0 oc ox0 (sv_ow.refl h) r hE hw

theorem ow_X16_make_77b {O : Nat → Prop} {h0 : sv_H} (oc : sv_cl O h0) {k77 : Nat → sv_H → Option (Unit × sv_H)} (hk77 : ∀ {x0 : Nat} {h : sv_H}, O x0 → sv_ow [1711, 1717, 1725, 1726, 1727] [1706, 1707, 1708, 1709, 1710, 1712, 1713, 1714, 1715, 1716, 1718, 1719, 1720, 1721, 1722, 1723, 1724] O h0 h → sv_fr (sv_ow [1711, 1717, 1725, 1726, 1727] [1706, 1707, 1708, 1709, 1710, 1712, 1713, 1714, 1715, 1716, 1718, 1719, 1720, 1721, 1722, 1723, 1724] O) h0 (k77 x0 h)) {x0 : Nat} {h : sv_H} (ox0 : O x0) (hs : sv_ow [1711, 1717, 1725, 1726, 1727] [1706, 1707, 1708, 1709, 1710, 1712, 1713, 1714, 1715, 1716, 1718, 1719, 1720, 1721, 1722, 1723, 1724] O h0 h) : sv_fr (sv_ow [1711, 1717, 1725, 1726, 1727] [1706, 1707, 1708, 1709, 1710, 1712, 1713, 1714, 1715, 1716, 1718, 1719, 1720, 1721, 1722, 1723, 1724] O) h0 (fn_X16_make_77b k77 x0 h) := by
  unfold fn_X16_make_77b
  refine fr_bd (fun _ => ?_)
  refine fr_if ?_ ?_
  · exact fr_rt hs
  · refine fr_bd (fun _ => ?_)
    refine fr_st (fun _ e => ow_pI hs (by decide) ox0 e) (fun h hs => ?_)
    refine fr_be (fun v4 e => ?_)
    have ov4 := ow_gR hs ox0 e
    clear e
    refine fr_bd (fun _ => ?_)
    refine fr_bd (fun _ => ?_)
    refine fr_be (fun v7 e => ?_)
    have ov7 := ow_gR hs ox0 e
    clear e
    refine fr_bd (fun _ => ?_)
    refine fr_bd (fun _ => ?_)
    refine fr_be (fun v10 e => ?_)
    have ov10 := ow_gR hs ox0 e
    clear e
    refine fr_bd (fun _ => ?_)
    refine fr_bd (fun _ => ?_)
    refine fr_be (fun v13 e => ?_)
    have ov13 := ow_gR hs ox0 e
    clear e
    refine fr_bd (fun _ => ?_)
    refine fr_bd (fun _ => ?_)
    refine fr_cl (fun _ _ e => (hs.trans ((ow_X16_divide (oc.of hs) ox0 e).weak (by decide) (by decide)))) (fun _ h hs => ?_)
    exact hk77 ox0 hs
theorem ow_X16_make_77 {O : Nat → Prop} {h0 : sv_H} (oc : sv_cl O h0) : ∀ (n : Nat) {x0 : Nat} {h : sv_H}, O x0 → sv_ow [1711, 1717, 1725, 1726, 1727] [1706, 1707, 1708, 1709, 1710, 1712, 1713, 1714, 1715, 1716, 1718, 1719, 1720, 1721, 1722, 1723, 1724] O h0 h → sv_fr (sv_ow [1711, 1717, 1725, 1726, 1727] [1706, 1707, 1708, 1709, 1710, 1712, 1713, 1714, 1715, 1716, 1718, 1719, 1720, 1721, 1722, 1723, 1724] O) h0 (fn_X16_make_77 n x0 h) := by
  intro n
  induction n with
  | zero => intro x0 h ox0 hs r hE e; cases (show (none : Option (Unit × sv_H)) = some (r, hE) from e)
  | succ n ih => intro x0 h ox0 hs; exact ow_X16_make_77b oc (fun ox0 hs => ih ox0 hs) ox0 hs
theorem ow_X16_make_63 {O : Nat → Prop} {h0 : sv_H} (oc : sv_cl O h0) {k29 : Nat → Int32 → Int32 → sv_H → Option (Unit × sv_H)} (hk29 : ∀ {x0 : Nat} {x1 : Int32} {x2 : Int32} {h : sv_H}, O x0 → sv_ow [1711, 1717, 1725, 1726, 1727] [1706, 1707, 1708, 1709, 1710, 1712, 1713, 1714, 1715, 1716, 1718, 1719, 1720, 1721, 1722, 1723, 1724] O h0 h → sv_fr (sv_ow [1711, 1717, 1725, 1726, 1727] [1706, 1707, 1708, 1709, 1710, 1712, 1713, 1714, 1715, 1716, 1718, 1719, 1720, 1721, 1722, 1723, 1724] O) h0 (k29 x0 x1 x2 h)) {x0 : Nat} {x1 : Int32} {x2 : Int32} {h : sv_H} (ox0 : O x0) (hs : sv_ow [1711, 1717, 1725, 1726, 1727] [1706, 1707, 1708, 1709, 1710, 1712, 1713, 1714, 1715, 1716, 1718, 1719, 1720, 1721, 1722, 1723, 1724] O h0 h) : sv_fr (sv_ow [1711, 1717, 1725, 1726, 1727] [1706, 1707, 1708, 1709, 1710, 1712, 1713, 1714, 1715, 1716, 1718, 1719, 1720, 1721, 1722, 1723, 1724] O) h0 (fn_X16_make_63 k29 x0 x1 x2 h) := by
  unfold fn_X16_make_63
  exact hk29 ox0 hs
theorem ow_X16_make_29b {O : Nat → Prop} {h0 : sv_H} (oc : sv_cl O h0) {k29 : Nat → Int32 → Int32 → sv_H → Option (Unit × sv_H)} (hk29 : ∀ {x0 : Nat} {x1 : Int32} {x2 : Int32} {h : sv_H}, O x0 → sv_ow [1711, 1717, 1725, 1726, 1727] [1706, 1707, 1708, 1709, 1710, 1712, 1713, 1714, 1715, 1716, 1718, 1719, 1720, 1721, 1722, 1723, 1724] O h0 h → sv_fr (sv_ow [1711, 1717, 1725, 1726, 1727] [1706, 1707, 1708, 1709, 1710, 1712, 1713, 1714, 1715, 1716, 1718, 1719, 1720, 1721, 1722, 1723, 1724] O) h0 (k29 x0 x1 x2 h)) {x0 : Nat} {x1 : Int32} {x2 : Int32} {h : sv_H} (ox0 : O x0) (hs : sv_ow [1711, 1717, 1725, 1726, 1727] [1706, 1707, 1708, 1709, 1710, 1712, 1713, 1714, 1715, 1716, 1718, 1719, 1720, 1721, 1722, 1723, 1724] O h0 h) : sv_fr (sv_ow [1711, 1717, 1725, 1726, 1727] [1706, 1707, 1708, 1709, 1710, 1712, 1713, 1714, 1715, 1716, 1718, 1719, 1720, 1721, 1722, 1723, 1724] O) h0 (fn_X16_make_29b k29 x0 x1 x2 h) := by
  unfold fn_X16_make_29b
  refine fr_if ?_ ?_
  · refine fr_cl (fun _ _ e => (hs.trans ((ow_X16_push (oc.of hs) ox0 e).weak (by decide) (by decide)))) (fun _ h hs => ?_)
    exact ow_X16_make_77 oc sv_fuel ox0 hs
  · refine fr_be (fun v2 e => ?_)
    have ov2 := ow_gR hs ox0 e
    clear e
    refine fr_bd (fun _ => ?_)
    refine fr_if ?_ ?_
    · exact ow_X16_make_63 oc hk29 ox0 hs
    · refine fr_be (fun v4 e => ?_)
      have ov4 := ow_gR hs ox0 e
      clear e
      refine fr_cl (fun _ _ e => (hs.trans ((ow_X16_piece (oc.of hs) ox0 e).weak (by decide) (by decide)))) (fun _ h hs => ?_)
      refine fr_st (fun _ e => ow_sI hs ov4 (by decide) e) (fun h hs => ?_)
      exact ow_X16_make_63 oc hk29 ox0 hs
theorem ow_X16_make_29 {O : Nat → Prop} {h0 : sv_H} (oc : sv_cl O h0) : ∀ (n : Nat) {x0 : Nat} {x1 : Int32} {x2 : Int32} {h : sv_H}, O x0 → sv_ow [1711, 1717, 1725, 1726, 1727] [1706, 1707, 1708, 1709, 1710, 1712, 1713, 1714, 1715, 1716, 1718, 1719, 1720, 1721, 1722, 1723, 1724] O h0 h → sv_fr (sv_ow [1711, 1717, 1725, 1726, 1727] [1706, 1707, 1708, 1709, 1710, 1712, 1713, 1714, 1715, 1716, 1718, 1719, 1720, 1721, 1722, 1723, 1724] O) h0 (fn_X16_make_29 n x0 x1 x2 h) := by
  intro n
  induction n with
  | zero => intro x0 x1 x2 h ox0 hs r hE e; cases (show (none : Option (Unit × sv_H)) = some (r, hE) from e)
  | succ n ih => intro x0 x1 x2 h ox0 hs; exact ow_X16_make_29b oc (fun ox0 hs => ih ox0 hs) ox0 hs
theorem ow_X16_make_0 {O : Nat → Prop} {h0 : sv_H} (oc : sv_cl O h0) {x0 : Nat} {h : sv_H} (ox0 : O x0) (hs : sv_ow [1711, 1717, 1725, 1726, 1727] [1706, 1707, 1708, 1709, 1710, 1712, 1713, 1714, 1715, 1716, 1718, 1719, 1720, 1721, 1722, 1723, 1724] O h0 h) : sv_fr (sv_ow [1711, 1717, 1725, 1726, 1727] [1706, 1707, 1708, 1709, 1710, 1712, 1713, 1714, 1715, 1716, 1718, 1719, 1720, 1721, 1722, 1723, 1724] O) h0 (fn_X16_make x0 h) := by
  unfold fn_X16_make
  refine fr_if ?_ fr_no
  refine fr_st (fun _ e => ow_pI hs (by decide) ox0 e) (fun h hs => ?_)
  refine fr_st (fun _ e => ow_pI hs (by decide) ox0 e) (fun h hs => ?_)
  refine fr_st (fun _ e => ow_pI hs (by decide) ox0 e) (fun h hs => ?_)
  refine fr_st (fun _ e => ow_pI hs (by decide) ox0 e) (fun h hs => ?_)
  refine fr_st (fun _ e => ow_pI hs (by decide) ox0 e) (fun h hs => ?_)
  exact ow_X16_make_29 oc sv_fuel ox0 hs
theorem ow_X16_make {O : Nat → Prop} {x0 : Nat} {h : sv_H} {r : Unit} {hE : sv_H} (oc : sv_cl O h) (ox0 : O x0) (hw : fn_X16_make x0 h = some (r, hE)) : sv_ow [1711, 1717, 1725, 1726, 1727] [1706, 1707, 1708, 1709, 1710, 1712, 1713, 1714, 1715, 1716, 1718, 1719, 1720, 1721, 1722, 1723, 1724] O h hE := ow_X16_make_0 oc ox0 (sv_ow.refl h) r hE hw

theorem ow_X16_know_16 {O : Nat → Prop} {h0 : sv_H} (oc : sv_cl O h0) {h : sv_H} (hs : sv_ow [1705, 1711, 1717, 1725, 1726, 1727] [1706, 1707, 1708, 1709, 1710, 1712, 1713, 1714, 1715, 1716, 1718, 1719, 1720, 1721, 1722, 1723, 1724] O h0 h) : sv_fr (sv_ow [1705, 1711, 1717, 1725, 1726, 1727] [1706, 1707, 1708, 1709, 1710, 1712, 1713, 1714, 1715, 1716, 1718, 1719, 1720, 1721, 1722, 1723, 1724] O) h0 (fn_X16_know_16 h) := by
  unfold fn_X16_know_16
  exact fr_rt hs
theorem ow_X16_know_0 {O : Nat → Prop} {h0 : sv_H} (oc : sv_cl O h0) {x0 : Nat} {h : sv_H} (ox0 : O x0) (hs : sv_ow [1705, 1711, 1717, 1725, 1726, 1727] [1706, 1707, 1708, 1709, 1710, 1712, 1713, 1714, 1715, 1716, 1718, 1719, 1720, 1721, 1722, 1723, 1724] O h0 h) : sv_fr (sv_ow [1705, 1711, 1717, 1725, 1726, 1727] [1706, 1707, 1708, 1709, 1710, 1712, 1713, 1714, 1715, 1716, 1718, 1719, 1720, 1721, 1722, 1723, 1724] O) h0 (fn_X16_know x0 h) := by
  unfold fn_X16_know
  refine fr_if ?_ fr_no
  refine fr_bd (fun _ => ?_)
  refine fr_if ?_ ?_
  · refine fr_cl (fun _ _ e => (hs.trans ((ow_X16_make (oc.of hs) ox0 e).weak (by decide) (by decide)))) (fun _ h hs => ?_)
    refine fr_st (fun _ e => ow_pZ hs (by decide) ox0 e) (fun h hs => ?_)
    exact ow_X16_know_16 oc hs
  · exact ow_X16_know_16 oc hs
theorem ow_X16_know {O : Nat → Prop} {x0 : Nat} {h : sv_H} {r : Unit} {hE : sv_H} (oc : sv_cl O h) (ox0 : O x0) (hw : fn_X16_know x0 h = some (r, hE)) : sv_ow [1705, 1711, 1717, 1725, 1726, 1727] [1706, 1707, 1708, 1709, 1710, 1712, 1713, 1714, 1715, 1716, 1718, 1719, 1720, 1721, 1722, 1723, 1724] O h hE := ow_X16_know_0 oc ox0 (sv_ow.refl h) r hE hw

theorem ow_X16_isNode_21 {O : Nat → Prop} {h0 : sv_H} (oc : sv_cl O h0) {s0 : Int32} {h : sv_H} (hs : sv_ow [1705, 1711, 1717, 1725, 1726, 1727] [1706, 1707, 1708, 1709, 1710, 1712, 1713, 1714, 1715, 1716, 1718, 1719, 1720, 1721, 1722, 1723, 1724] O h0 h) : sv_fr (sv_ow [1705, 1711, 1717, 1725, 1726, 1727] [1706, 1707, 1708, 1709, 1710, 1712, 1713, 1714, 1715, 1716, 1718, 1719, 1720, 1721, 1722, 1723, 1724] O) h0 (fn_X16_isNode_21 s0 h) := by
  unfold fn_X16_isNode_21
  exact fr_rz hs
theorem ow_X16_isNode_20 {O : Nat → Prop} {h0 : sv_H} (oc : sv_cl O h0) {h : sv_H} (hs : sv_ow [1705, 1711, 1717, 1725, 1726, 1727] [1706, 1707, 1708, 1709, 1710, 1712, 1713, 1714, 1715, 1716, 1718, 1719, 1720, 1721, 1722, 1723, 1724] O h0 h) : sv_fr (sv_ow [1705, 1711, 1717, 1725, 1726, 1727] [1706, 1707, 1708, 1709, 1710, 1712, 1713, 1714, 1715, 1716, 1718, 1719, 1720, 1721, 1722, 1723, 1724] O) h0 (fn_X16_isNode_20 h) := by
  unfold fn_X16_isNode_20
  exact ow_X16_isNode_21 oc hs
theorem ow_X16_isNode_0 {O : Nat → Prop} {h0 : sv_H} (oc : sv_cl O h0) {x0 : Nat} {x1 : Int32} {h : sv_H} (ox0 : O x0) (hs : sv_ow [1705, 1711, 1717, 1725, 1726, 1727] [1706, 1707, 1708, 1709, 1710, 1712, 1713, 1714, 1715, 1716, 1718, 1719, 1720, 1721, 1722, 1723, 1724] O h0 h) : sv_fr (sv_ow [1705, 1711, 1717, 1725, 1726, 1727] [1706, 1707, 1708, 1709, 1710, 1712, 1713, 1714, 1715, 1716, 1718, 1719, 1720, 1721, 1722, 1723, 1724] O) h0 (fn_X16_isNode x0 x1 h) := by
  unfold fn_X16_isNode
  refine fr_if ?_ fr_no
  refine fr_cl (fun _ _ e => (hs.trans ((ow_X16_know (oc.of hs) ox0 e).weak (by decide) (by decide)))) (fun _ h hs => ?_)
  refine fr_if ?_ ?_
  · exact ow_X16_isNode_20 oc hs
  · refine fr_bd (fun _ => ?_)
    refine fr_if ?_ ?_
    · exact ow_X16_isNode_20 oc hs
    · exact ow_X16_isNode_21 oc hs
theorem ow_X16_isNode {O : Nat → Prop} {x0 : Nat} {x1 : Int32} {h : sv_H} {r : Int32} {hE : sv_H} (oc : sv_cl O h) (ox0 : O x0) (hw : fn_X16_isNode x0 x1 h = some (r, hE)) : sv_ow [1705, 1711, 1717, 1725, 1726, 1727] [1706, 1707, 1708, 1709, 1710, 1712, 1713, 1714, 1715, 1716, 1718, 1719, 1720, 1721, 1722, 1723, 1724] O h hE := ow_X16_isNode_0 oc ox0 (sv_ow.refl h) r hE hw

theorem ow_X16_node_74 {O : Nat → Prop} {h0 : sv_H} (oc : sv_cl O h0) {s0 : Int32} {h : sv_H} (hs : sv_ow [1705, 1711, 1717, 1725, 1726, 1727] [1706, 1707, 1708, 1709, 1710, 1712, 1713, 1714, 1715, 1716, 1718, 1719, 1720, 1721, 1722, 1723, 1724] O h0 h) : sv_fr (sv_ow [1705, 1711, 1717, 1725, 1726, 1727] [1706, 1707, 1708, 1709, 1710, 1712, 1713, 1714, 1715, 1716, 1718, 1719, 1720, 1721, 1722, 1723, 1724] O) h0 (fn_X16_node_74 s0 h) := by
  unfold fn_X16_node_74
  exact fr_rt hs
theorem ow_X16_node_94 {O : Nat → Prop} {h0 : sv_H} (oc : sv_cl O h0) {s0 : Int32} {h : sv_H} (hs : sv_ow [1705, 1711, 1717, 1725, 1726, 1727] [1706, 1707, 1708, 1709, 1710, 1712, 1713, 1714, 1715, 1716, 1718, 1719, 1720, 1721, 1722, 1723, 1724] O h0 h) : sv_fr (sv_ow [1705, 1711, 1717, 1725, 1726, 1727] [1706, 1707, 1708, 1709, 1710, 1712, 1713, 1714, 1715, 1716, 1718, 1719, 1720, 1721, 1722, 1723, 1724] O) h0 (fn_X16_node_94 s0 h) := by
  unfold fn_X16_node_94
  exact fr_rt hs
theorem ow_X16_node_0 {O : Nat → Prop} {h0 : sv_H} (oc : sv_cl O h0) {x0 : Nat} {x1 : Int32} {x2 : Int32} {h : sv_H} (ox0 : O x0) (hs : sv_ow [1705, 1711, 1717, 1725, 1726, 1727] [1706, 1707, 1708, 1709, 1710, 1712, 1713, 1714, 1715, 1716, 1718, 1719, 1720, 1721, 1722, 1723, 1724] O h0 h) : sv_fr (sv_ow [1705, 1711, 1717, 1725, 1726, 1727] [1706, 1707, 1708, 1709, 1710, 1712, 1713, 1714, 1715, 1716, 1718, 1719, 1720, 1721, 1722, 1723, 1724] O) h0 (fn_X16_node x0 x1 x2 h) := by
  unfold fn_X16_node
  refine fr_if ?_ fr_no
  refine fr_cl (fun _ _ e => (hs.trans ((ow_X16_isNode (oc.of hs) ox0 e).weak (by decide) (by decide)))) (fun _ h hs => ?_)
  refine fr_if ?_ ?_
  · exact fr_rt hs
  · refine fr_if ?_ ?_
    · refine fr_be (fun v3 e => ?_)
      have ov3 := ow_gR hs ox0 e
      clear e
      refine fr_bd (fun _ => ?_)
      exact fr_rt hs
    refine fr_if ?_ ?_
    · refine fr_be (fun v5 e => ?_)
      have ov5 := ow_gR hs ox0 e
      clear e
      refine fr_bd (fun _ => ?_)
      refine fr_if ?_ ?_
      · refine fr_be (fun v7 e => ?_)
        have ov7 := ow_gR hs ox0 e
        clear e
        refine fr_bd (fun _ => ?_)
        exact ow_X16_node_74 oc hs
      · exact ow_X16_node_74 oc hs
    refine fr_if ?_ ?_
    · refine fr_be (fun v9 e => ?_)
      have ov9 := ow_gR hs ox0 e
      clear e
      refine fr_bd (fun _ => ?_)
      refine fr_if ?_ ?_
      · refine fr_be (fun v11 e => ?_)
        have ov11 := ow_gR hs ox0 e
        clear e
        refine fr_bd (fun _ => ?_)
        exact ow_X16_node_94 oc hs
      · exact ow_X16_node_94 oc hs
    refine fr_if ?_ ?_
    · refine fr_be (fun v13 e => ?_)
      have ov13 := ow_gR hs ox0 e
      clear e
      refine fr_bd (fun _ => ?_)
      exact fr_rt hs
    refine fr_if ?_ ?_
    · refine fr_cl (fun _ _ e => (by rw [ro_X16_within e]; exact hs)) (fun _ h hs => ?_)
      exact fr_rt hs
    refine fr_if ?_ ?_
    · refine fr_be (fun v17 e => ?_)
      have ov17 := ow_gR hs ox0 e
      clear e
      refine fr_bd (fun _ => ?_)
      exact fr_rt hs
    exact fr_rt hs
theorem ow_X16_node {O : Nat → Prop} {x0 : Nat} {x1 : Int32} {x2 : Int32} {h : sv_H} {r : Int32} {hE : sv_H} (oc : sv_cl O h) (ox0 : O x0) (hw : fn_X16_node x0 x1 x2 h = some (r, hE)) : sv_ow [1705, 1711, 1717, 1725, 1726, 1727] [1706, 1707, 1708, 1709, 1710, 1712, 1713, 1714, 1715, 1716, 1718, 1719, 1720, 1721, 1722, 1723, 1724] O h hE := ow_X16_node_0 oc ox0 (sv_ow.refl h) r hE hw

theorem ow_X17_nodeOf_25 {O : Nat → Prop} {h0 : sv_H} (oc : sv_cl O h0) {s0 : Int32} {h : sv_H} (hs : sv_ow [1705, 1711, 1717, 1725, 1726, 1727, 1800] [1706, 1707, 1708, 1709, 1710, 1712, 1713, 1714, 1715, 1716, 1718, 1719, 1720, 1721, 1722, 1723, 1724] O h0 h) : sv_fr (sv_ow [1705, 1711, 1717, 1725, 1726, 1727, 1800] [1706, 1707, 1708, 1709, 1710, 1712, 1713, 1714, 1715, 1716, 1718, 1719, 1720, 1721, 1722, 1723, 1724] O) h0 (fn_X17_nodeOf_25 s0 h) := by
  unfold fn_X17_nodeOf_25
  exact fr_rt hs
theorem ow_X17_nodeOf_0 {O : Nat → Prop} {h0 : sv_H} (oc : sv_cl O h0) {x0 : Nat} {x1 : Int32} {x2 : Int32} {h : sv_H} (ox0 : O x0) (hs : sv_ow [1705, 1711, 1717, 1725, 1726, 1727, 1800] [1706, 1707, 1708, 1709, 1710, 1712, 1713, 1714, 1715, 1716, 1718, 1719, 1720, 1721, 1722, 1723, 1724] O h0 h) : sv_fr (sv_ow [1705, 1711, 1717, 1725, 1726, 1727, 1800] [1706, 1707, 1708, 1709, 1710, 1712, 1713, 1714, 1715, 1716, 1718, 1719, 1720, 1721, 1722, 1723, 1724] O) h0 (fn_X17_nodeOf x0 x1 x2 h) := by
  unfold fn_X17_nodeOf
  refine fr_if ?_ fr_no
  refine fr_st (fun _ e => ow_pI hs (by decide) ox0 e) (fun h hs => ?_)
  refine fr_bd (fun _ => ?_)
  refine fr_if ?_ ?_
  · exact ow_X17_nodeOf_25 oc hs
  · refine fr_be (fun v3 e => ?_)
    have ov3 := ow_gO oc hs ox0 e
    clear e
    refine fr_cl (fun _ _ e => (hs.trans ((ow_X16_node (oc.of hs) ov3 e).weak (by decide) (by decide)))) (fun _ h hs => ?_)
    exact ow_X17_nodeOf_25 oc hs
theorem ow_X17_nodeOf {O : Nat → Prop} {x0 : Nat} {x1 : Int32} {x2 : Int32} {h : sv_H} {r : Int32} {hE : sv_H} (oc : sv_cl O h) (ox0 : O x0) (hw : fn_X17_nodeOf x0 x1 x2 h = some (r, hE)) : sv_ow [1705, 1711, 1717, 1725, 1726, 1727, 1800] [1706, 1707, 1708, 1709, 1710, 1712, 1713, 1714, 1715, 1716, 1718, 1719, 1720, 1721, 1722, 1723, 1724] O h hE := ow_X17_nodeOf_0 oc ox0 (sv_ow.refl h) r hE hw

theorem ow_X16_leaf_14 {O : Nat → Prop} {h0 : sv_H} (oc : sv_cl O h0) {h : sv_H} (hs : sv_ow [1705, 1711, 1717, 1725, 1726, 1727] [1706, 1707, 1708, 1709, 1710, 1712, 1713, 1714, 1715, 1716, 1718, 1719, 1720, 1721, 1722, 1723, 1724] O h0 h) : sv_fr (sv_ow [1705, 1711, 1717, 1725, 1726, 1727] [1706, 1707, 1708, 1709, 1710, 1712, 1713, 1714, 1715, 1716, 1718, 1719, 1720, 1721, 1722, 1723, 1724] O) h0 (fn_X16_leaf_14 h) := by
  unfold fn_X16_leaf_14
  exact fr_rt hs
theorem ow_X16_leaf_62 {O : Nat → Prop} {h0 : sv_H} (oc : sv_cl O h0) {k33 : Nat → Int32 → Int32 → Int32 → sv_H → Option (Int32 × sv_H)} (hk33 : ∀ {x0 : Nat} {x1 : Int32} {x2 : Int32} {x3 : Int32} {h : sv_H}, O x0 → sv_ow [1705, 1711, 1717, 1725, 1726, 1727] [1706, 1707, 1708, 1709, 1710, 1712, 1713, 1714, 1715, 1716, 1718, 1719, 1720, 1721, 1722, 1723, 1724] O h0 h → sv_fr (sv_ow [1705, 1711, 1717, 1725, 1726, 1727] [1706, 1707, 1708, 1709, 1710, 1712, 1713, 1714, 1715, 1716, 1718, 1719, 1720, 1721, 1722, 1723, 1724] O) h0 (k33 x0 x1 x2 x3 h)) {x0 : Nat} {x1 : Int32} {x2 : Int32} {s0 : Int32} {h : sv_H} (ox0 : O x0) (hs : sv_ow [1705, 1711, 1717, 1725, 1726, 1727] [1706, 1707, 1708, 1709, 1710, 1712, 1713, 1714, 1715, 1716, 1718, 1719, 1720, 1721, 1722, 1723, 1724] O h0 h) : sv_fr (sv_ow [1705, 1711, 1717, 1725, 1726, 1727] [1706, 1707, 1708, 1709, 1710, 1712, 1713, 1714, 1715, 1716, 1718, 1719, 1720, 1721, 1722, 1723, 1724] O) h0 (fn_X16_leaf_62 k33 x0 x1 x2 s0 h) := by
  unfold fn_X16_leaf_62
  exact hk33 ox0 hs
theorem ow_X16_leaf_33b {O : Nat → Prop} {h0 : sv_H} (oc : sv_cl O h0) {k33 : Nat → Int32 → Int32 → Int32 → sv_H → Option (Int32 × sv_H)} (hk33 : ∀ {x0 : Nat} {x1 : Int32} {x2 : Int32} {x3 : Int32} {h : sv_H}, O x0 → sv_ow [1705, 1711, 1717, 1725, 1726, 1727] [1706, 1707, 1708, 1709, 1710, 1712, 1713, 1714, 1715, 1716, 1718, 1719, 1720, 1721, 1722, 1723, 1724] O h0 h → sv_fr (sv_ow [1705, 1711, 1717, 1725, 1726, 1727] [1706, 1707, 1708, 1709, 1710, 1712, 1713, 1714, 1715, 1716, 1718, 1719, 1720, 1721, 1722, 1723, 1724] O) h0 (k33 x0 x1 x2 x3 h)) {x0 : Nat} {x1 : Int32} {x2 : Int32} {x3 : Int32} {h : sv_H} (ox0 : O x0) (hs : sv_ow [1705, 1711, 1717, 1725, 1726, 1727] [1706, 1707, 1708, 1709, 1710, 1712, 1713, 1714, 1715, 1716, 1718, 1719, 1720, 1721, 1722, 1723, 1724] O h0 h) : sv_fr (sv_ow [1705, 1711, 1717, 1725, 1726, 1727] [1706, 1707, 1708, 1709, 1710, 1712, 1713, 1714, 1715, 1716, 1718, 1719, 1720, 1721, 1722, 1723, 1724] O) h0 (fn_X16_leaf_33b k33 x0 x1 x2 x3 h) := by
  unfold fn_X16_leaf_33b
  refine fr_if ?_ ?_
  · exact fr_rt hs
  · refine fr_cl (fun _ _ e => (by rw [ro_X16_isLeft e]; exact hs)) (fun _ h hs => ?_)
    refine fr_if ?_ ?_
    · refine fr_be (fun v3 e => ?_)
      have ov3 := ow_gR hs ox0 e
      clear e
      refine fr_bd (fun _ => ?_)
      exact ow_X16_leaf_62 oc hk33 ox0 hs
    · refine fr_be (fun v5 e => ?_)
      have ov5 := ow_gR hs ox0 e
      clear e
      refine fr_bd (fun _ => ?_)
      exact ow_X16_leaf_62 oc hk33 ox0 hs
theorem ow_X16_leaf_33 {O : Nat → Prop} {h0 : sv_H} (oc : sv_cl O h0) : ∀ (n : Nat) {x0 : Nat} {x1 : Int32} {x2 : Int32} {x3 : Int32} {h : sv_H}, O x0 → sv_ow [1705, 1711, 1717, 1725, 1726, 1727] [1706, 1707, 1708, 1709, 1710, 1712, 1713, 1714, 1715, 1716, 1718, 1719, 1720, 1721, 1722, 1723, 1724] O h0 h → sv_fr (sv_ow [1705, 1711, 1717, 1725, 1726, 1727] [1706, 1707, 1708, 1709, 1710, 1712, 1713, 1714, 1715, 1716, 1718, 1719, 1720, 1721, 1722, 1723, 1724] O) h0 (fn_X16_leaf_33 n x0 x1 x2 x3 h) := by
  intro n
  induction n with
  | zero => intro x0 x1 x2 x3 h ox0 hs r hE e; cases (show (none : Option (Int32 × sv_H)) = some (r, hE) from e)
  | succ n ih => intro x0 x1 x2 x3 h ox0 hs; exact ow_X16_leaf_33b oc (fun ox0 hs => ih ox0 hs) ox0 hs
theorem ow_X16_leaf_32 {O : Nat → Prop} {h0 : sv_H} (oc : sv_cl O h0) {x0 : Nat} {x1 : Int32} {x2 : Int32} {s0 : Int32} {h : sv_H} (ox0 : O x0) (hs : sv_ow [1705, 1711, 1717, 1725, 1726, 1727] [1706, 1707, 1708, 1709, 1710, 1712, 1713, 1714, 1715, 1716, 1718, 1719, 1720, 1721, 1722, 1723, 1724] O h0 h) : sv_fr (sv_ow [1705, 1711, 1717, 1725, 1726, 1727] [1706, 1707, 1708, 1709, 1710, 1712, 1713, 1714, 1715, 1716, 1718, 1719, 1720, 1721, 1722, 1723, 1724] O) h0 (fn_X16_leaf_32 x0 x1 x2 s0 h) := by
  unfold fn_X16_leaf_32
  exact ow_X16_leaf_33 oc sv_fuel ox0 hs
theorem ow_X16_leaf_0 {O : Nat → Prop} {h0 : sv_H} (oc : sv_cl O h0) {x0 : Nat} {x1 : Int32} {x2 : Int32} {h : sv_H} (ox0 : O x0) (hs : sv_ow [1705, 1711, 1717, 1725, 1726, 1727] [1706, 1707, 1708, 1709, 1710, 1712, 1713, 1714, 1715, 1716, 1718, 1719, 1720, 1721, 1722, 1723, 1724] O h0 h) : sv_fr (sv_ow [1705, 1711, 1717, 1725, 1726, 1727] [1706, 1707, 1708, 1709, 1710, 1712, 1713, 1714, 1715, 1716, 1718, 1719, 1720, 1721, 1722, 1723, 1724] O) h0 (fn_X16_leaf x0 x1 x2 h) := by
  unfold fn_X16_leaf
  refine fr_if ?_ fr_no
  refine fr_cl (fun _ _ e => (by rw [ro_X16_isPlace e]; exact hs)) (fun _ h hs => ?_)
  refine fr_if ?_ ?_
  · exact ow_X16_leaf_14 oc hs
  · refine fr_cl (fun _ _ e => (by rw [ro_X16_isPlace e]; exact hs)) (fun _ h hs => ?_)
    refine fr_if ?_ ?_
    · exact ow_X16_leaf_14 oc hs
    · refine fr_cl (fun _ _ e => (hs.trans ((ow_X16_know (oc.of hs) ox0 e).weak (by decide) (by decide)))) (fun _ h hs => ?_)
      refine fr_bd (fun _ => ?_)
      refine fr_if ?_ ?_
      · exact ow_X16_leaf_32 oc ox0 hs
      · exact ow_X16_leaf_32 oc ox0 hs
theorem ow_X16_leaf {O : Nat → Prop} {x0 : Nat} {x1 : Int32} {x2 : Int32} {h : sv_H} {r : Int32} {hE : sv_H} (oc : sv_cl O h) (ox0 : O x0) (hw : fn_X16_leaf x0 x1 x2 h = some (r, hE)) : sv_ow [1705, 1711, 1717, 1725, 1726, 1727] [1706, 1707, 1708, 1709, 1710, 1712, 1713, 1714, 1715, 1716, 1718, 1719, 1720, 1721, 1722, 1723, 1724] O h hE := ow_X16_leaf_0 oc ox0 (sv_ow.refl h) r hE hw

theorem ow_X17_leafOf_25 {O : Nat → Prop} {h0 : sv_H} (oc : sv_cl O h0) {s0 : Int32} {h : sv_H} (hs : sv_ow [1705, 1711, 1717, 1725, 1726, 1727, 1800] [1706, 1707, 1708, 1709, 1710, 1712, 1713, 1714, 1715, 1716, 1718, 1719, 1720, 1721, 1722, 1723, 1724] O h0 h) : sv_fr (sv_ow [1705, 1711, 1717, 1725, 1726, 1727, 1800] [1706, 1707, 1708, 1709, 1710, 1712, 1713, 1714, 1715, 1716, 1718, 1719, 1720, 1721, 1722, 1723, 1724] O) h0 (fn_X17_leafOf_25 s0 h) := by
  unfold fn_X17_leafOf_25
  exact fr_rt hs
theorem ow_X17_leafOf_0 {O : Nat → Prop} {h0 : sv_H} (oc : sv_cl O h0) {x0 : Nat} {x1 : Int32} {x2 : Int32} {h : sv_H} (ox0 : O x0) (hs : sv_ow [1705, 1711, 1717, 1725, 1726, 1727, 1800] [1706, 1707, 1708, 1709, 1710, 1712, 1713, 1714, 1715, 1716, 1718, 1719, 1720, 1721, 1722, 1723, 1724] O h0 h) : sv_fr (sv_ow [1705, 1711, 1717, 1725, 1726, 1727, 1800] [1706, 1707, 1708, 1709, 1710, 1712, 1713, 1714, 1715, 1716, 1718, 1719, 1720, 1721, 1722, 1723, 1724] O) h0 (fn_X17_leafOf x0 x1 x2 h) := by
  unfold fn_X17_leafOf
  refine fr_if ?_ fr_no
  refine fr_st (fun _ e => ow_pI hs (by decide) ox0 e) (fun h hs => ?_)
  refine fr_bd (fun _ => ?_)
  refine fr_if ?_ ?_
  · exact ow_X17_leafOf_25 oc hs
  · refine fr_be (fun v3 e => ?_)
    have ov3 := ow_gO oc hs ox0 e
    clear e
    refine fr_cl (fun _ _ e => (hs.trans ((ow_X16_leaf (oc.of hs) ov3 e).weak (by decide) (by decide)))) (fun _ h hs => ?_)
    exact ow_X17_leafOf_25 oc hs
theorem ow_X17_leafOf {O : Nat → Prop} {x0 : Nat} {x1 : Int32} {x2 : Int32} {h : sv_H} {r : Int32} {hE : sv_H} (oc : sv_cl O h) (ox0 : O x0) (hw : fn_X17_leafOf x0 x1 x2 h = some (r, hE)) : sv_ow [1705, 1711, 1717, 1725, 1726, 1727, 1800] [1706, 1707, 1708, 1709, 1710, 1712, 1713, 1714, 1715, 1716, 1718, 1719, 1720, 1721, 1722, 1723, 1724] O h hE := ow_X17_leafOf_0 oc ox0 (sv_ow.refl h) r hE hw

theorem ow_X17_byteOf_31 {O : Nat → Prop} {h0 : sv_H} (oc : sv_cl O h0) {h : sv_H} (hs : sv_ow [1800] [] O h0 h) : sv_fr (sv_ow [1800] [] O) h0 (fn_X17_byteOf_31 h) := by
  unfold fn_X17_byteOf_31
  exact fr_rt hs
theorem ow_X17_byteOf_59 {O : Nat → Prop} {h0 : sv_H} (oc : sv_cl O h0) {s0 : Int32} {h : sv_H} (hs : sv_ow [1800] [] O h0 h) : sv_fr (sv_ow [1800] [] O) h0 (fn_X17_byteOf_59 s0 h) := by
  unfold fn_X17_byteOf_59
  exact fr_rt hs
theorem ow_X17_byteOf_28 {O : Nat → Prop} {h0 : sv_H} (oc : sv_cl O h0) {x0 : Nat} {x1 : Int32} {x2 : Int32} {s0 : Int32} {s1 : Int32} {h : sv_H} (ox0 : O x0) (hs : sv_ow [1800] [] O h0 h) : sv_fr (sv_ow [1800] [] O) h0 (fn_X17_byteOf_28 x0 x1 x2 s0 s1 h) := by
  unfold fn_X17_byteOf_28
  refine fr_if ?_ ?_
  · refine fr_if ?_ ?_
    · refine fr_be (fun v1 e => ?_)
      have ov1 := ow_gR hs ox0 e
      clear e
      refine fr_bd (fun _ => ?_)
      exact ow_X17_byteOf_59 oc hs
    · refine fr_be (fun v3 e => ?_)
      have ov3 := ow_gO oc hs ox0 e
      clear e
      refine fr_be (fun v4 e => ?_)
      have ov4 := ow_gR hs ov3 e
      clear e
      refine fr_bd (fun _ => ?_)
      exact ow_X17_byteOf_59 oc hs
  · exact ow_X17_byteOf_31 oc hs
theorem ow_X17_byteOf_0 {O : Nat → Prop} {h0 : sv_H} (oc : sv_cl O h0) {x0 : Nat} {x1 : Int32} {x2 : Int32} {h : sv_H} (ox0 : O x0) (hs : sv_ow [1800] [] O h0 h) : sv_fr (sv_ow [1800] [] O) h0 (fn_X17_byteOf x0 x1 x2 h) := by
  unfold fn_X17_byteOf
  refine fr_if ?_ fr_no
  refine fr_st (fun _ e => ow_pI hs (by decide) ox0 e) (fun h hs => ?_)
  refine fr_if ?_ ?_
  · exact ow_X17_byteOf_31 oc hs
  · refine fr_if ?_ ?_
    · refine fr_bd (fun _ => ?_)
      exact ow_X17_byteOf_28 oc ox0 hs
    · refine fr_be (fun v3 e => ?_)
      have ov3 := ow_gO oc hs ox0 e
      clear e
      refine fr_bd (fun _ => ?_)
      exact ow_X17_byteOf_28 oc ox0 hs
theorem ow_X17_byteOf {O : Nat → Prop} {x0 : Nat} {x1 : Int32} {x2 : Int32} {h : sv_H} {r : Int32} {hE : sv_H} (oc : sv_cl O h) (ox0 : O x0) (hw : fn_X17_byteOf x0 x1 x2 h = some (r, hE)) : sv_ow [1800] [] O h hE := ow_X17_byteOf_0 oc ox0 (sv_ow.refl h) r hE hw

theorem ow_X17_lookAt_93 {O : Nat → Prop} {h0 : sv_H} (oc : sv_cl O h0) {s0 : Int32} {h : sv_H} (hs : sv_ow [1705, 1711, 1717, 1725, 1726, 1727, 1800] [1706, 1707, 1708, 1709, 1710, 1712, 1713, 1714, 1715, 1716, 1718, 1719, 1720, 1721, 1722, 1723, 1724] O h0 h) : sv_fr (sv_ow [1705, 1711, 1717, 1725, 1726, 1727, 1800] [1706, 1707, 1708, 1709, 1710, 1712, 1713, 1714, 1715, 1716, 1718, 1719, 1720, 1721, 1722, 1723, 1724] O) h0 (fn_X17_lookAt_93 s0 h) := by
  unfold fn_X17_lookAt_93
  exact fr_rt hs
theorem ow_X17_lookAt_72 {O : Nat → Prop} {h0 : sv_H} (oc : sv_cl O h0) {x0 : Nat} {x1 : Int32} {h : sv_H} (ox0 : O x0) (hs : sv_ow [1705, 1711, 1717, 1725, 1726, 1727, 1800] [1706, 1707, 1708, 1709, 1710, 1712, 1713, 1714, 1715, 1716, 1718, 1719, 1720, 1721, 1722, 1723, 1724] O h0 h) : sv_fr (sv_ow [1705, 1711, 1717, 1725, 1726, 1727, 1800] [1706, 1707, 1708, 1709, 1710, 1712, 1713, 1714, 1715, 1716, 1718, 1719, 1720, 1721, 1722, 1723, 1724] O) h0 (fn_X17_lookAt_72 x0 x1 h) := by
  unfold fn_X17_lookAt_72
  refine fr_bd (fun _ => ?_)
  refine fr_if ?_ ?_
  · exact ow_X17_lookAt_93 oc hs
  · refine fr_be (fun v2 e => ?_)
    have ov2 := ow_gO oc hs ox0 e
    clear e
    refine fr_cl (fun _ _ e => (by rw [ro_X14_many e]; exact hs)) (fun _ h hs => ?_)
    exact ow_X17_lookAt_93 oc hs
theorem ow_X17_lookAt_150 {O : Nat → Prop} {h0 : sv_H} (oc : sv_cl O h0) {s0 : Int32} {h : sv_H} (hs : sv_ow [1705, 1711, 1717, 1725, 1726, 1727, 1800] [1706, 1707, 1708, 1709, 1710, 1712, 1713, 1714, 1715, 1716, 1718, 1719, 1720, 1721, 1722, 1723, 1724] O h0 h) : sv_fr (sv_ow [1705, 1711, 1717, 1725, 1726, 1727, 1800] [1706, 1707, 1708, 1709, 1710, 1712, 1713, 1714, 1715, 1716, 1718, 1719, 1720, 1721, 1722, 1723, 1724] O) h0 (fn_X17_lookAt_150 s0 h) := by
  unfold fn_X17_lookAt_150
  exact fr_rt hs
theorem ow_X17_lookAt_176 {O : Nat → Prop} {h0 : sv_H} (oc : sv_cl O h0) {s0 : Int32} {h : sv_H} (hs : sv_ow [1705, 1711, 1717, 1725, 1726, 1727, 1800] [1706, 1707, 1708, 1709, 1710, 1712, 1713, 1714, 1715, 1716, 1718, 1719, 1720, 1721, 1722, 1723, 1724] O h0 h) : sv_fr (sv_ow [1705, 1711, 1717, 1725, 1726, 1727, 1800] [1706, 1707, 1708, 1709, 1710, 1712, 1713, 1714, 1715, 1716, 1718, 1719, 1720, 1721, 1722, 1723, 1724] O) h0 (fn_X17_lookAt_176 s0 h) := by
  unfold fn_X17_lookAt_176
  exact fr_rt hs
theorem ow_X17_lookAt_0 {O : Nat → Prop} {h0 : sv_H} (oc : sv_cl O h0) {x0 : Nat} {x1 : Int32} {h : sv_H} (ox0 : O x0) (hs : sv_ow [1705, 1711, 1717, 1725, 1726, 1727, 1800] [1706, 1707, 1708, 1709, 1710, 1712, 1713, 1714, 1715, 1716, 1718, 1719, 1720, 1721, 1722, 1723, 1724] O h0 h) : sv_fr (sv_ow [1705, 1711, 1717, 1725, 1726, 1727, 1800] [1706, 1707, 1708, 1709, 1710, 1712, 1713, 1714, 1715, 1716, 1718, 1719, 1720, 1721, 1722, 1723, 1724] O) h0 (fn_X17_lookAt x0 x1 h) := by
  unfold fn_X17_lookAt
  refine fr_if ?_ fr_no
  refine fr_st (fun _ e => ow_pI hs (by decide) ox0 e) (fun h hs => ?_)
  refine fr_if ?_ ?_
  · exact ow_X17_lookAt_72 oc ox0 hs
  refine fr_if ?_ ?_
  · exact ow_X17_lookAt_72 oc ox0 hs
  refine fr_if ?_ ?_
  · exact ow_X17_lookAt_72 oc ox0 hs
  refine fr_if ?_ ?_
  · exact ow_X17_lookAt_72 oc ox0 hs
  refine fr_if ?_ ?_
  · refine fr_be (fun v2 e => ?_)
    have ov2 := ow_gO oc hs ox0 e
    clear e
    refine fr_bd (fun _ => ?_)
    exact fr_rt hs
  refine fr_if ?_ ?_
  · refine fr_be (fun v4 e => ?_)
    have ov4 := ow_gO oc hs ox0 e
    clear e
    refine fr_bd (fun _ => ?_)
    exact fr_rt hs
  refine fr_if ?_ ?_
  · refine fr_bd (fun _ => ?_)
    exact fr_rt hs
  refine fr_if ?_ ?_
  · refine fr_bd (fun _ => ?_)
    exact fr_rt hs
  refine fr_if ?_ ?_
  · refine fr_bd (fun _ => ?_)
    exact fr_rt hs
  refine fr_if ?_ ?_
  · refine fr_be (fun v9 e => ?_)
    have ov9 := ow_gO oc hs ox0 e
    clear e
    refine fr_cl (fun _ _ e => (hs.trans ((ow_X16_know (oc.of hs) ov9 e).weak (by decide) (by decide)))) (fun _ h hs => ?_)
    refine fr_bd (fun _ => ?_)
    refine fr_if ?_ ?_
    · exact ow_X17_lookAt_150 oc hs
    · refine fr_be (fun v12 e => ?_)
      have ov12 := ow_gO oc hs ox0 e
      clear e
      refine fr_bd (fun _ => ?_)
      exact ow_X17_lookAt_150 oc hs
  refine fr_if ?_ ?_
  · refine fr_be (fun v14 e => ?_)
    have ov14 := ow_gO oc hs ox0 e
    clear e
    refine fr_cl (fun _ _ e => (hs.trans ((ow_X16_know (oc.of hs) ov14 e).weak (by decide) (by decide)))) (fun _ h hs => ?_)
    refine fr_bd (fun _ => ?_)
    refine fr_if ?_ ?_
    · exact ow_X17_lookAt_176 oc hs
    · refine fr_be (fun v17 e => ?_)
      have ov17 := ow_gO oc hs ox0 e
      clear e
      refine fr_bd (fun _ => ?_)
      exact ow_X17_lookAt_176 oc hs
  refine fr_if ?_ ?_
  · refine fr_be (fun v19 e => ?_)
    have ov19 := ow_gO oc hs ox0 e
    clear e
    refine fr_cl (fun _ _ e => (by rw [ro_X13_many e]; exact hs)) (fun _ h hs => ?_)
    exact fr_rt hs
  refine fr_if ?_ ?_
  · refine fr_bd (fun _ => ?_)
    exact fr_rt hs
  exact fr_rt hs
theorem ow_X17_lookAt {O : Nat → Prop} {x0 : Nat} {x1 : Int32} {h : sv_H} {r : Int32} {hE : sv_H} (oc : sv_cl O h) (ox0 : O x0) (hw : fn_X17_lookAt x0 x1 h = some (r, hE)) : sv_ow [1705, 1711, 1717, 1725, 1726, 1727, 1800] [1706, 1707, 1708, 1709, 1710, 1712, 1713, 1714, 1715, 1716, 1718, 1719, 1720, 1721, 1722, 1723, 1724] O h hE := ow_X17_lookAt_0 oc ox0 (sv_ow.refl h) r hE hw

