theorem fr_J13_signum_95d88_0 {h0 : sv_H} {x0 : Int64} {h : sv_H} (hs : sv_same h0 h) : sv_fr sv_same h0 (fn_J13_signum_95d88 x0 h) := by
  unfold fn_J13_signum_95d88
  exact fr_rt hs
theorem fr_J13_signum_95d88 {x0 : Int64} {h : sv_H} {r : Int32} {hE : sv_H} (hw : fn_J13_signum_95d88 x0 h = some (r, hE)) : sv_same h hE := fr_J13_signum_95d88_0 (sv_same.refl h) r hE hw

theorem fr_J6_signum_0f7a4_0 {h0 : sv_H} {x0 : Int32} {h : sv_H} (hs : sv_same h0 h) : sv_fr sv_same h0 (fn_J6_signum_0f7a4 x0 h) := by
  unfold fn_J6_signum_0f7a4
  exact fr_rt hs
theorem fr_J6_signum_0f7a4 {x0 : Int32} {h : sv_H} {r : Int32} {hE : sv_H} (hw : fn_J6_signum_0f7a4 x0 h = some (r, hE)) : sv_same h hE := fr_J6_signum_0f7a4_0 (sv_same.refl h) r hE hw

theorem fr_J7_copyOf_59c91_0 {h0 : sv_H} {x0 : Nat} {x1 : Int32} {h : sv_H} (hs : sv_le h0 h) : sv_fr sv_le h0 (fn_J7_copyOf_59c91 x0 x1 h) := by
  unfold fn_J7_copyOf_59c91
  refine fr_bd (fun _ => ?_)
  refine fr_if ?_ ?_
  · exact fr_no
  · refine fr_na hs (fun hs => ?_)
    refine fr_bd (fun _ => ?_)
    refine fr_let (fun _ => ?_)
    refine fr_st (fun _ e => hs.trans (st_copy e).le) (fun h hs => ?_)
    exact fr_rt hs
theorem fr_J7_copyOf_59c91 {x0 : Nat} {x1 : Int32} {h : sv_H} {r : Nat} {hE : sv_H} (hw : fn_J7_copyOf_59c91 x0 x1 h = some (r, hE)) : sv_le h hE := fr_J7_copyOf_59c91_0 (sv_le.refl h) r hE hw

theorem fr_J7_copyOf_c38d5_0 {h0 : sv_H} {x0 : Nat} {x1 : Int32} {h : sv_H} (hs : sv_le h0 h) : sv_fr sv_le h0 (fn_J7_copyOf_c38d5 x0 x1 h) := by
  unfold fn_J7_copyOf_c38d5
  refine fr_bd (fun _ => ?_)
  refine fr_if ?_ ?_
  · exact fr_no
  · refine fr_na hs (fun hs => ?_)
    refine fr_bd (fun _ => ?_)
    refine fr_let (fun _ => ?_)
    refine fr_st (fun _ e => hs.trans (st_copy e).le) (fun h hs => ?_)
    exact fr_rt hs
theorem fr_J7_copyOf_c38d5 {x0 : Nat} {x1 : Int32} {h : sv_H} {r : Nat} {hE : sv_H} (hw : fn_J7_copyOf_c38d5 x0 x1 h = some (r, hE)) : sv_le h hE := fr_J7_copyOf_c38d5_0 (sv_le.refl h) r hE hw

theorem fr_J7_fill_53178_5b {h0 : sv_H} {k5 : Nat → Int32 → Int32 → Int32 → sv_H → Option (Unit × sv_H)} (hk5 : ∀ {x0 : Nat} {x1 : Int32} {x2 : Int32} {x3 : Int32} {h : sv_H}, sv_same h0 h → sv_fr sv_same h0 (k5 x0 x1 x2 x3 h)) {x0 : Nat} {x1 : Int32} {x2 : Int32} {x3 : Int32} {h : sv_H} (hs : sv_same h0 h) : sv_fr sv_same h0 (fn_J7_fill_53178_5b k5 x0 x1 x2 x3 h) := by
  unfold fn_J7_fill_53178_5b
  refine fr_if ?_ ?_
  · exact fr_rt hs
  · refine fr_st (fun _ e => hs.trans (st_sI e)) (fun h hs => ?_)
    exact hk5 hs
theorem fr_J7_fill_53178_5 {h0 : sv_H} : ∀ (n : Nat) {x0 : Nat} {x1 : Int32} {x2 : Int32} {x3 : Int32} {h : sv_H}, sv_same h0 h → sv_fr sv_same h0 (fn_J7_fill_53178_5 n x0 x1 x2 x3 h) := by
  intro n
  induction n with
  | zero => intro x0 x1 x2 x3 h hs r hE e; cases (show (none : Option (Unit × sv_H)) = some (r, hE) from e)
  | succ n ih => intro x0 x1 x2 x3 h hs; exact fr_J7_fill_53178_5b (fun hs => ih hs) hs
theorem fr_J7_fill_53178_0 {h0 : sv_H} {x0 : Nat} {x1 : Int32} {h : sv_H} (hs : sv_same h0 h) : sv_fr sv_same h0 (fn_J7_fill_53178 x0 x1 h) := by
  unfold fn_J7_fill_53178
  refine fr_bd (fun _ => ?_)
  exact fr_J7_fill_53178_5 sv_fuel hs
theorem fr_J7_fill_53178 {x0 : Nat} {x1 : Int32} {h : sv_H} {r : Unit} {hE : sv_H} (hw : fn_J7_fill_53178 x0 x1 h = some (r, hE)) : sv_same h hE := fr_J7_fill_53178_0 (sv_same.refl h) r hE hw

theorem fr_J9_floorDiv_7cf53_21 {h0 : sv_H} {x2 : Int32} {h : sv_H} (hs : sv_same h0 h) : sv_fr sv_same h0 (fn_J9_floorDiv_7cf53_21 x2 h) := by
  unfold fn_J9_floorDiv_7cf53_21
  exact fr_rt hs
theorem fr_J9_floorDiv_7cf53_0 {h0 : sv_H} {x0 : Int32} {x1 : Int32} {h : sv_H} (hs : sv_same h0 h) : sv_fr sv_same h0 (fn_J9_floorDiv_7cf53 x0 x1 h) := by
  unfold fn_J9_floorDiv_7cf53
  refine fr_if fr_no ?_
  refine fr_if ?_ ?_
  · exact fr_J9_floorDiv_7cf53_21 hs
  · refine fr_if ?_ ?_
    · exact fr_J9_floorDiv_7cf53_21 hs
    · exact fr_rt hs
theorem fr_J9_floorDiv_7cf53 {x0 : Int32} {x1 : Int32} {h : sv_H} {r : Int32} {hE : sv_H} (hw : fn_J9_floorDiv_7cf53 x0 x1 h = some (r, hE)) : sv_same h hE := fr_J9_floorDiv_7cf53_0 (sv_same.refl h) r hE hw

theorem fr_J9_floorDiv_f86c9_27 {h0 : sv_H} {x4 : Int64} {h : sv_H} (hs : sv_same h0 h) : sv_fr sv_same h0 (fn_J9_floorDiv_f86c9_27 x4 h) := by
  unfold fn_J9_floorDiv_f86c9_27
  exact fr_rt hs
theorem fr_J9_floorDiv_f86c9_0 {h0 : sv_H} {x0 : Int64} {x2 : Int64} {h : sv_H} (hs : sv_same h0 h) : sv_fr sv_same h0 (fn_J9_floorDiv_f86c9 x0 x2 h) := by
  unfold fn_J9_floorDiv_f86c9
  refine fr_if fr_no ?_
  refine fr_if ?_ ?_
  · exact fr_J9_floorDiv_f86c9_27 hs
  · refine fr_if ?_ ?_
    · exact fr_J9_floorDiv_f86c9_27 hs
    · exact fr_rt hs
theorem fr_J9_floorDiv_f86c9 {x0 : Int64} {x2 : Int64} {h : sv_H} {r : Int64} {hE : sv_H} (hw : fn_J9_floorDiv_f86c9 x0 x2 h = some (r, hE)) : sv_same h hE := fr_J9_floorDiv_f86c9_0 (sv_same.refl h) r hE hw

theorem fr_J9_floorMod_7cf53_18 {h0 : sv_H} {x2 : Int32} {h : sv_H} (hs : sv_same h0 h) : sv_fr sv_same h0 (fn_J9_floorMod_7cf53_18 x2 h) := by
  unfold fn_J9_floorMod_7cf53_18
  exact fr_rt hs
theorem fr_J9_floorMod_7cf53_0 {h0 : sv_H} {x0 : Int32} {x1 : Int32} {h : sv_H} (hs : sv_same h0 h) : sv_fr sv_same h0 (fn_J9_floorMod_7cf53 x0 x1 h) := by
  unfold fn_J9_floorMod_7cf53
  refine fr_if fr_no ?_
  refine fr_if ?_ ?_
  · exact fr_J9_floorMod_7cf53_18 hs
  · refine fr_if ?_ ?_
    · exact fr_J9_floorMod_7cf53_18 hs
    · exact fr_rt hs
theorem fr_J9_floorMod_7cf53 {x0 : Int32} {x1 : Int32} {h : sv_H} {r : Int32} {hE : sv_H} (hw : fn_J9_floorMod_7cf53 x0 x1 h = some (r, hE)) : sv_same h hE := fr_J9_floorMod_7cf53_0 (sv_same.refl h) r hE hw

theorem fr_J9_multiplyHigh_f86c9_0 {h0 : sv_H} {x0 : Int64} {x2 : Int64} {h : sv_H} (hs : sv_same h0 h) : sv_fr sv_same h0 (fn_J9_multiplyHigh_f86c9 x0 x2 h) := by
  unfold fn_J9_multiplyHigh_f86c9
  exact fr_rt hs
theorem fr_J9_multiplyHigh_f86c9 {x0 : Int64} {x2 : Int64} {h : sv_H} {r : Int64} {hE : sv_H} (hw : fn_J9_multiplyHigh_f86c9 x0 x2 h = some (r, hE)) : sv_same h hE := fr_J9_multiplyHigh_f86c9_0 (sv_same.refl h) r hE hw

theorem fr_X0_init_0 {h0 : sv_H} {x0 : Nat} {h : sv_H} (hs : sv_le h0 h) : sv_fr sv_le h0 (fn_X0_init x0 h) := by
  unfold fn_X0_init
  refine fr_if ?_ fr_no
  refine fr_na hs (fun hs => ?_)
  refine fr_st (fun _ e => hs.trans (st_pP e).le) (fun h hs => ?_)
  exact fr_rt hs
theorem fr_X0_init {x0 : Nat} {h : sv_H} {r : Unit} {hE : sv_H} (hw : fn_X0_init x0 h = some (r, hE)) : sv_le h hE := fr_X0_init_0 (sv_le.refl h) r hE hw

theorem fr_X4_init_0 {h0 : sv_H} {x0 : Nat} {x1 : Nat} {h : sv_H} (hs : sv_same h0 h) : sv_fr sv_same h0 (fn_X4_init x0 x1 h) := by
  unfold fn_X4_init
  refine fr_if ?_ fr_no
  refine fr_st (fun _ e => hs.trans (st_pI e)) (fun h hs => ?_)
  refine fr_st (fun _ e => hs.trans (st_pP e)) (fun h hs => ?_)
  exact fr_rt hs
theorem fr_X4_init {x0 : Nat} {x1 : Nat} {h : sv_H} {r : Unit} {hE : sv_H} (hw : fn_X4_init x0 x1 h = some (r, hE)) : sv_same h hE := fr_X4_init_0 (sv_same.refl h) r hE hw

theorem fr_X1_init_0 {h0 : sv_H} {x0 : Nat} {h : sv_H} (hs : sv_le h0 h) : sv_fr sv_le h0 (fn_X1_init x0 h) := by
  unfold fn_X1_init
  refine fr_if ?_ fr_no
  refine fr_na hs (fun hs => ?_)
  refine fr_st (fun _ e => hs.trans (st_pP e).le) (fun h hs => ?_)
  refine fr_na hs (fun hs => ?_)
  refine fr_st (fun _ e => hs.trans (st_pP e).le) (fun h hs => ?_)
  refine fr_na hs (fun hs => ?_)
  refine fr_st (fun _ e => hs.trans (st_pP e).le) (fun h hs => ?_)
  refine fr_na hs (fun hs => ?_)
  refine fr_st (fun _ e => hs.trans (st_pP e).le) (fun h hs => ?_)
  refine fr_na hs (fun hs => ?_)
  refine fr_st (fun _ e => hs.trans (st_pP e).le) (fun h hs => ?_)
  refine fr_na hs (fun hs => ?_)
  refine fr_st (fun _ e => hs.trans (st_pP e).le) (fun h hs => ?_)
  exact fr_rt hs
theorem fr_X1_init {x0 : Nat} {h : sv_H} {r : Unit} {hE : sv_H} (hw : fn_X1_init x0 h = some (r, hE)) : sv_le h hE := fr_X1_init_0 (sv_le.refl h) r hE hw

theorem fr_X8_init_0 {h0 : sv_H} {x0 : Nat} {h : sv_H} (hs : sv_le h0 h) : sv_fr sv_le h0 (fn_X8_init x0 h) := by
  unfold fn_X8_init
  refine fr_if ?_ fr_no
  refine fr_new hs (fun hs => ?_)
  refine fr_cl (fun _ _ e => hs.trans (fr_X1_init e)) (fun _ h hs => ?_)
  refine fr_st (fun _ e => hs.trans (st_pP e).le) (fun h hs => ?_)
  refine fr_na hs (fun hs => ?_)
  refine fr_st (fun _ e => hs.trans (st_pP e).le) (fun h hs => ?_)
  refine fr_na hs (fun hs => ?_)
  refine fr_st (fun _ e => hs.trans (st_pP e).le) (fun h hs => ?_)
  refine fr_na hs (fun hs => ?_)
  refine fr_st (fun _ e => hs.trans (st_pP e).le) (fun h hs => ?_)
  refine fr_na hs (fun hs => ?_)
  refine fr_st (fun _ e => hs.trans (st_pP e).le) (fun h hs => ?_)
  refine fr_na hs (fun hs => ?_)
  refine fr_st (fun _ e => hs.trans (st_pP e).le) (fun h hs => ?_)
  refine fr_na hs (fun hs => ?_)
  refine fr_st (fun _ e => hs.trans (st_pP e).le) (fun h hs => ?_)
  refine fr_na hs (fun hs => ?_)
  refine fr_st (fun _ e => hs.trans (st_pP e).le) (fun h hs => ?_)
  refine fr_na hs (fun hs => ?_)
  refine fr_st (fun _ e => hs.trans (st_pP e).le) (fun h hs => ?_)
  refine fr_na hs (fun hs => ?_)
  refine fr_st (fun _ e => hs.trans (st_pP e).le) (fun h hs => ?_)
  exact fr_rt hs
theorem fr_X8_init {x0 : Nat} {h : sv_H} {r : Unit} {hE : sv_H} (hw : fn_X8_init x0 h = some (r, hE)) : sv_le h hE := fr_X8_init_0 (sv_le.refl h) r hE hw

theorem fr_X7_init_0 {h0 : sv_H} {x0 : Nat} {h : sv_H} (hs : sv_same h0 h) : sv_fr sv_same h0 (fn_X7_init x0 h) := by
  unfold fn_X7_init
  refine fr_if ?_ fr_no
  exact fr_rt hs
theorem fr_X7_init {x0 : Nat} {h : sv_H} {r : Unit} {hE : sv_H} (hw : fn_X7_init x0 h = some (r, hE)) : sv_same h hE := fr_X7_init_0 (sv_same.refl h) r hE hw

theorem fr_X6_init_0 {h0 : sv_H} {x0 : Nat} {h : sv_H} (hs : sv_same h0 h) : sv_fr sv_same h0 (fn_X6_init x0 h) := by
  unfold fn_X6_init
  refine fr_if ?_ fr_no
  refine fr_st (fun _ e => hs.trans (st_pI e)) (fun h hs => ?_)
  exact fr_rt hs
theorem fr_X6_init {x0 : Nat} {h : sv_H} {r : Unit} {hE : sv_H} (hw : fn_X6_init x0 h = some (r, hE)) : sv_same h hE := fr_X6_init_0 (sv_same.refl h) r hE hw

theorem fr_X11_init_0 {h0 : sv_H} {x0 : Nat} {h : sv_H} (hs : sv_le h0 h) : sv_fr sv_le h0 (fn_X11_init x0 h) := by
  unfold fn_X11_init
  refine fr_if ?_ fr_no
  refine fr_na hs (fun hs => ?_)
  refine fr_st (fun _ e => hs.trans (st_pP e).le) (fun h hs => ?_)
  exact fr_rt hs
theorem fr_X11_init {x0 : Nat} {h : sv_H} {r : Unit} {hE : sv_H} (hw : fn_X11_init x0 h = some (r, hE)) : sv_le h hE := fr_X11_init_0 (sv_le.refl h) r hE hw

theorem fr_X2_init_116b {h0 : sv_H} {k116 : Nat → Int32 → sv_H → Option (Unit × sv_H)} (hk116 : ∀ {x0 : Nat} {x1 : Int32} {h : sv_H}, sv_le h0 h → sv_fr sv_le h0 (k116 x0 x1 h)) {x0 : Nat} {x1 : Int32} {h : sv_H} (hs : sv_le h0 h) : sv_fr sv_le h0 (fn_X2_init_116b k116 x0 x1 h) := by
  unfold fn_X2_init_116b
  refine fr_if ?_ ?_
  · exact fr_rt hs
  · refine fr_bd (fun _ => ?_)
    refine fr_new hs (fun hs => ?_)
    refine fr_cl (fun _ _ e => hs.trans (fr_X11_init e)) (fun _ h hs => ?_)
    refine fr_st (fun _ e => hs.trans (st_sP e).le) (fun h hs => ?_)
    exact hk116 hs
theorem fr_X2_init_116 {h0 : sv_H} : ∀ (n : Nat) {x0 : Nat} {x1 : Int32} {h : sv_H}, sv_le h0 h → sv_fr sv_le h0 (fn_X2_init_116 n x0 x1 h) := by
  intro n
  induction n with
  | zero => intro x0 x1 h hs r hE e; cases (show (none : Option (Unit × sv_H)) = some (r, hE) from e)
  | succ n ih => intro x0 x1 h hs; exact fr_X2_init_116b (fun hs => ih hs) hs
theorem fr_X2_init_89b {h0 : sv_H} {k89 : Nat → Int32 → sv_H → Option (Unit × sv_H)} (hk89 : ∀ {x0 : Nat} {x1 : Int32} {h : sv_H}, sv_le h0 h → sv_fr sv_le h0 (k89 x0 x1 h)) {x0 : Nat} {x1 : Int32} {h : sv_H} (hs : sv_le h0 h) : sv_fr sv_le h0 (fn_X2_init_89b k89 x0 x1 h) := by
  unfold fn_X2_init_89b
  refine fr_if ?_ ?_
  · exact fr_X2_init_116 sv_fuel hs
  · refine fr_bd (fun _ => ?_)
    refine fr_new hs (fun hs => ?_)
    refine fr_cl (fun _ _ e => hs.trans (fr_X6_init e).le) (fun _ h hs => ?_)
    refine fr_st (fun _ e => hs.trans (st_sP e).le) (fun h hs => ?_)
    exact hk89 hs
theorem fr_X2_init_89 {h0 : sv_H} : ∀ (n : Nat) {x0 : Nat} {x1 : Int32} {h : sv_H}, sv_le h0 h → sv_fr sv_le h0 (fn_X2_init_89 n x0 x1 h) := by
  intro n
  induction n with
  | zero => intro x0 x1 h hs r hE e; cases (show (none : Option (Unit × sv_H)) = some (r, hE) from e)
  | succ n ih => intro x0 x1 h hs; exact fr_X2_init_89b (fun hs => ih hs) hs
theorem fr_X2_init_0 {h0 : sv_H} {x0 : Nat} {h : sv_H} (hs : sv_le h0 h) : sv_fr sv_le h0 (fn_X2_init x0 h) := by
  unfold fn_X2_init
  refine fr_if ?_ fr_no
  refine fr_new hs (fun hs => ?_)
  refine fr_cl (fun _ _ e => hs.trans (fr_X0_init e)) (fun _ h hs => ?_)
  refine fr_st (fun _ e => hs.trans (st_pP e).le) (fun h hs => ?_)
  refine fr_new hs (fun hs => ?_)
  refine fr_cl (fun _ _ e => hs.trans (fr_X7_init e).le) (fun _ h hs => ?_)
  refine fr_st (fun _ e => hs.trans (st_pP e).le) (fun h hs => ?_)
  refine fr_na hs (fun hs => ?_)
  refine fr_st (fun _ e => hs.trans (st_pP e).le) (fun h hs => ?_)
  refine fr_na hs (fun hs => ?_)
  refine fr_st (fun _ e => hs.trans (st_pP e).le) (fun h hs => ?_)
  refine fr_na hs (fun hs => ?_)
  refine fr_st (fun _ e => hs.trans (st_pP e).le) (fun h hs => ?_)
  refine fr_na hs (fun hs => ?_)
  refine fr_st (fun _ e => hs.trans (st_pP e).le) (fun h hs => ?_)
  refine fr_na hs (fun hs => ?_)
  refine fr_st (fun _ e => hs.trans (st_pP e).le) (fun h hs => ?_)
  refine fr_na hs (fun hs => ?_)
  refine fr_st (fun _ e => hs.trans (st_pP e).le) (fun h hs => ?_)
  refine fr_na hs (fun hs => ?_)
  refine fr_st (fun _ e => hs.trans (st_pP e).le) (fun h hs => ?_)
  exact fr_X2_init_89 sv_fuel hs
theorem fr_X2_init {x0 : Nat} {h : sv_H} {r : Unit} {hE : sv_H} (hw : fn_X2_init x0 h = some (r, hE)) : sv_le h hE := fr_X2_init_0 (sv_le.refl h) r hE hw

theorem fr_X3_init_0 {h0 : sv_H} {x0 : Nat} {h : sv_H} (hs : sv_le h0 h) : sv_fr sv_le h0 (fn_X3_init x0 h) := by
  unfold fn_X3_init
  refine fr_if ?_ fr_no
  refine fr_na hs (fun hs => ?_)
  refine fr_st (fun _ e => hs.trans (st_pP e).le) (fun h hs => ?_)
  refine fr_na hs (fun hs => ?_)
  refine fr_st (fun _ e => hs.trans (st_pP e).le) (fun h hs => ?_)
  refine fr_na hs (fun hs => ?_)
  refine fr_st (fun _ e => hs.trans (st_pP e).le) (fun h hs => ?_)
  refine fr_na hs (fun hs => ?_)
  refine fr_st (fun _ e => hs.trans (st_pP e).le) (fun h hs => ?_)
  refine fr_na hs (fun hs => ?_)
  refine fr_st (fun _ e => hs.trans (st_pP e).le) (fun h hs => ?_)
  refine fr_na hs (fun hs => ?_)
  refine fr_st (fun _ e => hs.trans (st_pP e).le) (fun h hs => ?_)
  exact fr_rt hs
theorem fr_X3_init {x0 : Nat} {h : sv_H} {r : Unit} {hE : sv_H} (hw : fn_X3_init x0 h = some (r, hE)) : sv_le h hE := fr_X3_init_0 (sv_le.refl h) r hE hw

theorem fr_X10_init_0 {h0 : sv_H} {x0 : Nat} {x1 : Nat} {x2 : Nat} {h : sv_H} (hs : sv_same h0 h) : sv_fr sv_same h0 (fn_X10_init x0 x1 x2 h) := by
  unfold fn_X10_init
  refine fr_if ?_ fr_no
  refine fr_st (fun _ e => hs.trans (st_pP e)) (fun h hs => ?_)
  refine fr_st (fun _ e => hs.trans (st_pP e)) (fun h hs => ?_)
  exact fr_rt hs
theorem fr_X10_init {x0 : Nat} {x1 : Nat} {x2 : Nat} {h : sv_H} {r : Unit} {hE : sv_H} (hw : fn_X10_init x0 x1 x2 h = some (r, hE)) : sv_same h hE := fr_X10_init_0 (sv_same.refl h) r hE hw

theorem fr_X9_init_0 {h0 : sv_H} {x0 : Nat} {x1 : Nat} {h : sv_H} (hs : sv_le h0 h) : sv_fr sv_le h0 (fn_X9_init x0 x1 h) := by
  unfold fn_X9_init
  refine fr_if ?_ fr_no
  refine fr_na hs (fun hs => ?_)
  refine fr_st (fun _ e => hs.trans (st_pP e).le) (fun h hs => ?_)
  refine fr_na hs (fun hs => ?_)
  refine fr_st (fun _ e => hs.trans (st_pP e).le) (fun h hs => ?_)
  refine fr_na hs (fun hs => ?_)
  refine fr_st (fun _ e => hs.trans (st_pP e).le) (fun h hs => ?_)
  refine fr_st (fun _ e => hs.trans (st_pP e).le) (fun h hs => ?_)
  exact fr_rt hs
theorem fr_X9_init {x0 : Nat} {x1 : Nat} {h : sv_H} {r : Unit} {hE : sv_H} (hw : fn_X9_init x0 x1 h = some (r, hE)) : sv_le h hE := fr_X9_init_0 (sv_le.refl h) r hE hw

theorem fr_X5_init_0 {h0 : sv_H} {x0 : Nat} {h : sv_H} (hs : sv_le h0 h) : sv_fr sv_le h0 (fn_X5_init x0 h) := by
  unfold fn_X5_init
  refine fr_if ?_ fr_no
  refine fr_new hs (fun hs => ?_)
  refine fr_cl (fun _ _ e => hs.trans (fr_X7_init e).le) (fun _ h hs => ?_)
  refine fr_st (fun _ e => hs.trans (st_pP e).le) (fun h hs => ?_)
  refine fr_na hs (fun hs => ?_)
  refine fr_st (fun _ e => hs.trans (st_pP e).le) (fun h hs => ?_)
  exact fr_rt hs
theorem fr_X5_init {x0 : Nat} {h : sv_H} {r : Unit} {hE : sv_H} (hw : fn_X5_init x0 h = some (r, hE)) : sv_le h hE := fr_X5_init_0 (sv_le.refl h) r hE hw

theorem fr_X12_init_0 {h0 : sv_H} {x0 : Nat} {h : sv_H} (hs : sv_le h0 h) : sv_fr sv_le h0 (fn_X12_init x0 h) := by
  unfold fn_X12_init
  refine fr_if ?_ fr_no
  refine fr_new hs (fun hs => ?_)
  refine fr_cl (fun _ _ e => hs.trans (fr_X0_init e)) (fun _ h hs => ?_)
  refine fr_st (fun _ e => hs.trans (st_pP e).le) (fun h hs => ?_)
  refine fr_new hs (fun hs => ?_)
  refine fr_cl (fun _ _ e => hs.trans (fr_X0_init e)) (fun _ h hs => ?_)
  refine fr_st (fun _ e => hs.trans (st_pP e).le) (fun h hs => ?_)
  refine fr_new hs (fun hs => ?_)
  refine fr_bd (fun _ => ?_)
  refine fr_cl (fun _ _ e => hs.trans (fr_X4_init e).le) (fun _ h hs => ?_)
  refine fr_st (fun _ e => hs.trans (st_pP e).le) (fun h hs => ?_)
  refine fr_new hs (fun hs => ?_)
  refine fr_cl (fun _ _ e => hs.trans (fr_X8_init e)) (fun _ h hs => ?_)
  refine fr_st (fun _ e => hs.trans (st_pP e).le) (fun h hs => ?_)
  refine fr_new hs (fun hs => ?_)
  refine fr_cl (fun _ _ e => hs.trans (fr_X2_init e)) (fun _ h hs => ?_)
  refine fr_st (fun _ e => hs.trans (st_pP e).le) (fun h hs => ?_)
  refine fr_new hs (fun hs => ?_)
  refine fr_cl (fun _ _ e => hs.trans (fr_X2_init e)) (fun _ h hs => ?_)
  refine fr_st (fun _ e => hs.trans (st_pP e).le) (fun h hs => ?_)
  refine fr_new hs (fun hs => ?_)
  refine fr_cl (fun _ _ e => hs.trans (fr_X3_init e)) (fun _ h hs => ?_)
  refine fr_new hs (fun hs => ?_)
  refine fr_bd (fun _ => ?_)
  refine fr_cl (fun _ _ e => hs.trans (fr_X10_init e).le) (fun _ h hs => ?_)
  refine fr_st (fun _ e => hs.trans (st_pP e).le) (fun h hs => ?_)
  refine fr_new hs (fun hs => ?_)
  refine fr_cl (fun _ _ e => hs.trans (fr_X9_init e)) (fun _ h hs => ?_)
  refine fr_st (fun _ e => hs.trans (st_pP e).le) (fun h hs => ?_)
  refine fr_new hs (fun hs => ?_)
  refine fr_cl (fun _ _ e => hs.trans (fr_X5_init e)) (fun _ h hs => ?_)
  refine fr_st (fun _ e => hs.trans (st_pP e).le) (fun h hs => ?_)
  refine fr_new hs (fun hs => ?_)
  refine fr_cl (fun _ _ e => hs.trans (fr_X5_init e)) (fun _ h hs => ?_)
  refine fr_st (fun _ e => hs.trans (st_pP e).le) (fun h hs => ?_)
  exact fr_rt hs
theorem fr_X12_init {x0 : Nat} {h : sv_H} {r : Unit} {hE : sv_H} (hw : fn_X12_init x0 h = some (r, hE)) : sv_le h hE := fr_X12_init_0 (sv_le.refl h) r hE hw

theorem fr_X14_init_0 {h0 : sv_H} {x0 : Nat} {h : sv_H} (hs : sv_le h0 h) : sv_fr sv_le h0 (fn_X14_init x0 h) := by
  unfold fn_X14_init
  refine fr_if ?_ fr_no
  refine fr_na hs (fun hs => ?_)
  refine fr_st (fun _ e => hs.trans (st_pP e).le) (fun h hs => ?_)
  refine fr_na hs (fun hs => ?_)
  refine fr_st (fun _ e => hs.trans (st_pP e).le) (fun h hs => ?_)
  refine fr_st (fun _ e => hs.trans (st_pI e).le) (fun h hs => ?_)
  refine fr_st (fun _ e => hs.trans (st_pI e).le) (fun h hs => ?_)
  exact fr_rt hs
theorem fr_X14_init {x0 : Nat} {h : sv_H} {r : Unit} {hE : sv_H} (hw : fn_X14_init x0 h = some (r, hE)) : sv_le h hE := fr_X14_init_0 (sv_le.refl h) r hE hw

theorem fr_X15_init_0 {h0 : sv_H} {x0 : Nat} {h : sv_H} (hs : sv_le h0 h) : sv_fr sv_le h0 (fn_X15_init x0 h) := by
  unfold fn_X15_init
  refine fr_if ?_ fr_no
  refine fr_na hs (fun hs => ?_)
  refine fr_st (fun _ e => hs.trans (st_pP e).le) (fun h hs => ?_)
  refine fr_na hs (fun hs => ?_)
  refine fr_st (fun _ e => hs.trans (st_pP e).le) (fun h hs => ?_)
  refine fr_na hs (fun hs => ?_)
  refine fr_st (fun _ e => hs.trans (st_pP e).le) (fun h hs => ?_)
  refine fr_na hs (fun hs => ?_)
  refine fr_st (fun _ e => hs.trans (st_pP e).le) (fun h hs => ?_)
  refine fr_na hs (fun hs => ?_)
  refine fr_st (fun _ e => hs.trans (st_pP e).le) (fun h hs => ?_)
  refine fr_na hs (fun hs => ?_)
  refine fr_st (fun _ e => hs.trans (st_pP e).le) (fun h hs => ?_)
  refine fr_na hs (fun hs => ?_)
  refine fr_st (fun _ e => hs.trans (st_pP e).le) (fun h hs => ?_)
  refine fr_na hs (fun hs => ?_)
  refine fr_st (fun _ e => hs.trans (st_pP e).le) (fun h hs => ?_)
  refine fr_na hs (fun hs => ?_)
  refine fr_st (fun _ e => hs.trans (st_pP e).le) (fun h hs => ?_)
  refine fr_na hs (fun hs => ?_)
  refine fr_st (fun _ e => hs.trans (st_pP e).le) (fun h hs => ?_)
  refine fr_na hs (fun hs => ?_)
  refine fr_st (fun _ e => hs.trans (st_pP e).le) (fun h hs => ?_)
  refine fr_na hs (fun hs => ?_)
  refine fr_st (fun _ e => hs.trans (st_pP e).le) (fun h hs => ?_)
  refine fr_st (fun _ e => hs.trans (st_pI e).le) (fun h hs => ?_)
  exact fr_rt hs
theorem fr_X15_init {x0 : Nat} {h : sv_H} {r : Unit} {hE : sv_H} (hw : fn_X15_init x0 h = some (r, hE)) : sv_le h hE := fr_X15_init_0 (sv_le.refl h) r hE hw

theorem fr_X13_init_0 {h0 : sv_H} {x0 : Nat} {h : sv_H} (hs : sv_le h0 h) : sv_fr sv_le h0 (fn_X13_init x0 h) := by
  unfold fn_X13_init
  refine fr_if ?_ fr_no
  refine fr_na hs (fun hs => ?_)
  refine fr_st (fun _ e => hs.trans (st_pP e).le) (fun h hs => ?_)
  refine fr_na hs (fun hs => ?_)
  refine fr_st (fun _ e => hs.trans (st_pP e).le) (fun h hs => ?_)
  refine fr_na hs (fun hs => ?_)
  refine fr_st (fun _ e => hs.trans (st_pP e).le) (fun h hs => ?_)
  refine fr_na hs (fun hs => ?_)
  refine fr_st (fun _ e => hs.trans (st_pP e).le) (fun h hs => ?_)
  refine fr_na hs (fun hs => ?_)
  refine fr_st (fun _ e => hs.trans (st_pP e).le) (fun h hs => ?_)
  refine fr_na hs (fun hs => ?_)
  refine fr_st (fun _ e => hs.trans (st_pP e).le) (fun h hs => ?_)
  refine fr_na hs (fun hs => ?_)
  refine fr_st (fun _ e => hs.trans (st_pP e).le) (fun h hs => ?_)
  refine fr_na hs (fun hs => ?_)
  refine fr_st (fun _ e => hs.trans (st_pP e).le) (fun h hs => ?_)
  refine fr_na hs (fun hs => ?_)
  refine fr_st (fun _ e => hs.trans (st_pP e).le) (fun h hs => ?_)
  refine fr_na hs (fun hs => ?_)
  refine fr_st (fun _ e => hs.trans (st_pP e).le) (fun h hs => ?_)
  refine fr_na hs (fun hs => ?_)
  refine fr_st (fun _ e => hs.trans (st_pP e).le) (fun h hs => ?_)
  refine fr_na hs (fun hs => ?_)
  refine fr_st (fun _ e => hs.trans (st_pP e).le) (fun h hs => ?_)
  refine fr_na hs (fun hs => ?_)
  refine fr_st (fun _ e => hs.trans (st_pP e).le) (fun h hs => ?_)
  refine fr_st (fun _ e => hs.trans (st_pI e).le) (fun h hs => ?_)
  exact fr_rt hs
theorem fr_X13_init {x0 : Nat} {h : sv_H} {r : Unit} {hE : sv_H} (hw : fn_X13_init x0 h = some (r, hE)) : sv_le h hE := fr_X13_init_0 (sv_le.refl h) r hE hw

theorem fr_X16_init_0 {h0 : sv_H} {x0 : Nat} {h : sv_H} (hs : sv_le h0 h) : sv_fr sv_le h0 (fn_X16_init x0 h) := by
  unfold fn_X16_init
  refine fr_if ?_ fr_no
  refine fr_na hs (fun hs => ?_)
  refine fr_st (fun _ e => hs.trans (st_pP e).le) (fun h hs => ?_)
  refine fr_na hs (fun hs => ?_)
  refine fr_st (fun _ e => hs.trans (st_pP e).le) (fun h hs => ?_)
  refine fr_na hs (fun hs => ?_)
  refine fr_st (fun _ e => hs.trans (st_pP e).le) (fun h hs => ?_)
  refine fr_na hs (fun hs => ?_)
  refine fr_st (fun _ e => hs.trans (st_pP e).le) (fun h hs => ?_)
  refine fr_na hs (fun hs => ?_)
  refine fr_st (fun _ e => hs.trans (st_pP e).le) (fun h hs => ?_)
  refine fr_na hs (fun hs => ?_)
  refine fr_st (fun _ e => hs.trans (st_pP e).le) (fun h hs => ?_)
  refine fr_na hs (fun hs => ?_)
  refine fr_st (fun _ e => hs.trans (st_pP e).le) (fun h hs => ?_)
  refine fr_na hs (fun hs => ?_)
  refine fr_st (fun _ e => hs.trans (st_pP e).le) (fun h hs => ?_)
  refine fr_na hs (fun hs => ?_)
  refine fr_st (fun _ e => hs.trans (st_pP e).le) (fun h hs => ?_)
  refine fr_na hs (fun hs => ?_)
  refine fr_st (fun _ e => hs.trans (st_pP e).le) (fun h hs => ?_)
  refine fr_na hs (fun hs => ?_)
  refine fr_st (fun _ e => hs.trans (st_pP e).le) (fun h hs => ?_)
  refine fr_na hs (fun hs => ?_)
  refine fr_st (fun _ e => hs.trans (st_pP e).le) (fun h hs => ?_)
  refine fr_na hs (fun hs => ?_)
  refine fr_st (fun _ e => hs.trans (st_pP e).le) (fun h hs => ?_)
  refine fr_na hs (fun hs => ?_)
  refine fr_st (fun _ e => hs.trans (st_pP e).le) (fun h hs => ?_)
  refine fr_na hs (fun hs => ?_)
  refine fr_st (fun _ e => hs.trans (st_pP e).le) (fun h hs => ?_)
  refine fr_na hs (fun hs => ?_)
  refine fr_st (fun _ e => hs.trans (st_pP e).le) (fun h hs => ?_)
  refine fr_na hs (fun hs => ?_)
  refine fr_st (fun _ e => hs.trans (st_pP e).le) (fun h hs => ?_)
  refine fr_na hs (fun hs => ?_)
  refine fr_st (fun _ e => hs.trans (st_pP e).le) (fun h hs => ?_)
  refine fr_na hs (fun hs => ?_)
  refine fr_st (fun _ e => hs.trans (st_pP e).le) (fun h hs => ?_)
  refine fr_na hs (fun hs => ?_)
  refine fr_st (fun _ e => hs.trans (st_pP e).le) (fun h hs => ?_)
  refine fr_na hs (fun hs => ?_)
  refine fr_st (fun _ e => hs.trans (st_pP e).le) (fun h hs => ?_)
  refine fr_na hs (fun hs => ?_)
  refine fr_st (fun _ e => hs.trans (st_pP e).le) (fun h hs => ?_)
  exact fr_rt hs
theorem fr_X16_init {x0 : Nat} {h : sv_H} {r : Unit} {hE : sv_H} (hw : fn_X16_init x0 h = some (r, hE)) : sv_le h hE := fr_X16_init_0 (sv_le.refl h) r hE hw

theorem fr_X17_init_0 {h0 : sv_H} {x0 : Nat} {h : sv_H} (hs : sv_le h0 h) : sv_fr sv_le h0 (fn_X17_init x0 h) := by
  unfold fn_X17_init
  refine fr_if ?_ fr_no
  refine fr_new hs (fun hs => ?_)
  refine fr_cl (fun _ _ e => hs.trans (fr_X14_init e)) (fun _ h hs => ?_)
  refine fr_st (fun _ e => hs.trans (st_pP e).le) (fun h hs => ?_)
  refine fr_new hs (fun hs => ?_)
  refine fr_cl (fun _ _ e => hs.trans (fr_X15_init e)) (fun _ h hs => ?_)
  refine fr_st (fun _ e => hs.trans (st_pP e).le) (fun h hs => ?_)
  refine fr_new hs (fun hs => ?_)
  refine fr_cl (fun _ _ e => hs.trans (fr_X13_init e)) (fun _ h hs => ?_)
  refine fr_st (fun _ e => hs.trans (st_pP e).le) (fun h hs => ?_)
  refine fr_new hs (fun hs => ?_)
  refine fr_cl (fun _ _ e => hs.trans (fr_X16_init e)) (fun _ h hs => ?_)
  refine fr_st (fun _ e => hs.trans (st_pP e).le) (fun h hs => ?_)
  refine fr_na hs (fun hs => ?_)
  refine fr_st (fun _ e => hs.trans (st_pP e).le) (fun h hs => ?_)
  refine fr_st (fun _ e => hs.trans (st_pI e).le) (fun h hs => ?_)
  refine fr_na hs (fun hs => ?_)
  refine fr_st (fun _ e => hs.trans (st_pP e).le) (fun h hs => ?_)
  refine fr_na hs (fun hs => ?_)
  refine fr_st (fun _ e => hs.trans (st_pP e).le) (fun h hs => ?_)
  refine fr_na hs (fun hs => ?_)
  refine fr_st (fun _ e => hs.trans (st_pP e).le) (fun h hs => ?_)
  refine fr_na hs (fun hs => ?_)
  refine fr_st (fun _ e => hs.trans (st_pP e).le) (fun h hs => ?_)
  refine fr_na hs (fun hs => ?_)
  refine fr_st (fun _ e => hs.trans (st_pP e).le) (fun h hs => ?_)
  exact fr_rt hs
theorem fr_X17_init {x0 : Nat} {h : sv_H} {r : Unit} {hE : sv_H} (hw : fn_X17_init x0 h = some (r, hE)) : sv_le h hE := fr_X17_init_0 (sv_le.refl h) r hE hw

theorem fr_X0_makeRoom_50 {h0 : sv_H} {h : sv_H} (hs : sv_le h0 h) : sv_fr sv_le h0 (fn_X0_makeRoom_50 h) := by
  unfold fn_X0_makeRoom_50
  exact fr_rt hs
theorem fr_X0_makeRoom_29 {h0 : sv_H} {x0 : Nat} {x2 : Int32} {h : sv_H} (hs : sv_le h0 h) : sv_fr sv_le h0 (fn_X0_makeRoom_29 x0 x2 h) := by
  unfold fn_X0_makeRoom_29
  refine fr_bd (fun _ => ?_)
  refine fr_bd (fun _ => ?_)
  refine fr_if ?_ ?_
  · exact fr_X0_makeRoom_50 hs
  · refine fr_bd (fun _ => ?_)
    refine fr_cl (fun _ _ e => hs.trans (fr_J7_copyOf_59c91 e)) (fun _ h hs => ?_)
    refine fr_st (fun _ e => hs.trans (st_pP e).le) (fun h hs => ?_)
    exact fr_X0_makeRoom_50 hs
theorem fr_X0_makeRoom_8b {h0 : sv_H} {k8 : Nat → Int32 → Int32 → Int32 → sv_H → Option (Unit × sv_H)} (hk8 : ∀ {x0 : Nat} {x1 : Int32} {x2 : Int32} {x3 : Int32} {h : sv_H}, sv_le h0 h → sv_fr sv_le h0 (k8 x0 x1 x2 x3 h)) {x0 : Nat} {x1 : Int32} {x2 : Int32} {x3 : Int32} {h : sv_H} (hs : sv_le h0 h) : sv_fr sv_le h0 (fn_X0_makeRoom_8b k8 x0 x1 x2 x3 h) := by
  unfold fn_X0_makeRoom_8b
  refine fr_if ?_ ?_
  · exact fr_X0_makeRoom_29 hs
  · refine fr_if ?_ ?_
    · exact fr_X0_makeRoom_29 hs
    · exact hk8 hs
theorem fr_X0_makeRoom_8 {h0 : sv_H} : ∀ (n : Nat) {x0 : Nat} {x1 : Int32} {x2 : Int32} {x3 : Int32} {h : sv_H}, sv_le h0 h → sv_fr sv_le h0 (fn_X0_makeRoom_8 n x0 x1 x2 x3 h) := by
  intro n
  induction n with
  | zero => intro x0 x1 x2 x3 h hs r hE e; cases (show (none : Option (Unit × sv_H)) = some (r, hE) from e)
  | succ n ih => intro x0 x1 x2 x3 h hs; exact fr_X0_makeRoom_8b (fun hs => ih hs) hs
theorem fr_X0_makeRoom_0 {h0 : sv_H} {x0 : Nat} {x1 : Int32} {h : sv_H} (hs : sv_le h0 h) : sv_fr sv_le h0 (fn_X0_makeRoom x0 x1 h) := by
  unfold fn_X0_makeRoom
  refine fr_if ?_ fr_no
  refine fr_bd (fun _ => ?_)
  refine fr_bd (fun _ => ?_)
  exact fr_X0_makeRoom_8 sv_fuel hs
theorem fr_X0_makeRoom {x0 : Nat} {x1 : Int32} {h : sv_H} {r : Unit} {hE : sv_H} (hw : fn_X0_makeRoom x0 x1 h = some (r, hE)) : sv_le h hE := fr_X0_makeRoom_0 (sv_le.refl h) r hE hw

theorem fr_X0_put_44 {h0 : sv_H} {h : sv_H} (hs : sv_le h0 h) : sv_fr sv_le h0 (fn_X0_put_44 h) := by
  unfold fn_X0_put_44
  exact fr_rt hs
theorem fr_X0_put_0 {h0 : sv_H} {x0 : Nat} {x1 : Int32} {h : sv_H} (hs : sv_le h0 h) : sv_fr sv_le h0 (fn_X0_put x0 x1 h) := by
  unfold fn_X0_put
  refine fr_if ?_ fr_no
  refine fr_bd (fun _ => ?_)
  refine fr_if ?_ ?_
  · exact fr_X0_put_44 hs
  · refine fr_bd (fun _ => ?_)
    refine fr_cl (fun _ _ e => hs.trans (fr_X0_makeRoom e)) (fun _ h hs => ?_)
    refine fr_bd (fun _ => ?_)
    refine fr_bd (fun _ => ?_)
    refine fr_st (fun _ e => hs.trans (st_sI e).le) (fun h hs => ?_)
    refine fr_bd (fun _ => ?_)
    refine fr_st (fun _ e => hs.trans (st_pI e).le) (fun h hs => ?_)
    exact fr_X0_put_44 hs
theorem fr_X0_put {x0 : Nat} {x1 : Int32} {h : sv_H} {r : Unit} {hE : sv_H} (hw : fn_X0_put x0 x1 h = some (r, hE)) : sv_le h hE := fr_X0_put_0 (sv_le.refl h) r hE hw

theorem fr_X12_giveBytes_26 {h0 : sv_H} {h : sv_H} (hs : sv_le h0 h) : sv_fr sv_le h0 (fn_X12_giveBytes_26 h) := by
  unfold fn_X12_giveBytes_26
  exact fr_rt hs
theorem fr_X12_giveBytes_33b {h0 : sv_H} {k33 : Nat → Int64 → Int32 → sv_H → Option (Int32 × sv_H)} (hk33 : ∀ {x0 : Nat} {x1 : Int64} {x4 : Int32} {h : sv_H}, sv_le h0 h → sv_fr sv_le h0 (k33 x0 x1 x4 h)) {x0 : Nat} {x1 : Int64} {x4 : Int32} {h : sv_H} (hs : sv_le h0 h) : sv_fr sv_le h0 (fn_X12_giveBytes_33b k33 x0 x1 x4 h) := by
  unfold fn_X12_giveBytes_33b
  refine fr_if ?_ ?_
  · exact fr_rt hs
  · refine fr_bd (fun _ => ?_)
    refine fr_cl (fun _ _ e => hs.trans (fr_X0_put e)) (fun _ h hs => ?_)
    exact hk33 hs
theorem fr_X12_giveBytes_33 {h0 : sv_H} : ∀ (n : Nat) {x0 : Nat} {x1 : Int64} {x4 : Int32} {h : sv_H}, sv_le h0 h → sv_fr sv_le h0 (fn_X12_giveBytes_33 n x0 x1 x4 h) := by
  intro n
  induction n with
  | zero => intro x0 x1 x4 h hs r hE e; cases (show (none : Option (Int32 × sv_H)) = some (r, hE) from e)
  | succ n ih => intro x0 x1 x4 h hs; exact fr_X12_giveBytes_33b (fun hs => ih hs) hs
theorem fr_X12_giveBytes_0 {h0 : sv_H} {x0 : Nat} {x1 : Int64} {x3 : Int32} {h : sv_H} (hs : sv_le h0 h) : sv_fr sv_le h0 (fn_X12_giveBytes x0 x1 x3 h) := by
  unfold fn_X12_giveBytes
  refine fr_if ?_ fr_no
  refine fr_if ?_ ?_
  · exact fr_X12_giveBytes_26 hs
  · refine fr_if ?_ ?_
    · exact fr_X12_giveBytes_26 hs
    · refine fr_bd (fun _ => ?_)
      refine fr_bd (fun _ => ?_)
      refine fr_if ?_ ?_
      · exact fr_X12_giveBytes_33 sv_fuel hs
      · exact fr_X12_giveBytes_26 hs
theorem fr_X12_giveBytes {x0 : Nat} {x1 : Int64} {x3 : Int32} {h : sv_H} {r : Int32} {hE : sv_H} (hw : fn_X12_giveBytes x0 x1 x3 h = some (r, hE)) : sv_le h hE := fr_X12_giveBytes_0 (sv_le.refl h) r hE hw

theorem fr_X17_giveBytes_31 {h0 : sv_H} {h : sv_H} (hs : sv_same h0 h) : sv_fr sv_same h0 (fn_X17_giveBytes_31 h) := by
  unfold fn_X17_giveBytes_31
  exact fr_rt hs
theorem fr_X17_giveBytes_38b {h0 : sv_H} {k38 : Nat → Int64 → Int32 → sv_H → Option (Int32 × sv_H)} (hk38 : ∀ {x0 : Nat} {x1 : Int64} {x4 : Int32} {h : sv_H}, sv_same h0 h → sv_fr sv_same h0 (k38 x0 x1 x4 h)) {x0 : Nat} {x1 : Int64} {x4 : Int32} {h : sv_H} (hs : sv_same h0 h) : sv_fr sv_same h0 (fn_X17_giveBytes_38b k38 x0 x1 x4 h) := by
  unfold fn_X17_giveBytes_38b
  refine fr_if ?_ ?_
  · exact fr_rt hs
  · refine fr_bd (fun _ => ?_)
    refine fr_bd (fun _ => ?_)
    refine fr_bd (fun _ => ?_)
    refine fr_bd (fun _ => ?_)
    refine fr_st (fun _ e => hs.trans (st_sB e)) (fun h hs => ?_)
    refine fr_bd (fun _ => ?_)
    refine fr_bd (fun _ => ?_)
    refine fr_st (fun _ e => hs.trans (st_pI e)) (fun h hs => ?_)
    exact hk38 hs
theorem fr_X17_giveBytes_38 {h0 : sv_H} : ∀ (n : Nat) {x0 : Nat} {x1 : Int64} {x4 : Int32} {h : sv_H}, sv_same h0 h → sv_fr sv_same h0 (fn_X17_giveBytes_38 n x0 x1 x4 h) := by
  intro n
  induction n with
  | zero => intro x0 x1 x4 h hs r hE e; cases (show (none : Option (Int32 × sv_H)) = some (r, hE) from e)
  | succ n ih => intro x0 x1 x4 h hs; exact fr_X17_giveBytes_38b (fun hs => ih hs) hs
theorem fr_X17_giveBytes_0 {h0 : sv_H} {x0 : Nat} {x1 : Int64} {x3 : Int32} {h : sv_H} (hs : sv_same h0 h) : sv_fr sv_same h0 (fn_X17_giveBytes x0 x1 x3 h) := by
  unfold fn_X17_giveBytes
  refine fr_if ?_ fr_no
  refine fr_st (fun _ e => hs.trans (st_pI e)) (fun h hs => ?_)
  refine fr_if ?_ ?_
  · exact fr_X17_giveBytes_31 hs
  · refine fr_if ?_ ?_
    · exact fr_X17_giveBytes_31 hs
    · refine fr_bd (fun _ => ?_)
      refine fr_bd (fun _ => ?_)
      refine fr_if ?_ ?_
      · exact fr_X17_giveBytes_38 sv_fuel hs
      · exact fr_X17_giveBytes_31 hs
theorem fr_X17_giveBytes {x0 : Nat} {x1 : Int64} {x3 : Int32} {h : sv_H} {r : Int32} {hE : sv_H} (hw : fn_X17_giveBytes x0 x1 x3 h = some (r, hE)) : sv_same h hE := fr_X17_giveBytes_0 (sv_same.refl h) r hE hw

theorem fr_X12_cutBytes_15 {h0 : sv_H} {h : sv_H} (hs : sv_same h0 h) : sv_fr sv_same h0 (fn_X12_cutBytes_15 h) := by
  unfold fn_X12_cutBytes_15
  exact fr_rt hs
theorem fr_X12_cutBytes_0 {h0 : sv_H} {x0 : Nat} {x1 : Int32} {h : sv_H} (hs : sv_same h0 h) : sv_fr sv_same h0 (fn_X12_cutBytes x0 x1 h) := by
  unfold fn_X12_cutBytes
  refine fr_if ?_ fr_no
  refine fr_if ?_ ?_
  · exact fr_X12_cutBytes_15 hs
  · refine fr_bd (fun _ => ?_)
    refine fr_bd (fun _ => ?_)
    refine fr_if ?_ ?_
    · refine fr_bd (fun _ => ?_)
      refine fr_st (fun _ e => hs.trans (st_pI e)) (fun h hs => ?_)
      exact fr_rt hs
    · exact fr_X12_cutBytes_15 hs
theorem fr_X12_cutBytes {x0 : Nat} {x1 : Int32} {h : sv_H} {r : Int32} {hE : sv_H} (hw : fn_X12_cutBytes x0 x1 h = some (r, hE)) : sv_same h hE := fr_X12_cutBytes_0 (sv_same.refl h) r hE hw

theorem fr_X17_cutBytes_20 {h0 : sv_H} {h : sv_H} (hs : sv_same h0 h) : sv_fr sv_same h0 (fn_X17_cutBytes_20 h) := by
  unfold fn_X17_cutBytes_20
  exact fr_rt hs
theorem fr_X17_cutBytes_0 {h0 : sv_H} {x0 : Nat} {x1 : Int32} {h : sv_H} (hs : sv_same h0 h) : sv_fr sv_same h0 (fn_X17_cutBytes x0 x1 h) := by
  unfold fn_X17_cutBytes
  refine fr_if ?_ fr_no
  refine fr_st (fun _ e => hs.trans (st_pI e)) (fun h hs => ?_)
  refine fr_if ?_ ?_
  · exact fr_X17_cutBytes_20 hs
  · refine fr_bd (fun _ => ?_)
    refine fr_bd (fun _ => ?_)
    refine fr_if ?_ ?_
    · refine fr_bd (fun _ => ?_)
      refine fr_st (fun _ e => hs.trans (st_pI e)) (fun h hs => ?_)
      exact fr_rt hs
    · exact fr_X17_cutBytes_20 hs
theorem fr_X17_cutBytes {x0 : Nat} {x1 : Int32} {h : sv_H} {r : Int32} {hE : sv_H} (hw : fn_X17_cutBytes x0 x1 h = some (r, hE)) : sv_same h hE := fr_X17_cutBytes_0 (sv_same.refl h) r hE hw

theorem fr_X12_pokeByte_15 {h0 : sv_H} {h : sv_H} (hs : sv_same h0 h) : sv_fr sv_same h0 (fn_X12_pokeByte_15 h) := by
  unfold fn_X12_pokeByte_15
  exact fr_rt hs
theorem fr_X12_pokeByte_0 {h0 : sv_H} {x0 : Nat} {x1 : Int32} {x2 : Int32} {h : sv_H} (hs : sv_same h0 h) : sv_fr sv_same h0 (fn_X12_pokeByte x0 x1 x2 h) := by
  unfold fn_X12_pokeByte
  refine fr_if ?_ fr_no
  refine fr_if ?_ ?_
  · exact fr_X12_pokeByte_15 hs
  · refine fr_bd (fun _ => ?_)
    refine fr_bd (fun _ => ?_)
    refine fr_if ?_ ?_
    · refine fr_bd (fun _ => ?_)
      refine fr_bd (fun _ => ?_)
      refine fr_st (fun _ e => hs.trans (st_sI e)) (fun h hs => ?_)
      exact fr_rt hs
    · exact fr_X12_pokeByte_15 hs
theorem fr_X12_pokeByte {x0 : Nat} {x1 : Int32} {x2 : Int32} {h : sv_H} {r : Int32} {hE : sv_H} (hw : fn_X12_pokeByte x0 x1 x2 h = some (r, hE)) : sv_same h hE := fr_X12_pokeByte_0 (sv_same.refl h) r hE hw

theorem fr_X17_pokeByte_20 {h0 : sv_H} {h : sv_H} (hs : sv_same h0 h) : sv_fr sv_same h0 (fn_X17_pokeByte_20 h) := by
  unfold fn_X17_pokeByte_20
  exact fr_rt hs
theorem fr_X17_pokeByte_0 {h0 : sv_H} {x0 : Nat} {x1 : Int32} {x2 : Int32} {h : sv_H} (hs : sv_same h0 h) : sv_fr sv_same h0 (fn_X17_pokeByte x0 x1 x2 h) := by
  unfold fn_X17_pokeByte
  refine fr_if ?_ fr_no
  refine fr_st (fun _ e => hs.trans (st_pI e)) (fun h hs => ?_)
  refine fr_if ?_ ?_
  · exact fr_X17_pokeByte_20 hs
  · refine fr_bd (fun _ => ?_)
    refine fr_bd (fun _ => ?_)
    refine fr_if ?_ ?_
    · refine fr_bd (fun _ => ?_)
      refine fr_bd (fun _ => ?_)
      refine fr_st (fun _ e => hs.trans (st_sB e)) (fun h hs => ?_)
      exact fr_rt hs
    · exact fr_X17_pokeByte_20 hs
theorem fr_X17_pokeByte {x0 : Nat} {x1 : Int32} {x2 : Int32} {h : sv_H} {r : Int32} {hE : sv_H} (hw : fn_X17_pokeByte x0 x1 x2 h = some (r, hE)) : sv_same h hE := fr_X17_pokeByte_0 (sv_same.refl h) r hE hw

theorem fr_X4_begin_0 {h0 : sv_H} {x0 : Nat} {h : sv_H} (hs : sv_same h0 h) : sv_fr sv_same h0 (fn_X4_begin x0 h) := by
  unfold fn_X4_begin
  refine fr_if ?_ fr_no
  refine fr_st (fun _ e => hs.trans (st_pI e)) (fun h hs => ?_)
  refine fr_st (fun _ e => hs.trans (st_pI e)) (fun h hs => ?_)
  refine fr_st (fun _ e => hs.trans (st_pI e)) (fun h hs => ?_)
  exact fr_rt hs
theorem fr_X4_begin {x0 : Nat} {h : sv_H} {r : Unit} {hE : sv_H} (hw : fn_X4_begin x0 h = some (r, hE)) : sv_same h hE := fr_X4_begin_0 (sv_same.refl h) r hE hw

theorem fr_X4_blame_17 {h0 : sv_H} {h : sv_H} (hs : sv_same h0 h) : sv_fr sv_same h0 (fn_X4_blame_17 h) := by
  unfold fn_X4_blame_17
  exact fr_rt hs
theorem fr_X4_blame_0 {h0 : sv_H} {x0 : Nat} {x1 : Int32} {x2 : Int32} {h : sv_H} (hs : sv_same h0 h) : sv_fr sv_same h0 (fn_X4_blame x0 x1 x2 h) := by
  unfold fn_X4_blame
  refine fr_if ?_ fr_no
  refine fr_bd (fun _ => ?_)
  refine fr_if ?_ ?_
  · refine fr_st (fun _ e => hs.trans (st_pI e)) (fun h hs => ?_)
    refine fr_st (fun _ e => hs.trans (st_pI e)) (fun h hs => ?_)
    exact fr_X4_blame_17 hs
  · exact fr_X4_blame_17 hs
theorem fr_X4_blame {x0 : Nat} {x1 : Int32} {x2 : Int32} {h : sv_H} {r : Unit} {hE : sv_H} (hw : fn_X4_blame x0 x1 x2 h = some (r, hE)) : sv_same h hE := fr_X4_blame_0 (sv_same.refl h) r hE hw

theorem fr_X4_one_0 {h0 : sv_H} {x0 : Nat} {h : sv_H} (hs : sv_same h0 h) : sv_fr sv_same h0 (fn_X4_one x0 h) := by
  unfold fn_X4_one
  refine fr_if ?_ fr_no
  refine fr_bd (fun _ => ?_)
  refine fr_if ?_ ?_
  · refine fr_bd (fun _ => ?_)
    refine fr_bd (fun _ => ?_)
    refine fr_bd (fun _ => ?_)
    refine fr_if ?_ ?_
    · refine fr_bd (fun _ => ?_)
      refine fr_bd (fun _ => ?_)
      refine fr_bd (fun _ => ?_)
      refine fr_bd (fun _ => ?_)
      refine fr_bd (fun _ => ?_)
      refine fr_st (fun _ e => hs.trans (st_pI e)) (fun h hs => ?_)
      exact fr_rt hs
    · refine fr_bd (fun _ => ?_)
      refine fr_bd (fun _ => ?_)
      refine fr_cl (fun _ _ e => hs.trans (fr_X4_blame e)) (fun _ h hs => ?_)
      exact fr_rt hs
  · exact fr_rt hs
theorem fr_X4_one {x0 : Nat} {h : sv_H} {r : Int32} {hE : sv_H} (hw : fn_X4_one x0 h = some (r, hE)) : sv_same h hE := fr_X4_one_0 (sv_same.refl h) r hE hw

theorem fr_X4_expect_19 {h0 : sv_H} {h : sv_H} (hs : sv_same h0 h) : sv_fr sv_same h0 (fn_X4_expect_19 h) := by
  unfold fn_X4_expect_19
  exact fr_rt hs
theorem fr_X4_expect_0 {h0 : sv_H} {x0 : Nat} {x1 : Int32} {x2 : Int32} {h : sv_H} (hs : sv_same h0 h) : sv_fr sv_same h0 (fn_X4_expect x0 x1 x2 h) := by
  unfold fn_X4_expect
  refine fr_if ?_ fr_no
  refine fr_bd (fun _ => ?_)
  refine fr_cl (fun _ _ e => hs.trans (fr_X4_one e)) (fun _ h hs => ?_)
  refine fr_if ?_ ?_
  · exact fr_X4_expect_19 hs
  · refine fr_cl (fun _ _ e => hs.trans (fr_X4_blame e)) (fun _ h hs => ?_)
    exact fr_X4_expect_19 hs
theorem fr_X4_expect {x0 : Nat} {x1 : Int32} {x2 : Int32} {h : sv_H} {r : Unit} {hE : sv_H} (hw : fn_X4_expect x0 x1 x2 h = some (r, hE)) : sv_same h hE := fr_X4_expect_0 (sv_same.refl h) r hE hw

theorem fr_X4_bounded_29 {h0 : sv_H} {s0 : Int32} {h : sv_H} (hs : sv_same h0 h) : sv_fr sv_same h0 (fn_X4_bounded_29 s0 h) := by
  unfold fn_X4_bounded_29
  exact fr_rt hs
theorem fr_X4_bounded_17 {h0 : sv_H} {x0 : Nat} {x1 : Int32} {x2 : Int32} {h : sv_H} (hs : sv_same h0 h) : sv_fr sv_same h0 (fn_X4_bounded_17 x0 x1 x2 h) := by
  unfold fn_X4_bounded_17
  refine fr_bd (fun _ => ?_)
  refine fr_if ?_ ?_
  · exact fr_X4_bounded_29 hs
  · exact fr_X4_bounded_29 hs
theorem fr_X4_bounded_10 {h0 : sv_H} {x0 : Nat} {x1 : Int32} {x2 : Int32} {x4 : Int32} {h : sv_H} (hs : sv_same h0 h) : sv_fr sv_same h0 (fn_X4_bounded_10 x0 x1 x2 x4 h) := by
  unfold fn_X4_bounded_10
  refine fr_cl (fun _ _ e => hs.trans (fr_X4_blame e)) (fun _ h hs => ?_)
  exact fr_X4_bounded_17 hs
theorem fr_X4_bounded_0 {h0 : sv_H} {x0 : Nat} {x1 : Int32} {x2 : Int32} {x3 : Int32} {x4 : Int32} {h : sv_H} (hs : sv_same h0 h) : sv_fr sv_same h0 (fn_X4_bounded x0 x1 x2 x3 x4 h) := by
  unfold fn_X4_bounded
  refine fr_if ?_ fr_no
  refine fr_if ?_ ?_
  · exact fr_X4_bounded_10 hs
  · refine fr_if ?_ ?_
    · exact fr_X4_bounded_17 hs
    · exact fr_X4_bounded_10 hs
theorem fr_X4_bounded {x0 : Nat} {x1 : Int32} {x2 : Int32} {x3 : Int32} {x4 : Int32} {h : sv_H} {r : Int32} {hE : sv_H} (hw : fn_X4_bounded x0 x1 x2 x3 x4 h = some (r, hE)) : sv_same h hE := fr_X4_bounded_0 (sv_same.refl h) r hE hw

theorem fr_X4_within_0 {h0 : sv_H} {x0 : Nat} {x1 : Int32} {x2 : Int32} {h : sv_H} (hs : sv_same h0 h) : sv_fr sv_same h0 (fn_X4_within x0 x1 x2 h) := by
  unfold fn_X4_within
  refine fr_if ?_ fr_no
  refine fr_bd (fun _ => ?_)
  refine fr_cl (fun _ _ e => hs.trans (fr_X4_one e)) (fun _ h hs => ?_)
  refine fr_cl (fun _ _ e => hs.trans (fr_X4_bounded e)) (fun _ h hs => ?_)
  exact fr_rt hs
theorem fr_X4_within {x0 : Nat} {x1 : Int32} {x2 : Int32} {h : sv_H} {r : Int32} {hE : sv_H} (hw : fn_X4_within x0 x1 x2 h = some (r, hE)) : sv_same h hE := fr_X4_within_0 (sv_same.refl h) r hE hw

theorem fr_X4_well_12 {h0 : sv_H} {s0 : Int32} {h : sv_H} (hs : sv_same h0 h) : sv_fr sv_same h0 (fn_X4_well_12 s0 h) := by
  unfold fn_X4_well_12
  exact fr_rz hs
theorem fr_X4_well_0 {h0 : sv_H} {x0 : Nat} {h : sv_H} (hs : sv_same h0 h) : sv_fr sv_same h0 (fn_X4_well x0 h) := by
  unfold fn_X4_well
  refine fr_if ?_ fr_no
  refine fr_bd (fun _ => ?_)
  refine fr_if ?_ ?_
  · exact fr_X4_well_12 hs
  · exact fr_X4_well_12 hs
theorem fr_X4_well {x0 : Nat} {h : sv_H} {r : Int32} {hE : sv_H} (hw : fn_X4_well x0 h = some (r, hE)) : sv_same h hE := fr_X4_well_0 (sv_same.refl h) r hE hw

theorem fr_X4_pair_0 {h0 : sv_H} {x0 : Nat} {h : sv_H} (hs : sv_same h0 h) : sv_fr sv_same h0 (fn_X4_pair x0 h) := by
  unfold fn_X4_pair
  refine fr_if ?_ fr_no
  refine fr_cl (fun _ _ e => hs.trans (fr_X4_one e)) (fun _ h hs => ?_)
  refine fr_cl (fun _ _ e => hs.trans (fr_X4_one e)) (fun _ h hs => ?_)
  exact fr_rt hs
theorem fr_X4_pair {x0 : Nat} {h : sv_H} {r : Int32} {hE : sv_H} (hw : fn_X4_pair x0 h = some (r, hE)) : sv_same h hE := fr_X4_pair_0 (sv_same.refl h) r hE hw

theorem fr_X2_readVertex_56 {h0 : sv_H} {k20 : Nat → Nat → Int32 → Int32 → Int32 → Int32 → Int32 → sv_H → Option (Unit × sv_H)} (hk20 : ∀ {x0 : Nat} {x1 : Nat} {x2 : Int32} {x3 : Int32} {x4 : Int32} {x5 : Int32} {x6 : Int32} {h : sv_H}, sv_same h0 h → sv_fr sv_same h0 (k20 x0 x1 x2 x3 x4 x5 x6 h)) {x0 : Nat} {x1 : Nat} {x2 : Int32} {x3 : Int32} {x4 : Int32} {x5 : Int32} {x6 : Int32} {h : sv_H} (hs : sv_same h0 h) : sv_fr sv_same h0 (fn_X2_readVertex_56 k20 x0 x1 x2 x3 x4 x5 x6 h) := by
  unfold fn_X2_readVertex_56
  exact hk20 hs
theorem fr_X2_readVertex_20b {h0 : sv_H} {k20 : Nat → Nat → Int32 → Int32 → Int32 → Int32 → Int32 → sv_H → Option (Unit × sv_H)} (hk20 : ∀ {x0 : Nat} {x1 : Nat} {x2 : Int32} {x3 : Int32} {x4 : Int32} {x5 : Int32} {x6 : Int32} {h : sv_H}, sv_same h0 h → sv_fr sv_same h0 (k20 x0 x1 x2 x3 x4 x5 x6 h)) {x0 : Nat} {x1 : Nat} {x2 : Int32} {x3 : Int32} {x4 : Int32} {x5 : Int32} {x6 : Int32} {h : sv_H} (hs : sv_same h0 h) : sv_fr sv_same h0 (fn_X2_readVertex_20b k20 x0 x1 x2 x3 x4 x5 x6 h) := by
  unfold fn_X2_readVertex_20b
  refine fr_if ?_ ?_
  · refine fr_bd (fun _ => ?_)
    refine fr_st (fun _ e => hs.trans (st_sI e)) (fun h hs => ?_)
    refine fr_bd (fun _ => ?_)
    refine fr_st (fun _ e => hs.trans (st_sI e)) (fun h hs => ?_)
    exact fr_rt hs
  · refine fr_bd (fun _ => ?_)
    refine fr_bd (fun _ => ?_)
    refine fr_if ?_ ?_
    · refine fr_bd (fun _ => ?_)
      refine fr_bd (fun _ => ?_)
      refine fr_if ?_ ?_
      · refine fr_cl (fun _ _ e => hs.trans (fr_X4_blame e)) (fun _ h hs => ?_)
        exact fr_X2_readVertex_56 hk20 hs
      · exact fr_X2_readVertex_56 hk20 hs
    · exact fr_X2_readVertex_56 hk20 hs
theorem fr_X2_readVertex_20 {h0 : sv_H} : ∀ (n : Nat) {x0 : Nat} {x1 : Nat} {x2 : Int32} {x3 : Int32} {x4 : Int32} {x5 : Int32} {x6 : Int32} {h : sv_H}, sv_same h0 h → sv_fr sv_same h0 (fn_X2_readVertex_20 n x0 x1 x2 x3 x4 x5 x6 h) := by
  intro n
  induction n with
  | zero => intro x0 x1 x2 x3 x4 x5 x6 h hs r hE e; cases (show (none : Option (Unit × sv_H)) = some (r, hE) from e)
  | succ n ih => intro x0 x1 x2 x3 x4 x5 x6 h hs; exact fr_X2_readVertex_20b (fun hs => ih hs) hs
theorem fr_X2_readVertex_0 {h0 : sv_H} {x0 : Nat} {x1 : Nat} {x2 : Int32} {h : sv_H} (hs : sv_same h0 h) : sv_fr sv_same h0 (fn_X2_readVertex x0 x1 x2 h) := by
  unfold fn_X2_readVertex
  refine fr_if ?_ fr_no
  refine fr_cl (fun _ _ e => hs.trans (fr_X4_pair e)) (fun _ h hs => ?_)
  refine fr_bd (fun _ => ?_)
  refine fr_cl (fun _ _ e => hs.trans (fr_X4_pair e)) (fun _ h hs => ?_)
  exact fr_X2_readVertex_20 sv_fuel hs
theorem fr_X2_readVertex {x0 : Nat} {x1 : Nat} {x2 : Int32} {h : sv_H} {r : Unit} {hE : sv_H} (hw : fn_X2_readVertex x0 x1 x2 h = some (r, hE)) : sv_same h hE := fr_X2_readVertex_0 (sv_same.refl h) r hE hw

theorem fr_X2_readTexture_78 {h0 : sv_H} {h : sv_H} (hs : sv_same h0 h) : sv_fr sv_same h0 (fn_X2_readTexture_78 h) := by
  unfold fn_X2_readTexture_78
  exact fr_rt hs
theorem fr_X2_readTexture_40b {h0 : sv_H} {k40 : Nat → Nat → Int32 → Int32 → sv_H → Option (Unit × sv_H)} (hk40 : ∀ {x0 : Nat} {x1 : Nat} {x2 : Int32} {x3 : Int32} {h : sv_H}, sv_same h0 h → sv_fr sv_same h0 (k40 x0 x1 x2 x3 h)) {x0 : Nat} {x1 : Nat} {x2 : Int32} {x3 : Int32} {h : sv_H} (hs : sv_same h0 h) : sv_fr sv_same h0 (fn_X2_readTexture_40b k40 x0 x1 x2 x3 h) := by
  unfold fn_X2_readTexture_40b
  refine fr_bd (fun _ => ?_)
  refine fr_bd (fun _ => ?_)
  refine fr_bd (fun _ => ?_)
  refine fr_bd (fun _ => ?_)
  refine fr_if ?_ ?_
  · exact fr_X2_readTexture_78 hs
  · refine fr_cl (fun _ _ e => hs.trans (fr_X4_well e)) (fun _ h hs => ?_)
    refine fr_if ?_ ?_
    · exact fr_X2_readTexture_78 hs
    · refine fr_cl (fun _ _ e => hs.trans (fr_X4_within e)) (fun _ h hs => ?_)
      exact hk40 hs
theorem fr_X2_readTexture_40 {h0 : sv_H} : ∀ (n : Nat) {x0 : Nat} {x1 : Nat} {x2 : Int32} {x3 : Int32} {h : sv_H}, sv_same h0 h → sv_fr sv_same h0 (fn_X2_readTexture_40 n x0 x1 x2 x3 h) := by
  intro n
  induction n with
  | zero => intro x0 x1 x2 x3 h hs r hE e; cases (show (none : Option (Unit × sv_H)) = some (r, hE) from e)
  | succ n ih => intro x0 x1 x2 x3 h hs; exact fr_X2_readTexture_40b (fun hs => ih hs) hs
theorem fr_X2_readTexture_0 {h0 : sv_H} {x0 : Nat} {x1 : Nat} {x2 : Int32} {h : sv_H} (hs : sv_same h0 h) : sv_fr sv_same h0 (fn_X2_readTexture x0 x1 x2 h) := by
  unfold fn_X2_readTexture
  refine fr_if ?_ fr_no
  refine fr_bd (fun _ => ?_)
  refine fr_cl (fun _ _ e => hs.trans (fr_X4_within e)) (fun _ h hs => ?_)
  refine fr_st (fun _ e => hs.trans (st_sI e)) (fun h hs => ?_)
  refine fr_bd (fun _ => ?_)
  refine fr_cl (fun _ _ e => hs.trans (fr_X4_within e)) (fun _ h hs => ?_)
  refine fr_st (fun _ e => hs.trans (st_sI e)) (fun h hs => ?_)
  refine fr_bd (fun _ => ?_)
  refine fr_bd (fun _ => ?_)
  refine fr_st (fun _ e => hs.trans (st_sI e)) (fun h hs => ?_)
  exact fr_X2_readTexture_40 sv_fuel hs
theorem fr_X2_readTexture {x0 : Nat} {x1 : Nat} {x2 : Int32} {h : sv_H} {r : Unit} {hE : sv_H} (hw : fn_X2_readTexture x0 x1 x2 h = some (r, hE)) : sv_same h hE := fr_X2_readTexture_0 (sv_same.refl h) r hE hw

theorem fr_X4_pairWithin_0 {h0 : sv_H} {x0 : Nat} {x1 : Int32} {x2 : Int32} {h : sv_H} (hs : sv_same h0 h) : sv_fr sv_same h0 (fn_X4_pairWithin x0 x1 x2 h) := by
  unfold fn_X4_pairWithin
  refine fr_if ?_ fr_no
  refine fr_bd (fun _ => ?_)
  refine fr_cl (fun _ _ e => hs.trans (fr_X4_pair e)) (fun _ h hs => ?_)
  refine fr_cl (fun _ _ e => hs.trans (fr_X4_bounded e)) (fun _ h hs => ?_)
  exact fr_rt hs
theorem fr_X4_pairWithin {x0 : Nat} {x1 : Int32} {x2 : Int32} {h : sv_H} {r : Int32} {hE : sv_H} (hw : fn_X4_pairWithin x0 x1 x2 h = some (r, hE)) : sv_same h hE := fr_X4_pairWithin_0 (sv_same.refl h) r hE hw

theorem fr_X4_numberOrNone_0 {h0 : sv_H} {x0 : Nat} {x1 : Int32} {h : sv_H} (hs : sv_same h0 h) : sv_fr sv_same h0 (fn_X4_numberOrNone x0 x1 h) := by
  unfold fn_X4_numberOrNone
  refine fr_if ?_ fr_no
  refine fr_bd (fun _ => ?_)
  refine fr_cl (fun _ _ e => hs.trans (fr_X4_one e)) (fun _ h hs => ?_)
  refine fr_if ?_ ?_
  · exact fr_rt hs
  · refine fr_cl (fun _ _ e => hs.trans (fr_X4_bounded e)) (fun _ h hs => ?_)
    exact fr_rt hs
theorem fr_X4_numberOrNone {x0 : Nat} {x1 : Int32} {h : sv_H} {r : Int32} {hE : sv_H} (hw : fn_X4_numberOrNone x0 x1 h = some (r, hE)) : sv_same h hE := fr_X4_numberOrNone_0 (sv_same.refl h) r hE hw

theorem fr_X2_readSector_50 {h0 : sv_H} {x0 : Nat} {x1 : Nat} {x2 : Nat} {h : sv_H} (hs : sv_same h0 h) : sv_fr sv_same h0 (fn_X2_readSector_50 x0 x1 x2 h) := by
  unfold fn_X2_readSector_50
  refine fr_bd (fun _ => ?_)
  refine fr_cl (fun _ _ e => hs.trans (fr_X4_within e)) (fun _ h hs => ?_)
  refine fr_st (fun _ e => hs.trans (st_pI e)) (fun h hs => ?_)
  refine fr_bd (fun _ => ?_)
  refine fr_cl (fun _ _ e => hs.trans (fr_X4_numberOrNone e)) (fun _ h hs => ?_)
  refine fr_st (fun _ e => hs.trans (st_pI e)) (fun h hs => ?_)
  refine fr_cl (fun _ _ e => hs.trans (fr_X4_within e)) (fun _ h hs => ?_)
  refine fr_st (fun _ e => hs.trans (st_pI e)) (fun h hs => ?_)
  refine fr_cl (fun _ _ e => hs.trans (fr_X4_within e)) (fun _ h hs => ?_)
  refine fr_st (fun _ e => hs.trans (st_pI e)) (fun h hs => ?_)
  refine fr_cl (fun _ _ e => hs.trans (fr_X4_one e)) (fun _ h hs => ?_)
  refine fr_st (fun _ e => hs.trans (st_pI e)) (fun h hs => ?_)
  exact fr_rt hs
theorem fr_X2_readSector_0 {h0 : sv_H} {x0 : Nat} {x1 : Nat} {x2 : Nat} {h : sv_H} (hs : sv_same h0 h) : sv_fr sv_same h0 (fn_X2_readSector x0 x1 x2 h) := by
  unfold fn_X2_readSector
  refine fr_if ?_ fr_no
  refine fr_cl (fun _ _ e => hs.trans (fr_X4_pairWithin e)) (fun _ h hs => ?_)
  refine fr_st (fun _ e => hs.trans (st_pI e)) (fun h hs => ?_)
  refine fr_bd (fun _ => ?_)
  refine fr_cl (fun _ _ e => hs.trans (fr_X4_pairWithin e)) (fun _ h hs => ?_)
  refine fr_st (fun _ e => hs.trans (st_pI e)) (fun h hs => ?_)
  refine fr_bd (fun _ => ?_)
  refine fr_bd (fun _ => ?_)
  refine fr_if ?_ ?_
  · exact fr_X2_readSector_50 hs
  · refine fr_cl (fun _ _ e => hs.trans (fr_X4_blame e)) (fun _ h hs => ?_)
    exact fr_X2_readSector_50 hs
theorem fr_X2_readSector {x0 : Nat} {x1 : Nat} {x2 : Nat} {h : sv_H} {r : Unit} {hE : sv_H} (hw : fn_X2_readSector x0 x1 x2 h = some (r, hE)) : sv_same h hE := fr_X2_readSector_0 (sv_same.refl h) r hE hw

theorem fr_X2_readWall_164 {h0 : sv_H} {k116 : Nat → Nat → Nat → Int32 → sv_H → Option (Unit × sv_H)} (hk116 : ∀ {x0 : Nat} {x1 : Nat} {x2 : Nat} {x6 : Int32} {h : sv_H}, sv_same h0 h → sv_fr sv_same h0 (k116 x0 x1 x2 x6 h)) {x0 : Nat} {x1 : Nat} {x2 : Nat} {x6 : Int32} {s0 : Nat} {s1 : Int32} {s2 : Nat} {s3 : Int32} {h : sv_H} (hs : sv_same h0 h) : sv_fr sv_same h0 (fn_X2_readWall_164 k116 x0 x1 x2 x6 s0 s1 s2 s3 h) := by
  unfold fn_X2_readWall_164
  refine fr_cl (fun _ _ e => hs.trans (fr_X4_numberOrNone e)) (fun _ h hs => ?_)
  refine fr_st (fun _ e => hs.trans (st_sI e)) (fun h hs => ?_)
  exact hk116 hs
theorem fr_X2_readWall_142 {h0 : sv_H} {k116 : Nat → Nat → Nat → Int32 → sv_H → Option (Unit × sv_H)} (hk116 : ∀ {x0 : Nat} {x1 : Nat} {x2 : Nat} {x6 : Int32} {h : sv_H}, sv_same h0 h → sv_fr sv_same h0 (k116 x0 x1 x2 x6 h)) {x0 : Nat} {x1 : Nat} {x2 : Nat} {x6 : Int32} {s0 : Int32} {h : sv_H} (hs : sv_same h0 h) : sv_fr sv_same h0 (fn_X2_readWall_142 k116 x0 x1 x2 x6 s0 h) := by
  unfold fn_X2_readWall_142
  refine fr_bd (fun _ => ?_)
  refine fr_if ?_ ?_
  · exact fr_X2_readWall_164 hk116 hs
  · refine fr_bd (fun _ => ?_)
    exact fr_X2_readWall_164 hk116 hs
theorem fr_X2_readWall_137 {h0 : sv_H} {k116 : Nat → Nat → Nat → Int32 → sv_H → Option (Unit × sv_H)} (hk116 : ∀ {x0 : Nat} {x1 : Nat} {x2 : Nat} {x6 : Int32} {h : sv_H}, sv_same h0 h → sv_fr sv_same h0 (k116 x0 x1 x2 x6 h)) {x0 : Nat} {x1 : Nat} {x2 : Nat} {x6 : Int32} {h : sv_H} (hs : sv_same h0 h) : sv_fr sv_same h0 (fn_X2_readWall_137 k116 x0 x1 x2 x6 h) := by
  unfold fn_X2_readWall_137
  exact fr_X2_readWall_142 hk116 hs
theorem fr_X2_readWall_116b {h0 : sv_H} {k116 : Nat → Nat → Nat → Int32 → sv_H → Option (Unit × sv_H)} (hk116 : ∀ {x0 : Nat} {x1 : Nat} {x2 : Nat} {x6 : Int32} {h : sv_H}, sv_same h0 h → sv_fr sv_same h0 (k116 x0 x1 x2 x6 h)) {x0 : Nat} {x1 : Nat} {x2 : Nat} {x6 : Int32} {h : sv_H} (hs : sv_same h0 h) : sv_fr sv_same h0 (fn_X2_readWall_116b k116 x0 x1 x2 x6 h) := by
  unfold fn_X2_readWall_116b
  refine fr_if ?_ ?_
  · refine fr_cl (fun _ _ e => hs.trans (fr_X4_one e)) (fun _ h hs => ?_)
    refine fr_st (fun _ e => hs.trans (st_pI e)) (fun h hs => ?_)
    refine fr_st (fun _ e => hs.trans (st_pI e)) (fun h hs => ?_)
    refine fr_cl (fun _ _ e => hs.trans (fr_X4_within e)) (fun _ h hs => ?_)
    refine fr_st (fun _ e => hs.trans (st_pI e)) (fun h hs => ?_)
    refine fr_cl (fun _ _ e => hs.trans (fr_X4_within e)) (fun _ h hs => ?_)
    refine fr_st (fun _ e => hs.trans (st_pI e)) (fun h hs => ?_)
    refine fr_cl (fun _ _ e => hs.trans (fr_X4_one e)) (fun _ h hs => ?_)
    refine fr_st (fun _ e => hs.trans (st_pI e)) (fun h hs => ?_)
    exact fr_rt hs
  · refine fr_if ?_ ?_
    · exact fr_X2_readWall_137 hk116 hs
    · refine fr_bd (fun _ => ?_)
      refine fr_if ?_ ?_
      · exact fr_X2_readWall_142 hk116 hs
      · exact fr_X2_readWall_137 hk116 hs
theorem fr_X2_readWall_116 {h0 : sv_H} : ∀ (n : Nat) {x0 : Nat} {x1 : Nat} {x2 : Nat} {x6 : Int32} {h : sv_H}, sv_same h0 h → sv_fr sv_same h0 (fn_X2_readWall_116 n x0 x1 x2 x6 h) := by
  intro n
  induction n with
  | zero => intro x0 x1 x2 x6 h hs r hE e; cases (show (none : Option (Unit × sv_H)) = some (r, hE) from e)
  | succ n ih => intro x0 x1 x2 x6 h hs; exact fr_X2_readWall_116b (fun hs => ih hs) hs
theorem fr_X2_readWall_44 {h0 : sv_H} {x0 : Nat} {x1 : Nat} {x2 : Nat} {x3 : Int32} {x5 : Int32} {h : sv_H} (hs : sv_same h0 h) : sv_fr sv_same h0 (fn_X2_readWall_44 x0 x1 x2 x3 x5 h) := by
  unfold fn_X2_readWall_44
  refine fr_bd (fun _ => ?_)
  refine fr_bd (fun _ => ?_)
  refine fr_st (fun _ e => hs.trans (st_pI e)) (fun h hs => ?_)
  refine fr_bd (fun _ => ?_)
  refine fr_bd (fun _ => ?_)
  refine fr_st (fun _ e => hs.trans (st_pI e)) (fun h hs => ?_)
  refine fr_bd (fun _ => ?_)
  refine fr_bd (fun _ => ?_)
  refine fr_st (fun _ e => hs.trans (st_pI e)) (fun h hs => ?_)
  refine fr_bd (fun _ => ?_)
  refine fr_bd (fun _ => ?_)
  refine fr_st (fun _ e => hs.trans (st_pI e)) (fun h hs => ?_)
  refine fr_bd (fun _ => ?_)
  refine fr_cl (fun _ _ e => hs.trans (fr_X4_within e)) (fun _ h hs => ?_)
  refine fr_st (fun _ e => hs.trans (st_pI e)) (fun h hs => ?_)
  refine fr_bd (fun _ => ?_)
  refine fr_cl (fun _ _ e => hs.trans (fr_X4_numberOrNone e)) (fun _ h hs => ?_)
  refine fr_st (fun _ e => hs.trans (st_pI e)) (fun h hs => ?_)
  exact fr_X2_readWall_116 sv_fuel hs
theorem fr_X2_readWall_0 {h0 : sv_H} {x0 : Nat} {x1 : Nat} {x2 : Nat} {h : sv_H} (hs : sv_same h0 h) : sv_fr sv_same h0 (fn_X2_readWall x0 x1 x2 h) := by
  unfold fn_X2_readWall
  refine fr_if ?_ fr_no
  refine fr_bd (fun _ => ?_)
  refine fr_cl (fun _ _ e => hs.trans (fr_X4_within e)) (fun _ h hs => ?_)
  refine fr_bd (fun _ => ?_)
  refine fr_bd (fun _ => ?_)
  refine fr_cl (fun _ _ e => hs.trans (fr_X4_within e)) (fun _ h hs => ?_)
  refine fr_if ?_ ?_
  · refine fr_cl (fun _ _ e => hs.trans (fr_X4_blame e)) (fun _ h hs => ?_)
    exact fr_X2_readWall_44 hs
  · exact fr_X2_readWall_44 hs
theorem fr_X2_readWall {x0 : Nat} {x1 : Nat} {x2 : Nat} {h : sv_H} {r : Unit} {hE : sv_H} (hw : fn_X2_readWall x0 x1 x2 h = some (r, hE)) : sv_same h hE := fr_X2_readWall_0 (sv_same.refl h) r hE hw

theorem fr_X4_readStart_0 {h0 : sv_H} {x0 : Nat} {x1 : Nat} {x2 : Int32} {h : sv_H} (hs : sv_same h0 h) : sv_fr sv_same h0 (fn_X4_readStart x0 x1 x2 h) := by
  unfold fn_X4_readStart
  refine fr_if ?_ fr_no
  refine fr_cl (fun _ _ e => hs.trans (fr_X4_pair e)) (fun _ h hs => ?_)
  refine fr_st (fun _ e => hs.trans (st_pI e)) (fun h hs => ?_)
  refine fr_cl (fun _ _ e => hs.trans (fr_X4_pair e)) (fun _ h hs => ?_)
  refine fr_st (fun _ e => hs.trans (st_pI e)) (fun h hs => ?_)
  refine fr_cl (fun _ _ e => hs.trans (fr_X4_within e)) (fun _ h hs => ?_)
  refine fr_st (fun _ e => hs.trans (st_pI e)) (fun h hs => ?_)
  refine fr_cl (fun _ _ e => hs.trans (fr_X4_within e)) (fun _ h hs => ?_)
  refine fr_st (fun _ e => hs.trans (st_pI e)) (fun h hs => ?_)
  exact fr_rt hs
theorem fr_X4_readStart {x0 : Nat} {x1 : Nat} {x2 : Int32} {h : sv_H} {r : Unit} {hE : sv_H} (hw : fn_X4_readStart x0 x1 x2 h = some (r, hE)) : sv_same h hE := fr_X4_readStart_0 (sv_same.refl h) r hE hw

theorem fr_X2_readCheck_7b {h0 : sv_H} {k7 : Nat → Int32 → Int32 → Int32 → sv_H → Option (Unit × sv_H)} (hk7 : ∀ {x1 : Nat} {x2 : Int32} {x3 : Int32} {x4 : Int32} {h : sv_H}, sv_same h0 h → sv_fr sv_same h0 (k7 x1 x2 x3 x4 h)) {x1 : Nat} {x2 : Int32} {x3 : Int32} {x4 : Int32} {h : sv_H} (hs : sv_same h0 h) : sv_fr sv_same h0 (fn_X2_readCheck_7b k7 x1 x2 x3 x4 h) := by
  unfold fn_X2_readCheck_7b
  refine fr_bd (fun _ => ?_)
  refine fr_if ?_ ?_
  · refine fr_cl (fun _ _ e => hs.trans (fr_X4_expect e)) (fun _ h hs => ?_)
    refine fr_cl (fun _ _ e => hs.trans (fr_X4_expect e)) (fun _ h hs => ?_)
    exact fr_rt hs
  · refine fr_bd (fun _ => ?_)
    refine fr_bd (fun _ => ?_)
    refine fr_bd (fun _ => ?_)
    exact hk7 hs
theorem fr_X2_readCheck_7 {h0 : sv_H} : ∀ (n : Nat) {x1 : Nat} {x2 : Int32} {x3 : Int32} {x4 : Int32} {h : sv_H}, sv_same h0 h → sv_fr sv_same h0 (fn_X2_readCheck_7 n x1 x2 x3 x4 h) := by
  intro n
  induction n with
  | zero => intro x1 x2 x3 x4 h hs r hE e; cases (show (none : Option (Unit × sv_H)) = some (r, hE) from e)
  | succ n ih => intro x1 x2 x3 x4 h hs; exact fr_X2_readCheck_7b (fun hs => ih hs) hs
theorem fr_X2_readCheck_0 {h0 : sv_H} {x0 : Nat} {x1 : Nat} {h : sv_H} (hs : sv_same h0 h) : sv_fr sv_same h0 (fn_X2_readCheck x0 x1 h) := by
  unfold fn_X2_readCheck
  refine fr_if ?_ fr_no
  exact fr_X2_readCheck_7 sv_fuel hs
theorem fr_X2_readCheck {x0 : Nat} {x1 : Nat} {h : sv_H} {r : Unit} {hE : sv_H} (hw : fn_X2_readCheck x0 x1 h = some (r, hE)) : sv_same h hE := fr_X2_readCheck_0 (sv_same.refl h) r hE hw

theorem fr_X4_expectEnd_23 {h0 : sv_H} {h : sv_H} (hs : sv_same h0 h) : sv_fr sv_same h0 (fn_X4_expectEnd_23 h) := by
  unfold fn_X4_expectEnd_23
  exact fr_rt hs
theorem fr_X4_expectEnd_0 {h0 : sv_H} {x0 : Nat} {x1 : Int32} {h : sv_H} (hs : sv_same h0 h) : sv_fr sv_same h0 (fn_X4_expectEnd x0 x1 h) := by
  unfold fn_X4_expectEnd
  refine fr_if ?_ fr_no
  refine fr_bd (fun _ => ?_)
  refine fr_bd (fun _ => ?_)
  refine fr_bd (fun _ => ?_)
  refine fr_if ?_ ?_
  · exact fr_X4_expectEnd_23 hs
  · refine fr_bd (fun _ => ?_)
    refine fr_cl (fun _ _ e => hs.trans (fr_X4_blame e)) (fun _ h hs => ?_)
    exact fr_X4_expectEnd_23 hs
theorem fr_X4_expectEnd {x0 : Nat} {x1 : Int32} {h : sv_H} {r : Unit} {hE : sv_H} (hw : fn_X4_expectEnd x0 x1 h = some (r, hE)) : sv_same h hE := fr_X4_expectEnd_0 (sv_same.refl h) r hE hw

theorem fr_X12_cross_0 {h0 : sv_H} {x0 : Int64} {x2 : Int64} {x4 : Int64} {x6 : Int64} {h : sv_H} (hs : sv_same h0 h) : sv_fr sv_same h0 (fn_X12_cross x0 x2 x4 x6 h) := by
  unfold fn_X12_cross
  exact fr_rt hs
theorem fr_X12_cross {x0 : Int64} {x2 : Int64} {x4 : Int64} {x6 : Int64} {h : sv_H} {r : Int64} {hE : sv_H} (hw : fn_X12_cross x0 x2 x4 x6 h = some (r, hE)) : sv_same h hE := fr_X12_cross_0 (sv_same.refl h) r hE hw

theorem fr_X11_goesAlong_53 {h0 : sv_H} {s0 : Int32} {h : sv_H} (hs : sv_same h0 h) : sv_fr sv_same h0 (fn_X11_goesAlong_53 s0 h) := by
  unfold fn_X11_goesAlong_53
  exact fr_rz hs
theorem fr_X11_goesAlong_52 {h0 : sv_H} {h : sv_H} (hs : sv_same h0 h) : sv_fr sv_same h0 (fn_X11_goesAlong_52 h) := by
  unfold fn_X11_goesAlong_52
  exact fr_X11_goesAlong_53 hs
theorem fr_X11_goesAlong_0 {h0 : sv_H} {x0 : Int64} {x2 : Int64} {x4 : Int64} {x6 : Int64} {x8 : Int64} {x10 : Int64} {h : sv_H} (hs : sv_same h0 h) : sv_fr sv_same h0 (fn_X11_goesAlong x0 x2 x4 x6 x8 x10 h) := by
  unfold fn_X11_goesAlong
  refine fr_cl (fun _ _ e => hs.trans (fr_X12_cross e)) (fun _ h hs => ?_)
  refine fr_if ?_ ?_
  · refine fr_if ?_ ?_
    · exact fr_X11_goesAlong_52 hs
    · exact fr_X11_goesAlong_53 hs
  · exact fr_X11_goesAlong_52 hs
theorem fr_X11_goesAlong {x0 : Int64} {x2 : Int64} {x4 : Int64} {x6 : Int64} {x8 : Int64} {x10 : Int64} {h : sv_H} {r : Int32} {hE : sv_H} (hw : fn_X11_goesAlong x0 x2 x4 x6 x8 x10 h = some (r, hE)) : sv_same h hE := fr_X11_goesAlong_0 (sv_same.refl h) r hE hw

theorem fr_X11_reachesBox_66 {h0 : sv_H} {s0 : Int32} {h : sv_H} (hs : sv_same h0 h) : sv_fr sv_same h0 (fn_X11_reachesBox_66 s0 h) := by
  unfold fn_X11_reachesBox_66
  exact fr_rz hs
theorem fr_X11_reachesBox_65 {h0 : sv_H} {h : sv_H} (hs : sv_same h0 h) : sv_fr sv_same h0 (fn_X11_reachesBox_65 h) := by
  unfold fn_X11_reachesBox_65
  exact fr_X11_reachesBox_66 hs
theorem fr_X11_reachesBox_0 {h0 : sv_H} {x0 : Nat} {x1 : Int32} {x2 : Int32} {x3 : Int32} {x4 : Int32} {h : sv_H} (hs : sv_same h0 h) : sv_fr sv_same h0 (fn_X11_reachesBox x0 x1 x2 x3 x4 h) := by
  unfold fn_X11_reachesBox
  refine fr_if ?_ fr_no
  refine fr_bd (fun _ => ?_)
  refine fr_bd (fun _ => ?_)
  refine fr_let (fun _ => ?_)
  refine fr_if ?_ ?_
  · exact fr_X11_reachesBox_65 hs
  · refine fr_bd (fun _ => ?_)
    refine fr_bd (fun _ => ?_)
    refine fr_let (fun _ => ?_)
    refine fr_if ?_ ?_
    · exact fr_X11_reachesBox_65 hs
    · refine fr_bd (fun _ => ?_)
      refine fr_bd (fun _ => ?_)
      refine fr_let (fun _ => ?_)
      refine fr_if ?_ ?_
      · exact fr_X11_reachesBox_65 hs
      · refine fr_bd (fun _ => ?_)
        refine fr_bd (fun _ => ?_)
        refine fr_let (fun _ => ?_)
        refine fr_if ?_ ?_
        · exact fr_X11_reachesBox_65 hs
        · exact fr_X11_reachesBox_66 hs
theorem fr_X11_reachesBox {x0 : Nat} {x1 : Int32} {x2 : Int32} {x3 : Int32} {x4 : Int32} {h : sv_H} {r : Int32} {hE : sv_H} (hw : fn_X11_reachesBox x0 x1 x2 x3 x4 h = some (r, hE)) : sv_same h hE := fr_X11_reachesBox_0 (sv_same.refl h) r hE hw

theorem fr_X11_sideOf_0 {h0 : sv_H} {x0 : Nat} {x1 : Int32} {x2 : Int32} {h : sv_H} (hs : sv_same h0 h) : sv_fr sv_same h0 (fn_X11_sideOf x0 x1 x2 h) := by
  unfold fn_X11_sideOf
  refine fr_if ?_ fr_no
  refine fr_bd (fun _ => ?_)
  refine fr_bd (fun _ => ?_)
  refine fr_bd (fun _ => ?_)
  refine fr_bd (fun _ => ?_)
  refine fr_bd (fun _ => ?_)
  refine fr_bd (fun _ => ?_)
  exact fr_rt hs
theorem fr_X11_sideOf {x0 : Nat} {x1 : Int32} {x2 : Int32} {h : sv_H} {r : Int64} {hE : sv_H} (hw : fn_X11_sideOf x0 x1 x2 h = some (r, hE)) : sv_same h hE := fr_X11_sideOf_0 (sv_same.refl h) r hE hw

theorem fr_X11_lineParts_39 {h0 : sv_H} {s0 : Int32} {h : sv_H} (hs : sv_same h0 h) : sv_fr sv_same h0 (fn_X11_lineParts_39 s0 h) := by
  unfold fn_X11_lineParts_39
  exact fr_rz hs
theorem fr_X11_lineParts_0 {h0 : sv_H} {x0 : Nat} {x1 : Nat} {h : sv_H} (hs : sv_same h0 h) : sv_fr sv_same h0 (fn_X11_lineParts x0 x1 h) := by
  unfold fn_X11_lineParts
  refine fr_if ?_ fr_no
  refine fr_bd (fun _ => ?_)
  refine fr_bd (fun _ => ?_)
  refine fr_cl (fun _ _ e => hs.trans (fr_X11_sideOf e)) (fun _ h hs => ?_)
  refine fr_cl (fun _ _ e => hs.trans (fr_J13_signum_95d88 e)) (fun _ h hs => ?_)
  refine fr_bd (fun _ => ?_)
  refine fr_bd (fun _ => ?_)
  refine fr_cl (fun _ _ e => hs.trans (fr_X11_sideOf e)) (fun _ h hs => ?_)
  refine fr_cl (fun _ _ e => hs.trans (fr_J13_signum_95d88 e)) (fun _ h hs => ?_)
  refine fr_if ?_ ?_
  · exact fr_X11_lineParts_39 hs
  · exact fr_X11_lineParts_39 hs
theorem fr_X11_lineParts {x0 : Nat} {x1 : Nat} {h : sv_H} {r : Int32} {hE : sv_H} (hw : fn_X11_lineParts x0 x1 h = some (r, hE)) : sv_same h hE := fr_X11_lineParts_0 (sv_same.refl h) r hE hw

theorem fr_X11_touches_72 {h0 : sv_H} {s0 : Int32} {h : sv_H} (hs : sv_same h0 h) : sv_fr sv_same h0 (fn_X11_touches_72 s0 h) := by
  unfold fn_X11_touches_72
  exact fr_rz hs
theorem fr_X11_touches_71 {h0 : sv_H} {h : sv_H} (hs : sv_same h0 h) : sv_fr sv_same h0 (fn_X11_touches_71 h) := by
  unfold fn_X11_touches_71
  exact fr_X11_touches_72 hs
theorem fr_X11_touches_0 {h0 : sv_H} {x0 : Nat} {x1 : Nat} {h : sv_H} (hs : sv_same h0 h) : sv_fr sv_same h0 (fn_X11_touches x0 x1 h) := by
  unfold fn_X11_touches
  refine fr_if ?_ fr_no
  refine fr_bd (fun _ => ?_)
  refine fr_bd (fun _ => ?_)
  refine fr_let (fun _ => ?_)
  refine fr_bd (fun _ => ?_)
  refine fr_bd (fun _ => ?_)
  refine fr_let (fun _ => ?_)
  refine fr_bd (fun _ => ?_)
  refine fr_bd (fun _ => ?_)
  refine fr_let (fun _ => ?_)
  refine fr_bd (fun _ => ?_)
  refine fr_bd (fun _ => ?_)
  refine fr_let (fun _ => ?_)
  refine fr_cl (fun _ _ e => hs.trans (fr_X11_reachesBox e)) (fun _ h hs => ?_)
  refine fr_if ?_ ?_
  · exact fr_X11_touches_71 hs
  · refine fr_cl (fun _ _ e => hs.trans (fr_X11_lineParts e)) (fun _ h hs => ?_)
    refine fr_if ?_ ?_
    · exact fr_X11_touches_71 hs
    · refine fr_cl (fun _ _ e => hs.trans (fr_X11_lineParts e)) (fun _ h hs => ?_)
      refine fr_if ?_ ?_
      · exact fr_X11_touches_71 hs
      · exact fr_X11_touches_72 hs
theorem fr_X11_touches {x0 : Nat} {x1 : Nat} {h : sv_H} {r : Int32} {hE : sv_H} (hw : fn_X11_touches x0 x1 h = some (r, hE)) : sv_same h hE := fr_X11_touches_0 (sv_same.refl h) r hE hw

theorem fr_X11_overlaps_224 {h0 : sv_H} {x0 : Nat} {x1 : Nat} {h : sv_H} (hs : sv_same h0 h) : sv_fr sv_same h0 (fn_X11_overlaps_224 x0 x1 h) := by
  unfold fn_X11_overlaps_224
  refine fr_cl (fun _ _ e => hs.trans (fr_X11_touches e)) (fun _ h hs => ?_)
  exact fr_rz hs
theorem fr_X11_overlaps_168 {h0 : sv_H} {x0 : Nat} {x1 : Nat} {h : sv_H} (hs : sv_same h0 h) : sv_fr sv_same h0 (fn_X11_overlaps_168 x0 x1 h) := by
  unfold fn_X11_overlaps_168
  refine fr_bd (fun _ => ?_)
  refine fr_bd (fun _ => ?_)
  refine fr_if ?_ ?_
  · refine fr_bd (fun _ => ?_)
    refine fr_bd (fun _ => ?_)
    refine fr_if ?_ ?_
    · refine fr_bd (fun _ => ?_)
      refine fr_bd (fun _ => ?_)
      refine fr_bd (fun _ => ?_)
      refine fr_bd (fun _ => ?_)
      refine fr_bd (fun _ => ?_)
      refine fr_bd (fun _ => ?_)
      refine fr_cl (fun _ _ e => hs.trans (fr_X11_goesAlong e)) (fun _ h hs => ?_)
      exact fr_rz hs
    · exact fr_X11_overlaps_224 hs
  · exact fr_X11_overlaps_224 hs
theorem fr_X11_overlaps_112 {h0 : sv_H} {x0 : Nat} {x1 : Nat} {h : sv_H} (hs : sv_same h0 h) : sv_fr sv_same h0 (fn_X11_overlaps_112 x0 x1 h) := by
  unfold fn_X11_overlaps_112
  refine fr_bd (fun _ => ?_)
  refine fr_bd (fun _ => ?_)
  refine fr_if ?_ ?_
  · refine fr_bd (fun _ => ?_)
    refine fr_bd (fun _ => ?_)
    refine fr_if ?_ ?_
    · refine fr_bd (fun _ => ?_)
      refine fr_bd (fun _ => ?_)
      refine fr_bd (fun _ => ?_)
      refine fr_bd (fun _ => ?_)
      refine fr_bd (fun _ => ?_)
      refine fr_bd (fun _ => ?_)
      refine fr_cl (fun _ _ e => hs.trans (fr_X11_goesAlong e)) (fun _ h hs => ?_)
      exact fr_rz hs
    · exact fr_X11_overlaps_168 hs
  · exact fr_X11_overlaps_168 hs
theorem fr_X11_overlaps_56 {h0 : sv_H} {x0 : Nat} {x1 : Nat} {h : sv_H} (hs : sv_same h0 h) : sv_fr sv_same h0 (fn_X11_overlaps_56 x0 x1 h) := by
  unfold fn_X11_overlaps_56
  refine fr_bd (fun _ => ?_)
  refine fr_bd (fun _ => ?_)
  refine fr_if ?_ ?_
  · refine fr_bd (fun _ => ?_)
    refine fr_bd (fun _ => ?_)
    refine fr_if ?_ ?_
    · refine fr_bd (fun _ => ?_)
      refine fr_bd (fun _ => ?_)
      refine fr_bd (fun _ => ?_)
      refine fr_bd (fun _ => ?_)
      refine fr_bd (fun _ => ?_)
      refine fr_bd (fun _ => ?_)
      refine fr_cl (fun _ _ e => hs.trans (fr_X11_goesAlong e)) (fun _ h hs => ?_)
      exact fr_rz hs
    · exact fr_X11_overlaps_112 hs
  · exact fr_X11_overlaps_112 hs
theorem fr_X11_overlaps_0 {h0 : sv_H} {x0 : Nat} {x1 : Nat} {h : sv_H} (hs : sv_same h0 h) : sv_fr sv_same h0 (fn_X11_overlaps x0 x1 h) := by
  unfold fn_X11_overlaps
  refine fr_if ?_ fr_no
  refine fr_bd (fun _ => ?_)
  refine fr_bd (fun _ => ?_)
  refine fr_if ?_ ?_
  · refine fr_bd (fun _ => ?_)
    refine fr_bd (fun _ => ?_)
    refine fr_if ?_ ?_
    · refine fr_bd (fun _ => ?_)
      refine fr_bd (fun _ => ?_)
      refine fr_bd (fun _ => ?_)
      refine fr_bd (fun _ => ?_)
      refine fr_bd (fun _ => ?_)
      refine fr_bd (fun _ => ?_)
      refine fr_cl (fun _ _ e => hs.trans (fr_X11_goesAlong e)) (fun _ h hs => ?_)
      exact fr_rz hs
    · exact fr_X11_overlaps_56 hs
  · exact fr_X11_overlaps_56 hs
theorem fr_X11_overlaps {x0 : Nat} {x1 : Nat} {h : sv_H} {r : Int32} {hE : sv_H} (hw : fn_X11_overlaps x0 x1 h = some (r, hE)) : sv_same h hE := fr_X11_overlaps_0 (sv_same.refl h) r hE hw

theorem fr_X2_findOverlap_76 {h0 : sv_H} {h : sv_H} (hs : sv_same h0 h) : sv_fr sv_same h0 (fn_X2_findOverlap_76 h) := by
  unfold fn_X2_findOverlap_76
  exact fr_rt hs
theorem fr_X2_findOverlap_70 {h0 : sv_H} {k2 : Nat → Nat → Int32 → Int32 → sv_H → Option (Unit × sv_H)} (hk2 : ∀ {x0 : Nat} {x1 : Nat} {x2 : Int32} {x3 : Int32} {h : sv_H}, sv_same h0 h → sv_fr sv_same h0 (k2 x0 x1 x2 x3 h)) {x0 : Nat} {x1 : Nat} {x2 : Int32} {x3 : Int32} {h : sv_H} (hs : sv_same h0 h) : sv_fr sv_same h0 (fn_X2_findOverlap_70 k2 x0 x1 x2 x3 h) := by
  unfold fn_X2_findOverlap_70
  exact hk2 hs
theorem fr_X2_findOverlap_64 {h0 : sv_H} {k2 : Nat → Nat → Int32 → Int32 → sv_H → Option (Unit × sv_H)} (hk2 : ∀ {x0 : Nat} {x1 : Nat} {x2 : Int32} {x3 : Int32} {h : sv_H}, sv_same h0 h → sv_fr sv_same h0 (k2 x0 x1 x2 x3 h)) {k20 : Nat → Nat → Int32 → Int32 → Int32 → sv_H → Option (Unit × sv_H)} (hk20 : ∀ {x0 : Nat} {x1 : Nat} {x2 : Int32} {x3 : Int32} {x4 : Int32} {h : sv_H}, sv_same h0 h → sv_fr sv_same h0 (k20 x0 x1 x2 x3 x4 h)) {x0 : Nat} {x1 : Nat} {x2 : Int32} {x3 : Int32} {x4 : Int32} {h : sv_H} (hs : sv_same h0 h) : sv_fr sv_same h0 (fn_X2_findOverlap_64 k2 k20 x0 x1 x2 x3 x4 h) := by
  unfold fn_X2_findOverlap_64
  exact hk20 hs
theorem fr_X2_findOverlap_20b {h0 : sv_H} {k2 : Nat → Nat → Int32 → Int32 → sv_H → Option (Unit × sv_H)} (hk2 : ∀ {x0 : Nat} {x1 : Nat} {x2 : Int32} {x3 : Int32} {h : sv_H}, sv_same h0 h → sv_fr sv_same h0 (k2 x0 x1 x2 x3 h)) {k20 : Nat → Nat → Int32 → Int32 → Int32 → sv_H → Option (Unit × sv_H)} (hk20 : ∀ {x0 : Nat} {x1 : Nat} {x2 : Int32} {x3 : Int32} {x4 : Int32} {h : sv_H}, sv_same h0 h → sv_fr sv_same h0 (k20 x0 x1 x2 x3 x4 h)) {x0 : Nat} {x1 : Nat} {x2 : Int32} {x3 : Int32} {x4 : Int32} {h : sv_H} (hs : sv_same h0 h) : sv_fr sv_same h0 (fn_X2_findOverlap_20b k2 k20 x0 x1 x2 x3 x4 h) := by
  unfold fn_X2_findOverlap_20b
  refine fr_if ?_ ?_
  · exact fr_X2_findOverlap_70 hk2 hs
  · refine fr_cl (fun _ _ e => hs.trans (fr_X4_well e)) (fun _ h hs => ?_)
    refine fr_if ?_ ?_
    · exact fr_X2_findOverlap_70 hk2 hs
    · refine fr_bd (fun _ => ?_)
      refine fr_bd (fun _ => ?_)
      refine fr_bd (fun _ => ?_)
      refine fr_bd (fun _ => ?_)
      refine fr_cl (fun _ _ e => hs.trans (fr_X11_overlaps e)) (fun _ h hs => ?_)
      refine fr_if ?_ ?_
      · exact fr_X2_findOverlap_64 hk2 hk20 hs
      · refine fr_cl (fun _ _ e => hs.trans (fr_X4_blame e)) (fun _ h hs => ?_)
        exact fr_X2_findOverlap_64 hk2 hk20 hs
theorem fr_X2_findOverlap_20 {h0 : sv_H} {k2 : Nat → Nat → Int32 → Int32 → sv_H → Option (Unit × sv_H)} (hk2 : ∀ {x0 : Nat} {x1 : Nat} {x2 : Int32} {x3 : Int32} {h : sv_H}, sv_same h0 h → sv_fr sv_same h0 (k2 x0 x1 x2 x3 h)) : ∀ (n : Nat) {x0 : Nat} {x1 : Nat} {x2 : Int32} {x3 : Int32} {x4 : Int32} {h : sv_H}, sv_same h0 h → sv_fr sv_same h0 (fn_X2_findOverlap_20 k2 n x0 x1 x2 x3 x4 h) := by
  intro n
  induction n with
  | zero => intro x0 x1 x2 x3 x4 h hs r hE e; cases (show (none : Option (Unit × sv_H)) = some (r, hE) from e)
  | succ n ih => intro x0 x1 x2 x3 x4 h hs; exact fr_X2_findOverlap_20b hk2 (fun hs => ih hs) hs
theorem fr_X2_findOverlap_2b {h0 : sv_H} {k2 : Nat → Nat → Int32 → Int32 → sv_H → Option (Unit × sv_H)} (hk2 : ∀ {x0 : Nat} {x1 : Nat} {x2 : Int32} {x3 : Int32} {h : sv_H}, sv_same h0 h → sv_fr sv_same h0 (k2 x0 x1 x2 x3 h)) {x0 : Nat} {x1 : Nat} {x2 : Int32} {x3 : Int32} {h : sv_H} (hs : sv_same h0 h) : sv_fr sv_same h0 (fn_X2_findOverlap_2b k2 x0 x1 x2 x3 h) := by
  unfold fn_X2_findOverlap_2b
  refine fr_bd (fun _ => ?_)
  refine fr_if ?_ ?_
  · exact fr_X2_findOverlap_76 hs
  · refine fr_cl (fun _ _ e => hs.trans (fr_X4_well e)) (fun _ h hs => ?_)
    refine fr_if ?_ ?_
    · exact fr_X2_findOverlap_76 hs
    · exact fr_X2_findOverlap_20 hk2 sv_fuel hs
theorem fr_X2_findOverlap_2 {h0 : sv_H} : ∀ (n : Nat) {x0 : Nat} {x1 : Nat} {x2 : Int32} {x3 : Int32} {h : sv_H}, sv_same h0 h → sv_fr sv_same h0 (fn_X2_findOverlap_2 n x0 x1 x2 x3 h) := by
  intro n
  induction n with
  | zero => intro x0 x1 x2 x3 h hs r hE e; cases (show (none : Option (Unit × sv_H)) = some (r, hE) from e)
  | succ n ih => intro x0 x1 x2 x3 h hs; exact fr_X2_findOverlap_2b (fun hs => ih hs) hs
theorem fr_X2_findOverlap_0 {h0 : sv_H} {x0 : Nat} {x1 : Nat} {x2 : Int32} {h : sv_H} (hs : sv_same h0 h) : sv_fr sv_same h0 (fn_X2_findOverlap x0 x1 x2 h) := by
  unfold fn_X2_findOverlap
  refine fr_if ?_ fr_no
  exact fr_X2_findOverlap_2 sv_fuel hs
theorem fr_X2_findOverlap {x0 : Nat} {x1 : Nat} {x2 : Int32} {h : sv_H} {r : Unit} {hE : sv_H} (hw : fn_X2_findOverlap x0 x1 x2 h = some (r, hE)) : sv_same h hE := fr_X2_findOverlap_0 (sv_same.refl h) r hE hw

theorem fr_X2_read_197 {h0 : sv_H} {x0 : Nat} {x1 : Nat} {x2 : Int32} {h : sv_H} (hs : sv_same h0 h) : sv_fr sv_same h0 (fn_X2_read_197 x0 x1 x2 h) := by
  unfold fn_X2_read_197
  refine fr_bd (fun _ => ?_)
  refine fr_bd (fun _ => ?_)
  refine fr_cl (fun _ _ e => hs.trans (fr_X4_readStart e)) (fun _ h hs => ?_)
  refine fr_cl (fun _ _ e => hs.trans (fr_X2_readCheck e)) (fun _ h hs => ?_)
  refine fr_cl (fun _ _ e => hs.trans (fr_X4_expectEnd e)) (fun _ h hs => ?_)
  refine fr_cl (fun _ _ e => hs.trans (fr_X2_findOverlap e)) (fun _ h hs => ?_)
  exact fr_rt hs
theorem fr_X2_read_165b {h0 : sv_H} {k165 : Nat → Nat → Int32 → Int32 → sv_H → Option (Unit × sv_H)} (hk165 : ∀ {x0 : Nat} {x1 : Nat} {x2 : Int32} {x3 : Int32} {h : sv_H}, sv_same h0 h → sv_fr sv_same h0 (k165 x0 x1 x2 x3 h)) {x0 : Nat} {x1 : Nat} {x2 : Int32} {x3 : Int32} {h : sv_H} (hs : sv_same h0 h) : sv_fr sv_same h0 (fn_X2_read_165b k165 x0 x1 x2 x3 h) := by
  unfold fn_X2_read_165b
  refine fr_bd (fun _ => ?_)
  refine fr_if ?_ ?_
  · exact fr_X2_read_197 hs
  · refine fr_cl (fun _ _ e => hs.trans (fr_X4_well e)) (fun _ h hs => ?_)
    refine fr_if ?_ ?_
    · exact fr_X2_read_197 hs
    · refine fr_bd (fun _ => ?_)
      refine fr_bd (fun _ => ?_)
      refine fr_cl (fun _ _ e => hs.trans (fr_X2_readWall e)) (fun _ h hs => ?_)
      exact hk165 hs
theorem fr_X2_read_165 {h0 : sv_H} : ∀ (n : Nat) {x0 : Nat} {x1 : Nat} {x2 : Int32} {x3 : Int32} {h : sv_H}, sv_same h0 h → sv_fr sv_same h0 (fn_X2_read_165 n x0 x1 x2 x3 h) := by
  intro n
  induction n with
  | zero => intro x0 x1 x2 x3 h hs r hE e; cases (show (none : Option (Unit × sv_H)) = some (r, hE) from e)
  | succ n ih => intro x0 x1 x2 x3 h hs; exact fr_X2_read_165b (fun hs => ih hs) hs
theorem fr_X2_read_158 {h0 : sv_H} {x0 : Nat} {x1 : Nat} {h : sv_H} (hs : sv_same h0 h) : sv_fr sv_same h0 (fn_X2_read_158 x0 x1 h) := by
  unfold fn_X2_read_158
  refine fr_bd (fun _ => ?_)
  exact fr_X2_read_165 sv_fuel hs
theorem fr_X2_read_126b {h0 : sv_H} {k126 : Nat → Nat → Int32 → sv_H → Option (Unit × sv_H)} (hk126 : ∀ {x0 : Nat} {x1 : Nat} {x2 : Int32} {h : sv_H}, sv_same h0 h → sv_fr sv_same h0 (k126 x0 x1 x2 h)) {x0 : Nat} {x1 : Nat} {x2 : Int32} {h : sv_H} (hs : sv_same h0 h) : sv_fr sv_same h0 (fn_X2_read_126b k126 x0 x1 x2 h) := by
  unfold fn_X2_read_126b
  refine fr_bd (fun _ => ?_)
  refine fr_if ?_ ?_
  · exact fr_X2_read_158 hs
  · refine fr_cl (fun _ _ e => hs.trans (fr_X4_well e)) (fun _ h hs => ?_)
    refine fr_if ?_ ?_
    · exact fr_X2_read_158 hs
    · refine fr_bd (fun _ => ?_)
      refine fr_bd (fun _ => ?_)
      refine fr_cl (fun _ _ e => hs.trans (fr_X2_readSector e)) (fun _ h hs => ?_)
      exact hk126 hs
theorem fr_X2_read_126 {h0 : sv_H} : ∀ (n : Nat) {x0 : Nat} {x1 : Nat} {x2 : Int32} {h : sv_H}, sv_same h0 h → sv_fr sv_same h0 (fn_X2_read_126 n x0 x1 x2 h) := by
  intro n
  induction n with
  | zero => intro x0 x1 x2 h hs r hE e; cases (show (none : Option (Unit × sv_H)) = some (r, hE) from e)
  | succ n ih => intro x0 x1 x2 h hs; exact fr_X2_read_126b (fun hs => ih hs) hs
theorem fr_X2_read_124 {h0 : sv_H} {x0 : Nat} {x1 : Nat} {h : sv_H} (hs : sv_same h0 h) : sv_fr sv_same h0 (fn_X2_read_124 x0 x1 h) := by
  unfold fn_X2_read_124
  exact fr_X2_read_126 sv_fuel hs
theorem fr_X2_read_97b {h0 : sv_H} {k97 : Nat → Nat → Int32 → sv_H → Option (Unit × sv_H)} (hk97 : ∀ {x0 : Nat} {x1 : Nat} {x2 : Int32} {h : sv_H}, sv_same h0 h → sv_fr sv_same h0 (k97 x0 x1 x2 h)) {x0 : Nat} {x1 : Nat} {x2 : Int32} {h : sv_H} (hs : sv_same h0 h) : sv_fr sv_same h0 (fn_X2_read_97b k97 x0 x1 x2 h) := by
  unfold fn_X2_read_97b
  refine fr_bd (fun _ => ?_)
  refine fr_if ?_ ?_
  · exact fr_X2_read_124 hs
  · refine fr_cl (fun _ _ e => hs.trans (fr_X4_well e)) (fun _ h hs => ?_)
    refine fr_if ?_ ?_
    · exact fr_X2_read_124 hs
    · refine fr_cl (fun _ _ e => hs.trans (fr_X2_readTexture e)) (fun _ h hs => ?_)
      exact hk97 hs
theorem fr_X2_read_97 {h0 : sv_H} : ∀ (n : Nat) {x0 : Nat} {x1 : Nat} {x2 : Int32} {h : sv_H}, sv_same h0 h → sv_fr sv_same h0 (fn_X2_read_97 n x0 x1 x2 h) := by
  intro n
  induction n with
  | zero => intro x0 x1 x2 h hs r hE e; cases (show (none : Option (Unit × sv_H)) = some (r, hE) from e)
  | succ n ih => intro x0 x1 x2 h hs; exact fr_X2_read_97b (fun hs => ih hs) hs
theorem fr_X2_read_95 {h0 : sv_H} {x0 : Nat} {x1 : Nat} {h : sv_H} (hs : sv_same h0 h) : sv_fr sv_same h0 (fn_X2_read_95 x0 x1 h) := by
  unfold fn_X2_read_95
  exact fr_X2_read_97 sv_fuel hs
theorem fr_X2_read_68b {h0 : sv_H} {k68 : Nat → Nat → Int32 → sv_H → Option (Unit × sv_H)} (hk68 : ∀ {x0 : Nat} {x1 : Nat} {x2 : Int32} {h : sv_H}, sv_same h0 h → sv_fr sv_same h0 (k68 x0 x1 x2 h)) {x0 : Nat} {x1 : Nat} {x2 : Int32} {h : sv_H} (hs : sv_same h0 h) : sv_fr sv_same h0 (fn_X2_read_68b k68 x0 x1 x2 h) := by
  unfold fn_X2_read_68b
  refine fr_bd (fun _ => ?_)
  refine fr_if ?_ ?_
  · exact fr_X2_read_95 hs
  · refine fr_cl (fun _ _ e => hs.trans (fr_X4_well e)) (fun _ h hs => ?_)
    refine fr_if ?_ ?_
    · exact fr_X2_read_95 hs
    · refine fr_cl (fun _ _ e => hs.trans (fr_X2_readVertex e)) (fun _ h hs => ?_)
      exact hk68 hs
theorem fr_X2_read_68 {h0 : sv_H} : ∀ (n : Nat) {x0 : Nat} {x1 : Nat} {x2 : Int32} {h : sv_H}, sv_same h0 h → sv_fr sv_same h0 (fn_X2_read_68 n x0 x1 x2 h) := by
  intro n
  induction n with
  | zero => intro x0 x1 x2 h hs r hE e; cases (show (none : Option (Unit × sv_H)) = some (r, hE) from e)
  | succ n ih => intro x0 x1 x2 h hs; exact fr_X2_read_68b (fun hs => ih hs) hs
theorem fr_X2_read_0 {h0 : sv_H} {x0 : Nat} {x1 : Nat} {h : sv_H} (hs : sv_same h0 h) : sv_fr sv_same h0 (fn_X2_read x0 x1 h) := by
  unfold fn_X2_read
  refine fr_if ?_ fr_no
  refine fr_cl (fun _ _ e => hs.trans (fr_X4_expect e)) (fun _ h hs => ?_)
  refine fr_cl (fun _ _ e => hs.trans (fr_X4_expect e)) (fun _ h hs => ?_)
  refine fr_cl (fun _ _ e => hs.trans (fr_X4_expect e)) (fun _ h hs => ?_)
  refine fr_cl (fun _ _ e => hs.trans (fr_X4_within e)) (fun _ h hs => ?_)
  refine fr_st (fun _ e => hs.trans (st_pI e)) (fun h hs => ?_)
  refine fr_cl (fun _ _ e => hs.trans (fr_X4_within e)) (fun _ h hs => ?_)
  refine fr_st (fun _ e => hs.trans (st_pI e)) (fun h hs => ?_)
  refine fr_cl (fun _ _ e => hs.trans (fr_X4_within e)) (fun _ h hs => ?_)
  refine fr_st (fun _ e => hs.trans (st_pI e)) (fun h hs => ?_)
  refine fr_cl (fun _ _ e => hs.trans (fr_X4_within e)) (fun _ h hs => ?_)
  refine fr_st (fun _ e => hs.trans (st_pI e)) (fun h hs => ?_)
  exact fr_X2_read_68 sv_fuel hs
theorem fr_X2_read {x0 : Nat} {x1 : Nat} {h : sv_H} {r : Unit} {hE : sv_H} (hw : fn_X2_read x0 x1 h = some (r, hE)) : sv_same h hE := fr_X2_read_0 (sv_same.refl h) r hE hw

theorem fr_X12_swapPlans_0 {h0 : sv_H} {x0 : Nat} {h : sv_H} (hs : sv_same h0 h) : sv_fr sv_same h0 (fn_X12_swapPlans x0 h) := by
  unfold fn_X12_swapPlans
  refine fr_if ?_ fr_no
  refine fr_bd (fun _ => ?_)
  refine fr_bd (fun _ => ?_)
  refine fr_st (fun _ e => hs.trans (st_pP e)) (fun h hs => ?_)
  refine fr_st (fun _ e => hs.trans (st_pP e)) (fun h hs => ?_)
  exact fr_rt hs
theorem fr_X12_swapPlans {x0 : Nat} {h : sv_H} {r : Unit} {hE : sv_H} (hw : fn_X12_swapPlans x0 h = some (r, hE)) : sv_same h hE := fr_X12_swapPlans_0 (sv_same.refl h) r hE hw

theorem fr_X0_become_0 {h0 : sv_H} {x0 : Nat} {x1 : Nat} {h : sv_H} (hs : sv_le h0 h) : sv_fr sv_le h0 (fn_X0_become x0 x1 h) := by
  unfold fn_X0_become
  refine fr_if ?_ fr_no
  refine fr_bd (fun _ => ?_)
  refine fr_cl (fun _ _ e => hs.trans (fr_X0_makeRoom e)) (fun _ h hs => ?_)
  refine fr_bd (fun _ => ?_)
  refine fr_bd (fun _ => ?_)
  refine fr_bd (fun _ => ?_)
  refine fr_st (fun _ e => hs.trans (st_copy e).le) (fun h hs => ?_)
  refine fr_bd (fun _ => ?_)
  refine fr_st (fun _ e => hs.trans (st_pI e).le) (fun h hs => ?_)
  exact fr_rt hs
theorem fr_X0_become {x0 : Nat} {x1 : Nat} {h : sv_H} {r : Unit} {hE : sv_H} (hw : fn_X0_become x0 x1 h = some (r, hE)) : sv_le h hE := fr_X0_become_0 (sv_le.refl h) r hE hw

theorem fr_X1_makeRoom_0 {h0 : sv_H} {x0 : Nat} {x1 : Int32} {h : sv_H} (hs : sv_le h0 h) : sv_fr sv_le h0 (fn_X1_makeRoom x0 x1 h) := by
  unfold fn_X1_makeRoom
  refine fr_if ?_ fr_no
  refine fr_bd (fun _ => ?_)
  refine fr_cl (fun _ _ e => hs.trans (fr_J7_copyOf_59c91 e)) (fun _ h hs => ?_)
  refine fr_st (fun _ e => hs.trans (st_pP e).le) (fun h hs => ?_)
  refine fr_bd (fun _ => ?_)
  refine fr_cl (fun _ _ e => hs.trans (fr_J7_copyOf_59c91 e)) (fun _ h hs => ?_)
  refine fr_st (fun _ e => hs.trans (st_pP e).le) (fun h hs => ?_)
  refine fr_bd (fun _ => ?_)
  refine fr_cl (fun _ _ e => hs.trans (fr_J7_copyOf_c38d5 e)) (fun _ h hs => ?_)
  refine fr_st (fun _ e => hs.trans (st_pP e).le) (fun h hs => ?_)
  refine fr_bd (fun _ => ?_)
  refine fr_cl (fun _ _ e => hs.trans (fr_J7_copyOf_c38d5 e)) (fun _ h hs => ?_)
  refine fr_st (fun _ e => hs.trans (st_pP e).le) (fun h hs => ?_)
  refine fr_bd (fun _ => ?_)
  refine fr_cl (fun _ _ e => hs.trans (fr_J7_copyOf_c38d5 e)) (fun _ h hs => ?_)
  refine fr_st (fun _ e => hs.trans (st_pP e).le) (fun h hs => ?_)
  refine fr_bd (fun _ => ?_)
  refine fr_cl (fun _ _ e => hs.trans (fr_J7_copyOf_c38d5 e)) (fun _ h hs => ?_)
  refine fr_st (fun _ e => hs.trans (st_pP e).le) (fun h hs => ?_)
  exact fr_rt hs
theorem fr_X1_makeRoom {x0 : Nat} {x1 : Int32} {h : sv_H} {r : Unit} {hE : sv_H} (hw : fn_X1_makeRoom x0 x1 h = some (r, hE)) : sv_le h hE := fr_X1_makeRoom_0 (sv_le.refl h) r hE hw

theorem fr_X1_add_22 {h0 : sv_H} {x0 : Nat} {x1 : Int32} {h : sv_H} (hs : sv_le h0 h) : sv_fr sv_le h0 (fn_X1_add_22 x0 x1 h) := by
  unfold fn_X1_add_22
  refine fr_bd (fun _ => ?_)
  refine fr_bd (fun _ => ?_)
  refine fr_st (fun _ e => hs.trans (st_sI e).le) (fun h hs => ?_)
  refine fr_bd (fun _ => ?_)
  refine fr_st (fun _ e => hs.trans (st_sI e).le) (fun h hs => ?_)
  refine fr_bd (fun _ => ?_)
  refine fr_st (fun _ e => hs.trans (st_sJ e).le) (fun h hs => ?_)
  refine fr_bd (fun _ => ?_)
  refine fr_st (fun _ e => hs.trans (st_sJ e).le) (fun h hs => ?_)
  refine fr_bd (fun _ => ?_)
  refine fr_st (fun _ e => hs.trans (st_sJ e).le) (fun h hs => ?_)
  refine fr_bd (fun _ => ?_)
  refine fr_st (fun _ e => hs.trans (st_sJ e).le) (fun h hs => ?_)
  refine fr_bd (fun _ => ?_)
  refine fr_st (fun _ e => hs.trans (st_pI e).le) (fun h hs => ?_)
  exact fr_rt hs
theorem fr_X1_add_0 {h0 : sv_H} {x0 : Nat} {x1 : Int32} {h : sv_H} (hs : sv_le h0 h) : sv_fr sv_le h0 (fn_X1_add x0 x1 h) := by
  unfold fn_X1_add
  refine fr_if ?_ fr_no
  refine fr_bd (fun _ => ?_)
  refine fr_bd (fun _ => ?_)
  refine fr_bd (fun _ => ?_)
  refine fr_if ?_ ?_
  · refine fr_bd (fun _ => ?_)
    refine fr_cl (fun _ _ e => hs.trans (fr_X1_makeRoom e)) (fun _ h hs => ?_)
    exact fr_X1_add_22 hs
  · exact fr_X1_add_22 hs
theorem fr_X1_add {x0 : Nat} {x1 : Int32} {h : sv_H} {r : Int32} {hE : sv_H} (hw : fn_X1_add x0 x1 h = some (r, hE)) : sv_le h hE := fr_X1_add_0 (sv_le.refl h) r hE hw

theorem fr_X1_chainWhole_53 {h0 : sv_H} {s0 : Int32} {h : sv_H} (hs : sv_le h0 h) : sv_fr sv_le h0 (fn_X1_chainWhole_53 s0 h) := by
  unfold fn_X1_chainWhole_53
  exact fr_rt hs
theorem fr_X1_chainWhole_37 {h0 : sv_H} {k7 : Nat → Int32 → Int32 → sv_H → Option (Int32 × sv_H)} (hk7 : ∀ {x0 : Nat} {x1 : Int32} {x2 : Int32} {h : sv_H}, sv_le h0 h → sv_fr sv_le h0 (k7 x0 x1 x2 h)) {x0 : Nat} {x1 : Int32} {x2 : Int32} {s0 : Nat} {s1 : Int32} {s2 : Int32} {h : sv_H} (hs : sv_le h0 h) : sv_fr sv_le h0 (fn_X1_chainWhole_37 k7 x0 x1 x2 s0 s1 s2 h) := by
  unfold fn_X1_chainWhole_37
  refine fr_st (fun _ e => hs.trans (st_sI e).le) (fun h hs => ?_)
  exact hk7 hs
theorem fr_X1_chainWhole_7b {h0 : sv_H} {k7 : Nat → Int32 → Int32 → sv_H → Option (Int32 × sv_H)} (hk7 : ∀ {x0 : Nat} {x1 : Int32} {x2 : Int32} {h : sv_H}, sv_le h0 h → sv_fr sv_le h0 (k7 x0 x1 x2 h)) {x0 : Nat} {x1 : Int32} {x2 : Int32} {h : sv_H} (hs : sv_le h0 h) : sv_fr sv_le h0 (fn_X1_chainWhole_7b k7 x0 x1 x2 h) := by
  unfold fn_X1_chainWhole_7b
  refine fr_if ?_ ?_
  · refine fr_if ?_ ?_
    · exact fr_X1_chainWhole_53 hs
    · exact fr_X1_chainWhole_53 hs
  · refine fr_cl (fun _ _ e => hs.trans (fr_X1_add e)) (fun _ h hs => ?_)
    refine fr_bd (fun _ => ?_)
    refine fr_if ?_ ?_
    · exact fr_X1_chainWhole_37 hk7 hs
    · exact fr_X1_chainWhole_37 hk7 hs
theorem fr_X1_chainWhole_7 {h0 : sv_H} : ∀ (n : Nat) {x0 : Nat} {x1 : Int32} {x2 : Int32} {h : sv_H}, sv_le h0 h → sv_fr sv_le h0 (fn_X1_chainWhole_7 n x0 x1 x2 h) := by
  intro n
  induction n with
  | zero => intro x0 x1 x2 h hs r hE e; cases (show (none : Option (Int32 × sv_H)) = some (r, hE) from e)
  | succ n ih => intro x0 x1 x2 h hs; exact fr_X1_chainWhole_7b (fun hs => ih hs) hs
theorem fr_X1_chainWhole_0 {h0 : sv_H} {x0 : Nat} {x1 : Int32} {h : sv_H} (hs : sv_le h0 h) : sv_fr sv_le h0 (fn_X1_chainWhole x0 x1 h) := by
  unfold fn_X1_chainWhole
  refine fr_if ?_ fr_no
  refine fr_st (fun _ e => hs.trans (st_pI e).le) (fun h hs => ?_)
  exact fr_X1_chainWhole_7 sv_fuel hs
theorem fr_X1_chainWhole {x0 : Nat} {x1 : Int32} {h : sv_H} {r : Int32} {hE : sv_H} (hw : fn_X1_chainWhole x0 x1 h = some (r, hE)) : sv_le h hE := fr_X1_chainWhole_0 (sv_le.refl h) r hE hw

theorem fr_X8_open_50 {h0 : sv_H} {h : sv_H} (hs : sv_same h0 h) : sv_fr sv_same h0 (fn_X8_open_50 h) := by
  unfold fn_X8_open_50
  exact fr_rt hs
theorem fr_X8_open_0 {h0 : sv_H} {x0 : Nat} {x1 : Int32} {x2 : Int32} {x3 : Int32} {h : sv_H} (hs : sv_same h0 h) : sv_fr sv_same h0 (fn_X8_open x0 x1 x2 x3 h) := by
  unfold fn_X8_open
  refine fr_if ?_ fr_no
  refine fr_bd (fun _ => ?_)
  refine fr_if ?_ ?_
  · exact fr_X8_open_50 hs
  · refine fr_bd (fun _ => ?_)
    refine fr_bd (fun _ => ?_)
    refine fr_st (fun _ e => hs.trans (st_sI e)) (fun h hs => ?_)
    refine fr_bd (fun _ => ?_)
    refine fr_bd (fun _ => ?_)
    refine fr_st (fun _ e => hs.trans (st_sI e)) (fun h hs => ?_)
    refine fr_bd (fun _ => ?_)
    refine fr_bd (fun _ => ?_)
    refine fr_st (fun _ e => hs.trans (st_sZ e)) (fun h hs => ?_)
    refine fr_bd (fun _ => ?_)
    refine fr_st (fun _ e => hs.trans (st_pI e)) (fun h hs => ?_)
    exact fr_X8_open_50 hs
theorem fr_X8_open {x0 : Nat} {x1 : Int32} {x2 : Int32} {x3 : Int32} {h : sv_H} {r : Unit} {hE : sv_H} (hw : fn_X8_open x0 x1 x2 x3 h = some (r, hE)) : sv_same h hE := fr_X8_open_0 (sv_same.refl h) r hE hw

theorem fr_X8_hang_27 {h0 : sv_H} {h : sv_H} (hs : sv_same h0 h) : sv_fr sv_same h0 (fn_X8_hang_27 h) := by
  unfold fn_X8_hang_27
  exact fr_rt hs
theorem fr_X8_hang_0 {h0 : sv_H} {x0 : Nat} {x1 : Int32} {x2 : Int32} {x3 : Int32} {h : sv_H} (hs : sv_same h0 h) : sv_fr sv_same h0 (fn_X8_hang x0 x1 x2 x3 h) := by
  unfold fn_X8_hang
  refine fr_if ?_ fr_no
  refine fr_if ?_ ?_
  · exact fr_rt hs
  · refine fr_if ?_ ?_
    · refine fr_bd (fun _ => ?_)
      refine fr_st (fun _ e => hs.trans (st_sI e)) (fun h hs => ?_)
      exact fr_X8_hang_27 hs
    · refine fr_bd (fun _ => ?_)
      refine fr_st (fun _ e => hs.trans (st_sI e)) (fun h hs => ?_)
      exact fr_X8_hang_27 hs
theorem fr_X8_hang {x0 : Nat} {x1 : Int32} {x2 : Int32} {x3 : Int32} {h : sv_H} {r : Unit} {hE : sv_H} (hw : fn_X8_hang x0 x1 x2 x3 h = some (r, hE)) : sv_same h hE := fr_X8_hang_0 (sv_same.refl h) r hE hw

theorem fr_X12_compareQuotients_160 {h0 : sv_H} {h : sv_H} (hs : sv_same h0 h) : sv_fr sv_same h0 (fn_X12_compareQuotients_160 h) := by
  unfold fn_X12_compareQuotients_160
  exact fr_rt hs
theorem fr_X12_compareQuotients_137 {h0 : sv_H} {s0 : Int32} {h : sv_H} (hs : sv_same h0 h) : sv_fr sv_same h0 (fn_X12_compareQuotients_137 s0 h) := by
  unfold fn_X12_compareQuotients_137
  exact fr_rt hs
theorem fr_X12_compareQuotients_125 {h0 : sv_H} {x21 : Int64} {h : sv_H} (hs : sv_same h0 h) : sv_fr sv_same h0 (fn_X12_compareQuotients_125 x21 h) := by
  unfold fn_X12_compareQuotients_125
  refine fr_if ?_ ?_
  · exact fr_X12_compareQuotients_137 hs
  · exact fr_X12_compareQuotients_137 hs
theorem fr_X12_compareQuotients_111 {h0 : sv_H} {k17 : Int64 → Int64 → Int64 → Int64 → Int32 → sv_H → Option (Int32 × sv_H)} (hk17 : ∀ {x8 : Int64} {x10 : Int64} {x12 : Int64} {x14 : Int64} {x16 : Int32} {h : sv_H}, sv_same h0 h → sv_fr sv_same h0 (k17 x8 x10 x12 x14 x16 h)) {x10 : Int64} {x14 : Int64} {x16 : Int32} {x21 : Int64} {x23 : Int64} {h : sv_H} (hs : sv_same h0 h) : sv_fr sv_same h0 (fn_X12_compareQuotients_111 k17 x10 x14 x16 x21 x23 h) := by
  unfold fn_X12_compareQuotients_111
  refine fr_if ?_ ?_
  · exact fr_X12_compareQuotients_125 hs
  · refine fr_if ?_ ?_
    · exact fr_X12_compareQuotients_125 hs
    · exact hk17 hs
theorem fr_X12_compareQuotients_74 {h0 : sv_H} {s0 : Int32} {h : sv_H} (hs : sv_same h0 h) : sv_fr sv_same h0 (fn_X12_compareQuotients_74 s0 h) := by
  unfold fn_X12_compareQuotients_74
  exact fr_rt hs
theorem fr_X12_compareQuotients_17b {h0 : sv_H} {k17 : Int64 → Int64 → Int64 → Int64 → Int32 → sv_H → Option (Int32 × sv_H)} (hk17 : ∀ {x8 : Int64} {x10 : Int64} {x12 : Int64} {x14 : Int64} {x16 : Int32} {h : sv_H}, sv_same h0 h → sv_fr sv_same h0 (k17 x8 x10 x12 x14 x16 h)) {x8 : Int64} {x10 : Int64} {x12 : Int64} {x14 : Int64} {x16 : Int32} {h : sv_H} (hs : sv_same h0 h) : sv_fr sv_same h0 (fn_X12_compareQuotients_17b k17 x8 x10 x12 x14 x16 h) := by
  unfold fn_X12_compareQuotients_17b
  refine fr_if ?_ ?_
  · exact fr_X12_compareQuotients_160 hs
  · refine fr_if ?_ ?_
    · exact fr_X12_compareQuotients_160 hs
    · refine fr_if ?_ ?_
      · exact fr_X12_compareQuotients_160 hs
      · refine fr_if fr_no ?_
        refine fr_if fr_no ?_
        refine fr_if ?_ ?_
        · refine fr_if ?_ ?_
          · refine fr_if ?_ ?_
            · exact fr_rt hs
            · exact fr_X12_compareQuotients_111 hk17 hs
          · exact fr_X12_compareQuotients_111 hk17 hs
        · refine fr_if ?_ ?_
          · exact fr_X12_compareQuotients_74 hs
          · exact fr_X12_compareQuotients_74 hs
theorem fr_X12_compareQuotients_17 {h0 : sv_H} : ∀ (n : Nat) {x8 : Int64} {x10 : Int64} {x12 : Int64} {x14 : Int64} {x16 : Int32} {h : sv_H}, sv_same h0 h → sv_fr sv_same h0 (fn_X12_compareQuotients_17 n x8 x10 x12 x14 x16 h) := by
  intro n
  induction n with
  | zero => intro x8 x10 x12 x14 x16 h hs r hE e; cases (show (none : Option (Int32 × sv_H)) = some (r, hE) from e)
  | succ n ih => intro x8 x10 x12 x14 x16 h hs; exact fr_X12_compareQuotients_17b (fun hs => ih hs) hs
theorem fr_X12_compareQuotients_0 {h0 : sv_H} {x0 : Int64} {x2 : Int64} {x4 : Int64} {x6 : Int64} {h : sv_H} (hs : sv_same h0 h) : sv_fr sv_same h0 (fn_X12_compareQuotients x0 x2 x4 x6 h) := by
  unfold fn_X12_compareQuotients
  exact fr_X12_compareQuotients_17 sv_fuel hs
theorem fr_X12_compareQuotients {x0 : Int64} {x2 : Int64} {x4 : Int64} {x6 : Int64} {h : sv_H} {r : Int32} {hE : sv_H} (hw : fn_X12_compareQuotients x0 x2 x4 x6 h = some (r, hE)) : sv_same h hE := fr_X12_compareQuotients_0 (sv_same.refl h) r hE hw

theorem fr_X1_sideAt_85 {h0 : sv_H} {s0 : Int32} {h : sv_H} (hs : sv_same h0 h) : sv_fr sv_same h0 (fn_X1_sideAt_85 s0 h) := by
  unfold fn_X1_sideAt_85
  exact fr_rt hs
theorem fr_X1_sideAt_82 {h0 : sv_H} {s0 : Int64} {h : sv_H} (hs : sv_same h0 h) : sv_fr sv_same h0 (fn_X1_sideAt_82 s0 h) := by
  unfold fn_X1_sideAt_82
  refine fr_cl (fun _ _ e => hs.trans (fr_J13_signum_95d88 e)) (fun _ h hs => ?_)
  exact fr_X1_sideAt_85 hs
theorem fr_X1_sideAt_0 {h0 : sv_H} {x0 : Int64} {x2 : Int64} {x4 : Int64} {x6 : Int64} {h : sv_H} (hs : sv_same h0 h) : sv_fr sv_same h0 (fn_X1_sideAt x0 x2 x4 x6 h) := by
  unfold fn_X1_sideAt
  refine fr_if ?_ ?_
  · refine fr_cl (fun _ _ e => hs.trans (fr_J13_signum_95d88 e)) (fun _ h hs => ?_)
    exact fr_rt hs
  · refine fr_if ?_ ?_
    · refine fr_cl (fun _ _ e => hs.trans (fr_J13_signum_95d88 e)) (fun _ h hs => ?_)
      exact fr_rt hs
    · refine fr_cl (fun _ _ e => hs.trans (fr_J13_signum_95d88 e)) (fun _ h hs => ?_)
      refine fr_cl (fun _ _ e => hs.trans (fr_J13_signum_95d88 e)) (fun _ h hs => ?_)
      refine fr_if ?_ ?_
      · refine fr_let (fun _ => ?_)
        refine fr_let (fun _ => ?_)
        refine fr_cl (fun _ _ e => hs.trans (fr_X12_compareQuotients e)) (fun _ h hs => ?_)
        refine fr_if ?_ ?_
        · exact fr_X1_sideAt_85 hs
        · refine fr_if ?_ ?_
          · exact fr_X1_sideAt_82 hs
          · exact fr_X1_sideAt_82 hs
      · refine fr_cl (fun _ _ e => hs.trans (fr_J13_signum_95d88 e)) (fun _ h hs => ?_)
        exact fr_rt hs
theorem fr_X1_sideAt {x0 : Int64} {x2 : Int64} {x4 : Int64} {x6 : Int64} {h : sv_H} {r : Int32} {hE : sv_H} (hw : fn_X1_sideAt x0 x2 x4 x6 h = some (r, hE)) : sv_same h hE := fr_X1_sideAt_0 (sv_same.refl h) r hE hw

theorem fr_X1_lieOf_107 {h0 : sv_H} {s0 : Int32} {h : sv_H} (hs : sv_same h0 h) : sv_fr sv_same h0 (fn_X1_lieOf_107 s0 h) := by
  unfold fn_X1_lieOf_107
  exact fr_rt hs
theorem fr_X1_lieOf_0 {h0 : sv_H} {x0 : Nat} {x1 : Nat} {x2 : Int32} {x3 : Nat} {h : sv_H} (hs : sv_same h0 h) : sv_fr sv_same h0 (fn_X1_lieOf x0 x1 x2 x3 h) := by
  unfold fn_X1_lieOf
  refine fr_if ?_ fr_no
  refine fr_bd (fun _ => ?_)
  refine fr_bd (fun _ => ?_)
  refine fr_bd (fun _ => ?_)
  refine fr_bd (fun _ => ?_)
  refine fr_bd (fun _ => ?_)
  refine fr_bd (fun _ => ?_)
  refine fr_cl (fun _ _ e => hs.trans (fr_X11_sideOf e)) (fun _ h hs => ?_)
  refine fr_bd (fun _ => ?_)
  refine fr_bd (fun _ => ?_)
  refine fr_cl (fun _ _ e => hs.trans (fr_X11_sideOf e)) (fun _ h hs => ?_)
  refine fr_bd (fun _ => ?_)
  refine fr_bd (fun _ => ?_)
  refine fr_bd (fun _ => ?_)
  refine fr_bd (fun _ => ?_)
  refine fr_cl (fun _ _ e => hs.trans (fr_X1_sideAt e)) (fun _ h hs => ?_)
  refine fr_bd (fun _ => ?_)
  refine fr_bd (fun _ => ?_)
  refine fr_bd (fun _ => ?_)
  refine fr_bd (fun _ => ?_)
  refine fr_cl (fun _ _ e => hs.trans (fr_X1_sideAt e)) (fun _ h hs => ?_)
  refine fr_if ?_ ?_
  · refine fr_cl (fun _ _ e => hs.trans (fr_J6_signum_0f7a4 e)) (fun _ h hs => ?_)
    exact fr_X1_lieOf_107 hs
  · exact fr_X1_lieOf_107 hs
theorem fr_X1_lieOf {x0 : Nat} {x1 : Nat} {x2 : Int32} {x3 : Nat} {h : sv_H} {r : Int32} {hE : sv_H} (hw : fn_X1_lieOf x0 x1 x2 x3 h = some (r, hE)) : sv_same h hE := fr_X1_lieOf_0 (sv_same.refl h) r hE hw

theorem fr_X8_costOf_76 {h0 : sv_H} {x4 : Int32} {x5 : Int32} {h : sv_H} (hs : sv_same h0 h) : sv_fr sv_same h0 (fn_X8_costOf_76 x4 x5 h) := by
  unfold fn_X8_costOf_76
  refine fr_let (fun _ => ?_)
  exact fr_rt hs
theorem fr_X8_costOf_58 {h0 : sv_H} {k12 : Nat → Nat → Nat → Int32 → Int32 → Int32 → Int32 → sv_H → Option (Int32 × sv_H)} (hk12 : ∀ {x0 : Nat} {x1 : Nat} {x3 : Nat} {x4 : Int32} {x5 : Int32} {x6 : Int32} {x7 : Int32} {h : sv_H}, sv_same h0 h → sv_fr sv_same h0 (k12 x0 x1 x3 x4 x5 x6 x7 h)) {x0 : Nat} {x1 : Nat} {x3 : Nat} {x4 : Int32} {x5 : Int32} {x6 : Int32} {x7 : Int32} {h : sv_H} (hs : sv_same h0 h) : sv_fr sv_same h0 (fn_X8_costOf_58 k12 x0 x1 x3 x4 x5 x6 x7 h) := by
  unfold fn_X8_costOf_58
  refine fr_bd (fun _ => ?_)
  refine fr_bd (fun _ => ?_)
  refine fr_bd (fun _ => ?_)
  exact hk12 hs
theorem fr_X8_costOf_12b {h0 : sv_H} {k12 : Nat → Nat → Nat → Int32 → Int32 → Int32 → Int32 → sv_H → Option (Int32 × sv_H)} (hk12 : ∀ {x0 : Nat} {x1 : Nat} {x3 : Nat} {x4 : Int32} {x5 : Int32} {x6 : Int32} {x7 : Int32} {h : sv_H}, sv_same h0 h → sv_fr sv_same h0 (k12 x0 x1 x3 x4 x5 x6 x7 h)) {x0 : Nat} {x1 : Nat} {x3 : Nat} {x4 : Int32} {x5 : Int32} {x6 : Int32} {x7 : Int32} {h : sv_H} (hs : sv_same h0 h) : sv_fr sv_same h0 (fn_X8_costOf_12b k12 x0 x1 x3 x4 x5 x6 x7 h) := by
  unfold fn_X8_costOf_12b
  refine fr_if ?_ ?_
  · exact fr_X8_costOf_76 hs
  · refine fr_if ?_ ?_
    · exact fr_X8_costOf_76 hs
    · refine fr_bd (fun _ => ?_)
      refine fr_cl (fun _ _ e => hs.trans (fr_X1_lieOf e)) (fun _ h hs => ?_)
      refine fr_if ?_ ?_
      · exact fr_X8_costOf_58 hk12 hs
      · exact fr_X8_costOf_58 hk12 hs
theorem fr_X8_costOf_12 {h0 : sv_H} : ∀ (n : Nat) {x0 : Nat} {x1 : Nat} {x3 : Nat} {x4 : Int32} {x5 : Int32} {x6 : Int32} {x7 : Int32} {h : sv_H}, sv_same h0 h → sv_fr sv_same h0 (fn_X8_costOf_12 n x0 x1 x3 x4 x5 x6 x7 h) := by
  intro n
  induction n with
  | zero => intro x0 x1 x3 x4 x5 x6 x7 h hs r hE e; cases (show (none : Option (Int32 × sv_H)) = some (r, hE) from e)
  | succ n ih => intro x0 x1 x3 x4 x5 x6 x7 h hs; exact fr_X8_costOf_12b (fun hs => ih hs) hs
theorem fr_X8_costOf_0 {h0 : sv_H} {x0 : Nat} {x1 : Nat} {x2 : Int32} {x3 : Nat} {h : sv_H} (hs : sv_same h0 h) : sv_fr sv_same h0 (fn_X8_costOf x0 x1 x2 x3 h) := by
  unfold fn_X8_costOf
  refine fr_if ?_ fr_no
  exact fr_X8_costOf_12 sv_fuel hs
theorem fr_X8_costOf {x0 : Nat} {x1 : Nat} {x2 : Int32} {x3 : Nat} {h : sv_H} {r : Int32} {hE : sv_H} (hw : fn_X8_costOf x0 x1 x2 x3 h = some (r, hE)) : sv_same h hE := fr_X8_costOf_0 (sv_same.refl h) r hE hw

theorem fr_X8_bestLine_96 {h0 : sv_H} {x3 : Int32} {h : sv_H} (hs : sv_same h0 h) : sv_fr sv_same h0 (fn_X8_bestLine_96 x3 h) := by
  unfold fn_X8_bestLine_96
  exact fr_rt hs
theorem fr_X8_bestLine_78 {h0 : sv_H} {k20 : Nat → Nat → Int32 → Int32 → Int32 → Int32 → Int32 → sv_H → Option (Int32 × sv_H)} (hk20 : ∀ {x0 : Nat} {x1 : Nat} {x2 : Int32} {x3 : Int32} {x4 : Int32} {x5 : Int32} {x6 : Int32} {h : sv_H}, sv_same h0 h → sv_fr sv_same h0 (k20 x0 x1 x2 x3 x4 x5 x6 h)) {x0 : Nat} {x1 : Nat} {x2 : Int32} {x3 : Int32} {x4 : Int32} {x5 : Int32} {x6 : Int32} {h : sv_H} (hs : sv_same h0 h) : sv_fr sv_same h0 (fn_X8_bestLine_78 k20 x0 x1 x2 x3 x4 x5 x6 h) := by
  unfold fn_X8_bestLine_78
  refine fr_bd (fun _ => ?_)
  refine fr_bd (fun _ => ?_)
  refine fr_bd (fun _ => ?_)
  exact hk20 hs
theorem fr_X8_bestLine_20b {h0 : sv_H} {k20 : Nat → Nat → Int32 → Int32 → Int32 → Int32 → Int32 → sv_H → Option (Int32 × sv_H)} (hk20 : ∀ {x0 : Nat} {x1 : Nat} {x2 : Int32} {x3 : Int32} {x4 : Int32} {x5 : Int32} {x6 : Int32} {h : sv_H}, sv_same h0 h → sv_fr sv_same h0 (k20 x0 x1 x2 x3 x4 x5 x6 h)) {x0 : Nat} {x1 : Nat} {x2 : Int32} {x3 : Int32} {x4 : Int32} {x5 : Int32} {x6 : Int32} {h : sv_H} (hs : sv_same h0 h) : sv_fr sv_same h0 (fn_X8_bestLine_20b k20 x0 x1 x2 x3 x4 x5 x6 h) := by
  unfold fn_X8_bestLine_20b
  refine fr_if ?_ ?_
  · exact fr_X8_bestLine_96 hs
  · refine fr_if ?_ ?_
    · exact fr_X8_bestLine_96 hs
    · refine fr_bd (fun _ => ?_)
      refine fr_bd (fun _ => ?_)
      refine fr_bd (fun _ => ?_)
      refine fr_bd (fun _ => ?_)
      refine fr_bd (fun _ => ?_)
      refine fr_cl (fun _ _ e => hs.trans (fr_X8_costOf e)) (fun _ h hs => ?_)
      refine fr_if ?_ ?_
      · exact fr_X8_bestLine_78 hk20 hs
      · refine fr_bd (fun _ => ?_)
        refine fr_bd (fun _ => ?_)
        refine fr_bd (fun _ => ?_)
        exact fr_X8_bestLine_78 hk20 hs
theorem fr_X8_bestLine_20 {h0 : sv_H} : ∀ (n : Nat) {x0 : Nat} {x1 : Nat} {x2 : Int32} {x3 : Int32} {x4 : Int32} {x5 : Int32} {x6 : Int32} {h : sv_H}, sv_same h0 h → sv_fr sv_same h0 (fn_X8_bestLine_20 n x0 x1 x2 x3 x4 x5 x6 h) := by
  intro n
  induction n with
  | zero => intro x0 x1 x2 x3 x4 x5 x6 h hs r hE e; cases (show (none : Option (Int32 × sv_H)) = some (r, hE) from e)
  | succ n ih => intro x0 x1 x2 x3 x4 x5 x6 h hs; exact fr_X8_bestLine_20b (fun hs => ih hs) hs
theorem fr_X8_bestLine_0 {h0 : sv_H} {x0 : Nat} {x1 : Nat} {x2 : Int32} {h : sv_H} (hs : sv_same h0 h) : sv_fr sv_same h0 (fn_X8_bestLine x0 x1 x2 h) := by
  unfold fn_X8_bestLine
  refine fr_if ?_ fr_no
  refine fr_bd (fun _ => ?_)
  refine fr_bd (fun _ => ?_)
  refine fr_bd (fun _ => ?_)
  exact fr_X8_bestLine_20 sv_fuel hs
theorem fr_X8_bestLine {x0 : Nat} {x1 : Nat} {x2 : Int32} {h : sv_H} {r : Int32} {hE : sv_H} (hw : fn_X8_bestLine x0 x1 x2 h = some (r, hE)) : sv_same h hE := fr_X8_bestLine_0 (sv_same.refl h) r hE hw

theorem fr_X8_makeRoom_0 {h0 : sv_H} {x0 : Nat} {x1 : Int32} {h : sv_H} (hs : sv_le h0 h) : sv_fr sv_le h0 (fn_X8_makeRoom x0 x1 h) := by
  unfold fn_X8_makeRoom
  refine fr_if ?_ fr_no
  refine fr_bd (fun _ => ?_)
  refine fr_cl (fun _ _ e => hs.trans (fr_J7_copyOf_59c91 e)) (fun _ h hs => ?_)
  refine fr_st (fun _ e => hs.trans (st_pP e).le) (fun h hs => ?_)
  refine fr_bd (fun _ => ?_)
  refine fr_cl (fun _ _ e => hs.trans (fr_J7_copyOf_59c91 e)) (fun _ h hs => ?_)
  refine fr_st (fun _ e => hs.trans (st_pP e).le) (fun h hs => ?_)
  refine fr_bd (fun _ => ?_)
  refine fr_cl (fun _ _ e => hs.trans (fr_J7_copyOf_59c91 e)) (fun _ h hs => ?_)
  refine fr_st (fun _ e => hs.trans (st_pP e).le) (fun h hs => ?_)
  refine fr_bd (fun _ => ?_)
  refine fr_cl (fun _ _ e => hs.trans (fr_J7_copyOf_59c91 e)) (fun _ h hs => ?_)
  refine fr_st (fun _ e => hs.trans (st_pP e).le) (fun h hs => ?_)
  refine fr_bd (fun _ => ?_)
  refine fr_cl (fun _ _ e => hs.trans (fr_J7_copyOf_59c91 e)) (fun _ h hs => ?_)
  refine fr_st (fun _ e => hs.trans (st_pP e).le) (fun h hs => ?_)
  refine fr_bd (fun _ => ?_)
  refine fr_cl (fun _ _ e => hs.trans (fr_J7_copyOf_59c91 e)) (fun _ h hs => ?_)
  refine fr_st (fun _ e => hs.trans (st_pP e).le) (fun h hs => ?_)
  exact fr_rt hs
theorem fr_X8_makeRoom {x0 : Nat} {x1 : Int32} {h : sv_H} {r : Unit} {hE : sv_H} (hw : fn_X8_makeRoom x0 x1 h = some (r, hE)) : sv_le h hE := fr_X8_makeRoom_0 (sv_le.refl h) r hE hw

theorem fr_X8_addNode_63 {h0 : sv_H} {x0 : Nat} {x3 : Int32} {s0 : Nat} {s1 : Int32} {s2 : Int32} {h : sv_H} (hs : sv_le h0 h) : sv_fr sv_le h0 (fn_X8_addNode_63 x0 x3 s0 s1 s2 h) := by
  unfold fn_X8_addNode_63
  refine fr_st (fun _ e => hs.trans (st_sI e).le) (fun h hs => ?_)
  refine fr_bd (fun _ => ?_)
  refine fr_st (fun _ e => hs.trans (st_pI e).le) (fun h hs => ?_)
  exact fr_rt hs
theorem fr_X8_addNode_22 {h0 : sv_H} {x0 : Nat} {x1 : Int32} {x2 : Int32} {h : sv_H} (hs : sv_le h0 h) : sv_fr sv_le h0 (fn_X8_addNode_22 x0 x1 x2 h) := by
  unfold fn_X8_addNode_22
  refine fr_bd (fun _ => ?_)
  refine fr_bd (fun _ => ?_)
  refine fr_st (fun _ e => hs.trans (st_sI e).le) (fun h hs => ?_)
  refine fr_bd (fun _ => ?_)
  refine fr_st (fun _ e => hs.trans (st_sI e).le) (fun h hs => ?_)
  refine fr_bd (fun _ => ?_)
  refine fr_if ?_ ?_
  · exact fr_X8_addNode_63 hs
  · refine fr_bd (fun _ => ?_)
    refine fr_bd (fun _ => ?_)
    exact fr_X8_addNode_63 hs
theorem fr_X8_addNode_0 {h0 : sv_H} {x0 : Nat} {x1 : Int32} {x2 : Int32} {h : sv_H} (hs : sv_le h0 h) : sv_fr sv_le h0 (fn_X8_addNode x0 x1 x2 h) := by
  unfold fn_X8_addNode
  refine fr_if ?_ fr_no
  refine fr_bd (fun _ => ?_)
  refine fr_bd (fun _ => ?_)
  refine fr_bd (fun _ => ?_)
  refine fr_if ?_ ?_
  · refine fr_bd (fun _ => ?_)
    refine fr_cl (fun _ _ e => hs.trans (fr_X8_makeRoom e)) (fun _ h hs => ?_)
    exact fr_X8_addNode_22 hs
  · exact fr_X8_addNode_22 hs
theorem fr_X8_addNode {x0 : Nat} {x1 : Int32} {x2 : Int32} {h : sv_H} {r : Int32} {hE : sv_H} (hw : fn_X8_addNode x0 x1 x2 h = some (r, hE)) : sv_le h hE := fr_X8_addNode_0 (sv_le.refl h) r hE hw

theorem fr_X1_cut_0 {h0 : sv_H} {x0 : Nat} {x1 : Nat} {x2 : Int32} {x3 : Nat} {h : sv_H} (hs : sv_le h0 h) : sv_fr sv_le h0 (fn_X1_cut x0 x1 x2 x3 h) := by
  unfold fn_X1_cut
  refine fr_if ?_ fr_no
  refine fr_bd (fun _ => ?_)
  refine fr_bd (fun _ => ?_)
  refine fr_bd (fun _ => ?_)
  refine fr_bd (fun _ => ?_)
  refine fr_bd (fun _ => ?_)
  refine fr_bd (fun _ => ?_)
  refine fr_cl (fun _ _ e => hs.trans (fr_X11_sideOf e).le) (fun _ h hs => ?_)
  refine fr_bd (fun _ => ?_)
  refine fr_bd (fun _ => ?_)
  refine fr_cl (fun _ _ e => hs.trans (fr_X11_sideOf e).le) (fun _ h hs => ?_)
  refine fr_bd (fun _ => ?_)
  refine fr_bd (fun _ => ?_)
  refine fr_cl (fun _ _ e => hs.trans (fr_X1_add e)) (fun _ h hs => ?_)
  refine fr_bd (fun _ => ?_)
  refine fr_let (fun _ => ?_)
  refine fr_st (fun _ e => hs.trans (st_sJ e).le) (fun h hs => ?_)
  refine fr_bd (fun _ => ?_)
  refine fr_let (fun _ => ?_)
  refine fr_st (fun _ e => hs.trans (st_sJ e).le) (fun h hs => ?_)
  refine fr_bd (fun _ => ?_)
  refine fr_bd (fun _ => ?_)
  refine fr_bd (fun _ => ?_)
  refine fr_st (fun _ e => hs.trans (st_sJ e).le) (fun h hs => ?_)
  refine fr_bd (fun _ => ?_)
  refine fr_bd (fun _ => ?_)
  refine fr_bd (fun _ => ?_)
  refine fr_st (fun _ e => hs.trans (st_sJ e).le) (fun h hs => ?_)
  refine fr_bd (fun _ => ?_)
  refine fr_bd (fun _ => ?_)
  refine fr_bd (fun _ => ?_)
  refine fr_st (fun _ e => hs.trans (st_sJ e).le) (fun h hs => ?_)
  refine fr_bd (fun _ => ?_)
  refine fr_bd (fun _ => ?_)
  refine fr_bd (fun _ => ?_)
  refine fr_st (fun _ e => hs.trans (st_sJ e).le) (fun h hs => ?_)
  exact fr_rt hs
theorem fr_X1_cut {x0 : Nat} {x1 : Nat} {x2 : Int32} {x3 : Nat} {h : sv_H} {r : Int32} {hE : sv_H} (hw : fn_X1_cut x0 x1 x2 x3 h = some (r, hE)) : sv_le h hE := fr_X1_cut_0 (sv_le.refl h) r hE hw

theorem fr_X8_append_86 {h0 : sv_H} {h : sv_H} (hs : sv_same h0 h) : sv_fr sv_same h0 (fn_X8_append_86 h) := by
  unfold fn_X8_append_86
  exact fr_rt hs
theorem fr_X8_append_81 {h0 : sv_H} {x0 : Nat} {x1 : Int32} {h : sv_H} (hs : sv_same h0 h) : sv_fr sv_same h0 (fn_X8_append_81 x0 x1 h) := by
  unfold fn_X8_append_81
  refine fr_st (fun _ e => hs.trans (st_pI e)) (fun h hs => ?_)
  exact fr_X8_append_86 hs
theorem fr_X8_append_44 {h0 : sv_H} {x0 : Nat} {x1 : Int32} {h : sv_H} (hs : sv_same h0 h) : sv_fr sv_same h0 (fn_X8_append_44 x0 x1 h) := by
  unfold fn_X8_append_44
  refine fr_st (fun _ e => hs.trans (st_pI e)) (fun h hs => ?_)
  exact fr_X8_append_86 hs
theorem fr_X8_append_0 {h0 : sv_H} {x0 : Nat} {x1 : Int32} {x2 : Int32} {h : sv_H} (hs : sv_same h0 h) : sv_fr sv_same h0 (fn_X8_append x0 x1 x2 h) := by
  unfold fn_X8_append
  refine fr_if ?_ fr_no
  refine fr_bd (fun _ => ?_)
  refine fr_bd (fun _ => ?_)
  refine fr_st (fun _ e => hs.trans (st_sI e)) (fun h hs => ?_)
  refine fr_if ?_ ?_
  · refine fr_bd (fun _ => ?_)
    refine fr_if ?_ ?_
    · refine fr_st (fun _ e => hs.trans (st_pI e)) (fun h hs => ?_)
      exact fr_X8_append_44 hs
    · refine fr_bd (fun _ => ?_)
      refine fr_bd (fun _ => ?_)
      refine fr_bd (fun _ => ?_)
      refine fr_st (fun _ e => hs.trans (st_sI e)) (fun h hs => ?_)
      exact fr_X8_append_44 hs
  · refine fr_bd (fun _ => ?_)
    refine fr_if ?_ ?_
    · refine fr_st (fun _ e => hs.trans (st_pI e)) (fun h hs => ?_)
      exact fr_X8_append_81 hs
    · refine fr_bd (fun _ => ?_)
      refine fr_bd (fun _ => ?_)
      refine fr_bd (fun _ => ?_)
      refine fr_st (fun _ e => hs.trans (st_sI e)) (fun h hs => ?_)
      exact fr_X8_append_81 hs
theorem fr_X8_append {x0 : Nat} {x1 : Int32} {x2 : Int32} {h : sv_H} {r : Unit} {hE : sv_H} (hw : fn_X8_append x0 x1 x2 h = some (r, hE)) : sv_same h hE := fr_X8_append_0 (sv_same.refl h) r hE hw

theorem fr_X8_split_174 {h0 : sv_H} {h : sv_H} (hs : sv_le h0 h) : sv_fr sv_le h0 (fn_X8_split_174 h) := by
  unfold fn_X8_split_174
  exact fr_rt hs
theorem fr_X8_split_164 {h0 : sv_H} {k29 : Nat → Nat → Int32 → Nat → Int32 → Int32 → sv_H → Option (Unit × sv_H)} (hk29 : ∀ {x0 : Nat} {x1 : Nat} {x3 : Int32} {x4 : Nat} {x5 : Int32} {x6 : Int32} {h : sv_H}, sv_le h0 h → sv_fr sv_le h0 (k29 x0 x1 x3 x4 x5 x6 h)) {x0 : Nat} {x1 : Nat} {x3 : Int32} {x4 : Nat} {x6 : Int32} {x7 : Int32} {h : sv_H} (hs : sv_le h0 h) : sv_fr sv_le h0 (fn_X8_split_164 k29 x0 x1 x3 x4 x6 x7 h) := by
  unfold fn_X8_split_164
  exact hk29 hs
theorem fr_X8_split_29b {h0 : sv_H} {k29 : Nat → Nat → Int32 → Nat → Int32 → Int32 → sv_H → Option (Unit × sv_H)} (hk29 : ∀ {x0 : Nat} {x1 : Nat} {x3 : Int32} {x4 : Nat} {x5 : Int32} {x6 : Int32} {h : sv_H}, sv_le h0 h → sv_fr sv_le h0 (k29 x0 x1 x3 x4 x5 x6 h)) {x0 : Nat} {x1 : Nat} {x3 : Int32} {x4 : Nat} {x5 : Int32} {x6 : Int32} {h : sv_H} (hs : sv_le h0 h) : sv_fr sv_le h0 (fn_X8_split_29b k29 x0 x1 x3 x4 x5 x6 h) := by
  unfold fn_X8_split_29b
  refine fr_if ?_ ?_
  · exact fr_X8_split_174 hs
  · refine fr_if ?_ ?_
    · exact fr_X8_split_174 hs
    · refine fr_bd (fun _ => ?_)
      refine fr_bd (fun _ => ?_)
      refine fr_bd (fun _ => ?_)
      refine fr_bd (fun _ => ?_)
      refine fr_cl (fun _ _ e => hs.trans (fr_X1_lieOf e).le) (fun _ h hs => ?_)
      refine fr_if ?_ ?_
      · refine fr_bd (fun _ => ?_)
        refine fr_bd (fun _ => ?_)
        refine fr_st (fun _ e => hs.trans (st_sI e).le) (fun h hs => ?_)
        refine fr_bd (fun _ => ?_)
        refine fr_st (fun _ e => hs.trans (st_pI e).le) (fun h hs => ?_)
        exact fr_X8_split_164 hk29 hs
      · refine fr_if ?_ ?_
        · refine fr_bd (fun _ => ?_)
          refine fr_cl (fun _ _ e => hs.trans (fr_X1_cut e)) (fun _ h hs => ?_)
          refine fr_bd (fun _ => ?_)
          refine fr_cl (fun _ _ e => hs.trans (fr_X1_lieOf e).le) (fun _ h hs => ?_)
          refine fr_cl (fun _ _ e => hs.trans (fr_X8_append e).le) (fun _ h hs => ?_)
          refine fr_bd (fun _ => ?_)
          refine fr_cl (fun _ _ e => hs.trans (fr_X1_lieOf e).le) (fun _ h hs => ?_)
          refine fr_cl (fun _ _ e => hs.trans (fr_X8_append e).le) (fun _ h hs => ?_)
          exact fr_X8_split_164 hk29 hs
        · refine fr_cl (fun _ _ e => hs.trans (fr_X8_append e).le) (fun _ h hs => ?_)
          exact fr_X8_split_164 hk29 hs
theorem fr_X8_split_29 {h0 : sv_H} : ∀ (n : Nat) {x0 : Nat} {x1 : Nat} {x3 : Int32} {x4 : Nat} {x5 : Int32} {x6 : Int32} {h : sv_H}, sv_le h0 h → sv_fr sv_le h0 (fn_X8_split_29 n x0 x1 x3 x4 x5 x6 h) := by
  intro n
  induction n with
  | zero => intro x0 x1 x3 x4 x5 x6 h hs r hE e; cases (show (none : Option (Unit × sv_H)) = some (r, hE) from e)
  | succ n ih => intro x0 x1 x3 x4 x5 x6 h hs; exact fr_X8_split_29b (fun hs => ih hs) hs
theorem fr_X8_split_0 {h0 : sv_H} {x0 : Nat} {x1 : Nat} {x2 : Int32} {x3 : Int32} {h : sv_H} (hs : sv_le h0 h) : sv_fr sv_le h0 (fn_X8_split x0 x1 x2 x3 h) := by
  unfold fn_X8_split
  refine fr_if ?_ fr_no
  refine fr_st (fun _ e => hs.trans (st_pI e).le) (fun h hs => ?_)
  refine fr_st (fun _ e => hs.trans (st_pI e).le) (fun h hs => ?_)
  refine fr_bd (fun _ => ?_)
  refine fr_bd (fun _ => ?_)
  refine fr_bd (fun _ => ?_)
  refine fr_bd (fun _ => ?_)
  exact fr_X8_split_29 sv_fuel hs
theorem fr_X8_split {x0 : Nat} {x1 : Nat} {x2 : Int32} {x3 : Int32} {h : sv_H} {r : Unit} {hE : sv_H} (hw : fn_X8_split x0 x1 x2 x3 h = some (r, hE)) : sv_le h hE := fr_X8_split_0 (sv_le.refl h) r hE hw

theorem fr_X8_sizeOf_14 {h0 : sv_H} {s0 : Int32} {h : sv_H} (hs : sv_same h0 h) : sv_fr sv_same h0 (fn_X8_sizeOf_14 s0 h) := by
  unfold fn_X8_sizeOf_14
  exact fr_rt hs
theorem fr_X8_sizeOf_0 {h0 : sv_H} {x0 : Nat} {x1 : Int32} {h : sv_H} (hs : sv_same h0 h) : sv_fr sv_same h0 (fn_X8_sizeOf x0 x1 h) := by
  unfold fn_X8_sizeOf
  refine fr_if ?_ fr_no
  refine fr_if ?_ ?_
  · refine fr_bd (fun _ => ?_)
    refine fr_bd (fun _ => ?_)
    exact fr_X8_sizeOf_14 hs
  · exact fr_X8_sizeOf_14 hs
theorem fr_X8_sizeOf {x0 : Nat} {x1 : Int32} {h : sv_H} {r : Int32} {hE : sv_H} (hw : fn_X8_sizeOf x0 x1 h = some (r, hE)) : sv_same h hE := fr_X8_sizeOf_0 (sv_same.refl h) r hE hw

theorem fr_X8_countSizes_7b {h0 : sv_H} {k7 : Nat → Int32 → sv_H → Option (Unit × sv_H)} (hk7 : ∀ {x0 : Nat} {x1 : Int32} {h : sv_H}, sv_same h0 h → sv_fr sv_same h0 (k7 x0 x1 h)) {x0 : Nat} {x1 : Int32} {h : sv_H} (hs : sv_same h0 h) : sv_fr sv_same h0 (fn_X8_countSizes_7b k7 x0 x1 h) := by
  unfold fn_X8_countSizes_7b
  refine fr_if ?_ ?_
  · exact fr_rt hs
  · refine fr_bd (fun _ => ?_)
    refine fr_bd (fun _ => ?_)
    refine fr_bd (fun _ => ?_)
    refine fr_cl (fun _ _ e => hs.trans (fr_X8_sizeOf e)) (fun _ h hs => ?_)
    refine fr_bd (fun _ => ?_)
    refine fr_bd (fun _ => ?_)
    refine fr_cl (fun _ _ e => hs.trans (fr_X8_sizeOf e)) (fun _ h hs => ?_)
    refine fr_st (fun _ e => hs.trans (st_sI e)) (fun h hs => ?_)
    exact hk7 hs
theorem fr_X8_countSizes_7 {h0 : sv_H} : ∀ (n : Nat) {x0 : Nat} {x1 : Int32} {h : sv_H}, sv_same h0 h → sv_fr sv_same h0 (fn_X8_countSizes_7 n x0 x1 h) := by
  intro n
  induction n with
  | zero => intro x0 x1 h hs r hE e; cases (show (none : Option (Unit × sv_H)) = some (r, hE) from e)
  | succ n ih => intro x0 x1 h hs; exact fr_X8_countSizes_7b (fun hs => ih hs) hs
theorem fr_X8_countSizes_0 {h0 : sv_H} {x0 : Nat} {h : sv_H} (hs : sv_same h0 h) : sv_fr sv_same h0 (fn_X8_countSizes x0 h) := by
  unfold fn_X8_countSizes
  refine fr_if ?_ fr_no
  refine fr_bd (fun _ => ?_)
  exact fr_X8_countSizes_7 sv_fuel hs
theorem fr_X8_countSizes {x0 : Nat} {h : sv_H} {r : Unit} {hE : sv_H} (hw : fn_X8_countSizes x0 h = some (r, hE)) : sv_same h hE := fr_X8_countSizes_0 (sv_same.refl h) r hE hw

theorem fr_X8_grow_186 {h0 : sv_H} {x0 : Nat} {h : sv_H} (hs : sv_le h0 h) : sv_fr sv_le h0 (fn_X8_grow_186 x0 h) := by
  unfold fn_X8_grow_186
  refine fr_cl (fun _ _ e => hs.trans (fr_X8_countSizes e).le) (fun _ h hs => ?_)
  exact fr_rt hs
theorem fr_X8_grow_180 {h0 : sv_H} {k39 : Nat → Nat → Int32 → sv_H → Option (Unit × sv_H)} (hk39 : ∀ {x0 : Nat} {x1 : Nat} {x2 : Int32} {h : sv_H}, sv_le h0 h → sv_fr sv_le h0 (k39 x0 x1 x2 h)) {x0 : Nat} {x1 : Nat} {x2 : Int32} {h : sv_H} (hs : sv_le h0 h) : sv_fr sv_le h0 (fn_X8_grow_180 k39 x0 x1 x2 h) := by
  unfold fn_X8_grow_180
  exact hk39 hs
theorem fr_X8_grow_39b {h0 : sv_H} {k39 : Nat → Nat → Int32 → sv_H → Option (Unit × sv_H)} (hk39 : ∀ {x0 : Nat} {x1 : Nat} {x2 : Int32} {h : sv_H}, sv_le h0 h → sv_fr sv_le h0 (k39 x0 x1 x2 h)) {x0 : Nat} {x1 : Nat} {x2 : Int32} {h : sv_H} (hs : sv_le h0 h) : sv_fr sv_le h0 (fn_X8_grow_39b k39 x0 x1 x2 h) := by
  unfold fn_X8_grow_39b
  refine fr_if ?_ ?_
  · exact fr_X8_grow_186 hs
  · refine fr_bd (fun _ => ?_)
    refine fr_if ?_ ?_
    · exact fr_X8_grow_186 hs
    · refine fr_bd (fun _ => ?_)
      refine fr_st (fun _ e => hs.trans (st_pI e).le) (fun h hs => ?_)
      refine fr_bd (fun _ => ?_)
      refine fr_bd (fun _ => ?_)
      refine fr_bd (fun _ => ?_)
      refine fr_bd (fun _ => ?_)
      refine fr_bd (fun _ => ?_)
      refine fr_bd (fun _ => ?_)
      refine fr_bd (fun _ => ?_)
      refine fr_bd (fun _ => ?_)
      refine fr_bd (fun _ => ?_)
      refine fr_if ?_ ?_
      · refine fr_bd (fun _ => ?_)
        refine fr_cl (fun _ _ e => hs.trans (fr_X8_hang e).le) (fun _ h hs => ?_)
        refine fr_bd (fun _ => ?_)
        refine fr_st (fun _ e => hs.trans (st_pI e).le) (fun h hs => ?_)
        exact fr_X8_grow_180 hk39 hs
      · refine fr_cl (fun _ _ e => hs.trans (fr_X8_bestLine e).le) (fun _ h hs => ?_)
        refine fr_cl (fun _ _ e => hs.trans (fr_X8_addNode e)) (fun _ h hs => ?_)
        refine fr_cl (fun _ _ e => hs.trans (fr_X8_hang e).le) (fun _ h hs => ?_)
        refine fr_cl (fun _ _ e => hs.trans (fr_X8_split e)) (fun _ h hs => ?_)
        refine fr_bd (fun _ => ?_)
        refine fr_cl (fun _ _ e => hs.trans (fr_X8_open e).le) (fun _ h hs => ?_)
        refine fr_bd (fun _ => ?_)
        refine fr_cl (fun _ _ e => hs.trans (fr_X8_open e).le) (fun _ h hs => ?_)
        exact fr_X8_grow_180 hk39 hs
theorem fr_X8_grow_39 {h0 : sv_H} : ∀ (n : Nat) {x0 : Nat} {x1 : Nat} {x2 : Int32} {h : sv_H}, sv_le h0 h → sv_fr sv_le h0 (fn_X8_grow_39 n x0 x1 x2 h) := by
  intro n
  induction n with
  | zero => intro x0 x1 x2 h hs r hE e; cases (show (none : Option (Unit × sv_H)) = some (r, hE) from e)
  | succ n ih => intro x0 x1 x2 h hs; exact fr_X8_grow_39b (fun hs => ih hs) hs
theorem fr_X8_grow_0 {h0 : sv_H} {x0 : Nat} {x1 : Nat} {h : sv_H} (hs : sv_le h0 h) : sv_fr sv_le h0 (fn_X8_grow x0 x1 h) := by
  unfold fn_X8_grow
  refine fr_if ?_ fr_no
  refine fr_st (fun _ e => hs.trans (st_pI e).le) (fun h hs => ?_)
  refine fr_st (fun _ e => hs.trans (st_pI e).le) (fun h hs => ?_)
  refine fr_st (fun _ e => hs.trans (st_pI e).le) (fun h hs => ?_)
  refine fr_st (fun _ e => hs.trans (st_pI e).le) (fun h hs => ?_)
  refine fr_bd (fun _ => ?_)
  refine fr_bd (fun _ => ?_)
  refine fr_cl (fun _ _ e => hs.trans (fr_X1_chainWhole e)) (fun _ h hs => ?_)
  refine fr_cl (fun _ _ e => hs.trans (fr_X8_open e).le) (fun _ h hs => ?_)
  exact fr_X8_grow_39 sv_fuel hs
theorem fr_X8_grow {x0 : Nat} {x1 : Nat} {h : sv_H} {r : Unit} {hE : sv_H} (hw : fn_X8_grow x0 x1 h = some (r, hE)) : sv_le h hE := fr_X8_grow_0 (sv_le.refl h) r hE hw

theorem fr_X7_put_0 {h0 : sv_H} {x0 : Nat} {x1 : Int32} {x2 : Int32} {x3 : Int32} {x4 : Int32} {h : sv_H} (hs : sv_same h0 h) : sv_fr sv_same h0 (fn_X7_put x0 x1 x2 x3 x4 h) := by
  unfold fn_X7_put
  refine fr_if ?_ fr_no
  refine fr_st (fun _ e => hs.trans (st_pI e)) (fun h hs => ?_)
  refine fr_st (fun _ e => hs.trans (st_pI e)) (fun h hs => ?_)
  refine fr_st (fun _ e => hs.trans (st_pI e)) (fun h hs => ?_)
  refine fr_st (fun _ e => hs.trans (st_pI e)) (fun h hs => ?_)
  exact fr_rt hs
theorem fr_X7_put {x0 : Nat} {x1 : Int32} {x2 : Int32} {x3 : Int32} {x4 : Int32} {h : sv_H} {r : Unit} {hE : sv_H} (hw : fn_X7_put x0 x1 x2 x3 x4 h = some (r, hE)) : sv_same h hE := fr_X7_put_0 (sv_same.refl h) r hE hw

theorem fr_X7_become_0 {h0 : sv_H} {x0 : Nat} {x1 : Nat} {h : sv_H} (hs : sv_same h0 h) : sv_fr sv_same h0 (fn_X7_become x0 x1 h) := by
  unfold fn_X7_become
  refine fr_if ?_ fr_no
  refine fr_bd (fun _ => ?_)
  refine fr_bd (fun _ => ?_)
  refine fr_bd (fun _ => ?_)
  refine fr_bd (fun _ => ?_)
  refine fr_cl (fun _ _ e => hs.trans (fr_X7_put e)) (fun _ h hs => ?_)
  exact fr_rt hs
theorem fr_X7_become {x0 : Nat} {x1 : Nat} {h : sv_H} {r : Unit} {hE : sv_H} (hw : fn_X7_become x0 x1 h = some (r, hE)) : sv_same h hE := fr_X7_become_0 (sv_same.refl h) r hE hw

theorem fr_X6_endMover_0 {h0 : sv_H} {x0 : Nat} {h : sv_H} (hs : sv_same h0 h) : sv_fr sv_same h0 (fn_X6_endMover x0 h) := by
  unfold fn_X6_endMover
  refine fr_if ?_ fr_no
  refine fr_st (fun _ e => hs.trans (st_pI e)) (fun h hs => ?_)
  refine fr_st (fun _ e => hs.trans (st_pI e)) (fun h hs => ?_)
  refine fr_st (fun _ e => hs.trans (st_pI e)) (fun h hs => ?_)
  exact fr_rt hs
theorem fr_X6_endMover {x0 : Nat} {h : sv_H} {r : Unit} {hE : sv_H} (hw : fn_X6_endMover x0 h = some (r, hE)) : sv_same h hE := fr_X6_endMover_0 (sv_same.refl h) r hE hw

theorem fr_X6_settle_0 {h0 : sv_H} {x0 : Nat} {h : sv_H} (hs : sv_same h0 h) : sv_fr sv_same h0 (fn_X6_settle x0 h) := by
  unfold fn_X6_settle
  refine fr_if ?_ fr_no
  refine fr_bd (fun _ => ?_)
  refine fr_st (fun _ e => hs.trans (st_pI e)) (fun h hs => ?_)
  refine fr_bd (fun _ => ?_)
  refine fr_st (fun _ e => hs.trans (st_pI e)) (fun h hs => ?_)
  refine fr_cl (fun _ _ e => hs.trans (fr_X6_endMover e)) (fun _ h hs => ?_)
  exact fr_rt hs
theorem fr_X6_settle {x0 : Nat} {h : sv_H} {r : Unit} {hE : sv_H} (hw : fn_X6_settle x0 h = some (r, hE)) : sv_same h hE := fr_X6_settle_0 (sv_same.refl h) r hE hw

theorem fr_X2_settle_2b {h0 : sv_H} {k2 : Nat → Int32 → sv_H → Option (Unit × sv_H)} (hk2 : ∀ {x0 : Nat} {x1 : Int32} {h : sv_H}, sv_same h0 h → sv_fr sv_same h0 (k2 x0 x1 h)) {x0 : Nat} {x1 : Int32} {h : sv_H} (hs : sv_same h0 h) : sv_fr sv_same h0 (fn_X2_settle_2b k2 x0 x1 h) := by
  unfold fn_X2_settle_2b
  refine fr_bd (fun _ => ?_)
  refine fr_if ?_ ?_
  · exact fr_rt hs
  · refine fr_bd (fun _ => ?_)
    refine fr_bd (fun _ => ?_)
    refine fr_cl (fun _ _ e => hs.trans (fr_X6_settle e)) (fun _ h hs => ?_)
    exact hk2 hs
theorem fr_X2_settle_2 {h0 : sv_H} : ∀ (n : Nat) {x0 : Nat} {x1 : Int32} {h : sv_H}, sv_same h0 h → sv_fr sv_same h0 (fn_X2_settle_2 n x0 x1 h) := by
  intro n
  induction n with
  | zero => intro x0 x1 h hs r hE e; cases (show (none : Option (Unit × sv_H)) = some (r, hE) from e)
  | succ n ih => intro x0 x1 h hs; exact fr_X2_settle_2b (fun hs => ih hs) hs
theorem fr_X2_settle_0 {h0 : sv_H} {x0 : Nat} {h : sv_H} (hs : sv_same h0 h) : sv_fr sv_same h0 (fn_X2_settle x0 h) := by
  unfold fn_X2_settle
  refine fr_if ?_ fr_no
  exact fr_X2_settle_2 sv_fuel hs
theorem fr_X2_settle {x0 : Nat} {h : sv_H} {r : Unit} {hE : sv_H} (hw : fn_X2_settle x0 h = some (r, hE)) : sv_same h hE := fr_X2_settle_0 (sv_same.refl h) r hE hw

theorem fr_X10_begin_0 {h0 : sv_H} {x0 : Nat} {x1 : Nat} {x2 : Nat} {h : sv_H} (hs : sv_same h0 h) : sv_fr sv_same h0 (fn_X10_begin x0 x1 x2 h) := by
  unfold fn_X10_begin
  refine fr_if ?_ fr_no
  refine fr_st (fun _ e => hs.trans (st_pP e)) (fun h hs => ?_)
  refine fr_bd (fun _ => ?_)
  refine fr_cl (fun _ _ e => hs.trans (fr_X2_settle e)) (fun _ h hs => ?_)
  refine fr_bd (fun _ => ?_)
  refine fr_st (fun _ e => hs.trans (st_pI e)) (fun h hs => ?_)
  refine fr_bd (fun _ => ?_)
  refine fr_st (fun _ e => hs.trans (st_pI e)) (fun h hs => ?_)
  refine fr_bd (fun _ => ?_)
  refine fr_st (fun _ e => hs.trans (st_pI e)) (fun h hs => ?_)
  refine fr_bd (fun _ => ?_)
  refine fr_st (fun _ e => hs.trans (st_pI e)) (fun h hs => ?_)
  refine fr_st (fun _ e => hs.trans (st_pI e)) (fun h hs => ?_)
  exact fr_rt hs
theorem fr_X10_begin {x0 : Nat} {x1 : Nat} {x2 : Nat} {h : sv_H} {r : Unit} {hE : sv_H} (hw : fn_X10_begin x0 x1 x2 h = some (r, hE)) : sv_same h hE := fr_X10_begin_0 (sv_same.refl h) r hE hw

theorem fr_X12_loadMap_110 {h0 : sv_H} {x0 : Nat} {h : sv_H} (hs : sv_le h0 h) : sv_fr sv_le h0 (fn_X12_loadMap_110 x0 h) := by
  unfold fn_X12_loadMap_110
  refine fr_bd (fun _ => ?_)
  refine fr_bd (fun _ => ?_)
  exact fr_rt hs
theorem fr_X12_loadMap_0 {h0 : sv_H} {x0 : Nat} {h : sv_H} (hs : sv_le h0 h) : sv_fr sv_le h0 (fn_X12_loadMap x0 h) := by
  unfold fn_X12_loadMap
  refine fr_if ?_ fr_no
  refine fr_bd (fun _ => ?_)
  refine fr_cl (fun _ _ e => hs.trans (fr_X4_begin e).le) (fun _ h hs => ?_)
  refine fr_bd (fun _ => ?_)
  refine fr_bd (fun _ => ?_)
  refine fr_cl (fun _ _ e => hs.trans (fr_X2_read e).le) (fun _ h hs => ?_)
  refine fr_bd (fun _ => ?_)
  refine fr_cl (fun _ _ e => hs.trans (fr_X4_well e).le) (fun _ h hs => ?_)
  refine fr_if ?_ ?_
  · exact fr_X12_loadMap_110 hs
  · refine fr_cl (fun _ _ e => hs.trans (fr_X12_swapPlans e).le) (fun _ h hs => ?_)
    refine fr_bd (fun _ => ?_)
    refine fr_st (fun _ e => hs.trans (st_pI e).le) (fun h hs => ?_)
    refine fr_bd (fun _ => ?_)
    refine fr_bd (fun _ => ?_)
    refine fr_bd (fun _ => ?_)
    refine fr_cl (fun _ _ e => hs.trans (fr_X0_become e)) (fun _ h hs => ?_)
    refine fr_bd (fun _ => ?_)
    refine fr_bd (fun _ => ?_)
    refine fr_cl (fun _ _ e => hs.trans (fr_X8_grow e)) (fun _ h hs => ?_)
    refine fr_bd (fun _ => ?_)
    refine fr_st (fun _ e => hs.trans (st_pI e).le) (fun h hs => ?_)
    refine fr_bd (fun _ => ?_)
    refine fr_bd (fun _ => ?_)
    refine fr_bd (fun _ => ?_)
    refine fr_bd (fun _ => ?_)
    refine fr_cl (fun _ _ e => hs.trans (fr_X7_become e).le) (fun _ h hs => ?_)
    refine fr_bd (fun _ => ?_)
    refine fr_bd (fun _ => ?_)
    refine fr_bd (fun _ => ?_)
    refine fr_bd (fun _ => ?_)
    refine fr_cl (fun _ _ e => hs.trans (fr_X10_begin e).le) (fun _ h hs => ?_)
    exact fr_X12_loadMap_110 hs
theorem fr_X12_loadMap {x0 : Nat} {h : sv_H} {r : Int32} {hE : sv_H} (hw : fn_X12_loadMap x0 h = some (r, hE)) : sv_le h hE := fr_X12_loadMap_0 (sv_le.refl h) r hE hw

theorem fr_X14_wrong_17 {h0 : sv_H} {h : sv_H} (hs : sv_same h0 h) : sv_fr sv_same h0 (fn_X14_wrong_17 h) := by
  unfold fn_X14_wrong_17
  exact fr_rt hs
theorem fr_X14_wrong_0 {h0 : sv_H} {x0 : Nat} {x1 : Int32} {x2 : Int32} {h : sv_H} (hs : sv_same h0 h) : sv_fr sv_same h0 (fn_X14_wrong x0 x1 x2 h) := by
  unfold fn_X14_wrong
  refine fr_if ?_ fr_no
  refine fr_bd (fun _ => ?_)
  refine fr_if ?_ ?_
  · refine fr_st (fun _ e => hs.trans (st_pI e)) (fun h hs => ?_)
    refine fr_st (fun _ e => hs.trans (st_pI e)) (fun h hs => ?_)
    exact fr_X14_wrong_17 hs
  · exact fr_X14_wrong_17 hs
theorem fr_X14_wrong {x0 : Nat} {x1 : Int32} {x2 : Int32} {h : sv_H} {r : Unit} {hE : sv_H} (hw : fn_X14_wrong x0 x1 x2 h = some (r, hE)) : sv_same h hE := fr_X14_wrong_0 (sv_same.refl h) r hE hw

theorem fr_X14_add_0 {h0 : sv_H} {x0 : Nat} {x1 : Int32} {h : sv_H} (hs : sv_same h0 h) : sv_fr sv_same h0 (fn_X14_add x0 x1 h) := by
  unfold fn_X14_add
  refine fr_if ?_ fr_no
  refine fr_bd (fun _ => ?_)
  refine fr_st (fun _ e => hs.trans (st_pI e)) (fun h hs => ?_)
  refine fr_bd (fun _ => ?_)
  refine fr_bd (fun _ => ?_)
  refine fr_st (fun _ e => hs.trans (st_pI e)) (fun h hs => ?_)
  exact fr_rt hs
theorem fr_X14_add {x0 : Nat} {x1 : Int32} {h : sv_H} {r : Unit} {hE : sv_H} (hw : fn_X14_add x0 x1 h = some (r, hE)) : sv_same h hE := fr_X14_add_0 (sv_same.refl h) r hE hw

theorem fr_X14_next_64 {h0 : sv_H} {x0 : Nat} {x3 : Int32} {h : sv_H} (hs : sv_same h0 h) : sv_fr sv_same h0 (fn_X14_next_64 x0 x3 h) := by
  unfold fn_X14_next_64
  refine fr_cl (fun _ _ e => hs.trans (fr_X14_add e)) (fun _ h hs => ?_)
  refine fr_bd (fun _ => ?_)
  refine fr_st (fun _ e => hs.trans (st_pI e)) (fun h hs => ?_)
  exact fr_rt hs
theorem fr_X14_next_55 {h0 : sv_H} {x0 : Nat} {x3 : Int32} {h : sv_H} (hs : sv_same h0 h) : sv_fr sv_same h0 (fn_X14_next_55 x0 x3 h) := by
  unfold fn_X14_next_55
  refine fr_bd (fun _ => ?_)
  refine fr_cl (fun _ _ e => hs.trans (fr_X14_wrong e)) (fun _ h hs => ?_)
  exact fr_X14_next_64 hs
theorem fr_X14_next_0 {h0 : sv_H} {x0 : Nat} {x1 : Int32} {x2 : Int32} {h : sv_H} (hs : sv_same h0 h) : sv_fr sv_same h0 (fn_X14_next x0 x1 x2 h) := by
  unfold fn_X14_next
  refine fr_if ?_ fr_no
  refine fr_bd (fun _ => ?_)
  refine fr_if ?_ ?_
  · refine fr_bd (fun _ => ?_)
    refine fr_bd (fun _ => ?_)
    refine fr_if ?_ ?_
    · refine fr_bd (fun _ => ?_)
      refine fr_cl (fun _ _ e => hs.trans (fr_X14_wrong e)) (fun _ h hs => ?_)
      exact fr_rt hs
    · refine fr_bd (fun _ => ?_)
      refine fr_bd (fun _ => ?_)
      refine fr_bd (fun _ => ?_)
      refine fr_if ?_ ?_
      · exact fr_X14_next_55 hs
      · refine fr_if ?_ ?_
        · exact fr_X14_next_64 hs
        · exact fr_X14_next_55 hs
  · exact fr_rt hs
theorem fr_X14_next {x0 : Nat} {x1 : Int32} {x2 : Int32} {h : sv_H} {r : Int32} {hE : sv_H} (hw : fn_X14_next x0 x1 x2 h = some (r, hE)) : sv_same h hE := fr_X14_next_0 (sv_same.refl h) r hE hw

theorem fr_X14_nextTwo_77 {h0 : sv_H} {x4 : Int32} {h : sv_H} (hs : sv_same h0 h) : sv_fr sv_same h0 (fn_X14_nextTwo_77 x4 h) := by
  unfold fn_X14_nextTwo_77
  exact fr_rt hs
theorem fr_X14_nextTwo_71 {h0 : sv_H} {x0 : Nat} {x3 : Int32} {x4 : Int32} {h : sv_H} (hs : sv_same h0 h) : sv_fr sv_same h0 (fn_X14_nextTwo_71 x0 x3 x4 h) := by
  unfold fn_X14_nextTwo_71
  refine fr_cl (fun _ _ e => hs.trans (fr_X14_wrong e)) (fun _ h hs => ?_)
  exact fr_X14_nextTwo_77 hs
theorem fr_X14_nextTwo_50 {h0 : sv_H} {x0 : Nat} {x1 : Int32} {x2 : Int32} {x3 : Int32} {s0 : Int32} {h : sv_H} (hs : sv_same h0 h) : sv_fr sv_same h0 (fn_X14_nextTwo_50 x0 x1 x2 x3 s0 h) := by
  unfold fn_X14_nextTwo_50
  refine fr_bd (fun _ => ?_)
  refine fr_if ?_ ?_
  · refine fr_if ?_ ?_
    · exact fr_X14_nextTwo_71 hs
    · refine fr_if ?_ ?_
      · exact fr_X14_nextTwo_77 hs
      · exact fr_X14_nextTwo_71 hs
  · exact fr_X14_nextTwo_77 hs
theorem fr_X14_nextTwo_0 {h0 : sv_H} {x0 : Nat} {x1 : Int32} {x2 : Int32} {h : sv_H} (hs : sv_same h0 h) : sv_fr sv_same h0 (fn_X14_nextTwo x0 x1 x2 h) := by
  unfold fn_X14_nextTwo
  refine fr_if ?_ fr_no
  refine fr_bd (fun _ => ?_)
  refine fr_cl (fun _ _ e => hs.trans (fr_X14_next e)) (fun _ h hs => ?_)
  refine fr_cl (fun _ _ e => hs.trans (fr_X14_next e)) (fun _ h hs => ?_)
  refine fr_if ?_ ?_
  · exact fr_X14_nextTwo_50 hs
  · exact fr_X14_nextTwo_50 hs
theorem fr_X14_nextTwo {x0 : Nat} {x1 : Int32} {x2 : Int32} {h : sv_H} {r : Int32} {hE : sv_H} (hw : fn_X14_nextTwo x0 x1 x2 h = some (r, hE)) : sv_same h hE := fr_X14_nextTwo_0 (sv_same.refl h) r hE hw

theorem fr_X14_pair_37 {h0 : sv_H} {s0 : Int32} {h : sv_H} (hs : sv_same h0 h) : sv_fr sv_same h0 (fn_X14_pair_37 s0 h) := by
  unfold fn_X14_pair_37
  exact fr_rt hs
theorem fr_X14_pair_0 {h0 : sv_H} {x0 : Nat} {x1 : Int32} {h : sv_H} (hs : sv_same h0 h) : sv_fr sv_same h0 (fn_X14_pair x0 x1 h) := by
  unfold fn_X14_pair
  refine fr_bd (fun _ => ?_)
  refine fr_bd (fun _ => ?_)
  refine fr_if ?_ ?_
  · exact fr_X14_pair_37 hs
  · exact fr_X14_pair_37 hs
theorem fr_X14_pair {x0 : Nat} {x1 : Int32} {h : sv_H} {r : Int32} {hE : sv_H} (hw : fn_X14_pair x0 x1 h = some (r, hE)) : sv_same h hE := fr_X14_pair_0 (sv_same.refl h) r hE hw

theorem fr_X14_readVertex_93 {h0 : sv_H} {h : sv_H} (hs : sv_same h0 h) : sv_fr sv_same h0 (fn_X14_readVertex_93 h) := by
  unfold fn_X14_readVertex_93
  exact fr_rt hs
theorem fr_X14_readVertex_87 {h0 : sv_H} {k31 : Nat → Int32 → Int32 → Int32 → Int32 → Int32 → sv_H → Option (Unit × sv_H)} (hk31 : ∀ {x0 : Nat} {x1 : Int32} {x2 : Int32} {x3 : Int32} {x4 : Int32} {x5 : Int32} {h : sv_H}, sv_same h0 h → sv_fr sv_same h0 (k31 x0 x1 x2 x3 x4 x5 h)) {x0 : Nat} {x1 : Int32} {x2 : Int32} {x3 : Int32} {x4 : Int32} {x5 : Int32} {h : sv_H} (hs : sv_same h0 h) : sv_fr sv_same h0 (fn_X14_readVertex_87 k31 x0 x1 x2 x3 x4 x5 h) := by
  unfold fn_X14_readVertex_87
  exact hk31 hs
theorem fr_X14_readVertex_31b {h0 : sv_H} {k31 : Nat → Int32 → Int32 → Int32 → Int32 → Int32 → sv_H → Option (Unit × sv_H)} (hk31 : ∀ {x0 : Nat} {x1 : Int32} {x2 : Int32} {x3 : Int32} {x4 : Int32} {x5 : Int32} {h : sv_H}, sv_same h0 h → sv_fr sv_same h0 (k31 x0 x1 x2 x3 x4 x5 h)) {x0 : Nat} {x1 : Int32} {x2 : Int32} {x3 : Int32} {x4 : Int32} {x5 : Int32} {h : sv_H} (hs : sv_same h0 h) : sv_fr sv_same h0 (fn_X14_readVertex_31b k31 x0 x1 x2 x3 x4 x5 h) := by
  unfold fn_X14_readVertex_31b
  refine fr_if ?_ ?_
  · exact fr_X14_readVertex_93 hs
  · refine fr_bd (fun _ => ?_)
    refine fr_if ?_ ?_
    · refine fr_bd (fun _ => ?_)
      refine fr_cl (fun _ _ e => hs.trans (fr_X14_pair e)) (fun _ h hs => ?_)
      refine fr_if ?_ ?_
      · refine fr_bd (fun _ => ?_)
        refine fr_cl (fun _ _ e => hs.trans (fr_X14_pair e)) (fun _ h hs => ?_)
        refine fr_if ?_ ?_
        · refine fr_cl (fun _ _ e => hs.trans (fr_X14_wrong e)) (fun _ h hs => ?_)
          exact fr_X14_readVertex_87 hk31 hs
        · exact fr_X14_readVertex_87 hk31 hs
      · exact fr_X14_readVertex_87 hk31 hs
    · exact fr_X14_readVertex_93 hs
theorem fr_X14_readVertex_31 {h0 : sv_H} : ∀ (n : Nat) {x0 : Nat} {x1 : Int32} {x2 : Int32} {x3 : Int32} {x4 : Int32} {x5 : Int32} {h : sv_H}, sv_same h0 h → sv_fr sv_same h0 (fn_X14_readVertex_31 n x0 x1 x2 x3 x4 x5 h) := by
  intro n
  induction n with
  | zero => intro x0 x1 x2 x3 x4 x5 h hs r hE e; cases (show (none : Option (Unit × sv_H)) = some (r, hE) from e)
  | succ n ih => intro x0 x1 x2 x3 x4 x5 h hs; exact fr_X14_readVertex_31b (fun hs => ih hs) hs
theorem fr_X14_readVertex_0 {h0 : sv_H} {x0 : Nat} {x1 : Int32} {h : sv_H} (hs : sv_same h0 h) : sv_fr sv_same h0 (fn_X14_readVertex x0 x1 h) := by
  unfold fn_X14_readVertex
  refine fr_if ?_ fr_no
  refine fr_cl (fun _ _ e => hs.trans (fr_X14_nextTwo e)) (fun _ h hs => ?_)
  refine fr_bd (fun _ => ?_)
  refine fr_cl (fun _ _ e => hs.trans (fr_X14_nextTwo e)) (fun _ h hs => ?_)
  exact fr_X14_readVertex_31 sv_fuel hs
theorem fr_X14_readVertex {x0 : Nat} {x1 : Int32} {h : sv_H} {r : Unit} {hE : sv_H} (hw : fn_X14_readVertex x0 x1 h = some (r, hE)) : sv_same h hE := fr_X14_readVertex_0 (sv_same.refl h) r hE hw

theorem fr_X14_readTexture_47 {h0 : sv_H} {h : sv_H} (hs : sv_same h0 h) : sv_fr sv_same h0 (fn_X14_readTexture_47 h) := by
  unfold fn_X14_readTexture_47
  exact fr_rt hs
theorem fr_X14_readTexture_16b {h0 : sv_H} {k16 : Nat → Int32 → Int32 → Int32 → sv_H → Option (Unit × sv_H)} (hk16 : ∀ {x0 : Nat} {x1 : Int32} {x2 : Int32} {x3 : Int32} {h : sv_H}, sv_same h0 h → sv_fr sv_same h0 (k16 x0 x1 x2 x3 h)) {x0 : Nat} {x1 : Int32} {x2 : Int32} {x3 : Int32} {h : sv_H} (hs : sv_same h0 h) : sv_fr sv_same h0 (fn_X14_readTexture_16b k16 x0 x1 x2 x3 h) := by
  unfold fn_X14_readTexture_16b
  refine fr_if ?_ ?_
  · exact fr_X14_readTexture_47 hs
  · refine fr_bd (fun _ => ?_)
    refine fr_if ?_ ?_
    · refine fr_cl (fun _ _ e => hs.trans (fr_X14_next e)) (fun _ h hs => ?_)
      exact hk16 hs
    · exact fr_X14_readTexture_47 hs
theorem fr_X14_readTexture_16 {h0 : sv_H} : ∀ (n : Nat) {x0 : Nat} {x1 : Int32} {x2 : Int32} {x3 : Int32} {h : sv_H}, sv_same h0 h → sv_fr sv_same h0 (fn_X14_readTexture_16 n x0 x1 x2 x3 h) := by
  intro n
  induction n with
  | zero => intro x0 x1 x2 x3 h hs r hE e; cases (show (none : Option (Unit × sv_H)) = some (r, hE) from e)
  | succ n ih => intro x0 x1 x2 x3 h hs; exact fr_X14_readTexture_16b (fun hs => ih hs) hs
theorem fr_X14_readTexture_0 {h0 : sv_H} {x0 : Nat} {h : sv_H} (hs : sv_same h0 h) : sv_fr sv_same h0 (fn_X14_readTexture x0 h) := by
  unfold fn_X14_readTexture
  refine fr_if ?_ fr_no
  refine fr_cl (fun _ _ e => hs.trans (fr_X14_next e)) (fun _ h hs => ?_)
  refine fr_cl (fun _ _ e => hs.trans (fr_X14_next e)) (fun _ h hs => ?_)
  exact fr_X14_readTexture_16 sv_fuel hs
theorem fr_X14_readTexture {x0 : Nat} {h : sv_H} {r : Unit} {hE : sv_H} (hw : fn_X14_readTexture x0 h = some (r, hE)) : sv_same h hE := fr_X14_readTexture_0 (sv_same.refl h) r hE hw

theorem fr_X14_nextOr_39 {h0 : sv_H} {x2 : Int32} {h : sv_H} (hs : sv_same h0 h) : sv_fr sv_same h0 (fn_X14_nextOr_39 x2 h) := by
  unfold fn_X14_nextOr_39
  exact fr_rt hs
theorem fr_X14_nextOr_0 {h0 : sv_H} {x0 : Nat} {x1 : Int32} {h : sv_H} (hs : sv_same h0 h) : sv_fr sv_same h0 (fn_X14_nextOr x0 x1 h) := by
  unfold fn_X14_nextOr
  refine fr_if ?_ fr_no
  refine fr_cl (fun _ _ e => hs.trans (fr_X14_next e)) (fun _ h hs => ?_)
  refine fr_bd (fun _ => ?_)
  refine fr_if ?_ ?_
  · refine fr_if ?_ ?_
    · exact fr_X14_nextOr_39 hs
    · refine fr_if ?_ ?_
      · exact fr_X14_nextOr_39 hs
      · refine fr_bd (fun _ => ?_)
        refine fr_cl (fun _ _ e => hs.trans (fr_X14_wrong e)) (fun _ h hs => ?_)
        exact fr_X14_nextOr_39 hs
  · exact fr_X14_nextOr_39 hs
theorem fr_X14_nextOr {x0 : Nat} {x1 : Int32} {h : sv_H} {r : Int32} {hE : sv_H} (hw : fn_X14_nextOr x0 x1 h = some (r, hE)) : sv_same h hE := fr_X14_nextOr_0 (sv_same.refl h) r hE hw

theorem fr_X14_readSector_47 {h0 : sv_H} {x0 : Nat} {x1 : Int32} {h : sv_H} (hs : sv_same h0 h) : sv_fr sv_same h0 (fn_X14_readSector_47 x0 x1 h) := by
  unfold fn_X14_readSector_47
  refine fr_cl (fun _ _ e => hs.trans (fr_X14_next e)) (fun _ h hs => ?_)
  refine fr_cl (fun _ _ e => hs.trans (fr_X14_nextOr e)) (fun _ h hs => ?_)
  refine fr_cl (fun _ _ e => hs.trans (fr_X14_next e)) (fun _ h hs => ?_)
  refine fr_cl (fun _ _ e => hs.trans (fr_X14_next e)) (fun _ h hs => ?_)
  refine fr_cl (fun _ _ e => hs.trans (fr_X14_next e)) (fun _ h hs => ?_)
  exact fr_rt hs
theorem fr_X14_readSector_0 {h0 : sv_H} {x0 : Nat} {x1 : Int32} {h : sv_H} (hs : sv_same h0 h) : sv_fr sv_same h0 (fn_X14_readSector x0 x1 h) := by
  unfold fn_X14_readSector
  refine fr_if ?_ fr_no
  refine fr_cl (fun _ _ e => hs.trans (fr_X14_nextTwo e)) (fun _ h hs => ?_)
  refine fr_bd (fun _ => ?_)
  refine fr_cl (fun _ _ e => hs.trans (fr_X14_nextTwo e)) (fun _ h hs => ?_)
  refine fr_bd (fun _ => ?_)
  refine fr_if ?_ ?_
  · refine fr_if ?_ ?_
    · exact fr_X14_readSector_47 hs
    · refine fr_cl (fun _ _ e => hs.trans (fr_X14_wrong e)) (fun _ h hs => ?_)
      exact fr_X14_readSector_47 hs
  · exact fr_X14_readSector_47 hs
theorem fr_X14_readSector {x0 : Nat} {x1 : Int32} {h : sv_H} {r : Unit} {hE : sv_H} (hw : fn_X14_readSector x0 x1 h = some (r, hE)) : sv_same h hE := fr_X14_readSector_0 (sv_same.refl h) r hE hw

theorem fr_X14_readWall_119 {h0 : sv_H} {k65 : Nat → Int32 → Int32 → Int32 → sv_H → Option (Unit × sv_H)} (hk65 : ∀ {x0 : Nat} {x2 : Int32} {x7 : Int32} {x8 : Int32} {h : sv_H}, sv_same h0 h → sv_fr sv_same h0 (k65 x0 x2 x7 x8 h)) {x0 : Nat} {x2 : Int32} {x7 : Int32} {x8 : Int32} {h : sv_H} (hs : sv_same h0 h) : sv_fr sv_same h0 (fn_X14_readWall_119 k65 x0 x2 x7 x8 h) := by
  unfold fn_X14_readWall_119
  exact hk65 hs
theorem fr_X14_readWall_65b {h0 : sv_H} {k65 : Nat → Int32 → Int32 → Int32 → sv_H → Option (Unit × sv_H)} (hk65 : ∀ {x0 : Nat} {x2 : Int32} {x7 : Int32} {x8 : Int32} {h : sv_H}, sv_same h0 h → sv_fr sv_same h0 (k65 x0 x2 x7 x8 h)) {x0 : Nat} {x2 : Int32} {x7 : Int32} {x8 : Int32} {h : sv_H} (hs : sv_same h0 h) : sv_fr sv_same h0 (fn_X14_readWall_65b k65 x0 x2 x7 x8 h) := by
  unfold fn_X14_readWall_65b
  refine fr_if ?_ ?_
  · refine fr_cl (fun _ _ e => hs.trans (fr_X14_next e)) (fun _ h hs => ?_)
    refine fr_cl (fun _ _ e => hs.trans (fr_X14_next e)) (fun _ h hs => ?_)
    refine fr_cl (fun _ _ e => hs.trans (fr_X14_next e)) (fun _ h hs => ?_)
    refine fr_cl (fun _ _ e => hs.trans (fr_X14_next e)) (fun _ h hs => ?_)
    exact fr_rt hs
  · refine fr_cl (fun _ _ e => hs.trans (fr_X14_nextOr e)) (fun _ h hs => ?_)
    refine fr_bd (fun _ => ?_)
    refine fr_if ?_ ?_
    · refine fr_if ?_ ?_
      · exact fr_X14_readWall_119 hk65 hs
      · refine fr_if ?_ ?_
        · refine fr_if ?_ ?_
          · exact fr_X14_readWall_119 hk65 hs
          · refine fr_bd (fun _ => ?_)
            refine fr_cl (fun _ _ e => hs.trans (fr_X14_wrong e)) (fun _ h hs => ?_)
            exact fr_X14_readWall_119 hk65 hs
        · exact fr_X14_readWall_119 hk65 hs
    · exact fr_X14_readWall_119 hk65 hs
theorem fr_X14_readWall_65 {h0 : sv_H} : ∀ (n : Nat) {x0 : Nat} {x2 : Int32} {x7 : Int32} {x8 : Int32} {h : sv_H}, sv_same h0 h → sv_fr sv_same h0 (fn_X14_readWall_65 n x0 x2 x7 x8 h) := by
  intro n
  induction n with
  | zero => intro x0 x2 x7 x8 h hs r hE e; cases (show (none : Option (Unit × sv_H)) = some (r, hE) from e)
  | succ n ih => intro x0 x2 x7 x8 h hs; exact fr_X14_readWall_65b (fun hs => ih hs) hs
theorem fr_X14_readWall_45 {h0 : sv_H} {x0 : Nat} {x2 : Int32} {x3 : Int32} {h : sv_H} (hs : sv_same h0 h) : sv_fr sv_same h0 (fn_X14_readWall_45 x0 x2 x3 h) := by
  unfold fn_X14_readWall_45
  refine fr_cl (fun _ _ e => hs.trans (fr_X14_next e)) (fun _ h hs => ?_)
  refine fr_cl (fun _ _ e => hs.trans (fr_X14_nextOr e)) (fun _ h hs => ?_)
  exact fr_X14_readWall_65 sv_fuel hs
theorem fr_X14_readWall_0 {h0 : sv_H} {x0 : Nat} {x1 : Int32} {x2 : Int32} {x3 : Int32} {h : sv_H} (hs : sv_same h0 h) : sv_fr sv_same h0 (fn_X14_readWall x0 x1 x2 x3 h) := by
  unfold fn_X14_readWall
  refine fr_if ?_ fr_no
  refine fr_cl (fun _ _ e => hs.trans (fr_X14_next e)) (fun _ h hs => ?_)
  refine fr_cl (fun _ _ e => hs.trans (fr_X14_next e)) (fun _ h hs => ?_)
  refine fr_bd (fun _ => ?_)
  refine fr_if ?_ ?_
  · refine fr_if ?_ ?_
    · refine fr_bd (fun _ => ?_)
      refine fr_cl (fun _ _ e => hs.trans (fr_X14_wrong e)) (fun _ h hs => ?_)
      exact fr_X14_readWall_45 hs
    · exact fr_X14_readWall_45 hs
  · exact fr_X14_readWall_45 hs
theorem fr_X14_readWall {x0 : Nat} {x1 : Int32} {x2 : Int32} {x3 : Int32} {h : sv_H} {r : Unit} {hE : sv_H} (hw : fn_X14_readWall x0 x1 x2 x3 h = some (r, hE)) : sv_same h hE := fr_X14_readWall_0 (sv_same.refl h) r hE hw

theorem fr_X14_readCheck_32 {h0 : sv_H} {h : sv_H} (hs : sv_same h0 h) : sv_fr sv_same h0 (fn_X14_readCheck_32 h) := by
  unfold fn_X14_readCheck_32
  exact fr_rt hs
theorem fr_X14_readCheck_0 {h0 : sv_H} {x0 : Nat} {x1 : Int32} {h : sv_H} (hs : sv_same h0 h) : sv_fr sv_same h0 (fn_X14_readCheck x0 x1 h) := by
  unfold fn_X14_readCheck
  refine fr_if ?_ fr_no
  refine fr_bd (fun _ => ?_)
  refine fr_cl (fun _ _ e => hs.trans (fr_X14_next e)) (fun _ h hs => ?_)
  refine fr_bd (fun _ => ?_)
  refine fr_if ?_ ?_
  · refine fr_if ?_ ?_
    · exact fr_X14_readCheck_32 hs
    · refine fr_cl (fun _ _ e => hs.trans (fr_X14_wrong e)) (fun _ h hs => ?_)
      exact fr_X14_readCheck_32 hs
  · exact fr_X14_readCheck_32 hs
theorem fr_X14_readCheck {x0 : Nat} {x1 : Int32} {h : sv_H} {r : Unit} {hE : sv_H} (hw : fn_X14_readCheck x0 x1 h = some (r, hE)) : sv_same h hE := fr_X14_readCheck_0 (sv_same.refl h) r hE hw

theorem fr_X14_vertexOf_0 {h0 : sv_H} {x0 : Nat} {x1 : Int32} {x2 : Int32} {h : sv_H} (hs : sv_same h0 h) : sv_fr sv_same h0 (fn_X14_vertexOf x0 x1 x2 h) := by
  unfold fn_X14_vertexOf
  refine fr_if ?_ fr_no
  refine fr_bd (fun _ => ?_)
  refine fr_bd (fun _ => ?_)
  exact fr_rt hs
theorem fr_X14_vertexOf {x0 : Nat} {x1 : Int32} {x2 : Int32} {h : sv_H} {r : Int32} {hE : sv_H} (hw : fn_X14_vertexOf x0 x1 x2 h = some (r, hE)) : sv_same h hE := fr_X14_vertexOf_0 (sv_same.refl h) r hE hw

theorem fr_X14_cross_0 {h0 : sv_H} {x0 : Int64} {x2 : Int64} {x4 : Int64} {x6 : Int64} {h : sv_H} (hs : sv_same h0 h) : sv_fr sv_same h0 (fn_X14_cross x0 x2 x4 x6 h) := by
  unfold fn_X14_cross
  exact fr_rt hs
theorem fr_X14_cross {x0 : Int64} {x2 : Int64} {x4 : Int64} {x6 : Int64} {h : sv_H} {r : Int64} {hE : sv_H} (hw : fn_X14_cross x0 x2 x4 x6 h = some (r, hE)) : sv_same h hE := fr_X14_cross_0 (sv_same.refl h) r hE hw

theorem fr_X14_side_153 {h0 : sv_H} {s0 : Int32} {h : sv_H} (hs : sv_same h0 h) : sv_fr sv_same h0 (fn_X14_side_153 s0 h) := by
  unfold fn_X14_side_153
  exact fr_rt hs
theorem fr_X14_side_0 {h0 : sv_H} {x0 : Nat} {x1 : Int32} {x2 : Int32} {h : sv_H} (hs : sv_same h0 h) : sv_fr sv_same h0 (fn_X14_side x0 x1 x2 h) := by
  unfold fn_X14_side
  refine fr_if ?_ fr_no
  refine fr_bd (fun _ => ?_)
  refine fr_cl (fun _ _ e => hs.trans (fr_X14_vertexOf e)) (fun _ h hs => ?_)
  refine fr_cl (fun _ _ e => hs.trans (fr_X14_pair e)) (fun _ h hs => ?_)
  refine fr_bd (fun _ => ?_)
  refine fr_cl (fun _ _ e => hs.trans (fr_X14_vertexOf e)) (fun _ h hs => ?_)
  refine fr_cl (fun _ _ e => hs.trans (fr_X14_pair e)) (fun _ h hs => ?_)
  refine fr_bd (fun _ => ?_)
  refine fr_cl (fun _ _ e => hs.trans (fr_X14_vertexOf e)) (fun _ h hs => ?_)
  refine fr_cl (fun _ _ e => hs.trans (fr_X14_pair e)) (fun _ h hs => ?_)
  refine fr_bd (fun _ => ?_)
  refine fr_cl (fun _ _ e => hs.trans (fr_X14_vertexOf e)) (fun _ h hs => ?_)
  refine fr_cl (fun _ _ e => hs.trans (fr_X14_pair e)) (fun _ h hs => ?_)
  refine fr_bd (fun _ => ?_)
  refine fr_cl (fun _ _ e => hs.trans (fr_X14_pair e)) (fun _ h hs => ?_)
  refine fr_bd (fun _ => ?_)
  refine fr_cl (fun _ _ e => hs.trans (fr_X14_pair e)) (fun _ h hs => ?_)
  refine fr_cl (fun _ _ e => hs.trans (fr_X14_cross e)) (fun _ h hs => ?_)
  refine fr_if ?_ ?_
  · refine fr_if ?_ ?_
    · exact fr_X14_side_153 hs
    · exact fr_X14_side_153 hs
  · exact fr_X14_side_153 hs
theorem fr_X14_side {x0 : Nat} {x1 : Int32} {x2 : Int32} {h : sv_H} {r : Int32} {hE : sv_H} (hw : fn_X14_side x0 x1 x2 h = some (r, hE)) : sv_same h hE := fr_X14_side_0 (sv_same.refl h) r hE hw

theorem fr_X14_lies_35 {h0 : sv_H} {h : sv_H} (hs : sv_same h0 h) : sv_fr sv_same h0 (fn_X14_lies_35 h) := by
  unfold fn_X14_lies_35
  exact fr_rt hs
theorem fr_X14_lies_156 {h0 : sv_H} {s0 : Int32} {h : sv_H} (hs : sv_same h0 h) : sv_fr sv_same h0 (fn_X14_lies_156 s0 h) := by
  unfold fn_X14_lies_156
  exact fr_rz hs
theorem fr_X14_lies_0 {h0 : sv_H} {x0 : Nat} {x1 : Int32} {x2 : Int32} {h : sv_H} (hs : sv_same h0 h) : sv_fr sv_same h0 (fn_X14_lies x0 x1 x2 h) := by
  unfold fn_X14_lies
  refine fr_if ?_ fr_no
  refine fr_cl (fun _ _ e => hs.trans (fr_X14_vertexOf e)) (fun _ h hs => ?_)
  refine fr_cl (fun _ _ e => hs.trans (fr_X14_vertexOf e)) (fun _ h hs => ?_)
  refine fr_if ?_ ?_
  · exact fr_X14_lies_35 hs
  · refine fr_if ?_ ?_
    · exact fr_X14_lies_35 hs
    · refine fr_cl (fun _ _ e => hs.trans (fr_X14_side e)) (fun _ h hs => ?_)
      refine fr_if ?_ ?_
      · refine fr_bd (fun _ => ?_)
        refine fr_cl (fun _ _ e => hs.trans (fr_X14_pair e)) (fun _ h hs => ?_)
        refine fr_bd (fun _ => ?_)
        refine fr_cl (fun _ _ e => hs.trans (fr_X14_pair e)) (fun _ h hs => ?_)
        refine fr_bd (fun _ => ?_)
        refine fr_cl (fun _ _ e => hs.trans (fr_X14_pair e)) (fun _ h hs => ?_)
        refine fr_bd (fun _ => ?_)
        refine fr_cl (fun _ _ e => hs.trans (fr_X14_pair e)) (fun _ h hs => ?_)
        refine fr_bd (fun _ => ?_)
        refine fr_cl (fun _ _ e => hs.trans (fr_X14_pair e)) (fun _ h hs => ?_)
        refine fr_bd (fun _ => ?_)
        refine fr_cl (fun _ _ e => hs.trans (fr_X14_pair e)) (fun _ h hs => ?_)
        refine fr_if ?_ ?_
        · exact fr_X14_lies_156 hs
        · exact fr_X14_lies_156 hs
      · exact fr_X14_lies_35 hs
theorem fr_X14_lies {x0 : Nat} {x1 : Int32} {x2 : Int32} {h : sv_H} {r : Int32} {hE : sv_H} (hw : fn_X14_lies x0 x1 x2 h = some (r, hE)) : sv_same h hE := fr_X14_lies_0 (sv_same.refl h) r hE hw

theorem fr_X14_touch_160 {h0 : sv_H} {s0 : Int32} {h : sv_H} (hs : sv_same h0 h) : sv_fr sv_same h0 (fn_X14_touch_160 s0 h) := by
  unfold fn_X14_touch_160
  exact fr_rz hs
theorem fr_X14_touch_155 {h0 : sv_H} {h : sv_H} (hs : sv_same h0 h) : sv_fr sv_same h0 (fn_X14_touch_155 h) := by
  unfold fn_X14_touch_155
  exact fr_X14_touch_160 hs
theorem fr_X14_touch_104 {h0 : sv_H} {x0 : Nat} {x1 : Int32} {x2 : Int32} {x3 : Int32} {x4 : Int32} {x5 : Int32} {x6 : Int32} {x7 : Int32} {s0 : Int32} {h : sv_H} (hs : sv_same h0 h) : sv_fr sv_same h0 (fn_X14_touch_104 x0 x1 x2 x3 x4 x5 x6 x7 s0 h) := by
  unfold fn_X14_touch_104
  refine fr_if ?_ ?_
  · refine fr_if ?_ ?_
    · refine fr_cl (fun _ _ e => hs.trans (fr_X14_lies e)) (fun _ h hs => ?_)
      refine fr_if ?_ ?_
      · refine fr_cl (fun _ _ e => hs.trans (fr_X14_lies e)) (fun _ h hs => ?_)
        refine fr_if ?_ ?_
        · refine fr_cl (fun _ _ e => hs.trans (fr_X14_lies e)) (fun _ h hs => ?_)
          refine fr_if ?_ ?_
          · refine fr_cl (fun _ _ e => hs.trans (fr_X14_lies e)) (fun _ h hs => ?_)
            refine fr_if ?_ ?_
            · exact fr_X14_touch_160 hs
            · exact fr_X14_touch_155 hs
          · exact fr_X14_touch_155 hs
        · exact fr_X14_touch_155 hs
      · exact fr_X14_touch_155 hs
    · exact fr_X14_touch_155 hs
  · exact fr_X14_touch_155 hs
theorem fr_X14_touch_103 {h0 : sv_H} {x0 : Nat} {x1 : Int32} {x2 : Int32} {x3 : Int32} {x4 : Int32} {x5 : Int32} {x6 : Int32} {x7 : Int32} {h : sv_H} (hs : sv_same h0 h) : sv_fr sv_same h0 (fn_X14_touch_103 x0 x1 x2 x3 x4 x5 x6 x7 h) := by
  unfold fn_X14_touch_103
  exact fr_X14_touch_104 hs
theorem fr_X14_touch_62 {h0 : sv_H} {x0 : Nat} {x1 : Int32} {x2 : Int32} {x3 : Int32} {x4 : Int32} {x5 : Int32} {x6 : Int32} {s0 : Int32} {h : sv_H} (hs : sv_same h0 h) : sv_fr sv_same h0 (fn_X14_touch_62 x0 x1 x2 x3 x4 x5 x6 s0 h) := by
  unfold fn_X14_touch_62
  refine fr_cl (fun _ _ e => hs.trans (fr_X14_side e)) (fun _ h hs => ?_)
  refine fr_cl (fun _ _ e => hs.trans (fr_X14_side e)) (fun _ h hs => ?_)
  refine fr_if ?_ ?_
  · exact fr_X14_touch_103 hs
  · refine fr_cl (fun _ _ e => hs.trans (fr_X14_side e)) (fun _ h hs => ?_)
    refine fr_cl (fun _ _ e => hs.trans (fr_X14_side e)) (fun _ h hs => ?_)
    refine fr_if ?_ ?_
    · exact fr_X14_touch_103 hs
    · exact fr_X14_touch_104 hs
theorem fr_X14_touch_57 {h0 : sv_H} {x0 : Nat} {x1 : Int32} {x2 : Int32} {x3 : Int32} {x4 : Int32} {x5 : Int32} {x6 : Int32} {h : sv_H} (hs : sv_same h0 h) : sv_fr sv_same h0 (fn_X14_touch_57 x0 x1 x2 x3 x4 x5 x6 h) := by
  unfold fn_X14_touch_57
  exact fr_X14_touch_62 hs
theorem fr_X14_touch_61 {h0 : sv_H} {x0 : Nat} {x1 : Int32} {x2 : Int32} {x3 : Int32} {x4 : Int32} {x5 : Int32} {x6 : Int32} {h : sv_H} (hs : sv_same h0 h) : sv_fr sv_same h0 (fn_X14_touch_61 x0 x1 x2 x3 x4 x5 x6 h) := by
  unfold fn_X14_touch_61
  exact fr_X14_touch_62 hs
theorem fr_X14_touch_43 {h0 : sv_H} {x0 : Nat} {x1 : Int32} {x2 : Int32} {x3 : Int32} {x4 : Int32} {x5 : Int32} {x6 : Int32} {h : sv_H} (hs : sv_same h0 h) : sv_fr sv_same h0 (fn_X14_touch_43 x0 x1 x2 x3 x4 x5 x6 h) := by
  unfold fn_X14_touch_43
  refine fr_if ?_ ?_
  · exact fr_X14_touch_57 hs
  · refine fr_if ?_ ?_
    · exact fr_X14_touch_57 hs
    · exact fr_X14_touch_61 hs
theorem fr_X14_touch_0 {h0 : sv_H} {x0 : Nat} {x1 : Int32} {x2 : Int32} {h : sv_H} (hs : sv_same h0 h) : sv_fr sv_same h0 (fn_X14_touch x0 x1 x2 h) := by
  unfold fn_X14_touch
  refine fr_if ?_ fr_no
  refine fr_cl (fun _ _ e => hs.trans (fr_X14_vertexOf e)) (fun _ h hs => ?_)
  refine fr_cl (fun _ _ e => hs.trans (fr_X14_vertexOf e)) (fun _ h hs => ?_)
  refine fr_cl (fun _ _ e => hs.trans (fr_X14_vertexOf e)) (fun _ h hs => ?_)
  refine fr_cl (fun _ _ e => hs.trans (fr_X14_vertexOf e)) (fun _ h hs => ?_)
  refine fr_if ?_ ?_
  · exact fr_X14_touch_43 hs
  · refine fr_if ?_ ?_
    · exact fr_X14_touch_43 hs
    · exact fr_X14_touch_61 hs
theorem fr_X14_touch {x0 : Nat} {x1 : Int32} {x2 : Int32} {h : sv_H} {r : Int32} {hE : sv_H} (hw : fn_X14_touch x0 x1 x2 h = some (r, hE)) : sv_same h hE := fr_X14_touch_0 (sv_same.refl h) r hE hw

theorem fr_X14_readAll_403 {h0 : sv_H} {h : sv_H} (hs : sv_same h0 h) : sv_fr sv_same h0 (fn_X14_readAll_403 h) := by
  unfold fn_X14_readAll_403
  exact fr_rt hs
theorem fr_X14_readAll_397 {h0 : sv_H} {k317 : Nat → Int32 → Int32 → Int32 → sv_H → Option (Unit × sv_H)} (hk317 : ∀ {x0 : Nat} {x4 : Int32} {x5 : Int32} {x12 : Int32} {h : sv_H}, sv_same h0 h → sv_fr sv_same h0 (k317 x0 x4 x5 x12 h)) {x0 : Nat} {x4 : Int32} {x5 : Int32} {x12 : Int32} {h : sv_H} (hs : sv_same h0 h) : sv_fr sv_same h0 (fn_X14_readAll_397 k317 x0 x4 x5 x12 h) := by
  unfold fn_X14_readAll_397
  exact hk317 hs
theorem fr_X14_readAll_391 {h0 : sv_H} {k317 : Nat → Int32 → Int32 → Int32 → sv_H → Option (Unit × sv_H)} (hk317 : ∀ {x0 : Nat} {x4 : Int32} {x5 : Int32} {x12 : Int32} {h : sv_H}, sv_same h0 h → sv_fr sv_same h0 (k317 x0 x4 x5 x12 h)) {k334 : Nat → Int32 → Int32 → Int32 → Int32 → sv_H → Option (Unit × sv_H)} (hk334 : ∀ {x0 : Nat} {x4 : Int32} {x5 : Int32} {x12 : Int32} {x13 : Int32} {h : sv_H}, sv_same h0 h → sv_fr sv_same h0 (k334 x0 x4 x5 x12 x13 h)) {x0 : Nat} {x4 : Int32} {x5 : Int32} {x12 : Int32} {x13 : Int32} {h : sv_H} (hs : sv_same h0 h) : sv_fr sv_same h0 (fn_X14_readAll_391 k317 k334 x0 x4 x5 x12 x13 h) := by
  unfold fn_X14_readAll_391
  exact hk334 hs
theorem fr_X14_readAll_334b {h0 : sv_H} {k317 : Nat → Int32 → Int32 → Int32 → sv_H → Option (Unit × sv_H)} (hk317 : ∀ {x0 : Nat} {x4 : Int32} {x5 : Int32} {x12 : Int32} {h : sv_H}, sv_same h0 h → sv_fr sv_same h0 (k317 x0 x4 x5 x12 h)) {k334 : Nat → Int32 → Int32 → Int32 → Int32 → sv_H → Option (Unit × sv_H)} (hk334 : ∀ {x0 : Nat} {x4 : Int32} {x5 : Int32} {x12 : Int32} {x13 : Int32} {h : sv_H}, sv_same h0 h → sv_fr sv_same h0 (k334 x0 x4 x5 x12 x13 h)) {x0 : Nat} {x4 : Int32} {x5 : Int32} {x12 : Int32} {x13 : Int32} {h : sv_H} (hs : sv_same h0 h) : sv_fr sv_same h0 (fn_X14_readAll_334b k317 k334 x0 x4 x5 x12 x13 h) := by
  unfold fn_X14_readAll_334b
  refine fr_if ?_ ?_
  · exact fr_X14_readAll_397 hk317 hs
  · refine fr_bd (fun _ => ?_)
    refine fr_if ?_ ?_
    · refine fr_cl (fun _ _ e => hs.trans (fr_X14_touch e)) (fun _ h hs => ?_)
      refine fr_if ?_ ?_
      · exact fr_X14_readAll_391 hk317 hk334 hs
      · refine fr_cl (fun _ _ e => hs.trans (fr_X14_wrong e)) (fun _ h hs => ?_)
        refine fr_st (fun _ e => hs.trans (st_pI e)) (fun h hs => ?_)
        exact fr_X14_readAll_391 hk317 hk334 hs
    · exact fr_X14_readAll_397 hk317 hs
theorem fr_X14_readAll_334 {h0 : sv_H} {k317 : Nat → Int32 → Int32 → Int32 → sv_H → Option (Unit × sv_H)} (hk317 : ∀ {x0 : Nat} {x4 : Int32} {x5 : Int32} {x12 : Int32} {h : sv_H}, sv_same h0 h → sv_fr sv_same h0 (k317 x0 x4 x5 x12 h)) : ∀ (n : Nat) {x0 : Nat} {x4 : Int32} {x5 : Int32} {x12 : Int32} {x13 : Int32} {h : sv_H}, sv_same h0 h → sv_fr sv_same h0 (fn_X14_readAll_334 k317 n x0 x4 x5 x12 x13 h) := by
  intro n
  induction n with
  | zero => intro x0 x4 x5 x12 x13 h hs r hE e; cases (show (none : Option (Unit × sv_H)) = some (r, hE) from e)
  | succ n ih => intro x0 x4 x5 x12 x13 h hs; exact fr_X14_readAll_334b hk317 (fun hs => ih hs) hs
theorem fr_X14_readAll_317b {h0 : sv_H} {k317 : Nat → Int32 → Int32 → Int32 → sv_H → Option (Unit × sv_H)} (hk317 : ∀ {x0 : Nat} {x4 : Int32} {x5 : Int32} {x12 : Int32} {h : sv_H}, sv_same h0 h → sv_fr sv_same h0 (k317 x0 x4 x5 x12 h)) {x0 : Nat} {x4 : Int32} {x5 : Int32} {x12 : Int32} {h : sv_H} (hs : sv_same h0 h) : sv_fr sv_same h0 (fn_X14_readAll_317b k317 x0 x4 x5 x12 h) := by
  unfold fn_X14_readAll_317b
  refine fr_if ?_ ?_
  · exact fr_X14_readAll_403 hs
  · refine fr_bd (fun _ => ?_)
    refine fr_if ?_ ?_
    · exact fr_X14_readAll_334 hk317 sv_fuel hs
    · exact fr_X14_readAll_403 hs
theorem fr_X14_readAll_317 {h0 : sv_H} : ∀ (n : Nat) {x0 : Nat} {x4 : Int32} {x5 : Int32} {x12 : Int32} {h : sv_H}, sv_same h0 h → sv_fr sv_same h0 (fn_X14_readAll_317 n x0 x4 x5 x12 h) := by
  intro n
  induction n with
  | zero => intro x0 x4 x5 x12 h hs r hE e; cases (show (none : Option (Unit × sv_H)) = some (r, hE) from e)
  | succ n ih => intro x0 x4 x5 x12 h hs; exact fr_X14_readAll_317b (fun hs => ih hs) hs
theorem fr_X14_readAll_314 {h0 : sv_H} {x0 : Nat} {x4 : Int32} {x5 : Int32} {h : sv_H} (hs : sv_same h0 h) : sv_fr sv_same h0 (fn_X14_readAll_314 x0 x4 x5 h) := by
  unfold fn_X14_readAll_314
  exact fr_X14_readAll_317 sv_fuel hs
theorem fr_X14_readAll_220 {h0 : sv_H} {x0 : Nat} {x3 : Int32} {x4 : Int32} {x5 : Int32} {h : sv_H} (hs : sv_same h0 h) : sv_fr sv_same h0 (fn_X14_readAll_220 x0 x3 x4 x5 h) := by
  unfold fn_X14_readAll_220
  refine fr_cl (fun _ _ e => hs.trans (fr_X14_nextTwo e)) (fun _ h hs => ?_)
  refine fr_cl (fun _ _ e => hs.trans (fr_X14_nextTwo e)) (fun _ h hs => ?_)
  refine fr_cl (fun _ _ e => hs.trans (fr_X14_next e)) (fun _ h hs => ?_)
  refine fr_cl (fun _ _ e => hs.trans (fr_X14_next e)) (fun _ h hs => ?_)
  refine fr_bd (fun _ => ?_)
  refine fr_bd (fun _ => ?_)
  refine fr_cl (fun _ _ e => hs.trans (fr_X14_readCheck e)) (fun _ h hs => ?_)
  refine fr_cl (fun _ _ e => hs.trans (fr_X14_readCheck e)) (fun _ h hs => ?_)
  refine fr_bd (fun _ => ?_)
  refine fr_if ?_ ?_
  · refine fr_bd (fun _ => ?_)
    refine fr_bd (fun _ => ?_)
    refine fr_if ?_ ?_
    · exact fr_X14_readAll_314 hs
    · refine fr_bd (fun _ => ?_)
      refine fr_cl (fun _ _ e => hs.trans (fr_X14_wrong e)) (fun _ h hs => ?_)
      exact fr_X14_readAll_314 hs
  · exact fr_X14_readAll_314 hs
theorem fr_X14_readAll_193b {h0 : sv_H} {k193 : Nat → Int32 → Int32 → Int32 → Int32 → Int32 → Int32 → sv_H → Option (Unit × sv_H)} (hk193 : ∀ {x0 : Nat} {x1 : Int32} {x2 : Int32} {x3 : Int32} {x4 : Int32} {x5 : Int32} {x6 : Int32} {h : sv_H}, sv_same h0 h → sv_fr sv_same h0 (k193 x0 x1 x2 x3 x4 x5 x6 h)) {x0 : Nat} {x1 : Int32} {x2 : Int32} {x3 : Int32} {x4 : Int32} {x5 : Int32} {x6 : Int32} {h : sv_H} (hs : sv_same h0 h) : sv_fr sv_same h0 (fn_X14_readAll_193b k193 x0 x1 x2 x3 x4 x5 x6 h) := by
  unfold fn_X14_readAll_193b
  refine fr_if ?_ ?_
  · exact fr_X14_readAll_220 hs
  · refine fr_bd (fun _ => ?_)
    refine fr_if ?_ ?_
    · refine fr_cl (fun _ _ e => hs.trans (fr_X14_readWall e)) (fun _ h hs => ?_)
      exact hk193 hs
    · exact fr_X14_readAll_220 hs
theorem fr_X14_readAll_193 {h0 : sv_H} : ∀ (n : Nat) {x0 : Nat} {x1 : Int32} {x2 : Int32} {x3 : Int32} {x4 : Int32} {x5 : Int32} {x6 : Int32} {h : sv_H}, sv_same h0 h → sv_fr sv_same h0 (fn_X14_readAll_193 n x0 x1 x2 x3 x4 x5 x6 h) := by
  intro n
  induction n with
  | zero => intro x0 x1 x2 x3 x4 x5 x6 h hs r hE e; cases (show (none : Option (Unit × sv_H)) = some (r, hE) from e)
  | succ n ih => intro x0 x1 x2 x3 x4 x5 x6 h hs; exact fr_X14_readAll_193b (fun hs => ih hs) hs
theorem fr_X14_readAll_184 {h0 : sv_H} {x0 : Nat} {x1 : Int32} {x2 : Int32} {x3 : Int32} {x4 : Int32} {h : sv_H} (hs : sv_same h0 h) : sv_fr sv_same h0 (fn_X14_readAll_184 x0 x1 x2 x3 x4 h) := by
  unfold fn_X14_readAll_184
  refine fr_bd (fun _ => ?_)
  exact fr_X14_readAll_193 sv_fuel hs
theorem fr_X14_readAll_160b {h0 : sv_H} {k160 : Nat → Int32 → Int32 → Int32 → Int32 → Int32 → sv_H → Option (Unit × sv_H)} (hk160 : ∀ {x0 : Nat} {x1 : Int32} {x2 : Int32} {x3 : Int32} {x4 : Int32} {x5 : Int32} {h : sv_H}, sv_same h0 h → sv_fr sv_same h0 (k160 x0 x1 x2 x3 x4 x5 h)) {x0 : Nat} {x1 : Int32} {x2 : Int32} {x3 : Int32} {x4 : Int32} {x5 : Int32} {h : sv_H} (hs : sv_same h0 h) : sv_fr sv_same h0 (fn_X14_readAll_160b k160 x0 x1 x2 x3 x4 x5 h) := by
  unfold fn_X14_readAll_160b
  refine fr_if ?_ ?_
  · exact fr_X14_readAll_184 hs
  · refine fr_bd (fun _ => ?_)
    refine fr_if ?_ ?_
    · refine fr_cl (fun _ _ e => hs.trans (fr_X14_readSector e)) (fun _ h hs => ?_)
      exact hk160 hs
    · exact fr_X14_readAll_184 hs
theorem fr_X14_readAll_160 {h0 : sv_H} : ∀ (n : Nat) {x0 : Nat} {x1 : Int32} {x2 : Int32} {x3 : Int32} {x4 : Int32} {x5 : Int32} {h : sv_H}, sv_same h0 h → sv_fr sv_same h0 (fn_X14_readAll_160 n x0 x1 x2 x3 x4 x5 h) := by
  intro n
  induction n with
  | zero => intro x0 x1 x2 x3 x4 x5 h hs r hE e; cases (show (none : Option (Unit × sv_H)) = some (r, hE) from e)
  | succ n ih => intro x0 x1 x2 x3 x4 x5 h hs; exact fr_X14_readAll_160b (fun hs => ih hs) hs
theorem fr_X14_readAll_157 {h0 : sv_H} {x0 : Nat} {x1 : Int32} {x2 : Int32} {x3 : Int32} {x4 : Int32} {h : sv_H} (hs : sv_same h0 h) : sv_fr sv_same h0 (fn_X14_readAll_157 x0 x1 x2 x3 x4 h) := by
  unfold fn_X14_readAll_157
  exact fr_X14_readAll_160 sv_fuel hs
theorem fr_X14_readAll_134b {h0 : sv_H} {k134 : Nat → Int32 → Int32 → Int32 → Int32 → Int32 → sv_H → Option (Unit × sv_H)} (hk134 : ∀ {x0 : Nat} {x1 : Int32} {x2 : Int32} {x3 : Int32} {x4 : Int32} {x5 : Int32} {h : sv_H}, sv_same h0 h → sv_fr sv_same h0 (k134 x0 x1 x2 x3 x4 x5 h)) {x0 : Nat} {x1 : Int32} {x2 : Int32} {x3 : Int32} {x4 : Int32} {x5 : Int32} {h : sv_H} (hs : sv_same h0 h) : sv_fr sv_same h0 (fn_X14_readAll_134b k134 x0 x1 x2 x3 x4 x5 h) := by
  unfold fn_X14_readAll_134b
  refine fr_if ?_ ?_
  · exact fr_X14_readAll_157 hs
  · refine fr_bd (fun _ => ?_)
    refine fr_if ?_ ?_
    · refine fr_cl (fun _ _ e => hs.trans (fr_X14_readTexture e)) (fun _ h hs => ?_)
      exact hk134 hs
    · exact fr_X14_readAll_157 hs
theorem fr_X14_readAll_134 {h0 : sv_H} : ∀ (n : Nat) {x0 : Nat} {x1 : Int32} {x2 : Int32} {x3 : Int32} {x4 : Int32} {x5 : Int32} {h : sv_H}, sv_same h0 h → sv_fr sv_same h0 (fn_X14_readAll_134 n x0 x1 x2 x3 x4 x5 h) := by
  intro n
  induction n with
  | zero => intro x0 x1 x2 x3 x4 x5 h hs r hE e; cases (show (none : Option (Unit × sv_H)) = some (r, hE) from e)
  | succ n ih => intro x0 x1 x2 x3 x4 x5 h hs; exact fr_X14_readAll_134b (fun hs => ih hs) hs
theorem fr_X14_readAll_131 {h0 : sv_H} {x0 : Nat} {x1 : Int32} {x2 : Int32} {x3 : Int32} {x4 : Int32} {h : sv_H} (hs : sv_same h0 h) : sv_fr sv_same h0 (fn_X14_readAll_131 x0 x1 x2 x3 x4 h) := by
  unfold fn_X14_readAll_131
  exact fr_X14_readAll_134 sv_fuel hs
theorem fr_X14_readAll_106b {h0 : sv_H} {k106 : Nat → Int32 → Int32 → Int32 → Int32 → Int32 → sv_H → Option (Unit × sv_H)} (hk106 : ∀ {x0 : Nat} {x1 : Int32} {x2 : Int32} {x3 : Int32} {x4 : Int32} {x5 : Int32} {h : sv_H}, sv_same h0 h → sv_fr sv_same h0 (k106 x0 x1 x2 x3 x4 x5 h)) {x0 : Nat} {x1 : Int32} {x2 : Int32} {x3 : Int32} {x4 : Int32} {x5 : Int32} {h : sv_H} (hs : sv_same h0 h) : sv_fr sv_same h0 (fn_X14_readAll_106b k106 x0 x1 x2 x3 x4 x5 h) := by
  unfold fn_X14_readAll_106b
  refine fr_if ?_ ?_
  · exact fr_X14_readAll_131 hs
  · refine fr_bd (fun _ => ?_)
    refine fr_if ?_ ?_
    · refine fr_cl (fun _ _ e => hs.trans (fr_X14_readVertex e)) (fun _ h hs => ?_)
      exact hk106 hs
    · exact fr_X14_readAll_131 hs
theorem fr_X14_readAll_106 {h0 : sv_H} : ∀ (n : Nat) {x0 : Nat} {x1 : Int32} {x2 : Int32} {x3 : Int32} {x4 : Int32} {x5 : Int32} {h : sv_H}, sv_same h0 h → sv_fr sv_same h0 (fn_X14_readAll_106 n x0 x1 x2 x3 x4 x5 h) := by
  intro n
  induction n with
  | zero => intro x0 x1 x2 x3 x4 x5 h hs r hE e; cases (show (none : Option (Unit × sv_H)) = some (r, hE) from e)
  | succ n ih => intro x0 x1 x2 x3 x4 x5 h hs; exact fr_X14_readAll_106b (fun hs => ih hs) hs
theorem fr_X14_readAll_68 {h0 : sv_H} {x0 : Nat} {h : sv_H} (hs : sv_same h0 h) : sv_fr sv_same h0 (fn_X14_readAll_68 x0 h) := by
  unfold fn_X14_readAll_68
  refine fr_cl (fun _ _ e => hs.trans (fr_X14_next e)) (fun _ h hs => ?_)
  refine fr_cl (fun _ _ e => hs.trans (fr_X14_next e)) (fun _ h hs => ?_)
  refine fr_cl (fun _ _ e => hs.trans (fr_X14_next e)) (fun _ h hs => ?_)
  refine fr_cl (fun _ _ e => hs.trans (fr_X14_next e)) (fun _ h hs => ?_)
  exact fr_X14_readAll_106 sv_fuel hs
theorem fr_X14_readAll_62 {h0 : sv_H} {k2 : Nat → Int32 → sv_H → Option (Unit × sv_H)} (hk2 : ∀ {x0 : Nat} {x1 : Int32} {h : sv_H}, sv_same h0 h → sv_fr sv_same h0 (k2 x0 x1 h)) {x0 : Nat} {x1 : Int32} {h : sv_H} (hs : sv_same h0 h) : sv_fr sv_same h0 (fn_X14_readAll_62 k2 x0 x1 h) := by
  unfold fn_X14_readAll_62
  exact hk2 hs
theorem fr_X14_readAll_34 {h0 : sv_H} {k2 : Nat → Int32 → sv_H → Option (Unit × sv_H)} (hk2 : ∀ {x0 : Nat} {x1 : Int32} {h : sv_H}, sv_same h0 h → sv_fr sv_same h0 (k2 x0 x1 h)) {x0 : Nat} {x1 : Int32} {s0 : Int32} {h : sv_H} (hs : sv_same h0 h) : sv_fr sv_same h0 (fn_X14_readAll_34 k2 x0 x1 s0 h) := by
  unfold fn_X14_readAll_34
  refine fr_cl (fun _ _ e => hs.trans (fr_X14_next e)) (fun _ h hs => ?_)
  refine fr_bd (fun _ => ?_)
  refine fr_if ?_ ?_
  · refine fr_if ?_ ?_
    · exact fr_X14_readAll_62 hk2 hs
    · refine fr_cl (fun _ _ e => hs.trans (fr_X14_wrong e)) (fun _ h hs => ?_)
      exact fr_X14_readAll_62 hk2 hs
  · exact fr_X14_readAll_62 hk2 hs
theorem fr_X14_readAll_2b {h0 : sv_H} {k2 : Nat → Int32 → sv_H → Option (Unit × sv_H)} (hk2 : ∀ {x0 : Nat} {x1 : Int32} {h : sv_H}, sv_same h0 h → sv_fr sv_same h0 (k2 x0 x1 h)) {x0 : Nat} {x1 : Int32} {h : sv_H} (hs : sv_same h0 h) : sv_fr sv_same h0 (fn_X14_readAll_2b k2 x0 x1 h) := by
  unfold fn_X14_readAll_2b
  refine fr_if ?_ ?_
  · exact fr_X14_readAll_68 hs
  · refine fr_bd (fun _ => ?_)
    refine fr_if ?_ ?_
    · refine fr_if ?_ ?_
      · exact fr_X14_readAll_34 hk2 hs
      · refine fr_if ?_ ?_
        · exact fr_X14_readAll_34 hk2 hs
        · exact fr_X14_readAll_34 hk2 hs
    · exact fr_X14_readAll_68 hs
theorem fr_X14_readAll_2 {h0 : sv_H} : ∀ (n : Nat) {x0 : Nat} {x1 : Int32} {h : sv_H}, sv_same h0 h → sv_fr sv_same h0 (fn_X14_readAll_2 n x0 x1 h) := by
  intro n
  induction n with
  | zero => intro x0 x1 h hs r hE e; cases (show (none : Option (Unit × sv_H)) = some (r, hE) from e)
  | succ n ih => intro x0 x1 h hs; exact fr_X14_readAll_2b (fun hs => ih hs) hs
theorem fr_X14_readAll_0 {h0 : sv_H} {x0 : Nat} {h : sv_H} (hs : sv_same h0 h) : sv_fr sv_same h0 (fn_X14_readAll x0 h) := by
  unfold fn_X14_readAll
  refine fr_if ?_ fr_no
  exact fr_X14_readAll_2 sv_fuel hs
theorem fr_X14_readAll {x0 : Nat} {h : sv_H} {r : Unit} {hE : sv_H} (hw : fn_X14_readAll x0 h = some (r, hE)) : sv_same h hE := fr_X14_readAll_0 (sv_same.refl h) r hE hw

theorem fr_X14_read_77 {h0 : sv_H} {x0 : Nat} {h : sv_H} (hs : sv_same h0 h) : sv_fr sv_same h0 (fn_X14_read_77 x0 h) := by
  unfold fn_X14_read_77
  refine fr_bd (fun _ => ?_)
  exact fr_rt hs
theorem fr_X14_read_43b {h0 : sv_H} {k43 : Nat → Int32 → sv_H → Option (Int32 × sv_H)} (hk43 : ∀ {x0 : Nat} {x1 : Int32} {h : sv_H}, sv_same h0 h → sv_fr sv_same h0 (k43 x0 x1 h)) {x0 : Nat} {x1 : Int32} {h : sv_H} (hs : sv_same h0 h) : sv_fr sv_same h0 (fn_X14_read_43b k43 x0 x1 h) := by
  unfold fn_X14_read_43b
  refine fr_bd (fun _ => ?_)
  refine fr_if ?_ ?_
  · refine fr_bd (fun _ => ?_)
    refine fr_st (fun _ e => hs.trans (st_pI e)) (fun h hs => ?_)
    exact fr_X14_read_77 hs
  · refine fr_bd (fun _ => ?_)
    refine fr_bd (fun _ => ?_)
    refine fr_bd (fun _ => ?_)
    refine fr_st (fun _ e => hs.trans (st_sB e)) (fun h hs => ?_)
    exact hk43 hs
theorem fr_X14_read_43 {h0 : sv_H} : ∀ (n : Nat) {x0 : Nat} {x1 : Int32} {h : sv_H}, sv_same h0 h → sv_fr sv_same h0 (fn_X14_read_43 n x0 x1 h) := by
  intro n
  induction n with
  | zero => intro x0 x1 h hs r hE e; cases (show (none : Option (Int32 × sv_H)) = some (r, hE) from e)
  | succ n ih => intro x0 x1 h hs; exact fr_X14_read_43b (fun hs => ih hs) hs
theorem fr_X14_read_0 {h0 : sv_H} {x0 : Nat} {h : sv_H} (hs : sv_same h0 h) : sv_fr sv_same h0 (fn_X14_read x0 h) := by
  unfold fn_X14_read
  refine fr_if ?_ fr_no
  refine fr_st (fun _ e => hs.trans (st_pI e)) (fun h hs => ?_)
  refine fr_st (fun _ e => hs.trans (st_pI e)) (fun h hs => ?_)
  refine fr_st (fun _ e => hs.trans (st_pI e)) (fun h hs => ?_)
  refine fr_st (fun _ e => hs.trans (st_pI e)) (fun h hs => ?_)
  refine fr_st (fun _ e => hs.trans (st_pI e)) (fun h hs => ?_)
  refine fr_st (fun _ e => hs.trans (st_pI e)) (fun h hs => ?_)
  refine fr_cl (fun _ _ e => hs.trans (fr_X14_readAll e)) (fun _ h hs => ?_)
  refine fr_bd (fun _ => ?_)
  refine fr_if ?_ ?_
  · exact fr_X14_read_43 sv_fuel hs
  · exact fr_X14_read_77 hs
theorem fr_X14_read {x0 : Nat} {h : sv_H} {r : Int32} {hE : sv_H} (hw : fn_X14_read x0 h = some (r, hE)) : sv_same h hE := fr_X14_read_0 (sv_same.refl h) r hE hw

theorem fr_X13_reset_2b {h0 : sv_H} {k2 : Nat → Int32 → sv_H → Option (Unit × sv_H)} (hk2 : ∀ {x0 : Nat} {x1 : Int32} {h : sv_H}, sv_same h0 h → sv_fr sv_same h0 (k2 x0 x1 h)) {x0 : Nat} {x1 : Int32} {h : sv_H} (hs : sv_same h0 h) : sv_fr sv_same h0 (fn_X13_reset_2b k2 x0 x1 h) := by
  unfold fn_X13_reset_2b
  refine fr_bd (fun _ => ?_)
  refine fr_if ?_ ?_
  · refine fr_st (fun _ e => hs.trans (st_pI e)) (fun h hs => ?_)
    refine fr_st (fun _ e => hs.trans (st_pI e)) (fun h hs => ?_)
    refine fr_st (fun _ e => hs.trans (st_pI e)) (fun h hs => ?_)
    exact fr_rt hs
  · refine fr_bd (fun _ => ?_)
    refine fr_bd (fun _ => ?_)
    refine fr_bd (fun _ => ?_)
    refine fr_st (fun _ e => hs.trans (st_sI e)) (fun h hs => ?_)
    refine fr_bd (fun _ => ?_)
    refine fr_bd (fun _ => ?_)
    refine fr_bd (fun _ => ?_)
    refine fr_st (fun _ e => hs.trans (st_sI e)) (fun h hs => ?_)
    refine fr_bd (fun _ => ?_)
    refine fr_st (fun _ e => hs.trans (st_sI e)) (fun h hs => ?_)
    refine fr_bd (fun _ => ?_)
    refine fr_st (fun _ e => hs.trans (st_sI e)) (fun h hs => ?_)
    refine fr_bd (fun _ => ?_)
    refine fr_st (fun _ e => hs.trans (st_sI e)) (fun h hs => ?_)
    refine fr_bd (fun _ => ?_)
    refine fr_st (fun _ e => hs.trans (st_sI e)) (fun h hs => ?_)
    exact hk2 hs
theorem fr_X13_reset_2 {h0 : sv_H} : ∀ (n : Nat) {x0 : Nat} {x1 : Int32} {h : sv_H}, sv_same h0 h → sv_fr sv_same h0 (fn_X13_reset_2 n x0 x1 h) := by
  intro n
  induction n with
  | zero => intro x0 x1 h hs r hE e; cases (show (none : Option (Unit × sv_H)) = some (r, hE) from e)
  | succ n ih => intro x0 x1 h hs; exact fr_X13_reset_2b (fun hs => ih hs) hs
theorem fr_X13_reset_0 {h0 : sv_H} {x0 : Nat} {h : sv_H} (hs : sv_same h0 h) : sv_fr sv_same h0 (fn_X13_reset x0 h) := by
  unfold fn_X13_reset
  refine fr_if ?_ fr_no
  exact fr_X13_reset_2 sv_fuel hs
theorem fr_X13_reset {x0 : Nat} {h : sv_H} {r : Unit} {hE : sv_H} (hw : fn_X13_reset x0 h = some (r, hE)) : sv_same h hE := fr_X13_reset_0 (sv_same.refl h) r hE hw

theorem fr_X13_clear_12b {h0 : sv_H} {k12 : Nat → Int32 → sv_H → Option (Unit × sv_H)} (hk12 : ∀ {x0 : Nat} {x1 : Int32} {h : sv_H}, sv_same h0 h → sv_fr sv_same h0 (k12 x0 x1 h)) {x0 : Nat} {x1 : Int32} {h : sv_H} (hs : sv_same h0 h) : sv_fr sv_same h0 (fn_X13_clear_12b k12 x0 x1 h) := by
  unfold fn_X13_clear_12b
  refine fr_if ?_ ?_
  · refine fr_cl (fun _ _ e => hs.trans (fr_X13_reset e)) (fun _ h hs => ?_)
    exact fr_rt hs
  · refine fr_bd (fun _ => ?_)
    refine fr_st (fun _ e => hs.trans (st_sZ e)) (fun h hs => ?_)
    exact hk12 hs
theorem fr_X13_clear_12 {h0 : sv_H} : ∀ (n : Nat) {x0 : Nat} {x1 : Int32} {h : sv_H}, sv_same h0 h → sv_fr sv_same h0 (fn_X13_clear_12 n x0 x1 h) := by
  intro n
  induction n with
  | zero => intro x0 x1 h hs r hE e; cases (show (none : Option (Unit × sv_H)) = some (r, hE) from e)
  | succ n ih => intro x0 x1 h hs; exact fr_X13_clear_12b (fun hs => ih hs) hs
theorem fr_X13_clear_0 {h0 : sv_H} {x0 : Nat} {h : sv_H} (hs : sv_same h0 h) : sv_fr sv_same h0 (fn_X13_clear x0 h) := by
  unfold fn_X13_clear
  refine fr_if ?_ fr_no
  refine fr_st (fun _ e => hs.trans (st_pI e)) (fun h hs => ?_)
  refine fr_st (fun _ e => hs.trans (st_pI e)) (fun h hs => ?_)
  exact fr_X13_clear_12 sv_fuel hs
theorem fr_X13_clear {x0 : Nat} {h : sv_H} {r : Unit} {hE : sv_H} (hw : fn_X13_clear x0 h = some (r, hE)) : sv_same h hE := fr_X13_clear_0 (sv_same.refl h) r hE hw

theorem fr_X14_many_21 {h0 : sv_H} {s0 : Int32} {h : sv_H} (hs : sv_same h0 h) : sv_fr sv_same h0 (fn_X14_many_21 s0 h) := by
  unfold fn_X14_many_21
  exact fr_rt hs
theorem fr_X14_many_0 {h0 : sv_H} {x0 : Nat} {x1 : Int32} {h : sv_H} (hs : sv_same h0 h) : sv_fr sv_same h0 (fn_X14_many x0 x1 h) := by
  unfold fn_X14_many
  refine fr_if ?_ fr_no
  refine fr_bd (fun _ => ?_)
  refine fr_if ?_ ?_
  · exact fr_X14_many_21 hs
  · refine fr_bd (fun _ => ?_)
    refine fr_bd (fun _ => ?_)
    exact fr_X14_many_21 hs
theorem fr_X14_many {x0 : Nat} {x1 : Int32} {h : sv_H} {r : Int32} {hE : sv_H} (hw : fn_X14_many x0 x1 h = some (r, hE)) : sv_same h hE := fr_X14_many_0 (sv_same.refl h) r hE hw

theorem fr_X17_sectors_19 {h0 : sv_H} {s0 : Int32} {h : sv_H} (hs : sv_same h0 h) : sv_fr sv_same h0 (fn_X17_sectors_19 s0 h) := by
  unfold fn_X17_sectors_19
  exact fr_rt hs
theorem fr_X17_sectors_0 {h0 : sv_H} {x0 : Nat} {h : sv_H} (hs : sv_same h0 h) : sv_fr sv_same h0 (fn_X17_sectors x0 h) := by
  unfold fn_X17_sectors
  refine fr_if ?_ fr_no
  refine fr_bd (fun _ => ?_)
  refine fr_if ?_ ?_
  · exact fr_X17_sectors_19 hs
  · refine fr_bd (fun _ => ?_)
    refine fr_cl (fun _ _ e => hs.trans (fr_X14_many e)) (fun _ h hs => ?_)
    exact fr_X17_sectors_19 hs
theorem fr_X17_sectors {x0 : Nat} {h : sv_H} {r : Int32} {hE : sv_H} (hw : fn_X17_sectors x0 h = some (r, hE)) : sv_same h hE := fr_X17_sectors_0 (sv_same.refl h) r hE hw

theorem fr_X14_has_18 {h0 : sv_H} {s0 : Int32} {h : sv_H} (hs : sv_same h0 h) : sv_fr sv_same h0 (fn_X14_has_18 s0 h) := by
  unfold fn_X14_has_18
  exact fr_rz hs
theorem fr_X14_has_17 {h0 : sv_H} {h : sv_H} (hs : sv_same h0 h) : sv_fr sv_same h0 (fn_X14_has_17 h) := by
  unfold fn_X14_has_17
  exact fr_X14_has_18 hs
theorem fr_X14_has_0 {h0 : sv_H} {x0 : Nat} {x1 : Int32} {x2 : Int32} {h : sv_H} (hs : sv_same h0 h) : sv_fr sv_same h0 (fn_X14_has x0 x1 x2 h) := by
  unfold fn_X14_has
  refine fr_if ?_ fr_no
  refine fr_if ?_ ?_
  · exact fr_X14_has_17 hs
  · refine fr_cl (fun _ _ e => hs.trans (fr_X14_many e)) (fun _ h hs => ?_)
    refine fr_if ?_ ?_
    · exact fr_X14_has_17 hs
    · exact fr_X14_has_18 hs
theorem fr_X14_has {x0 : Nat} {x1 : Int32} {x2 : Int32} {h : sv_H} {r : Int32} {hE : sv_H} (hw : fn_X14_has x0 x1 x2 h = some (r, hE)) : sv_same h hE := fr_X14_has_0 (sv_same.refl h) r hE hw

theorem fr_X14_textureAt_13b {h0 : sv_H} {k13 : Nat → Int32 → Int32 → Int32 → sv_H → Option (Int32 × sv_H)} (hk13 : ∀ {x0 : Nat} {x1 : Int32} {x2 : Int32} {x3 : Int32} {h : sv_H}, sv_same h0 h → sv_fr sv_same h0 (k13 x0 x1 x2 x3 h)) {x0 : Nat} {x1 : Int32} {x2 : Int32} {x3 : Int32} {h : sv_H} (hs : sv_same h0 h) : sv_fr sv_same h0 (fn_X14_textureAt_13b k13 x0 x1 x2 x3 h) := by
  unfold fn_X14_textureAt_13b
  refine fr_if ?_ ?_
  · exact fr_rt hs
  · refine fr_bd (fun _ => ?_)
    refine fr_bd (fun _ => ?_)
    refine fr_bd (fun _ => ?_)
    refine fr_bd (fun _ => ?_)
    exact hk13 hs
theorem fr_X14_textureAt_13 {h0 : sv_H} : ∀ (n : Nat) {x0 : Nat} {x1 : Int32} {x2 : Int32} {x3 : Int32} {h : sv_H}, sv_same h0 h → sv_fr sv_same h0 (fn_X14_textureAt_13 n x0 x1 x2 x3 h) := by
  intro n
  induction n with
  | zero => intro x0 x1 x2 x3 h hs r hE e; cases (show (none : Option (Int32 × sv_H)) = some (r, hE) from e)
  | succ n ih => intro x0 x1 x2 x3 h hs; exact fr_X14_textureAt_13b (fun hs => ih hs) hs
theorem fr_X14_textureAt_0 {h0 : sv_H} {x0 : Nat} {x1 : Int32} {h : sv_H} (hs : sv_same h0 h) : sv_fr sv_same h0 (fn_X14_textureAt x0 x1 h) := by
  unfold fn_X14_textureAt
  refine fr_if ?_ fr_no
  refine fr_cl (fun _ _ e => hs.trans (fr_X14_many e)) (fun _ h hs => ?_)
  exact fr_X14_textureAt_13 sv_fuel hs
theorem fr_X14_textureAt {x0 : Nat} {x1 : Int32} {h : sv_H} {r : Int32} {hE : sv_H} (hw : fn_X14_textureAt x0 x1 h = some (r, hE)) : sv_same h hE := fr_X14_textureAt_0 (sv_same.refl h) r hE hw

theorem fr_X14_sectorAt_0 {h0 : sv_H} {x0 : Nat} {x1 : Int32} {h : sv_H} (hs : sv_same h0 h) : sv_fr sv_same h0 (fn_X14_sectorAt x0 x1 h) := by
  unfold fn_X14_sectorAt
  refine fr_if ?_ fr_no
  refine fr_cl (fun _ _ e => hs.trans (fr_X14_many e)) (fun _ h hs => ?_)
  refine fr_cl (fun _ _ e => hs.trans (fr_X14_textureAt e)) (fun _ h hs => ?_)
  exact fr_rt hs
theorem fr_X14_sectorAt {x0 : Nat} {x1 : Int32} {h : sv_H} {r : Int32} {hE : sv_H} (hw : fn_X14_sectorAt x0 x1 h = some (r, hE)) : sv_same h hE := fr_X14_sectorAt_0 (sv_same.refl h) r hE hw

theorem fr_X14_sector_19 {h0 : sv_H} {h : sv_H} (hs : sv_same h0 h) : sv_fr sv_same h0 (fn_X14_sector_19 h) := by
  unfold fn_X14_sector_19
  exact fr_rt hs
theorem fr_X14_sector_62 {h0 : sv_H} {s0 : Int32} {h : sv_H} (hs : sv_same h0 h) : sv_fr sv_same h0 (fn_X14_sector_62 s0 h) := by
  unfold fn_X14_sector_62
  exact fr_rt hs
theorem fr_X14_sector_0 {h0 : sv_H} {x0 : Nat} {x1 : Int32} {x2 : Int32} {h : sv_H} (hs : sv_same h0 h) : sv_fr sv_same h0 (fn_X14_sector x0 x1 x2 h) := by
  unfold fn_X14_sector
  refine fr_if ?_ fr_no
  refine fr_cl (fun _ _ e => hs.trans (fr_X14_has e)) (fun _ h hs => ?_)
  refine fr_if ?_ ?_
  · exact fr_X14_sector_19 hs
  · refine fr_if ?_ ?_
    · exact fr_X14_sector_19 hs
    · refine fr_if ?_ ?_
      · refine fr_cl (fun _ _ e => hs.trans (fr_X14_sectorAt e)) (fun _ h hs => ?_)
        refine fr_if ?_ ?_
        · refine fr_bd (fun _ => ?_)
          refine fr_bd (fun _ => ?_)
          exact fr_X14_sector_62 hs
        · refine fr_bd (fun _ => ?_)
          refine fr_cl (fun _ _ e => hs.trans (fr_X14_pair e)) (fun _ h hs => ?_)
          exact fr_X14_sector_62 hs
      · exact fr_X14_sector_19 hs
theorem fr_X14_sector {x0 : Nat} {x1 : Int32} {x2 : Int32} {h : sv_H} {r : Int32} {hE : sv_H} (hw : fn_X14_sector x0 x1 x2 h = some (r, hE)) : sv_same h hE := fr_X14_sector_0 (sv_same.refl h) r hE hw

theorem fr_X13_sector_67 {h0 : sv_H} {x0 : Nat} {x1 : Int32} {x2 : Int32} {x3 : Int32} {x4 : Int32} {x5 : Int32} {s0 : Int32} {h : sv_H} (hs : sv_same h0 h) : sv_fr sv_same h0 (fn_X13_sector_67 x0 x1 x2 x3 x4 x5 s0 h) := by
  unfold fn_X13_sector_67
  refine fr_if ?_ ?_
  · exact fr_rt hs
  · refine fr_bd (fun _ => ?_)
    refine fr_bd (fun _ => ?_)
    refine fr_st (fun _ e => hs.trans (st_sI e)) (fun h hs => ?_)
    refine fr_bd (fun _ => ?_)
    refine fr_bd (fun _ => ?_)
    refine fr_st (fun _ e => hs.trans (st_sI e)) (fun h hs => ?_)
    refine fr_bd (fun _ => ?_)
    refine fr_bd (fun _ => ?_)
    refine fr_st (fun _ e => hs.trans (st_sI e)) (fun h hs => ?_)
    refine fr_bd (fun _ => ?_)
    refine fr_bd (fun _ => ?_)
    refine fr_st (fun _ e => hs.trans (st_sI e)) (fun h hs => ?_)
    refine fr_bd (fun _ => ?_)
    refine fr_bd (fun _ => ?_)
    refine fr_st (fun _ e => hs.trans (st_sI e)) (fun h hs => ?_)
    refine fr_bd (fun _ => ?_)
    refine fr_st (fun _ e => hs.trans (st_pI e)) (fun h hs => ?_)
    refine fr_cl (fun _ _ e => hs.trans (fr_X13_reset e)) (fun _ h hs => ?_)
    refine fr_bd (fun _ => ?_)
    exact fr_rt hs
theorem fr_X13_sector_66 {h0 : sv_H} {x0 : Nat} {x1 : Int32} {x2 : Int32} {x3 : Int32} {x4 : Int32} {x5 : Int32} {h : sv_H} (hs : sv_same h0 h) : sv_fr sv_same h0 (fn_X13_sector_66 x0 x1 x2 x3 x4 x5 h) := by
  unfold fn_X13_sector_66
  exact fr_X13_sector_67 hs
theorem fr_X13_sector_0 {h0 : sv_H} {x0 : Nat} {x1 : Int32} {x2 : Int32} {x3 : Int32} {x4 : Int32} {x5 : Int32} {h : sv_H} (hs : sv_same h0 h) : sv_fr sv_same h0 (fn_X13_sector x0 x1 x2 x3 x4 x5 h) := by
  unfold fn_X13_sector
  refine fr_if ?_ fr_no
  refine fr_if ?_ ?_
  · exact fr_X13_sector_66 hs
  · refine fr_if ?_ ?_
    · exact fr_X13_sector_66 hs
    · refine fr_if ?_ ?_
      · exact fr_X13_sector_66 hs
      · refine fr_if ?_ ?_
        · exact fr_X13_sector_66 hs
        · refine fr_if ?_ ?_
          · exact fr_X13_sector_66 hs
          · refine fr_if ?_ ?_
            · exact fr_X13_sector_66 hs
            · refine fr_if ?_ ?_
              · exact fr_X13_sector_66 hs
              · refine fr_if ?_ ?_
                · exact fr_X13_sector_66 hs
                · refine fr_if ?_ ?_
                  · exact fr_X13_sector_66 hs
                  · refine fr_bd (fun _ => ?_)
                    refine fr_if ?_ ?_
                    · exact fr_X13_sector_66 hs
                    · exact fr_X13_sector_67 hs
theorem fr_X13_sector {x0 : Nat} {x1 : Int32} {x2 : Int32} {x3 : Int32} {x4 : Int32} {x5 : Int32} {h : sv_H} {r : Int32} {hE : sv_H} (hw : fn_X13_sector x0 x1 x2 x3 x4 x5 h = some (r, hE)) : sv_same h hE := fr_X13_sector_0 (sv_same.refl h) r hE hw

theorem fr_X17_walls_0 {h0 : sv_H} {x0 : Nat} {h : sv_H} (hs : sv_same h0 h) : sv_fr sv_same h0 (fn_X17_walls x0 h) := by
  unfold fn_X17_walls
  refine fr_if ?_ fr_no
  refine fr_bd (fun _ => ?_)
  refine fr_cl (fun _ _ e => hs.trans (fr_X14_many e)) (fun _ h hs => ?_)
  exact fr_rt hs
theorem fr_X17_walls {x0 : Nat} {h : sv_H} {r : Int32} {hE : sv_H} (hw : fn_X17_walls x0 h = some (r, hE)) : sv_same h hE := fr_X17_walls_0 (sv_same.refl h) r hE hw

theorem fr_X14_wallAt_0 {h0 : sv_H} {x0 : Nat} {x1 : Int32} {h : sv_H} (hs : sv_same h0 h) : sv_fr sv_same h0 (fn_X14_wallAt x0 x1 h) := by
  unfold fn_X14_wallAt
  refine fr_if ?_ fr_no
  refine fr_cl (fun _ _ e => hs.trans (fr_X14_many e)) (fun _ h hs => ?_)
  refine fr_cl (fun _ _ e => hs.trans (fr_X14_sectorAt e)) (fun _ h hs => ?_)
  exact fr_rt hs
theorem fr_X14_wallAt {x0 : Nat} {x1 : Int32} {h : sv_H} {r : Int32} {hE : sv_H} (hw : fn_X14_wallAt x0 x1 h = some (r, hE)) : sv_same h hE := fr_X14_wallAt_0 (sv_same.refl h) r hE hw

theorem fr_X14_wall_20 {h0 : sv_H} {h : sv_H} (hs : sv_same h0 h) : sv_fr sv_same h0 (fn_X14_wall_20 h) := by
  unfold fn_X14_wall_20
  exact fr_rt hs
theorem fr_X14_wall_81 {h0 : sv_H} {s0 : Int32} {h : sv_H} (hs : sv_same h0 h) : sv_fr sv_same h0 (fn_X14_wall_81 s0 h) := by
  unfold fn_X14_wall_81
  exact fr_rt hs
theorem fr_X14_wall_40 {h0 : sv_H} {x0 : Nat} {x2 : Int32} {x3 : Int32} {h : sv_H} (hs : sv_same h0 h) : sv_fr sv_same h0 (fn_X14_wall_40 x0 x2 x3 h) := by
  unfold fn_X14_wall_40
  refine fr_if ?_ ?_
  · refine fr_bd (fun _ => ?_)
    refine fr_bd (fun _ => ?_)
    exact fr_X14_wall_81 hs
  · refine fr_bd (fun _ => ?_)
    refine fr_bd (fun _ => ?_)
    exact fr_X14_wall_81 hs
theorem fr_X14_wall_100 {h0 : sv_H} {s0 : Nat} {s1 : Int32} {s2 : Int32} {h : sv_H} (hs : sv_same h0 h) : sv_fr sv_same h0 (fn_X14_wall_100 s0 s1 s2 h) := by
  unfold fn_X14_wall_100
  refine fr_bd (fun _ => ?_)
  exact fr_rt hs
theorem fr_X14_wall_0 {h0 : sv_H} {x0 : Nat} {x1 : Int32} {x2 : Int32} {h : sv_H} (hs : sv_same h0 h) : sv_fr sv_same h0 (fn_X14_wall x0 x1 x2 h) := by
  unfold fn_X14_wall
  refine fr_if ?_ fr_no
  refine fr_cl (fun _ _ e => hs.trans (fr_X14_has e)) (fun _ h hs => ?_)
  refine fr_if ?_ ?_
  · exact fr_X14_wall_20 hs
  · refine fr_if ?_ ?_
    · exact fr_X14_wall_20 hs
    · refine fr_if ?_ ?_
      · refine fr_cl (fun _ _ e => hs.trans (fr_X14_wallAt e)) (fun _ h hs => ?_)
        refine fr_if ?_ ?_
        · exact fr_X14_wall_40 hs
        · refine fr_if ?_ ?_
          · exact fr_X14_wall_40 hs
          · refine fr_bd (fun _ => ?_)
            refine fr_if ?_ ?_
            · exact fr_X14_wall_100 hs
            · exact fr_X14_wall_100 hs
      · exact fr_X14_wall_20 hs
theorem fr_X14_wall {x0 : Nat} {x1 : Int32} {x2 : Int32} {h : sv_H} {r : Int32} {hE : sv_H} (hw : fn_X14_wall x0 x1 x2 h = some (r, hE)) : sv_same h hE := fr_X14_wall_0 (sv_same.refl h) r hE hw

theorem fr_X13_isSector_17 {h0 : sv_H} {s0 : Int32} {h : sv_H} (hs : sv_same h0 h) : sv_fr sv_same h0 (fn_X13_isSector_17 s0 h) := by
  unfold fn_X13_isSector_17
  exact fr_rz hs
theorem fr_X13_isSector_16 {h0 : sv_H} {h : sv_H} (hs : sv_same h0 h) : sv_fr sv_same h0 (fn_X13_isSector_16 h) := by
  unfold fn_X13_isSector_16
  exact fr_X13_isSector_17 hs
theorem fr_X13_isSector_0 {h0 : sv_H} {x0 : Nat} {x1 : Int32} {h : sv_H} (hs : sv_same h0 h) : sv_fr sv_same h0 (fn_X13_isSector x0 x1 h) := by
  unfold fn_X13_isSector
  refine fr_if ?_ fr_no
  refine fr_if ?_ ?_
  · exact fr_X13_isSector_16 hs
  · refine fr_bd (fun _ => ?_)
    refine fr_if ?_ ?_
    · exact fr_X13_isSector_16 hs
    · exact fr_X13_isSector_17 hs
theorem fr_X13_isSector {x0 : Nat} {x1 : Int32} {h : sv_H} {r : Int32} {hE : sv_H} (hw : fn_X13_isSector x0 x1 h = some (r, hE)) : sv_same h hE := fr_X13_isSector_0 (sv_same.refl h) r hE hw

theorem fr_X13_join_35 {h0 : sv_H} {h : sv_H} (hs : sv_same h0 h) : sv_fr sv_same h0 (fn_X13_join_35 h) := by
  unfold fn_X13_join_35
  exact fr_rt hs
theorem fr_X13_join_0 {h0 : sv_H} {x0 : Nat} {x1 : Int32} {x2 : Int32} {h : sv_H} (hs : sv_same h0 h) : sv_fr sv_same h0 (fn_X13_join x0 x1 x2 h) := by
  unfold fn_X13_join
  refine fr_if ?_ fr_no
  refine fr_cl (fun _ _ e => hs.trans (fr_X13_isSector e)) (fun _ h hs => ?_)
  refine fr_if ?_ ?_
  · exact fr_X13_join_35 hs
  · refine fr_cl (fun _ _ e => hs.trans (fr_X13_isSector e)) (fun _ h hs => ?_)
    refine fr_if ?_ ?_
    · exact fr_X13_join_35 hs
    · refine fr_if ?_ ?_
      · exact fr_X13_join_35 hs
      · refine fr_bd (fun _ => ?_)
        refine fr_bd (fun _ => ?_)
        refine fr_if ?_ ?_
        · refine fr_bd (fun _ => ?_)
          refine fr_st (fun _ e => hs.trans (st_sZ e)) (fun h hs => ?_)
          refine fr_bd (fun _ => ?_)
          refine fr_st (fun _ e => hs.trans (st_sZ e)) (fun h hs => ?_)
          refine fr_bd (fun _ => ?_)
          refine fr_st (fun _ e => hs.trans (st_pI e)) (fun h hs => ?_)
          exact fr_rt hs
        · exact fr_X13_join_35 hs
theorem fr_X13_join {x0 : Nat} {x1 : Int32} {x2 : Int32} {h : sv_H} {r : Int32} {hE : sv_H} (hw : fn_X13_join x0 x1 x2 h = some (r, hE)) : sv_same h hE := fr_X13_join_0 (sv_same.refl h) r hE hw

theorem fr_X14_vertex_36 {h0 : sv_H} {s0 : Int32} {h : sv_H} (hs : sv_same h0 h) : sv_fr sv_same h0 (fn_X14_vertex_36 s0 h) := by
  unfold fn_X14_vertex_36
  exact fr_rt hs
theorem fr_X14_vertex_24 {h0 : sv_H} {x1 : Int32} {s0 : Nat} {s1 : Int32} {h : sv_H} (hs : sv_same h0 h) : sv_fr sv_same h0 (fn_X14_vertex_24 x1 s0 s1 h) := by
  unfold fn_X14_vertex_24
  refine fr_cl (fun _ _ e => hs.trans (fr_X14_pair e)) (fun _ h hs => ?_)
  exact fr_X14_vertex_36 hs
theorem fr_X14_vertex_0 {h0 : sv_H} {x0 : Nat} {x1 : Int32} {x2 : Int32} {h : sv_H} (hs : sv_same h0 h) : sv_fr sv_same h0 (fn_X14_vertex x0 x1 x2 h) := by
  unfold fn_X14_vertex
  refine fr_if ?_ fr_no
  refine fr_cl (fun _ _ e => hs.trans (fr_X14_has e)) (fun _ h hs => ?_)
  refine fr_if ?_ ?_
  · exact fr_X14_vertex_36 hs
  · refine fr_bd (fun _ => ?_)
    refine fr_if ?_ ?_
    · exact fr_X14_vertex_24 hs
    · exact fr_X14_vertex_24 hs
theorem fr_X14_vertex {x0 : Nat} {x1 : Int32} {x2 : Int32} {h : sv_H} {r : Int32} {hE : sv_H} (hw : fn_X14_vertex x0 x1 x2 h = some (r, hE)) : sv_same h hE := fr_X14_vertex_0 (sv_same.refl h) r hE hw

theorem fr_X17_furnish_172 {h0 : sv_H} {k116 : Nat → Int32 → sv_H → Option (Unit × sv_H)} (hk116 : ∀ {x0 : Nat} {x1 : Int32} {h : sv_H}, sv_same h0 h → sv_fr sv_same h0 (k116 x0 x1 h)) {x0 : Nat} {x1 : Int32} {s0 : Int32} {h : sv_H} (hs : sv_same h0 h) : sv_fr sv_same h0 (fn_X17_furnish_172 k116 x0 x1 s0 h) := by
  unfold fn_X17_furnish_172
  refine fr_bd (fun _ => ?_)
  refine fr_bd (fun _ => ?_)
  refine fr_bd (fun _ => ?_)
  refine fr_bd (fun _ => ?_)
  refine fr_cl (fun _ _ e => hs.trans (fr_X14_wall e)) (fun _ h hs => ?_)
  refine fr_cl (fun _ _ e => hs.trans (fr_X14_vertex e)) (fun _ h hs => ?_)
  refine fr_st (fun _ e => hs.trans (st_sI e)) (fun h hs => ?_)
  refine fr_bd (fun _ => ?_)
  refine fr_bd (fun _ => ?_)
  refine fr_bd (fun _ => ?_)
  refine fr_bd (fun _ => ?_)
  refine fr_cl (fun _ _ e => hs.trans (fr_X14_wall e)) (fun _ h hs => ?_)
  refine fr_cl (fun _ _ e => hs.trans (fr_X14_vertex e)) (fun _ h hs => ?_)
  refine fr_st (fun _ e => hs.trans (st_sI e)) (fun h hs => ?_)
  refine fr_bd (fun _ => ?_)
  refine fr_bd (fun _ => ?_)
  refine fr_bd (fun _ => ?_)
  refine fr_bd (fun _ => ?_)
  refine fr_cl (fun _ _ e => hs.trans (fr_X14_wall e)) (fun _ h hs => ?_)
  refine fr_cl (fun _ _ e => hs.trans (fr_X14_vertex e)) (fun _ h hs => ?_)
  refine fr_st (fun _ e => hs.trans (st_sI e)) (fun h hs => ?_)
  refine fr_bd (fun _ => ?_)
  refine fr_bd (fun _ => ?_)
  refine fr_bd (fun _ => ?_)
  refine fr_bd (fun _ => ?_)
  refine fr_cl (fun _ _ e => hs.trans (fr_X14_wall e)) (fun _ h hs => ?_)
  refine fr_cl (fun _ _ e => hs.trans (fr_X14_vertex e)) (fun _ h hs => ?_)
  refine fr_st (fun _ e => hs.trans (st_sI e)) (fun h hs => ?_)
  exact hk116 hs
theorem fr_X17_furnish_171 {h0 : sv_H} {k116 : Nat → Int32 → sv_H → Option (Unit × sv_H)} (hk116 : ∀ {x0 : Nat} {x1 : Int32} {h : sv_H}, sv_same h0 h → sv_fr sv_same h0 (k116 x0 x1 h)) {x0 : Nat} {x1 : Int32} {h : sv_H} (hs : sv_same h0 h) : sv_fr sv_same h0 (fn_X17_furnish_171 k116 x0 x1 h) := by
  unfold fn_X17_furnish_171
  exact fr_X17_furnish_172 hk116 hs
theorem fr_X17_furnish_116b {h0 : sv_H} {k116 : Nat → Int32 → sv_H → Option (Unit × sv_H)} (hk116 : ∀ {x0 : Nat} {x1 : Int32} {h : sv_H}, sv_same h0 h → sv_fr sv_same h0 (k116 x0 x1 h)) {x0 : Nat} {x1 : Int32} {h : sv_H} (hs : sv_same h0 h) : sv_fr sv_same h0 (fn_X17_furnish_116b k116 x0 x1 h) := by
  unfold fn_X17_furnish_116b
  refine fr_cl (fun _ _ e => hs.trans (fr_X17_walls e)) (fun _ h hs => ?_)
  refine fr_if ?_ ?_
  · refine fr_bd (fun _ => ?_)
    refine fr_st (fun _ e => hs.trans (st_pZ e)) (fun h hs => ?_)
    exact fr_rt hs
  · refine fr_bd (fun _ => ?_)
    refine fr_cl (fun _ _ e => hs.trans (fr_X14_wall e)) (fun _ h hs => ?_)
    refine fr_if ?_ ?_
    · exact fr_X17_furnish_171 hk116 hs
    · refine fr_bd (fun _ => ?_)
      refine fr_bd (fun _ => ?_)
      refine fr_cl (fun _ _ e => hs.trans (fr_X14_wall e)) (fun _ h hs => ?_)
      refine fr_bd (fun _ => ?_)
      refine fr_cl (fun _ _ e => hs.trans (fr_X14_wall e)) (fun _ h hs => ?_)
      refine fr_cl (fun _ _ e => hs.trans (fr_X13_join e)) (fun _ h hs => ?_)
      refine fr_if ?_ ?_
      · exact fr_X17_furnish_171 hk116 hs
      · exact fr_X17_furnish_172 hk116 hs
theorem fr_X17_furnish_116 {h0 : sv_H} : ∀ (n : Nat) {x0 : Nat} {x1 : Int32} {h : sv_H}, sv_same h0 h → sv_fr sv_same h0 (fn_X17_furnish_116 n x0 x1 h) := by
  intro n
  induction n with
  | zero => intro x0 x1 h hs r hE e; cases (show (none : Option (Unit × sv_H)) = some (r, hE) from e)
  | succ n ih => intro x0 x1 h hs; exact fr_X17_furnish_116b (fun hs => ih hs) hs
theorem fr_X17_furnish_107 {h0 : sv_H} {k79 : Nat → Int32 → sv_H → Option (Unit × sv_H)} (hk79 : ∀ {x0 : Nat} {x1 : Int32} {h : sv_H}, sv_same h0 h → sv_fr sv_same h0 (k79 x0 x1 h)) {x0 : Nat} {x1 : Int32} {s0 : Nat} {s1 : Int32} {s2 : Int32} {h : sv_H} (hs : sv_same h0 h) : sv_fr sv_same h0 (fn_X17_furnish_107 k79 x0 x1 s0 s1 s2 h) := by
  unfold fn_X17_furnish_107
  refine fr_st (fun _ e => hs.trans (st_sZ e)) (fun h hs => ?_)
  exact hk79 hs
theorem fr_X17_furnish_79b {h0 : sv_H} {k79 : Nat → Int32 → sv_H → Option (Unit × sv_H)} (hk79 : ∀ {x0 : Nat} {x1 : Int32} {h : sv_H}, sv_same h0 h → sv_fr sv_same h0 (k79 x0 x1 h)) {x0 : Nat} {x1 : Int32} {h : sv_H} (hs : sv_same h0 h) : sv_fr sv_same h0 (fn_X17_furnish_79b k79 x0 x1 h) := by
  unfold fn_X17_furnish_79b
  refine fr_if ?_ ?_
  · exact fr_X17_furnish_116 sv_fuel hs
  · refine fr_bd (fun _ => ?_)
    refine fr_bd (fun _ => ?_)
    refine fr_cl (fun _ _ e => hs.trans (fr_X17_walls e)) (fun _ h hs => ?_)
    refine fr_if ?_ ?_
    · exact fr_X17_furnish_107 hk79 hs
    · exact fr_X17_furnish_107 hk79 hs
theorem fr_X17_furnish_79 {h0 : sv_H} : ∀ (n : Nat) {x0 : Nat} {x1 : Int32} {h : sv_H}, sv_same h0 h → sv_fr sv_same h0 (fn_X17_furnish_79 n x0 x1 h) := by
  intro n
  induction n with
  | zero => intro x0 x1 h hs r hE e; cases (show (none : Option (Unit × sv_H)) = some (r, hE) from e)
  | succ n ih => intro x0 x1 h hs; exact fr_X17_furnish_79b (fun hs => ih hs) hs
theorem fr_X17_furnish_9b {h0 : sv_H} {k9 : Nat → Int32 → sv_H → Option (Unit × sv_H)} (hk9 : ∀ {x0 : Nat} {x1 : Int32} {h : sv_H}, sv_same h0 h → sv_fr sv_same h0 (k9 x0 x1 h)) {x0 : Nat} {x1 : Int32} {h : sv_H} (hs : sv_same h0 h) : sv_fr sv_same h0 (fn_X17_furnish_9b k9 x0 x1 h) := by
  unfold fn_X17_furnish_9b
  refine fr_cl (fun _ _ e => hs.trans (fr_X17_sectors e)) (fun _ h hs => ?_)
  refine fr_if ?_ ?_
  · exact fr_X17_furnish_79 sv_fuel hs
  · refine fr_bd (fun _ => ?_)
    refine fr_bd (fun _ => ?_)
    refine fr_cl (fun _ _ e => hs.trans (fr_X14_sector e)) (fun _ h hs => ?_)
    refine fr_bd (fun _ => ?_)
    refine fr_cl (fun _ _ e => hs.trans (fr_X14_sector e)) (fun _ h hs => ?_)
    refine fr_bd (fun _ => ?_)
    refine fr_cl (fun _ _ e => hs.trans (fr_X14_sector e)) (fun _ h hs => ?_)
    refine fr_bd (fun _ => ?_)
    refine fr_cl (fun _ _ e => hs.trans (fr_X14_sector e)) (fun _ h hs => ?_)
    refine fr_bd (fun _ => ?_)
    refine fr_cl (fun _ _ e => hs.trans (fr_X14_sector e)) (fun _ h hs => ?_)
    refine fr_cl (fun _ _ e => hs.trans (fr_X13_sector e)) (fun _ h hs => ?_)
    exact hk9 hs
theorem fr_X17_furnish_9 {h0 : sv_H} : ∀ (n : Nat) {x0 : Nat} {x1 : Int32} {h : sv_H}, sv_same h0 h → sv_fr sv_same h0 (fn_X17_furnish_9 n x0 x1 h) := by
  intro n
  induction n with
  | zero => intro x0 x1 h hs r hE e; cases (show (none : Option (Unit × sv_H)) = some (r, hE) from e)
  | succ n ih => intro x0 x1 h hs; exact fr_X17_furnish_9b (fun hs => ih hs) hs
theorem fr_X17_furnish_0 {h0 : sv_H} {x0 : Nat} {h : sv_H} (hs : sv_same h0 h) : sv_fr sv_same h0 (fn_X17_furnish x0 h) := by
  unfold fn_X17_furnish
  refine fr_if ?_ fr_no
  refine fr_bd (fun _ => ?_)
  refine fr_cl (fun _ _ e => hs.trans (fr_X13_clear e)) (fun _ h hs => ?_)
  exact fr_X17_furnish_9 sv_fuel hs
theorem fr_X17_furnish {x0 : Nat} {h : sv_H} {r : Unit} {hE : sv_H} (hw : fn_X17_furnish x0 h = some (r, hE)) : sv_same h hE := fr_X17_furnish_0 (sv_same.refl h) r hE hw

theorem fr_X14_start_16 {h0 : sv_H} {h : sv_H} (hs : sv_same h0 h) : sv_fr sv_same h0 (fn_X14_start_16 h) := by
  unfold fn_X14_start_16
  exact fr_rt hs
theorem fr_X14_start_64 {h0 : sv_H} {s0 : Int32} {h : sv_H} (hs : sv_same h0 h) : sv_fr sv_same h0 (fn_X14_start_64 s0 h) := by
  unfold fn_X14_start_64
  exact fr_rt hs
theorem fr_X14_start_0 {h0 : sv_H} {x0 : Nat} {x1 : Int32} {h : sv_H} (hs : sv_same h0 h) : sv_fr sv_same h0 (fn_X14_start x0 x1 h) := by
  unfold fn_X14_start
  refine fr_if ?_ fr_no
  refine fr_bd (fun _ => ?_)
  refine fr_if ?_ ?_
  · exact fr_X14_start_16 hs
  · refine fr_if ?_ ?_
    · exact fr_X14_start_16 hs
    · refine fr_if ?_ ?_
      · refine fr_cl (fun _ _ e => hs.trans (fr_X14_many e)) (fun _ h hs => ?_)
        refine fr_cl (fun _ _ e => hs.trans (fr_X14_wallAt e)) (fun _ h hs => ?_)
        refine fr_if ?_ ?_
        · refine fr_bd (fun _ => ?_)
          refine fr_bd (fun _ => ?_)
          exact fr_X14_start_64 hs
        · refine fr_bd (fun _ => ?_)
          refine fr_cl (fun _ _ e => hs.trans (fr_X14_pair e)) (fun _ h hs => ?_)
          exact fr_X14_start_64 hs
      · exact fr_X14_start_16 hs
theorem fr_X14_start {x0 : Nat} {x1 : Int32} {h : sv_H} {r : Int32} {hE : sv_H} (hw : fn_X14_start x0 x1 h = some (r, hE)) : sv_same h hE := fr_X14_start_0 (sv_same.refl h) r hE hw

theorem fr_X17_begin_0 {h0 : sv_H} {x0 : Nat} {h : sv_H} (hs : sv_same h0 h) : sv_fr sv_same h0 (fn_X17_begin x0 h) := by
  unfold fn_X17_begin
  refine fr_if ?_ fr_no
  refine fr_bd (fun _ => ?_)
  refine fr_bd (fun _ => ?_)
  refine fr_bd (fun _ => ?_)
  refine fr_st (fun _ e => hs.trans (st_pI e)) (fun h hs => ?_)
  refine fr_bd (fun _ => ?_)
  refine fr_bd (fun _ => ?_)
  refine fr_bd (fun _ => ?_)
  refine fr_st (fun _ e => hs.trans (st_pI e)) (fun h hs => ?_)
  refine fr_bd (fun _ => ?_)
  refine fr_bd (fun _ => ?_)
  refine fr_bd (fun _ => ?_)
  refine fr_st (fun _ e => hs.trans (st_pI e)) (fun h hs => ?_)
  refine fr_bd (fun _ => ?_)
  refine fr_bd (fun _ => ?_)
  refine fr_bd (fun _ => ?_)
  refine fr_st (fun _ e => hs.trans (st_pI e)) (fun h hs => ?_)
  refine fr_bd (fun _ => ?_)
  refine fr_cl (fun _ _ e => hs.trans (fr_X13_reset e)) (fun _ h hs => ?_)
  exact fr_rt hs
theorem fr_X17_begin {x0 : Nat} {h : sv_H} {r : Unit} {hE : sv_H} (hw : fn_X17_begin x0 h = some (r, hE)) : sv_same h hE := fr_X17_begin_0 (sv_same.refl h) r hE hw

theorem fr_X17_loadMap_68b {h0 : sv_H} {k68 : Nat → Int32 → sv_H → Option (Int32 × sv_H)} (hk68 : ∀ {x0 : Nat} {x1 : Int32} {h : sv_H}, sv_same h0 h → sv_fr sv_same h0 (k68 x0 x1 h)) {x0 : Nat} {x1 : Int32} {h : sv_H} (hs : sv_same h0 h) : sv_fr sv_same h0 (fn_X17_loadMap_68b k68 x0 x1 h) := by
  unfold fn_X17_loadMap_68b
  refine fr_if ?_ ?_
  · refine fr_cl (fun _ _ e => hs.trans (fr_X17_begin e)) (fun _ h hs => ?_)
    exact fr_rt hs
  · refine fr_bd (fun _ => ?_)
    refine fr_bd (fun _ => ?_)
    refine fr_bd (fun _ => ?_)
    refine fr_cl (fun _ _ e => hs.trans (fr_X14_start e)) (fun _ h hs => ?_)
    refine fr_st (fun _ e => hs.trans (st_sI e)) (fun h hs => ?_)
    exact hk68 hs
theorem fr_X17_loadMap_68 {h0 : sv_H} : ∀ (n : Nat) {x0 : Nat} {x1 : Int32} {h : sv_H}, sv_same h0 h → sv_fr sv_same h0 (fn_X17_loadMap_68 n x0 x1 h) := by
  intro n
  induction n with
  | zero => intro x0 x1 h hs r hE e; cases (show (none : Option (Int32 × sv_H)) = some (r, hE) from e)
  | succ n ih => intro x0 x1 h hs; exact fr_X17_loadMap_68b (fun hs => ih hs) hs
theorem fr_X17_loadMap_0 {h0 : sv_H} {x0 : Nat} {h : sv_H} (hs : sv_same h0 h) : sv_fr sv_same h0 (fn_X17_loadMap x0 h) := by
  unfold fn_X17_loadMap
  refine fr_if ?_ fr_no
  refine fr_st (fun _ e => hs.trans (st_pI e)) (fun h hs => ?_)
  refine fr_bd (fun _ => ?_)
  refine fr_cl (fun _ _ e => hs.trans (fr_X14_read e)) (fun _ h hs => ?_)
  refine fr_st (fun _ e => hs.trans (st_pI e)) (fun h hs => ?_)
  refine fr_bd (fun _ => ?_)
  refine fr_bd (fun _ => ?_)
  refine fr_st (fun _ e => hs.trans (st_pI e)) (fun h hs => ?_)
  refine fr_bd (fun _ => ?_)
  refine fr_if ?_ ?_
  · refine fr_st (fun _ e => hs.trans (st_pZ e)) (fun h hs => ?_)
    refine fr_bd (fun _ => ?_)
    refine fr_st (fun _ e => hs.trans (st_pI e)) (fun h hs => ?_)
    refine fr_cl (fun _ _ e => hs.trans (fr_X17_furnish e)) (fun _ h hs => ?_)
    refine fr_bd (fun _ => ?_)
    refine fr_st (fun _ e => hs.trans (st_pI e)) (fun h hs => ?_)
    exact fr_X17_loadMap_68 sv_fuel hs
  · refine fr_bd (fun _ => ?_)
    exact fr_rt hs
theorem fr_X17_loadMap {x0 : Nat} {h : sv_H} {r : Int32} {hE : sv_H} (hw : fn_X17_loadMap x0 h = some (r, hE)) : sv_same h hE := fr_X17_loadMap_0 (sv_same.refl h) r hE hw

theorem fr_X5_inputOf_9 {h0 : sv_H} {x0 : Int32} {x1 : Int32} {x2 : Int32} {s0 : Int32} {h : sv_H} (hs : sv_same h0 h) : sv_fr sv_same h0 (fn_X5_inputOf_9 x0 x1 x2 s0 h) := by
  unfold fn_X5_inputOf_9
  exact fr_rt hs
theorem fr_X5_inputOf_0 {h0 : sv_H} {x0 : Int32} {x1 : Int32} {x2 : Int32} {x3 : Int32} {h : sv_H} (hs : sv_same h0 h) : sv_fr sv_same h0 (fn_X5_inputOf x0 x1 x2 x3 h) := by
  unfold fn_X5_inputOf
  refine fr_if ?_ ?_
  · exact fr_X5_inputOf_9 hs
  · exact fr_X5_inputOf_9 hs
theorem fr_X5_inputOf {x0 : Int32} {x1 : Int32} {x2 : Int32} {x3 : Int32} {h : sv_H} {r : Int32} {hE : sv_H} (hw : fn_X5_inputOf x0 x1 x2 x3 h = some (r, hE)) : sv_same h hE := fr_X5_inputOf_0 (sv_same.refl h) r hE hw

theorem fr_X5_readInput_71 {h0 : sv_H} {x2 : Int32} {x4 : Int32} {x5 : Int32} {x6 : Int32} {h : sv_H} (hs : sv_same h0 h) : sv_fr sv_same h0 (fn_X5_readInput_71 x2 x4 x5 x6 h) := by
  unfold fn_X5_readInput_71
  refine fr_cl (fun _ _ e => hs.trans (fr_X5_inputOf e)) (fun _ h hs => ?_)
  exact fr_rt hs
theorem fr_X5_readInput_0 {h0 : sv_H} {x0 : Nat} {x1 : Nat} {x2 : Int32} {x3 : Int32} {h : sv_H} (hs : sv_same h0 h) : sv_fr sv_same h0 (fn_X5_readInput x0 x1 x2 x3 h) := by
  unfold fn_X5_readInput
  refine fr_if ?_ fr_no
  refine fr_cl (fun _ _ e => hs.trans (fr_X4_within e)) (fun _ h hs => ?_)
  refine fr_if ?_ ?_
  · exact fr_X5_readInput_71 hs
  · refine fr_cl (fun _ _ e => hs.trans (fr_X4_within e)) (fun _ h hs => ?_)
    refine fr_bd (fun _ => ?_)
    refine fr_cl (fun _ _ e => hs.trans (fr_X4_within e)) (fun _ h hs => ?_)
    refine fr_if ?_ ?_
    · refine fr_if ?_ ?_
      · refine fr_cl (fun _ _ e => hs.trans (fr_X4_blame e)) (fun _ h hs => ?_)
        exact fr_X5_readInput_71 hs
      · exact fr_X5_readInput_71 hs
    · exact fr_X5_readInput_71 hs
theorem fr_X5_readInput {x0 : Nat} {x1 : Nat} {x2 : Int32} {x3 : Int32} {h : sv_H} {r : Int32} {hE : sv_H} (hw : fn_X5_readInput x0 x1 x2 x3 h = some (r, hE)) : sv_same h hE := fr_X5_readInput_0 (sv_same.refl h) r hE hw

theorem fr_X5_add_40 {h0 : sv_H} {x0 : Nat} {x1 : Int32} {h : sv_H} (hs : sv_le h0 h) : sv_fr sv_le h0 (fn_X5_add_40 x0 x1 h) := by
  unfold fn_X5_add_40
  refine fr_bd (fun _ => ?_)
  refine fr_bd (fun _ => ?_)
  refine fr_st (fun _ e => hs.trans (st_sI e).le) (fun h hs => ?_)
  refine fr_bd (fun _ => ?_)
  refine fr_st (fun _ e => hs.trans (st_pI e).le) (fun h hs => ?_)
  exact fr_rt hs
theorem fr_X5_add_0 {h0 : sv_H} {x0 : Nat} {x1 : Int32} {h : sv_H} (hs : sv_le h0 h) : sv_fr sv_le h0 (fn_X5_add x0 x1 h) := by
  unfold fn_X5_add
  refine fr_if ?_ fr_no
  refine fr_bd (fun _ => ?_)
  refine fr_if ?_ ?_
  · refine fr_bd (fun _ => ?_)
    refine fr_bd (fun _ => ?_)
    refine fr_bd (fun _ => ?_)
    refine fr_if ?_ ?_
    · refine fr_bd (fun _ => ?_)
      refine fr_bd (fun _ => ?_)
      refine fr_cl (fun _ _ e => hs.trans (fr_J7_copyOf_59c91 e)) (fun _ h hs => ?_)
      refine fr_st (fun _ e => hs.trans (st_pP e).le) (fun h hs => ?_)
      exact fr_X5_add_40 hs
    · exact fr_X5_add_40 hs
  · exact fr_rt hs
theorem fr_X5_add {x0 : Nat} {x1 : Int32} {h : sv_H} {r : Unit} {hE : sv_H} (hw : fn_X5_add x0 x1 h = some (r, hE)) : sv_le h hE := fr_X5_add_0 (sv_le.refl h) r hE hw

theorem fr_X5_readGroup_166 {h0 : sv_H} {s0 : Int32} {h : sv_H} (hs : sv_le h0 h) : sv_fr sv_le h0 (fn_X5_readGroup_166 s0 h) := by
  unfold fn_X5_readGroup_166
  exact fr_rt hs
theorem fr_X5_readGroup_153 {h0 : sv_H} {x1 : Nat} {x5 : Int32} {h : sv_H} (hs : sv_le h0 h) : sv_fr sv_le h0 (fn_X5_readGroup_153 x1 x5 h) := by
  unfold fn_X5_readGroup_153
  refine fr_cl (fun _ _ e => hs.trans (fr_X4_well e).le) (fun _ h hs => ?_)
  refine fr_if ?_ ?_
  · exact fr_X5_readGroup_166 hs
  · exact fr_X5_readGroup_166 hs
theorem fr_X5_readGroup_127b {h0 : sv_H} {k127 : Nat → Nat → Int32 → Int32 → Int32 → sv_H → Option (Int32 × sv_H)} (hk127 : ∀ {x0 : Nat} {x1 : Nat} {x5 : Int32} {x6 : Int32} {x7 : Int32} {h : sv_H}, sv_le h0 h → sv_fr sv_le h0 (k127 x0 x1 x5 x6 x7 h)) {x0 : Nat} {x1 : Nat} {x5 : Int32} {x6 : Int32} {x7 : Int32} {h : sv_H} (hs : sv_le h0 h) : sv_fr sv_le h0 (fn_X5_readGroup_127b k127 x0 x1 x5 x6 x7 h) := by
  unfold fn_X5_readGroup_127b
  refine fr_if ?_ ?_
  · exact fr_X5_readGroup_153 hs
  · refine fr_cl (fun _ _ e => hs.trans (fr_X4_well e).le) (fun _ h hs => ?_)
    refine fr_if ?_ ?_
    · exact fr_X5_readGroup_153 hs
    · refine fr_cl (fun _ _ e => hs.trans (fr_X5_add e)) (fun _ h hs => ?_)
      exact hk127 hs
theorem fr_X5_readGroup_127 {h0 : sv_H} : ∀ (n : Nat) {x0 : Nat} {x1 : Nat} {x5 : Int32} {x6 : Int32} {x7 : Int32} {h : sv_H}, sv_le h0 h → sv_fr sv_le h0 (fn_X5_readGroup_127 n x0 x1 x5 x6 x7 h) := by
  intro n
  induction n with
  | zero => intro x0 x1 x5 x6 x7 h hs r hE e; cases (show (none : Option (Int32 × sv_H)) = some (r, hE) from e)
  | succ n ih => intro x0 x1 x5 x6 x7 h hs; exact fr_X5_readGroup_127b (fun hs => ih hs) hs
theorem fr_X5_readGroup_124 {h0 : sv_H} {x0 : Nat} {x1 : Nat} {x5 : Int32} {x6 : Int32} {h : sv_H} (hs : sv_le h0 h) : sv_fr sv_le h0 (fn_X5_readGroup_124 x0 x1 x5 x6 h) := by
  unfold fn_X5_readGroup_124
  exact fr_X5_readGroup_127 sv_fuel hs
theorem fr_X5_readGroup_84 {h0 : sv_H} {x0 : Nat} {x1 : Nat} {x2 : Int32} {x3 : Int32} {x5 : Int32} {s0 : Nat} {s1 : Nat} {s2 : Int32} {s3 : Int32} {h : sv_H} (hs : sv_le h0 h) : sv_fr sv_le h0 (fn_X5_readGroup_84 x0 x1 x2 x3 x5 s0 s1 s2 s3 h) := by
  unfold fn_X5_readGroup_84
  refine fr_cl (fun _ _ e => hs.trans (fr_X5_readInput e).le) (fun _ h hs => ?_)
  refine fr_bd (fun _ => ?_)
  refine fr_if ?_ ?_
  · exact fr_X5_readGroup_124 hs
  · refine fr_bd (fun _ => ?_)
    refine fr_bd (fun _ => ?_)
    refine fr_bd (fun _ => ?_)
    refine fr_if ?_ ?_
    · refine fr_if ?_ ?_
      · exact fr_X5_readGroup_124 hs
      · refine fr_cl (fun _ _ e => hs.trans (fr_X4_blame e).le) (fun _ h hs => ?_)
        exact fr_X5_readGroup_124 hs
    · exact fr_X5_readGroup_124 hs
theorem fr_X5_readGroup_70 {h0 : sv_H} {x0 : Nat} {x1 : Nat} {x2 : Int32} {x3 : Int32} {x4 : Int32} {x5 : Int32} {s0 : Nat} {s1 : Nat} {s2 : Int32} {h : sv_H} (hs : sv_le h0 h) : sv_fr sv_le h0 (fn_X5_readGroup_70 x0 x1 x2 x3 x4 x5 s0 s1 s2 h) := by
  unfold fn_X5_readGroup_70
  refine fr_if ?_ ?_
  · exact fr_X5_readGroup_84 hs
  · exact fr_X5_readGroup_84 hs
theorem fr_X5_readGroup_55 {h0 : sv_H} {x0 : Nat} {x1 : Nat} {x2 : Int32} {x3 : Int32} {x4 : Int32} {x5 : Int32} {h : sv_H} (hs : sv_le h0 h) : sv_fr sv_le h0 (fn_X5_readGroup_55 x0 x1 x2 x3 x4 x5 h) := by
  unfold fn_X5_readGroup_55
  refine fr_if ?_ ?_
  · exact fr_X5_readGroup_70 hs
  · exact fr_X5_readGroup_70 hs
theorem fr_X5_readGroup_36 {h0 : sv_H} {x0 : Nat} {x1 : Nat} {x2 : Int32} {x3 : Int32} {x4 : Int32} {x5 : Int32} {h : sv_H} (hs : sv_le h0 h) : sv_fr sv_le h0 (fn_X5_readGroup_36 x0 x1 x2 x3 x4 x5 h) := by
  unfold fn_X5_readGroup_36
  refine fr_bd (fun _ => ?_)
  refine fr_if ?_ ?_
  · exact fr_X5_readGroup_55 hs
  · refine fr_cl (fun _ _ e => hs.trans (fr_X4_blame e).le) (fun _ h hs => ?_)
    exact fr_X5_readGroup_55 hs
theorem fr_X5_readGroup_0 {h0 : sv_H} {x0 : Nat} {x1 : Nat} {x2 : Int32} {h : sv_H} (hs : sv_le h0 h) : sv_fr sv_le h0 (fn_X5_readGroup x0 x1 x2 h) := by
  unfold fn_X5_readGroup
  refine fr_if ?_ fr_no
  refine fr_bd (fun _ => ?_)
  refine fr_cl (fun _ _ e => hs.trans (fr_X4_one e).le) (fun _ h hs => ?_)
  refine fr_if ?_ ?_
  · exact fr_rt hs
  · refine fr_if ?_ ?_
    · refine fr_cl (fun _ _ e => hs.trans (fr_X4_blame e).le) (fun _ h hs => ?_)
      exact fr_X5_readGroup_36 hs
    · exact fr_X5_readGroup_36 hs
theorem fr_X5_readGroup {x0 : Nat} {x1 : Nat} {x2 : Int32} {h : sv_H} {r : Int32} {hE : sv_H} (hw : fn_X5_readGroup x0 x1 x2 h = some (r, hE)) : sv_le h hE := fr_X5_readGroup_0 (sv_le.refl h) r hE hw

theorem fr_X5_checkOf_8b {h0 : sv_H} {k8 : Nat → Int32 → Int64 → Int64 → Int32 → sv_H → Option (Int64 × sv_H)} (hk8 : ∀ {x0 : Nat} {x1 : Int32} {x2 : Int64} {x4 : Int64} {x6 : Int32} {h : sv_H}, sv_same h0 h → sv_fr sv_same h0 (k8 x0 x1 x2 x4 x6 h)) {x0 : Nat} {x1 : Int32} {x2 : Int64} {x4 : Int64} {x6 : Int32} {h : sv_H} (hs : sv_same h0 h) : sv_fr sv_same h0 (fn_X5_checkOf_8b k8 x0 x1 x2 x4 x6 h) := by
  unfold fn_X5_checkOf_8b
  refine fr_if ?_ ?_
  · exact fr_rt hs
  · refine fr_bd (fun _ => ?_)
    refine fr_bd (fun _ => ?_)
    exact hk8 hs
theorem fr_X5_checkOf_8 {h0 : sv_H} : ∀ (n : Nat) {x0 : Nat} {x1 : Int32} {x2 : Int64} {x4 : Int64} {x6 : Int32} {h : sv_H}, sv_same h0 h → sv_fr sv_same h0 (fn_X5_checkOf_8 n x0 x1 x2 x4 x6 h) := by
  intro n
  induction n with
  | zero => intro x0 x1 x2 x4 x6 h hs r hE e; cases (show (none : Option (Int64 × sv_H)) = some (r, hE) from e)
  | succ n ih => intro x0 x1 x2 x4 x6 h hs; exact fr_X5_checkOf_8b (fun hs => ih hs) hs
theorem fr_X5_checkOf_0 {h0 : sv_H} {x0 : Nat} {x1 : Int32} {h : sv_H} (hs : sv_same h0 h) : sv_fr sv_same h0 (fn_X5_checkOf x0 x1 h) := by
  unfold fn_X5_checkOf
  exact fr_X5_checkOf_8 sv_fuel hs
theorem fr_X5_checkOf {x0 : Nat} {x1 : Int32} {h : sv_H} {r : Int64} {hE : sv_H} (hw : fn_X5_checkOf x0 x1 h = some (r, hE)) : sv_same h hE := fr_X5_checkOf_0 (sv_same.refl h) r hE hw

theorem fr_X5_readCheck_24b {h0 : sv_H} {k24 : Nat → Int64 → Int32 → sv_H → Option (Unit × sv_H)} (hk24 : ∀ {x1 : Nat} {x2 : Int64} {x4 : Int32} {h : sv_H}, sv_same h0 h → sv_fr sv_same h0 (k24 x1 x2 x4 h)) {x1 : Nat} {x2 : Int64} {x4 : Int32} {h : sv_H} (hs : sv_same h0 h) : sv_fr sv_same h0 (fn_X5_readCheck_24b k24 x1 x2 x4 h) := by
  unfold fn_X5_readCheck_24b
  refine fr_if ?_ ?_
  · exact fr_rt hs
  · refine fr_cl (fun _ _ e => hs.trans (fr_X4_expect e)) (fun _ h hs => ?_)
    exact hk24 hs
theorem fr_X5_readCheck_24 {h0 : sv_H} : ∀ (n : Nat) {x1 : Nat} {x2 : Int64} {x4 : Int32} {h : sv_H}, sv_same h0 h → sv_fr sv_same h0 (fn_X5_readCheck_24 n x1 x2 x4 h) := by
  intro n
  induction n with
  | zero => intro x1 x2 x4 h hs r hE e; cases (show (none : Option (Unit × sv_H)) = some (r, hE) from e)
  | succ n ih => intro x1 x2 x4 h hs; exact fr_X5_readCheck_24b (fun hs => ih hs) hs
theorem fr_X5_readCheck_0 {h0 : sv_H} {x0 : Nat} {x1 : Nat} {h : sv_H} (hs : sv_same h0 h) : sv_fr sv_same h0 (fn_X5_readCheck x0 x1 h) := by
  unfold fn_X5_readCheck
  refine fr_if ?_ fr_no
  refine fr_cl (fun _ _ e => hs.trans (fr_X4_well e)) (fun _ h hs => ?_)
  refine fr_if ?_ ?_
  · exact fr_rt hs
  · refine fr_bd (fun _ => ?_)
    refine fr_bd (fun _ => ?_)
    refine fr_cl (fun _ _ e => hs.trans (fr_X5_checkOf e)) (fun _ h hs => ?_)
    exact fr_X5_readCheck_24 sv_fuel hs
theorem fr_X5_readCheck {x0 : Nat} {x1 : Nat} {h : sv_H} {r : Unit} {hE : sv_H} (hw : fn_X5_readCheck x0 x1 h = some (r, hE)) : sv_same h hE := fr_X5_readCheck_0 (sv_same.refl h) r hE hw

theorem fr_X5_read_65 {h0 : sv_H} {x0 : Nat} {x1 : Nat} {h : sv_H} (hs : sv_le h0 h) : sv_fr sv_le h0 (fn_X5_read_65 x0 x1 h) := by
  unfold fn_X5_read_65
  refine fr_cl (fun _ _ e => hs.trans (fr_X5_readCheck e).le) (fun _ h hs => ?_)
  refine fr_cl (fun _ _ e => hs.trans (fr_X4_expectEnd e).le) (fun _ h hs => ?_)
  exact fr_rt hs
theorem fr_X5_read_41b {h0 : sv_H} {k41 : Nat → Nat → Int32 → Int32 → sv_H → Option (Unit × sv_H)} (hk41 : ∀ {x0 : Nat} {x1 : Nat} {x2 : Int32} {x3 : Int32} {h : sv_H}, sv_le h0 h → sv_fr sv_le h0 (k41 x0 x1 x2 x3 h)) {x0 : Nat} {x1 : Nat} {x2 : Int32} {x3 : Int32} {h : sv_H} (hs : sv_le h0 h) : sv_fr sv_le h0 (fn_X5_read_41b k41 x0 x1 x2 x3 h) := by
  unfold fn_X5_read_41b
  refine fr_if ?_ ?_
  · exact fr_X5_read_65 hs
  · refine fr_if ?_ ?_
    · exact fr_X5_read_65 hs
    · refine fr_cl (fun _ _ e => hs.trans (fr_X5_readGroup e)) (fun _ h hs => ?_)
      exact hk41 hs
theorem fr_X5_read_41 {h0 : sv_H} : ∀ (n : Nat) {x0 : Nat} {x1 : Nat} {x2 : Int32} {x3 : Int32} {h : sv_H}, sv_le h0 h → sv_fr sv_le h0 (fn_X5_read_41 n x0 x1 x2 x3 h) := by
  intro n
  induction n with
  | zero => intro x0 x1 x2 x3 h hs r hE e; cases (show (none : Option (Unit × sv_H)) = some (r, hE) from e)
  | succ n ih => intro x0 x1 x2 x3 h hs; exact fr_X5_read_41b (fun hs => ih hs) hs
theorem fr_X5_read_0 {h0 : sv_H} {x0 : Nat} {x1 : Nat} {h : sv_H} (hs : sv_le h0 h) : sv_fr sv_le h0 (fn_X5_read x0 x1 h) := by
  unfold fn_X5_read
  refine fr_if ?_ fr_no
  refine fr_cl (fun _ _ e => hs.trans (fr_X4_expect e).le) (fun _ h hs => ?_)
  refine fr_cl (fun _ _ e => hs.trans (fr_X4_expect e).le) (fun _ h hs => ?_)
  refine fr_cl (fun _ _ e => hs.trans (fr_X4_expect e).le) (fun _ h hs => ?_)
  refine fr_bd (fun _ => ?_)
  refine fr_cl (fun _ _ e => hs.trans (fr_X4_readStart e).le) (fun _ h hs => ?_)
  refine fr_st (fun _ e => hs.trans (st_pI e).le) (fun h hs => ?_)
  exact fr_X5_read_41 sv_fuel hs
theorem fr_X5_read {x0 : Nat} {x1 : Nat} {h : sv_H} {r : Unit} {hE : sv_H} (hw : fn_X5_read x0 x1 h = some (r, hE)) : sv_le h hE := fr_X5_read_0 (sv_le.refl h) r hE hw

theorem fr_X12_hasMap_12 {h0 : sv_H} {s0 : Int32} {h : sv_H} (hs : sv_same h0 h) : sv_fr sv_same h0 (fn_X12_hasMap_12 s0 h) := by
  unfold fn_X12_hasMap_12
  exact fr_rz hs
theorem fr_X12_hasMap_0 {h0 : sv_H} {x0 : Nat} {h : sv_H} (hs : sv_same h0 h) : sv_fr sv_same h0 (fn_X12_hasMap x0 h) := by
  unfold fn_X12_hasMap
  refine fr_if ?_ fr_no
  refine fr_bd (fun _ => ?_)
  refine fr_if ?_ ?_
  · exact fr_X12_hasMap_12 hs
  · exact fr_X12_hasMap_12 hs
theorem fr_X12_hasMap {x0 : Nat} {h : sv_H} {r : Int32} {hE : sv_H} (hw : fn_X12_hasMap x0 h = some (r, hE)) : sv_same h hE := fr_X12_hasMap_0 (sv_same.refl h) r hE hw

theorem fr_X12_swapRuns_0 {h0 : sv_H} {x0 : Nat} {h : sv_H} (hs : sv_same h0 h) : sv_fr sv_same h0 (fn_X12_swapRuns x0 h) := by
  unfold fn_X12_swapRuns
  refine fr_if ?_ fr_no
  refine fr_bd (fun _ => ?_)
  refine fr_bd (fun _ => ?_)
  refine fr_st (fun _ e => hs.trans (st_pP e)) (fun h hs => ?_)
  refine fr_st (fun _ e => hs.trans (st_pP e)) (fun h hs => ?_)
  exact fr_rt hs
theorem fr_X12_swapRuns {x0 : Nat} {h : sv_H} {r : Unit} {hE : sv_H} (hw : fn_X12_swapRuns x0 h = some (r, hE)) : sv_same h hE := fr_X12_swapRuns_0 (sv_same.refl h) r hE hw

theorem fr_X12_loadDemo_88 {h0 : sv_H} {x0 : Nat} {h : sv_H} (hs : sv_le h0 h) : sv_fr sv_le h0 (fn_X12_loadDemo_88 x0 h) := by
  unfold fn_X12_loadDemo_88
  refine fr_bd (fun _ => ?_)
  refine fr_bd (fun _ => ?_)
  exact fr_rt hs
theorem fr_X12_loadDemo_56 {h0 : sv_H} {x0 : Nat} {h : sv_H} (hs : sv_le h0 h) : sv_fr sv_le h0 (fn_X12_loadDemo_56 x0 h) := by
  unfold fn_X12_loadDemo_56
  refine fr_bd (fun _ => ?_)
  refine fr_cl (fun _ _ e => hs.trans (fr_X4_well e).le) (fun _ h hs => ?_)
  refine fr_if ?_ ?_
  · exact fr_X12_loadDemo_88 hs
  · refine fr_cl (fun _ _ e => hs.trans (fr_X12_swapRuns e).le) (fun _ h hs => ?_)
    refine fr_bd (fun _ => ?_)
    refine fr_bd (fun _ => ?_)
    refine fr_bd (fun _ => ?_)
    refine fr_bd (fun _ => ?_)
    refine fr_cl (fun _ _ e => hs.trans (fr_X10_begin e).le) (fun _ h hs => ?_)
    exact fr_X12_loadDemo_88 hs
theorem fr_X12_loadDemo_45 {h0 : sv_H} {x0 : Nat} {h : sv_H} (hs : sv_le h0 h) : sv_fr sv_le h0 (fn_X12_loadDemo_45 x0 h) := by
  unfold fn_X12_loadDemo_45
  refine fr_bd (fun _ => ?_)
  refine fr_cl (fun _ _ e => hs.trans (fr_X4_blame e).le) (fun _ h hs => ?_)
  exact fr_X12_loadDemo_56 hs
theorem fr_X12_loadDemo_0 {h0 : sv_H} {x0 : Nat} {h : sv_H} (hs : sv_le h0 h) : sv_fr sv_le h0 (fn_X12_loadDemo x0 h) := by
  unfold fn_X12_loadDemo
  refine fr_if ?_ fr_no
  refine fr_bd (fun _ => ?_)
  refine fr_cl (fun _ _ e => hs.trans (fr_X4_begin e).le) (fun _ h hs => ?_)
  refine fr_bd (fun _ => ?_)
  refine fr_bd (fun _ => ?_)
  refine fr_cl (fun _ _ e => hs.trans (fr_X5_read e)) (fun _ h hs => ?_)
  refine fr_cl (fun _ _ e => hs.trans (fr_X12_hasMap e).le) (fun _ h hs => ?_)
  refine fr_if ?_ ?_
  · exact fr_X12_loadDemo_45 hs
  · refine fr_bd (fun _ => ?_)
    refine fr_bd (fun _ => ?_)
    refine fr_bd (fun _ => ?_)
    refine fr_bd (fun _ => ?_)
    refine fr_bd (fun _ => ?_)
    refine fr_if ?_ ?_
    · exact fr_X12_loadDemo_56 hs
    · exact fr_X12_loadDemo_45 hs
theorem fr_X12_loadDemo {x0 : Nat} {h : sv_H} {r : Int32} {hE : sv_H} (hw : fn_X12_loadDemo x0 h = some (r, hE)) : sv_le h hE := fr_X12_loadDemo_0 (sv_le.refl h) r hE hw

theorem fr_X15_wrong_17 {h0 : sv_H} {h : sv_H} (hs : sv_same h0 h) : sv_fr sv_same h0 (fn_X15_wrong_17 h) := by
  unfold fn_X15_wrong_17
  exact fr_rt hs
theorem fr_X15_wrong_0 {h0 : sv_H} {x0 : Nat} {x1 : Int32} {x2 : Int32} {h : sv_H} (hs : sv_same h0 h) : sv_fr sv_same h0 (fn_X15_wrong x0 x1 x2 h) := by
  unfold fn_X15_wrong
  refine fr_if ?_ fr_no
  refine fr_bd (fun _ => ?_)
  refine fr_if ?_ ?_
  · refine fr_st (fun _ e => hs.trans (st_pI e)) (fun h hs => ?_)
    refine fr_st (fun _ e => hs.trans (st_pI e)) (fun h hs => ?_)
    exact fr_X15_wrong_17 hs
  · exact fr_X15_wrong_17 hs
theorem fr_X15_wrong {x0 : Nat} {x1 : Int32} {x2 : Int32} {h : sv_H} {r : Unit} {hE : sv_H} (hw : fn_X15_wrong x0 x1 x2 h = some (r, hE)) : sv_same h hE := fr_X15_wrong_0 (sv_same.refl h) r hE hw

theorem fr_X15_sum_0 {h0 : sv_H} {x0 : Nat} {x1 : Int32} {h : sv_H} (hs : sv_same h0 h) : sv_fr sv_same h0 (fn_X15_sum x0 x1 h) := by
  unfold fn_X15_sum
  refine fr_if ?_ fr_no
  refine fr_bd (fun _ => ?_)
  refine fr_st (fun _ e => hs.trans (st_pI e)) (fun h hs => ?_)
  refine fr_bd (fun _ => ?_)
  refine fr_bd (fun _ => ?_)
  refine fr_st (fun _ e => hs.trans (st_pI e)) (fun h hs => ?_)
  exact fr_rt hs
theorem fr_X15_sum {x0 : Nat} {x1 : Int32} {h : sv_H} {r : Unit} {hE : sv_H} (hw : fn_X15_sum x0 x1 h = some (r, hE)) : sv_same h hE := fr_X15_sum_0 (sv_same.refl h) r hE hw

theorem fr_X15_next_27 {h0 : sv_H} {x0 : Nat} {h : sv_H} (hs : sv_same h0 h) : sv_fr sv_same h0 (fn_X15_next_27 x0 h) := by
  unfold fn_X15_next_27
  refine fr_bd (fun _ => ?_)
  refine fr_if ?_ ?_
  · refine fr_bd (fun _ => ?_)
    refine fr_bd (fun _ => ?_)
    refine fr_bd (fun _ => ?_)
    refine fr_bd (fun _ => ?_)
    refine fr_st (fun _ e => hs.trans (st_pI e)) (fun h hs => ?_)
    refine fr_cl (fun _ _ e => hs.trans (fr_X15_sum e)) (fun _ h hs => ?_)
    exact fr_rt hs
  · exact fr_rt hs
theorem fr_X15_next_0 {h0 : sv_H} {x0 : Nat} {h : sv_H} (hs : sv_same h0 h) : sv_fr sv_same h0 (fn_X15_next x0 h) := by
  unfold fn_X15_next
  refine fr_if ?_ fr_no
  refine fr_bd (fun _ => ?_)
  refine fr_if ?_ ?_
  · refine fr_bd (fun _ => ?_)
    refine fr_bd (fun _ => ?_)
    refine fr_if ?_ ?_
    · refine fr_bd (fun _ => ?_)
      refine fr_cl (fun _ _ e => hs.trans (fr_X15_wrong e)) (fun _ h hs => ?_)
      exact fr_X15_next_27 hs
    · exact fr_X15_next_27 hs
  · exact fr_X15_next_27 hs
theorem fr_X15_next {x0 : Nat} {h : sv_H} {r : Int32} {hE : sv_H} (hw : fn_X15_next x0 h = some (r, hE)) : sv_same h hE := fr_X15_next_0 (sv_same.refl h) r hE hw

theorem fr_X15_nextTwo_31 {h0 : sv_H} {s0 : Int32} {h : sv_H} (hs : sv_same h0 h) : sv_fr sv_same h0 (fn_X15_nextTwo_31 s0 h) := by
  unfold fn_X15_nextTwo_31
  exact fr_rt hs
theorem fr_X15_nextTwo_0 {h0 : sv_H} {x0 : Nat} {h : sv_H} (hs : sv_same h0 h) : sv_fr sv_same h0 (fn_X15_nextTwo x0 h) := by
  unfold fn_X15_nextTwo
  refine fr_if ?_ fr_no
  refine fr_cl (fun _ _ e => hs.trans (fr_X15_next e)) (fun _ h hs => ?_)
  refine fr_cl (fun _ _ e => hs.trans (fr_X15_next e)) (fun _ h hs => ?_)
  refine fr_if ?_ ?_
  · exact fr_X15_nextTwo_31 hs
  · exact fr_X15_nextTwo_31 hs
theorem fr_X15_nextTwo {x0 : Nat} {h : sv_H} {r : Int32} {hE : sv_H} (hw : fn_X15_nextTwo x0 h = some (r, hE)) : sv_same h hE := fr_X15_nextTwo_0 (sv_same.refl h) r hE hw

theorem fr_X15_nextUpTo_28 {h0 : sv_H} {x2 : Int32} {x3 : Int32} {h : sv_H} (hs : sv_same h0 h) : sv_fr sv_same h0 (fn_X15_nextUpTo_28 x2 x3 h) := by
  unfold fn_X15_nextUpTo_28
  exact fr_rt hs
theorem fr_X15_nextUpTo_0 {h0 : sv_H} {x0 : Nat} {x1 : Int32} {x2 : Int32} {h : sv_H} (hs : sv_same h0 h) : sv_fr sv_same h0 (fn_X15_nextUpTo x0 x1 x2 h) := by
  unfold fn_X15_nextUpTo
  refine fr_if ?_ fr_no
  refine fr_cl (fun _ _ e => hs.trans (fr_X15_next e)) (fun _ h hs => ?_)
  refine fr_bd (fun _ => ?_)
  refine fr_if ?_ ?_
  · refine fr_if ?_ ?_
    · exact fr_X15_nextUpTo_28 hs
    · refine fr_bd (fun _ => ?_)
      refine fr_cl (fun _ _ e => hs.trans (fr_X15_wrong e)) (fun _ h hs => ?_)
      exact fr_X15_nextUpTo_28 hs
  · exact fr_X15_nextUpTo_28 hs
theorem fr_X15_nextUpTo {x0 : Nat} {x1 : Int32} {x2 : Int32} {h : sv_H} {r : Int32} {hE : sv_H} (hw : fn_X15_nextUpTo x0 x1 x2 h = some (r, hE)) : sv_same h hE := fr_X15_nextUpTo_0 (sv_same.refl h) r hE hw

theorem fr_X15_readGroup_303 {h0 : sv_H} {h : sv_H} (hs : sv_same h0 h) : sv_fr sv_same h0 (fn_X15_readGroup_303 h) := by
  unfold fn_X15_readGroup_303
  exact fr_rt hs
theorem fr_X15_readGroup_229b {h0 : sv_H} {k229 : Nat → Int32 → Int32 → Int32 → Int32 → Int32 → Int32 → sv_H → Option (Unit × sv_H)} (hk229 : ∀ {x0 : Nat} {x4 : Int32} {x5 : Int32} {x6 : Int32} {x7 : Int32} {x8 : Int32} {x11 : Int32} {h : sv_H}, sv_same h0 h → sv_fr sv_same h0 (k229 x0 x4 x5 x6 x7 x8 x11 h)) {x0 : Nat} {x4 : Int32} {x5 : Int32} {x6 : Int32} {x7 : Int32} {x8 : Int32} {x11 : Int32} {h : sv_H} (hs : sv_same h0 h) : sv_fr sv_same h0 (fn_X15_readGroup_229b k229 x0 x4 x5 x6 x7 x8 x11 h) := by
  unfold fn_X15_readGroup_229b
  refine fr_if ?_ ?_
  · exact fr_X15_readGroup_303 hs
  · refine fr_bd (fun _ => ?_)
    refine fr_if ?_ ?_
    · refine fr_bd (fun _ => ?_)
      refine fr_bd (fun _ => ?_)
      refine fr_st (fun _ e => hs.trans (st_sI e)) (fun h hs => ?_)
      refine fr_bd (fun _ => ?_)
      refine fr_bd (fun _ => ?_)
      refine fr_st (fun _ e => hs.trans (st_sI e)) (fun h hs => ?_)
      refine fr_bd (fun _ => ?_)
      refine fr_bd (fun _ => ?_)
      refine fr_st (fun _ e => hs.trans (st_sI e)) (fun h hs => ?_)
      refine fr_bd (fun _ => ?_)
      refine fr_bd (fun _ => ?_)
      refine fr_st (fun _ e => hs.trans (st_sZ e)) (fun h hs => ?_)
      refine fr_bd (fun _ => ?_)
      refine fr_st (fun _ e => hs.trans (st_pI e)) (fun h hs => ?_)
      exact hk229 hs
    · exact fr_X15_readGroup_303 hs
theorem fr_X15_readGroup_229 {h0 : sv_H} : ∀ (n : Nat) {x0 : Nat} {x4 : Int32} {x5 : Int32} {x6 : Int32} {x7 : Int32} {x8 : Int32} {x11 : Int32} {h : sv_H}, sv_same h0 h → sv_fr sv_same h0 (fn_X15_readGroup_229 n x0 x4 x5 x6 x7 x8 x11 h) := by
  intro n
  induction n with
  | zero => intro x0 x4 x5 x6 x7 x8 x11 h hs r hE e; cases (show (none : Option (Unit × sv_H)) = some (r, hE) from e)
  | succ n ih => intro x0 x4 x5 x6 x7 x8 x11 h hs; exact fr_X15_readGroup_229b (fun hs => ih hs) hs
theorem fr_X15_readGroup_226 {h0 : sv_H} {x0 : Nat} {x4 : Int32} {x5 : Int32} {x6 : Int32} {x7 : Int32} {x8 : Int32} {h : sv_H} (hs : sv_same h0 h) : sv_fr sv_same h0 (fn_X15_readGroup_226 x0 x4 x5 x6 x7 x8 h) := by
  unfold fn_X15_readGroup_226
  exact fr_X15_readGroup_229 sv_fuel hs
theorem fr_X15_readGroup_213 {h0 : sv_H} {x0 : Nat} {x3 : Int32} {x4 : Int32} {x5 : Int32} {x6 : Int32} {x7 : Int32} {x8 : Int32} {s0 : Int32} {h : sv_H} (hs : sv_same h0 h) : sv_fr sv_same h0 (fn_X15_readGroup_213 x0 x3 x4 x5 x6 x7 x8 s0 h) := by
  unfold fn_X15_readGroup_213
  refine fr_if ?_ ?_
  · exact fr_X15_readGroup_226 hs
  · refine fr_cl (fun _ _ e => hs.trans (fr_X15_wrong e)) (fun _ h hs => ?_)
    exact fr_X15_readGroup_226 hs
theorem fr_X15_readGroup_212 {h0 : sv_H} {x0 : Nat} {x3 : Int32} {x4 : Int32} {x5 : Int32} {x6 : Int32} {x7 : Int32} {x8 : Int32} {h : sv_H} (hs : sv_same h0 h) : sv_fr sv_same h0 (fn_X15_readGroup_212 x0 x3 x4 x5 x6 x7 x8 h) := by
  unfold fn_X15_readGroup_212
  exact fr_X15_readGroup_213 hs
theorem fr_X15_readGroup_133 {h0 : sv_H} {x0 : Nat} {x2 : Int32} {x3 : Int32} {x4 : Int32} {x5 : Int32} {x6 : Int32} {x7 : Int32} {s0 : Int32} {h : sv_H} (hs : sv_same h0 h) : sv_fr sv_same h0 (fn_X15_readGroup_133 x0 x2 x3 x4 x5 x6 x7 s0 h) := by
  unfold fn_X15_readGroup_133
  refine fr_bd (fun _ => ?_)
  refine fr_bd (fun _ => ?_)
  refine fr_if ?_ ?_
  · refine fr_if ?_ ?_
    · exact fr_X15_readGroup_212 hs
    · refine fr_if ?_ ?_
      · exact fr_X15_readGroup_212 hs
      · refine fr_bd (fun _ => ?_)
        refine fr_bd (fun _ => ?_)
        refine fr_if ?_ ?_
        · refine fr_bd (fun _ => ?_)
          refine fr_bd (fun _ => ?_)
          refine fr_if ?_ ?_
          · refine fr_bd (fun _ => ?_)
            refine fr_bd (fun _ => ?_)
            refine fr_if ?_ ?_
            · refine fr_bd (fun _ => ?_)
              refine fr_bd (fun _ => ?_)
              refine fr_if ?_ ?_
              · exact fr_X15_readGroup_213 hs
              · exact fr_X15_readGroup_212 hs
            · exact fr_X15_readGroup_212 hs
          · exact fr_X15_readGroup_212 hs
        · exact fr_X15_readGroup_212 hs
  · exact fr_X15_readGroup_212 hs
theorem fr_X15_readGroup_118 {h0 : sv_H} {x0 : Nat} {x1 : Int32} {x2 : Int32} {x3 : Int32} {x4 : Int32} {x5 : Int32} {x6 : Int32} {x7 : Int32} {h : sv_H} (hs : sv_same h0 h) : sv_fr sv_same h0 (fn_X15_readGroup_118 x0 x1 x2 x3 x4 x5 x6 x7 h) := by
  unfold fn_X15_readGroup_118
  refine fr_if ?_ ?_
  · exact fr_X15_readGroup_133 hs
  · exact fr_X15_readGroup_133 hs
theorem fr_X15_readGroup_46 {h0 : sv_H} {x0 : Nat} {x1 : Int32} {x2 : Int32} {x3 : Int32} {x4 : Int32} {h : sv_H} (hs : sv_same h0 h) : sv_fr sv_same h0 (fn_X15_readGroup_46 x0 x1 x2 x3 x4 h) := by
  unfold fn_X15_readGroup_46
  refine fr_cl (fun _ _ e => hs.trans (fr_X15_nextUpTo e)) (fun _ h hs => ?_)
  refine fr_if ?_ ?_
  · exact fr_X15_readGroup_118 hs
  · refine fr_cl (fun _ _ e => hs.trans (fr_X15_nextUpTo e)) (fun _ h hs => ?_)
    refine fr_cl (fun _ _ e => hs.trans (fr_X15_nextUpTo e)) (fun _ h hs => ?_)
    refine fr_bd (fun _ => ?_)
    refine fr_if ?_ ?_
    · refine fr_if ?_ ?_
      · refine fr_if ?_ ?_
        · refine fr_bd (fun _ => ?_)
          refine fr_cl (fun _ _ e => hs.trans (fr_X15_wrong e)) (fun _ h hs => ?_)
          exact fr_X15_readGroup_118 hs
        · exact fr_X15_readGroup_118 hs
      · exact fr_X15_readGroup_118 hs
    · exact fr_X15_readGroup_118 hs
theorem fr_X15_readGroup_0 {h0 : sv_H} {x0 : Nat} {x1 : Int32} {x2 : Int32} {h : sv_H} (hs : sv_same h0 h) : sv_fr sv_same h0 (fn_X15_readGroup x0 x1 x2 h) := by
  unfold fn_X15_readGroup
  refine fr_if ?_ fr_no
  refine fr_bd (fun _ => ?_)
  refine fr_if ?_ ?_
  · refine fr_cl (fun _ _ e => hs.trans (fr_X15_wrong e)) (fun _ h hs => ?_)
    exact fr_X15_readGroup_46 hs
  · refine fr_bd (fun _ => ?_)
    refine fr_if ?_ ?_
    · exact fr_X15_readGroup_46 hs
    · refine fr_cl (fun _ _ e => hs.trans (fr_X15_wrong e)) (fun _ h hs => ?_)
      exact fr_X15_readGroup_46 hs
theorem fr_X15_readGroup {x0 : Nat} {x1 : Int32} {x2 : Int32} {h : sv_H} {r : Unit} {hE : sv_H} (hw : fn_X15_readGroup x0 x1 x2 h = some (r, hE)) : sv_same h hE := fr_X15_readGroup_0 (sv_same.refl h) r hE hw

theorem fr_X15_readAll_264 {h0 : sv_H} {h : sv_H} (hs : sv_same h0 h) : sv_fr sv_same h0 (fn_X15_readAll_264 h) := by
  unfold fn_X15_readAll_264
  exact fr_rt hs
theorem fr_X15_readAll_230 {h0 : sv_H} {k154 : Nat → Int32 → Int32 → Int32 → sv_H → Option (Unit × sv_H)} (hk154 : ∀ {x0 : Nat} {x3 : Int32} {x4 : Int32} {x5 : Int32} {h : sv_H}, sv_same h0 h → sv_fr sv_same h0 (k154 x0 x3 x4 x5 h)) {x0 : Nat} {x3 : Int32} {x4 : Int32} {x5 : Int32} {h : sv_H} (hs : sv_same h0 h) : sv_fr sv_same h0 (fn_X15_readAll_230 k154 x0 x3 x4 x5 h) := by
  unfold fn_X15_readAll_230
  exact hk154 hs
theorem fr_X15_readAll_196 {h0 : sv_H} {k154 : Nat → Int32 → Int32 → Int32 → sv_H → Option (Unit × sv_H)} (hk154 : ∀ {x0 : Nat} {x3 : Int32} {x4 : Int32} {x5 : Int32} {h : sv_H}, sv_same h0 h → sv_fr sv_same h0 (k154 x0 x3 x4 x5 h)) {x0 : Nat} {x3 : Int32} {x4 : Int32} {x5 : Int32} {s0 : Int32} {h : sv_H} (hs : sv_same h0 h) : sv_fr sv_same h0 (fn_X15_readAll_196 k154 x0 x3 x4 x5 s0 h) := by
  unfold fn_X15_readAll_196
  refine fr_cl (fun _ _ e => hs.trans (fr_X15_next e)) (fun _ h hs => ?_)
  refine fr_bd (fun _ => ?_)
  refine fr_if ?_ ?_
  · refine fr_if ?_ ?_
    · exact fr_X15_readAll_230 hk154 hs
    · refine fr_bd (fun _ => ?_)
      refine fr_cl (fun _ _ e => hs.trans (fr_X15_wrong e)) (fun _ h hs => ?_)
      exact fr_X15_readAll_230 hk154 hs
  · exact fr_X15_readAll_230 hk154 hs
theorem fr_X15_readAll_172 {h0 : sv_H} {k154 : Nat → Int32 → Int32 → Int32 → sv_H → Option (Unit × sv_H)} (hk154 : ∀ {x0 : Nat} {x3 : Int32} {x4 : Int32} {x5 : Int32} {h : sv_H}, sv_same h0 h → sv_fr sv_same h0 (k154 x0 x3 x4 x5 h)) {x0 : Nat} {x3 : Int32} {x4 : Int32} {x5 : Int32} {s0 : Int32} {h : sv_H} (hs : sv_same h0 h) : sv_fr sv_same h0 (fn_X15_readAll_172 k154 x0 x3 x4 x5 s0 h) := by
  unfold fn_X15_readAll_172
  refine fr_if ?_ ?_
  · exact fr_X15_readAll_196 hk154 hs
  · exact fr_X15_readAll_196 hk154 hs
theorem fr_X15_readAll_154b {h0 : sv_H} {k154 : Nat → Int32 → Int32 → Int32 → sv_H → Option (Unit × sv_H)} (hk154 : ∀ {x0 : Nat} {x3 : Int32} {x4 : Int32} {x5 : Int32} {h : sv_H}, sv_same h0 h → sv_fr sv_same h0 (k154 x0 x3 x4 x5 h)) {x0 : Nat} {x3 : Int32} {x4 : Int32} {x5 : Int32} {h : sv_H} (hs : sv_same h0 h) : sv_fr sv_same h0 (fn_X15_readAll_154b k154 x0 x3 x4 x5 h) := by
  unfold fn_X15_readAll_154b
  refine fr_if ?_ ?_
  · refine fr_bd (fun _ => ?_)
    refine fr_if ?_ ?_
    · refine fr_bd (fun _ => ?_)
      refine fr_bd (fun _ => ?_)
      refine fr_if ?_ ?_
      · exact fr_X15_readAll_264 hs
      · refine fr_bd (fun _ => ?_)
        refine fr_cl (fun _ _ e => hs.trans (fr_X15_wrong e)) (fun _ h hs => ?_)
        exact fr_X15_readAll_264 hs
    · exact fr_X15_readAll_264 hs
  · refine fr_if ?_ ?_
    · exact fr_X15_readAll_172 hk154 hs
    · exact fr_X15_readAll_172 hk154 hs
theorem fr_X15_readAll_154 {h0 : sv_H} : ∀ (n : Nat) {x0 : Nat} {x3 : Int32} {x4 : Int32} {x5 : Int32} {h : sv_H}, sv_same h0 h → sv_fr sv_same h0 (fn_X15_readAll_154 n x0 x3 x4 x5 h) := by
  intro n
  induction n with
  | zero => intro x0 x3 x4 x5 h hs r hE e; cases (show (none : Option (Unit × sv_H)) = some (r, hE) from e)
  | succ n ih => intro x0 x3 x4 x5 h hs; exact fr_X15_readAll_154b (fun hs => ih hs) hs
theorem fr_X15_readAll_140 {h0 : sv_H} {x0 : Nat} {h : sv_H} (hs : sv_same h0 h) : sv_fr sv_same h0 (fn_X15_readAll_140 x0 h) := by
  unfold fn_X15_readAll_140
  refine fr_bd (fun _ => ?_)
  refine fr_bd (fun _ => ?_)
  exact fr_X15_readAll_154 sv_fuel hs
theorem fr_X15_readAll_110b {h0 : sv_H} {k110 : Nat → Int32 → Int32 → sv_H → Option (Unit × sv_H)} (hk110 : ∀ {x0 : Nat} {x1 : Int32} {x2 : Int32} {h : sv_H}, sv_same h0 h → sv_fr sv_same h0 (k110 x0 x1 x2 h)) {x0 : Nat} {x1 : Int32} {x2 : Int32} {h : sv_H} (hs : sv_same h0 h) : sv_fr sv_same h0 (fn_X15_readAll_110b k110 x0 x1 x2 h) := by
  unfold fn_X15_readAll_110b
  refine fr_if ?_ ?_
  · exact fr_X15_readAll_140 hs
  · refine fr_bd (fun _ => ?_)
    refine fr_if ?_ ?_
    · refine fr_cl (fun _ _ e => hs.trans (fr_X15_readGroup e)) (fun _ h hs => ?_)
      refine fr_cl (fun _ _ e => hs.trans (fr_X15_next e)) (fun _ h hs => ?_)
      exact hk110 hs
    · exact fr_X15_readAll_140 hs
theorem fr_X15_readAll_110 {h0 : sv_H} : ∀ (n : Nat) {x0 : Nat} {x1 : Int32} {x2 : Int32} {h : sv_H}, sv_same h0 h → sv_fr sv_same h0 (fn_X15_readAll_110 n x0 x1 x2 h) := by
  intro n
  induction n with
  | zero => intro x0 x1 x2 h hs r hE e; cases (show (none : Option (Unit × sv_H)) = some (r, hE) from e)
  | succ n ih => intro x0 x1 x2 h hs; exact fr_X15_readAll_110b (fun hs => ih hs) hs
theorem fr_X15_readAll_49 {h0 : sv_H} {k2 : Nat → Int32 → sv_H → Option (Unit × sv_H)} (hk2 : ∀ {x0 : Nat} {x1 : Int32} {h : sv_H}, sv_same h0 h → sv_fr sv_same h0 (k2 x0 x1 h)) {x0 : Nat} {x1 : Int32} {h : sv_H} (hs : sv_same h0 h) : sv_fr sv_same h0 (fn_X15_readAll_49 k2 x0 x1 h) := by
  unfold fn_X15_readAll_49
  exact hk2 hs
theorem fr_X15_readAll_40 {h0 : sv_H} {k2 : Nat → Int32 → sv_H → Option (Unit × sv_H)} (hk2 : ∀ {x0 : Nat} {x1 : Int32} {h : sv_H}, sv_same h0 h → sv_fr sv_same h0 (k2 x0 x1 h)) {x0 : Nat} {x1 : Int32} {s0 : Int32} {s1 : Int32} {h : sv_H} (hs : sv_same h0 h) : sv_fr sv_same h0 (fn_X15_readAll_40 k2 x0 x1 s0 s1 h) := by
  unfold fn_X15_readAll_40
  refine fr_if ?_ ?_
  · exact fr_X15_readAll_49 hk2 hs
  · refine fr_cl (fun _ _ e => hs.trans (fr_X15_wrong e)) (fun _ h hs => ?_)
    exact fr_X15_readAll_49 hk2 hs
theorem fr_X15_readAll_2b {h0 : sv_H} {k2 : Nat → Int32 → sv_H → Option (Unit × sv_H)} (hk2 : ∀ {x0 : Nat} {x1 : Int32} {h : sv_H}, sv_same h0 h → sv_fr sv_same h0 (k2 x0 x1 h)) {x0 : Nat} {x1 : Int32} {h : sv_H} (hs : sv_same h0 h) : sv_fr sv_same h0 (fn_X15_readAll_2b k2 x0 x1 h) := by
  unfold fn_X15_readAll_2b
  refine fr_if ?_ ?_
  · refine fr_bd (fun _ => ?_)
    refine fr_cl (fun _ _ e => hs.trans (fr_X15_nextTwo e)) (fun _ h hs => ?_)
    refine fr_st (fun _ e => hs.trans (st_sI e)) (fun h hs => ?_)
    refine fr_bd (fun _ => ?_)
    refine fr_cl (fun _ _ e => hs.trans (fr_X15_nextTwo e)) (fun _ h hs => ?_)
    refine fr_st (fun _ e => hs.trans (st_sI e)) (fun h hs => ?_)
    refine fr_bd (fun _ => ?_)
    refine fr_cl (fun _ _ e => hs.trans (fr_X15_nextUpTo e)) (fun _ h hs => ?_)
    refine fr_st (fun _ e => hs.trans (st_sI e)) (fun h hs => ?_)
    refine fr_bd (fun _ => ?_)
    refine fr_cl (fun _ _ e => hs.trans (fr_X15_next e)) (fun _ h hs => ?_)
    refine fr_st (fun _ e => hs.trans (st_sI e)) (fun h hs => ?_)
    refine fr_st (fun _ e => hs.trans (st_pI e)) (fun h hs => ?_)
    refine fr_cl (fun _ _ e => hs.trans (fr_X15_next e)) (fun _ h hs => ?_)
    exact fr_X15_readAll_110 sv_fuel hs
  · refine fr_cl (fun _ _ e => hs.trans (fr_X15_next e)) (fun _ h hs => ?_)
    refine fr_bd (fun _ => ?_)
    refine fr_if ?_ ?_
    · refine fr_if ?_ ?_
      · exact fr_X15_readAll_40 hk2 hs
      · refine fr_if ?_ ?_
        · exact fr_X15_readAll_40 hk2 hs
        · exact fr_X15_readAll_40 hk2 hs
    · exact fr_X15_readAll_49 hk2 hs
theorem fr_X15_readAll_2 {h0 : sv_H} : ∀ (n : Nat) {x0 : Nat} {x1 : Int32} {h : sv_H}, sv_same h0 h → sv_fr sv_same h0 (fn_X15_readAll_2 n x0 x1 h) := by
  intro n
  induction n with
  | zero => intro x0 x1 h hs r hE e; cases (show (none : Option (Unit × sv_H)) = some (r, hE) from e)
  | succ n ih => intro x0 x1 h hs; exact fr_X15_readAll_2b (fun hs => ih hs) hs
theorem fr_X15_readAll_0 {h0 : sv_H} {x0 : Nat} {h : sv_H} (hs : sv_same h0 h) : sv_fr sv_same h0 (fn_X15_readAll x0 h) := by
  unfold fn_X15_readAll
  refine fr_if ?_ fr_no
  exact fr_X15_readAll_2 sv_fuel hs
theorem fr_X15_readAll {x0 : Nat} {h : sv_H} {r : Unit} {hE : sv_H} (hw : fn_X15_readAll x0 h = some (r, hE)) : sv_same h hE := fr_X15_readAll_0 (sv_same.refl h) r hE hw

theorem fr_X15_read_101b {h0 : sv_H} {k101 : Nat → Int32 → sv_H → Option (Int32 × sv_H)} (hk101 : ∀ {x0 : Nat} {x2 : Int32} {h : sv_H}, sv_same h0 h → sv_fr sv_same h0 (k101 x0 x2 h)) {x0 : Nat} {x2 : Int32} {h : sv_H} (hs : sv_same h0 h) : sv_fr sv_same h0 (fn_X15_read_101b k101 x0 x2 h) := by
  unfold fn_X15_read_101b
  refine fr_bd (fun _ => ?_)
  refine fr_if ?_ ?_
  · exact fr_rt hs
  · refine fr_bd (fun _ => ?_)
    refine fr_bd (fun _ => ?_)
    refine fr_bd (fun _ => ?_)
    refine fr_st (fun _ e => hs.trans (st_sI e)) (fun h hs => ?_)
    refine fr_bd (fun _ => ?_)
    refine fr_bd (fun _ => ?_)
    refine fr_bd (fun _ => ?_)
    refine fr_st (fun _ e => hs.trans (st_sI e)) (fun h hs => ?_)
    refine fr_bd (fun _ => ?_)
    refine fr_bd (fun _ => ?_)
    refine fr_bd (fun _ => ?_)
    refine fr_st (fun _ e => hs.trans (st_sI e)) (fun h hs => ?_)
    refine fr_bd (fun _ => ?_)
    refine fr_bd (fun _ => ?_)
    refine fr_bd (fun _ => ?_)
    refine fr_st (fun _ e => hs.trans (st_sZ e)) (fun h hs => ?_)
    exact hk101 hs
theorem fr_X15_read_101 {h0 : sv_H} : ∀ (n : Nat) {x0 : Nat} {x2 : Int32} {h : sv_H}, sv_same h0 h → sv_fr sv_same h0 (fn_X15_read_101 n x0 x2 h) := by
  intro n
  induction n with
  | zero => intro x0 x2 h hs r hE e; cases (show (none : Option (Int32 × sv_H)) = some (r, hE) from e)
  | succ n ih => intro x0 x2 h hs; exact fr_X15_read_101b (fun hs => ih hs) hs
theorem fr_X15_read_68b {h0 : sv_H} {k68 : Nat → Int32 → sv_H → Option (Int32 × sv_H)} (hk68 : ∀ {x0 : Nat} {x2 : Int32} {h : sv_H}, sv_same h0 h → sv_fr sv_same h0 (k68 x0 x2 h)) {x0 : Nat} {x2 : Int32} {h : sv_H} (hs : sv_same h0 h) : sv_fr sv_same h0 (fn_X15_read_68b k68 x0 x2 h) := by
  unfold fn_X15_read_68b
  refine fr_if ?_ ?_
  · refine fr_bd (fun _ => ?_)
    refine fr_st (fun _ e => hs.trans (st_pI e)) (fun h hs => ?_)
    exact fr_X15_read_101 sv_fuel hs
  · refine fr_bd (fun _ => ?_)
    refine fr_bd (fun _ => ?_)
    refine fr_bd (fun _ => ?_)
    refine fr_st (fun _ e => hs.trans (st_sI e)) (fun h hs => ?_)
    exact hk68 hs
theorem fr_X15_read_68 {h0 : sv_H} : ∀ (n : Nat) {x0 : Nat} {x2 : Int32} {h : sv_H}, sv_same h0 h → sv_fr sv_same h0 (fn_X15_read_68 n x0 x2 h) := by
  intro n
  induction n with
  | zero => intro x0 x2 h hs r hE e; cases (show (none : Option (Int32 × sv_H)) = some (r, hE) from e)
  | succ n ih => intro x0 x2 h hs; exact fr_X15_read_68b (fun hs => ih hs) hs
theorem fr_X15_read_54 {h0 : sv_H} {x0 : Nat} {h : sv_H} (hs : sv_same h0 h) : sv_fr sv_same h0 (fn_X15_read_54 x0 h) := by
  unfold fn_X15_read_54
  refine fr_bd (fun _ => ?_)
  refine fr_if ?_ ?_
  · exact fr_X15_read_68 sv_fuel hs
  · refine fr_bd (fun _ => ?_)
    exact fr_rt hs
theorem fr_X15_read_0 {h0 : sv_H} {x0 : Nat} {x1 : Int32} {h : sv_H} (hs : sv_same h0 h) : sv_fr sv_same h0 (fn_X15_read x0 x1 h) := by
  unfold fn_X15_read
  refine fr_if ?_ fr_no
  refine fr_st (fun _ e => hs.trans (st_pI e)) (fun h hs => ?_)
  refine fr_st (fun _ e => hs.trans (st_pI e)) (fun h hs => ?_)
  refine fr_st (fun _ e => hs.trans (st_pI e)) (fun h hs => ?_)
  refine fr_st (fun _ e => hs.trans (st_pI e)) (fun h hs => ?_)
  refine fr_st (fun _ e => hs.trans (st_pI e)) (fun h hs => ?_)
  refine fr_cl (fun _ _ e => hs.trans (fr_X15_readAll e)) (fun _ h hs => ?_)
  refine fr_bd (fun _ => ?_)
  refine fr_if ?_ ?_
  · refine fr_bd (fun _ => ?_)
    refine fr_bd (fun _ => ?_)
    refine fr_if ?_ ?_
    · exact fr_X15_read_54 hs
    · refine fr_cl (fun _ _ e => hs.trans (fr_X15_wrong e)) (fun _ h hs => ?_)
      exact fr_X15_read_54 hs
  · exact fr_X15_read_54 hs
theorem fr_X15_read {x0 : Nat} {x1 : Int32} {h : sv_H} {r : Int32} {hE : sv_H} (hw : fn_X15_read x0 x1 h = some (r, hE)) : sv_same h hE := fr_X15_read_0 (sv_same.refl h) r hE hw

theorem fr_X17_loadDemo_97 {h0 : sv_H} {x0 : Nat} {h : sv_H} (hs : sv_same h0 h) : sv_fr sv_same h0 (fn_X17_loadDemo_97 x0 h) := by
  unfold fn_X17_loadDemo_97
  refine fr_bd (fun _ => ?_)
  exact fr_rt hs
theorem fr_X17_loadDemo_7b {h0 : sv_H} {k7 : Nat → Int32 → sv_H → Option (Int32 × sv_H)} (hk7 : ∀ {x0 : Nat} {x1 : Int32} {h : sv_H}, sv_same h0 h → sv_fr sv_same h0 (k7 x0 x1 h)) {x0 : Nat} {x1 : Int32} {h : sv_H} (hs : sv_same h0 h) : sv_fr sv_same h0 (fn_X17_loadDemo_7b k7 x0 x1 h) := by
  unfold fn_X17_loadDemo_7b
  refine fr_bd (fun _ => ?_)
  refine fr_bd (fun _ => ?_)
  refine fr_if ?_ ?_
  · refine fr_bd (fun _ => ?_)
    refine fr_bd (fun _ => ?_)
    refine fr_bd (fun _ => ?_)
    refine fr_st (fun _ e => hs.trans (st_pI e)) (fun h hs => ?_)
    refine fr_bd (fun _ => ?_)
    refine fr_cl (fun _ _ e => hs.trans (fr_X17_sectors e)) (fun _ h hs => ?_)
    refine fr_cl (fun _ _ e => hs.trans (fr_X15_read e)) (fun _ h hs => ?_)
    refine fr_st (fun _ e => hs.trans (st_pI e)) (fun h hs => ?_)
    refine fr_bd (fun _ => ?_)
    refine fr_bd (fun _ => ?_)
    refine fr_st (fun _ e => hs.trans (st_pI e)) (fun h hs => ?_)
    refine fr_bd (fun _ => ?_)
    refine fr_if ?_ ?_
    · refine fr_cl (fun _ _ e => hs.trans (fr_X17_begin e)) (fun _ h hs => ?_)
      exact fr_X17_loadDemo_97 hs
    · exact fr_X17_loadDemo_97 hs
  · refine fr_bd (fun _ => ?_)
    refine fr_bd (fun _ => ?_)
    refine fr_bd (fun _ => ?_)
    refine fr_bd (fun _ => ?_)
    refine fr_bd (fun _ => ?_)
    refine fr_st (fun _ e => hs.trans (st_sI e)) (fun h hs => ?_)
    exact hk7 hs
theorem fr_X17_loadDemo_7 {h0 : sv_H} : ∀ (n : Nat) {x0 : Nat} {x1 : Int32} {h : sv_H}, sv_same h0 h → sv_fr sv_same h0 (fn_X17_loadDemo_7 n x0 x1 h) := by
  intro n
  induction n with
  | zero => intro x0 x1 h hs r hE e; cases (show (none : Option (Int32 × sv_H)) = some (r, hE) from e)
  | succ n ih => intro x0 x1 h hs; exact fr_X17_loadDemo_7b (fun hs => ih hs) hs
theorem fr_X17_loadDemo_0 {h0 : sv_H} {x0 : Nat} {h : sv_H} (hs : sv_same h0 h) : sv_fr sv_same h0 (fn_X17_loadDemo x0 h) := by
  unfold fn_X17_loadDemo
  refine fr_if ?_ fr_no
  refine fr_st (fun _ e => hs.trans (st_pI e)) (fun h hs => ?_)
  exact fr_X17_loadDemo_7 sv_fuel hs
theorem fr_X17_loadDemo {x0 : Nat} {h : sv_H} {r : Int32} {hE : sv_H} (hw : fn_X17_loadDemo x0 h = some (r, hE)) : sv_same h hE := fr_X17_loadDemo_0 (sv_same.refl h) r hE hw

theorem fr_X12_saveMap_0 {h0 : sv_H} {x0 : Nat} {h : sv_H} (hs : sv_le h0 h) : sv_fr sv_le h0 (fn_X12_saveMap x0 h) := by
  unfold fn_X12_saveMap
  refine fr_if ?_ fr_no
  refine fr_cl (fun _ _ e => hs.trans (fr_X12_hasMap e).le) (fun _ h hs => ?_)
  refine fr_if ?_ ?_
  · exact fr_rt hs
  · refine fr_bd (fun _ => ?_)
    refine fr_bd (fun _ => ?_)
    refine fr_bd (fun _ => ?_)
    refine fr_cl (fun _ _ e => hs.trans (fr_X0_become e)) (fun _ h hs => ?_)
    refine fr_bd (fun _ => ?_)
    refine fr_bd (fun _ => ?_)
    exact fr_rt hs
theorem fr_X12_saveMap {x0 : Nat} {h : sv_H} {r : Int32} {hE : sv_H} (hw : fn_X12_saveMap x0 h = some (r, hE)) : sv_le h hE := fr_X12_saveMap_0 (sv_le.refl h) r hE hw

theorem fr_X17_saveMap_27b {h0 : sv_H} {k27 : Nat → Int32 → sv_H → Option (Int32 × sv_H)} (hk27 : ∀ {x0 : Nat} {x1 : Int32} {h : sv_H}, sv_same h0 h → sv_fr sv_same h0 (k27 x0 x1 h)) {x0 : Nat} {x1 : Int32} {h : sv_H} (hs : sv_same h0 h) : sv_fr sv_same h0 (fn_X17_saveMap_27b k27 x0 x1 h) := by
  unfold fn_X17_saveMap_27b
  refine fr_bd (fun _ => ?_)
  refine fr_if ?_ ?_
  · refine fr_bd (fun _ => ?_)
    exact fr_rt hs
  · refine fr_bd (fun _ => ?_)
    refine fr_bd (fun _ => ?_)
    refine fr_bd (fun _ => ?_)
    refine fr_bd (fun _ => ?_)
    refine fr_st (fun _ e => hs.trans (st_sI e)) (fun h hs => ?_)
    exact hk27 hs
theorem fr_X17_saveMap_27 {h0 : sv_H} : ∀ (n : Nat) {x0 : Nat} {x1 : Int32} {h : sv_H}, sv_same h0 h → sv_fr sv_same h0 (fn_X17_saveMap_27 n x0 x1 h) := by
  intro n
  induction n with
  | zero => intro x0 x1 h hs r hE e; cases (show (none : Option (Int32 × sv_H)) = some (r, hE) from e)
  | succ n ih => intro x0 x1 h hs; exact fr_X17_saveMap_27b (fun hs => ih hs) hs
theorem fr_X17_saveMap_0 {h0 : sv_H} {x0 : Nat} {h : sv_H} (hs : sv_same h0 h) : sv_fr sv_same h0 (fn_X17_saveMap x0 h) := by
  unfold fn_X17_saveMap
  refine fr_if ?_ fr_no
  refine fr_st (fun _ e => hs.trans (st_pI e)) (fun h hs => ?_)
  refine fr_bd (fun _ => ?_)
  refine fr_if ?_ ?_
  · exact fr_rt hs
  · refine fr_bd (fun _ => ?_)
    refine fr_bd (fun _ => ?_)
    refine fr_st (fun _ e => hs.trans (st_pI e)) (fun h hs => ?_)
    exact fr_X17_saveMap_27 sv_fuel hs
theorem fr_X17_saveMap {x0 : Nat} {h : sv_H} {r : Int32} {hE : sv_H} (hw : fn_X17_saveMap x0 h = some (r, hE)) : sv_same h hE := fr_X17_saveMap_0 (sv_same.refl h) r hE hw

theorem fr_X0_putPair_0 {h0 : sv_H} {x0 : Nat} {x1 : Int32} {h : sv_H} (hs : sv_le h0 h) : sv_fr sv_le h0 (fn_X0_putPair x0 x1 h) := by
  unfold fn_X0_putPair
  refine fr_if ?_ fr_no
  refine fr_cl (fun _ _ e => hs.trans (fr_X0_put e)) (fun _ h hs => ?_)
  refine fr_cl (fun _ _ e => hs.trans (fr_X0_put e)) (fun _ h hs => ?_)
  exact fr_rt hs
theorem fr_X0_putPair {x0 : Nat} {x1 : Int32} {h : sv_H} {r : Unit} {hE : sv_H} (hw : fn_X0_putPair x0 x1 h = some (r, hE)) : sv_le h hE := fr_X0_putPair_0 (sv_le.refl h) r hE hw

theorem fr_X5_asideOf_0 {h0 : sv_H} {x0 : Int32} {h : sv_H} (hs : sv_same h0 h) : sv_fr sv_same h0 (fn_X5_asideOf x0 h) := by
  unfold fn_X5_asideOf
  exact fr_rt hs
theorem fr_X5_asideOf {x0 : Int32} {h : sv_H} {r : Int32} {hE : sv_H} (hw : fn_X5_asideOf x0 h = some (r, hE)) : sv_same h hE := fr_X5_asideOf_0 (sv_same.refl h) r hE hw

theorem fr_X5_turnOf_0 {h0 : sv_H} {x0 : Int32} {h : sv_H} (hs : sv_same h0 h) : sv_fr sv_same h0 (fn_X5_turnOf x0 h) := by
  unfold fn_X5_turnOf
  exact fr_rt hs
theorem fr_X5_turnOf {x0 : Int32} {h : sv_H} {r : Int32} {hE : sv_H} (hw : fn_X5_turnOf x0 h = some (r, hE)) : sv_same h hE := fr_X5_turnOf_0 (sv_same.refl h) r hE hw

theorem fr_X5_usesOf_12 {h0 : sv_H} {s0 : Int32} {h : sv_H} (hs : sv_same h0 h) : sv_fr sv_same h0 (fn_X5_usesOf_12 s0 h) := by
  unfold fn_X5_usesOf_12
  exact fr_rz hs
theorem fr_X5_usesOf_0 {h0 : sv_H} {x0 : Int32} {h : sv_H} (hs : sv_same h0 h) : sv_fr sv_same h0 (fn_X5_usesOf x0 h) := by
  unfold fn_X5_usesOf
  refine fr_if ?_ ?_
  · exact fr_X5_usesOf_12 hs
  · exact fr_X5_usesOf_12 hs
theorem fr_X5_usesOf {x0 : Int32} {h : sv_H} {r : Int32} {hE : sv_H} (hw : fn_X5_usesOf x0 h = some (r, hE)) : sv_same h hE := fr_X5_usesOf_0 (sv_same.refl h) r hE hw

theorem fr_X5_aheadOf_0 {h0 : sv_H} {x0 : Int32} {h : sv_H} (hs : sv_same h0 h) : sv_fr sv_same h0 (fn_X5_aheadOf x0 h) := by
  unfold fn_X5_aheadOf
  exact fr_rt hs
theorem fr_X5_aheadOf {x0 : Int32} {h : sv_H} {r : Int32} {hE : sv_H} (hw : fn_X5_aheadOf x0 h = some (r, hE)) : sv_same h hE := fr_X5_aheadOf_0 (sv_same.refl h) r hE hw

theorem fr_X5_writeGroup_88 {h0 : sv_H} {h : sv_H} (hs : sv_le h0 h) : sv_fr sv_le h0 (fn_X5_writeGroup_88 h) := by
  unfold fn_X5_writeGroup_88
  exact fr_rt hs
theorem fr_X5_writeGroup_47 {h0 : sv_H} {x0 : Nat} {x1 : Int32} {x3 : Int32} {s0 : Nat} {s1 : Int32} {s2 : Int32} {h : sv_H} (hs : sv_le h0 h) : sv_fr sv_le h0 (fn_X5_writeGroup_47 x0 x1 x3 s0 s1 s2 h) := by
  unfold fn_X5_writeGroup_47
  refine fr_cl (fun _ _ e => hs.trans (fr_X0_put e)) (fun _ h hs => ?_)
  refine fr_cl (fun _ _ e => hs.trans (fr_X5_aheadOf e).le) (fun _ h hs => ?_)
  refine fr_cl (fun _ _ e => hs.trans (fr_X0_put e)) (fun _ h hs => ?_)
  refine fr_if ?_ ?_
  · exact fr_X5_writeGroup_88 hs
  · refine fr_cl (fun _ _ e => hs.trans (fr_X5_asideOf e).le) (fun _ h hs => ?_)
    refine fr_cl (fun _ _ e => hs.trans (fr_X0_put e)) (fun _ h hs => ?_)
    refine fr_cl (fun _ _ e => hs.trans (fr_X5_turnOf e).le) (fun _ h hs => ?_)
    refine fr_cl (fun _ _ e => hs.trans (fr_X0_put e)) (fun _ h hs => ?_)
    exact fr_X5_writeGroup_88 hs
theorem fr_X5_writeGroup_35 {h0 : sv_H} {x0 : Nat} {x1 : Int32} {x3 : Int32} {s0 : Nat} {s1 : Int32} {s2 : Int32} {h : sv_H} (hs : sv_le h0 h) : sv_fr sv_le h0 (fn_X5_writeGroup_35 x0 x1 x3 s0 s1 s2 h) := by
  unfold fn_X5_writeGroup_35
  refine fr_if ?_ ?_
  · exact fr_X5_writeGroup_47 hs
  · exact fr_X5_writeGroup_47 hs
theorem fr_X5_writeGroup_19 {h0 : sv_H} {x0 : Nat} {x1 : Int32} {x2 : Int32} {s0 : Int32} {h : sv_H} (hs : sv_le h0 h) : sv_fr sv_le h0 (fn_X5_writeGroup_19 x0 x1 x2 s0 h) := by
  unfold fn_X5_writeGroup_19
  refine fr_cl (fun _ _ e => hs.trans (fr_X5_usesOf e).le) (fun _ h hs => ?_)
  refine fr_if ?_ ?_
  · exact fr_X5_writeGroup_35 hs
  · exact fr_X5_writeGroup_35 hs
theorem fr_X5_writeGroup_14 {h0 : sv_H} {x0 : Nat} {x1 : Int32} {x2 : Int32} {h : sv_H} (hs : sv_le h0 h) : sv_fr sv_le h0 (fn_X5_writeGroup_14 x0 x1 x2 h) := by
  unfold fn_X5_writeGroup_14
  exact fr_X5_writeGroup_19 hs
theorem fr_X5_writeGroup_0 {h0 : sv_H} {x0 : Nat} {x1 : Int32} {x2 : Int32} {h : sv_H} (hs : sv_le h0 h) : sv_fr sv_le h0 (fn_X5_writeGroup x0 x1 x2 h) := by
  unfold fn_X5_writeGroup
  refine fr_cl (fun _ _ e => hs.trans (fr_X5_asideOf e).le) (fun _ h hs => ?_)
  refine fr_if ?_ ?_
  · refine fr_cl (fun _ _ e => hs.trans (fr_X5_turnOf e).le) (fun _ h hs => ?_)
    refine fr_if ?_ ?_
    · exact fr_X5_writeGroup_19 hs
    · exact fr_X5_writeGroup_14 hs
  · exact fr_X5_writeGroup_14 hs
theorem fr_X5_writeGroup {x0 : Nat} {x1 : Int32} {x2 : Int32} {h : sv_H} {r : Unit} {hE : sv_H} (hw : fn_X5_writeGroup x0 x1 x2 h = some (r, hE)) : sv_le h hE := fr_X5_writeGroup_0 (sv_le.refl h) r hE hw

theorem fr_X5_write_151b {h0 : sv_H} {k151 : Nat → Int64 → Int32 → sv_H → Option (Unit × sv_H)} (hk151 : ∀ {x1 : Nat} {x3 : Int64} {x5 : Int32} {h : sv_H}, sv_le h0 h → sv_fr sv_le h0 (k151 x1 x3 x5 h)) {x1 : Nat} {x3 : Int64} {x5 : Int32} {h : sv_H} (hs : sv_le h0 h) : sv_fr sv_le h0 (fn_X5_write_151b k151 x1 x3 x5 h) := by
  unfold fn_X5_write_151b
  refine fr_if ?_ ?_
  · exact fr_rt hs
  · refine fr_cl (fun _ _ e => hs.trans (fr_X0_put e)) (fun _ h hs => ?_)
    exact hk151 hs
theorem fr_X5_write_151 {h0 : sv_H} : ∀ (n : Nat) {x1 : Nat} {x3 : Int64} {x5 : Int32} {h : sv_H}, sv_le h0 h → sv_fr sv_le h0 (fn_X5_write_151 n x1 x3 x5 h) := by
  intro n
  induction n with
  | zero => intro x1 x3 x5 h hs r hE e; cases (show (none : Option (Unit × sv_H)) = some (r, hE) from e)
  | succ n ih => intro x1 x3 x5 h hs; exact fr_X5_write_151b (fun hs => ih hs) hs
theorem fr_X5_write_127 {h0 : sv_H} {k70 : Nat → Nat → Int32 → Int32 → sv_H → Option (Unit × sv_H)} (hk70 : ∀ {x0 : Nat} {x1 : Nat} {x2 : Int32} {x3 : Int32} {h : sv_H}, sv_le h0 h → sv_fr sv_le h0 (k70 x0 x1 x2 x3 h)) {x0 : Nat} {x1 : Nat} {x2 : Int32} {x3 : Int32} {h : sv_H} (hs : sv_le h0 h) : sv_fr sv_le h0 (fn_X5_write_127 k70 x0 x1 x2 x3 h) := by
  unfold fn_X5_write_127
  exact hk70 hs
theorem fr_X5_write_114 {h0 : sv_H} {k70 : Nat → Nat → Int32 → Int32 → sv_H → Option (Unit × sv_H)} (hk70 : ∀ {x0 : Nat} {x1 : Nat} {x2 : Int32} {x3 : Int32} {h : sv_H}, sv_le h0 h → sv_fr sv_le h0 (k70 x0 x1 x2 x3 h)) {x0 : Nat} {x1 : Nat} {x2 : Int32} {x3 : Int32} {h : sv_H} (hs : sv_le h0 h) : sv_fr sv_le h0 (fn_X5_write_114 k70 x0 x1 x2 x3 h) := by
  unfold fn_X5_write_114
  refine fr_bd (fun _ => ?_)
  refine fr_bd (fun _ => ?_)
  refine fr_cl (fun _ _ e => hs.trans (fr_X5_writeGroup e)) (fun _ h hs => ?_)
  exact fr_X5_write_127 hk70 hs
theorem fr_X5_write_70b {h0 : sv_H} {k70 : Nat → Nat → Int32 → Int32 → sv_H → Option (Unit × sv_H)} (hk70 : ∀ {x0 : Nat} {x1 : Nat} {x2 : Int32} {x3 : Int32} {h : sv_H}, sv_le h0 h → sv_fr sv_le h0 (k70 x0 x1 x2 x3 h)) {x0 : Nat} {x1 : Nat} {x2 : Int32} {x3 : Int32} {h : sv_H} (hs : sv_le h0 h) : sv_fr sv_le h0 (fn_X5_write_70b k70 x0 x1 x2 x3 h) := by
  unfold fn_X5_write_70b
  refine fr_bd (fun _ => ?_)
  refine fr_if ?_ ?_
  · refine fr_cl (fun _ _ e => hs.trans (fr_X0_put e)) (fun _ h hs => ?_)
    refine fr_bd (fun _ => ?_)
    refine fr_cl (fun _ _ e => hs.trans (fr_X5_checkOf e).le) (fun _ h hs => ?_)
    exact fr_X5_write_151 sv_fuel hs
  · refine fr_if ?_ ?_
    · exact fr_X5_write_114 hk70 hs
    · refine fr_bd (fun _ => ?_)
      refine fr_if ?_ ?_
      · exact fr_X5_write_114 hk70 hs
      · refine fr_bd (fun _ => ?_)
        refine fr_bd (fun _ => ?_)
        refine fr_bd (fun _ => ?_)
        refine fr_bd (fun _ => ?_)
        refine fr_if ?_ ?_
        · exact fr_X5_write_127 hk70 hs
        · exact fr_X5_write_114 hk70 hs
theorem fr_X5_write_70 {h0 : sv_H} : ∀ (n : Nat) {x0 : Nat} {x1 : Nat} {x2 : Int32} {x3 : Int32} {h : sv_H}, sv_le h0 h → sv_fr sv_le h0 (fn_X5_write_70 n x0 x1 x2 x3 h) := by
  intro n
  induction n with
  | zero => intro x0 x1 x2 x3 h hs r hE e; cases (show (none : Option (Unit × sv_H)) = some (r, hE) from e)
  | succ n ih => intro x0 x1 x2 x3 h hs; exact fr_X5_write_70b (fun hs => ih hs) hs
theorem fr_X5_write_0 {h0 : sv_H} {x0 : Nat} {x1 : Nat} {h : sv_H} (hs : sv_le h0 h) : sv_fr sv_le h0 (fn_X5_write x0 x1 h) := by
  unfold fn_X5_write
  refine fr_if ?_ fr_no
  refine fr_st (fun _ e => hs.trans (st_pI e).le) (fun h hs => ?_)
  refine fr_cl (fun _ _ e => hs.trans (fr_X0_put e)) (fun _ h hs => ?_)
  refine fr_cl (fun _ _ e => hs.trans (fr_X0_put e)) (fun _ h hs => ?_)
  refine fr_cl (fun _ _ e => hs.trans (fr_X0_put e)) (fun _ h hs => ?_)
  refine fr_bd (fun _ => ?_)
  refine fr_bd (fun _ => ?_)
  refine fr_cl (fun _ _ e => hs.trans (fr_X0_putPair e)) (fun _ h hs => ?_)
  refine fr_bd (fun _ => ?_)
  refine fr_bd (fun _ => ?_)
  refine fr_cl (fun _ _ e => hs.trans (fr_X0_putPair e)) (fun _ h hs => ?_)
  refine fr_bd (fun _ => ?_)
  refine fr_bd (fun _ => ?_)
  refine fr_cl (fun _ _ e => hs.trans (fr_X0_put e)) (fun _ h hs => ?_)
  refine fr_bd (fun _ => ?_)
  refine fr_bd (fun _ => ?_)
  refine fr_cl (fun _ _ e => hs.trans (fr_X0_put e)) (fun _ h hs => ?_)
  exact fr_X5_write_70 sv_fuel hs
theorem fr_X5_write {x0 : Nat} {x1 : Nat} {h : sv_H} {r : Unit} {hE : sv_H} (hw : fn_X5_write x0 x1 h = some (r, hE)) : sv_le h hE := fr_X5_write_0 (sv_le.refl h) r hE hw

theorem fr_X12_saveDemo_0 {h0 : sv_H} {x0 : Nat} {h : sv_H} (hs : sv_le h0 h) : sv_fr sv_le h0 (fn_X12_saveDemo x0 h) := by
  unfold fn_X12_saveDemo
  refine fr_if ?_ fr_no
  refine fr_cl (fun _ _ e => hs.trans (fr_X12_hasMap e).le) (fun _ h hs => ?_)
  refine fr_if ?_ ?_
  · exact fr_rt hs
  · refine fr_bd (fun _ => ?_)
    refine fr_bd (fun _ => ?_)
    refine fr_cl (fun _ _ e => hs.trans (fr_X5_write e)) (fun _ h hs => ?_)
    refine fr_bd (fun _ => ?_)
    refine fr_bd (fun _ => ?_)
    exact fr_rt hs
theorem fr_X12_saveDemo {x0 : Nat} {h : sv_H} {r : Int32} {hE : sv_H} (hw : fn_X12_saveDemo x0 h = some (r, hE)) : sv_le h hE := fr_X12_saveDemo_0 (sv_le.refl h) r hE hw

theorem fr_X15_put_0 {h0 : sv_H} {x0 : Nat} {x1 : Int32} {h : sv_H} (hs : sv_same h0 h) : sv_fr sv_same h0 (fn_X15_put x0 x1 h) := by
  unfold fn_X15_put
  refine fr_if ?_ fr_no
  refine fr_bd (fun _ => ?_)
  refine fr_bd (fun _ => ?_)
  refine fr_st (fun _ e => hs.trans (st_sI e)) (fun h hs => ?_)
  refine fr_bd (fun _ => ?_)
  refine fr_st (fun _ e => hs.trans (st_pI e)) (fun h hs => ?_)
  exact fr_rt hs
theorem fr_X15_put {x0 : Nat} {x1 : Int32} {h : sv_H} {r : Unit} {hE : sv_H} (hw : fn_X15_put x0 x1 h = some (r, hE)) : sv_same h hE := fr_X15_put_0 (sv_same.refl h) r hE hw

theorem fr_X15_run_92 {h0 : sv_H} {x2 : Int32} {h : sv_H} (hs : sv_same h0 h) : sv_fr sv_same h0 (fn_X15_run_92 x2 h) := by
  unfold fn_X15_run_92
  exact fr_rt hs
theorem fr_X15_run_2b {h0 : sv_H} {k2 : Nat → Int32 → Int32 → sv_H → Option (Int32 × sv_H)} (hk2 : ∀ {x0 : Nat} {x1 : Int32} {x2 : Int32} {h : sv_H}, sv_same h0 h → sv_fr sv_same h0 (k2 x0 x1 x2 h)) {x0 : Nat} {x1 : Int32} {x2 : Int32} {h : sv_H} (hs : sv_same h0 h) : sv_fr sv_same h0 (fn_X15_run_2b k2 x0 x1 x2 h) := by
  unfold fn_X15_run_2b
  refine fr_if ?_ ?_
  · exact fr_X15_run_92 hs
  · refine fr_bd (fun _ => ?_)
    refine fr_if ?_ ?_
    · exact fr_X15_run_92 hs
    · refine fr_bd (fun _ => ?_)
      refine fr_bd (fun _ => ?_)
      refine fr_bd (fun _ => ?_)
      refine fr_bd (fun _ => ?_)
      refine fr_if ?_ ?_
      · refine fr_bd (fun _ => ?_)
        refine fr_bd (fun _ => ?_)
        refine fr_bd (fun _ => ?_)
        refine fr_bd (fun _ => ?_)
        refine fr_if ?_ ?_
        · refine fr_bd (fun _ => ?_)
          refine fr_bd (fun _ => ?_)
          refine fr_bd (fun _ => ?_)
          refine fr_bd (fun _ => ?_)
          refine fr_if ?_ ?_
          · refine fr_bd (fun _ => ?_)
            refine fr_bd (fun _ => ?_)
            refine fr_bd (fun _ => ?_)
            refine fr_bd (fun _ => ?_)
            refine fr_if ?_ ?_
            · exact hk2 hs
            · exact fr_X15_run_92 hs
          · exact fr_X15_run_92 hs
        · exact fr_X15_run_92 hs
      · exact fr_X15_run_92 hs
theorem fr_X15_run_2 {h0 : sv_H} : ∀ (n : Nat) {x0 : Nat} {x1 : Int32} {x2 : Int32} {h : sv_H}, sv_same h0 h → sv_fr sv_same h0 (fn_X15_run_2 n x0 x1 x2 h) := by
  intro n
  induction n with
  | zero => intro x0 x1 x2 h hs r hE e; cases (show (none : Option (Int32 × sv_H)) = some (r, hE) from e)
  | succ n ih => intro x0 x1 x2 h hs; exact fr_X15_run_2b (fun hs => ih hs) hs
theorem fr_X15_run_0 {h0 : sv_H} {x0 : Nat} {x1 : Int32} {h : sv_H} (hs : sv_same h0 h) : sv_fr sv_same h0 (fn_X15_run x0 x1 h) := by
  unfold fn_X15_run
  refine fr_if ?_ fr_no
  exact fr_X15_run_2 sv_fuel hs
theorem fr_X15_run {x0 : Nat} {x1 : Int32} {h : sv_H} {r : Int32} {hE : sv_H} (hw : fn_X15_run x0 x1 h = some (r, hE)) : sv_same h hE := fr_X15_run_0 (sv_same.refl h) r hE hw

theorem fr_X15_checkByte_36 {h0 : sv_H} {s0 : Int32} {h : sv_H} (hs : sv_same h0 h) : sv_fr sv_same h0 (fn_X15_checkByte_36 s0 h) := by
  unfold fn_X15_checkByte_36
  exact fr_rt hs
theorem fr_X15_checkByte_16 {h0 : sv_H} {x1 : Int32} {s0 : Int32} {h : sv_H} (hs : sv_same h0 h) : sv_fr sv_same h0 (fn_X15_checkByte_16 x1 s0 h) := by
  unfold fn_X15_checkByte_16
  refine fr_if ?_ ?_
  · exact fr_X15_checkByte_36 hs
  · exact fr_X15_checkByte_36 hs
theorem fr_X15_checkByte_0 {h0 : sv_H} {x0 : Nat} {x1 : Int32} {h : sv_H} (hs : sv_same h0 h) : sv_fr sv_same h0 (fn_X15_checkByte x0 x1 h) := by
  unfold fn_X15_checkByte
  refine fr_if ?_ fr_no
  refine fr_if ?_ ?_
  · refine fr_bd (fun _ => ?_)
    exact fr_X15_checkByte_16 hs
  · refine fr_bd (fun _ => ?_)
    exact fr_X15_checkByte_16 hs
theorem fr_X15_checkByte {x0 : Nat} {x1 : Int32} {h : sv_H} {r : Int32} {hE : sv_H} (hw : fn_X15_checkByte x0 x1 h = some (r, hE)) : sv_same h hE := fr_X15_checkByte_0 (sv_same.refl h) r hE hw

theorem fr_X15_write_244b {h0 : sv_H} {k244 : Nat → Int32 → sv_H → Option (Int32 × sv_H)} (hk244 : ∀ {x0 : Nat} {x2 : Int32} {h : sv_H}, sv_same h0 h → sv_fr sv_same h0 (k244 x0 x2 h)) {x0 : Nat} {x2 : Int32} {h : sv_H} (hs : sv_same h0 h) : sv_fr sv_same h0 (fn_X15_write_244b k244 x0 x2 h) := by
  unfold fn_X15_write_244b
  refine fr_if ?_ ?_
  · refine fr_bd (fun _ => ?_)
    exact fr_rt hs
  · refine fr_cl (fun _ _ e => hs.trans (fr_X15_checkByte e)) (fun _ h hs => ?_)
    refine fr_cl (fun _ _ e => hs.trans (fr_X15_put e)) (fun _ h hs => ?_)
    exact hk244 hs
theorem fr_X15_write_244 {h0 : sv_H} : ∀ (n : Nat) {x0 : Nat} {x2 : Int32} {h : sv_H}, sv_same h0 h → sv_fr sv_same h0 (fn_X15_write_244 n x0 x2 h) := by
  intro n
  induction n with
  | zero => intro x0 x2 h hs r hE e; cases (show (none : Option (Int32 × sv_H)) = some (r, hE) from e)
  | succ n ih => intro x0 x2 h hs; exact fr_X15_write_244b (fun hs => ih hs) hs
theorem fr_X15_write_218b {h0 : sv_H} {k218 : Nat → Int32 → sv_H → Option (Int32 × sv_H)} (hk218 : ∀ {x0 : Nat} {x2 : Int32} {h : sv_H}, sv_same h0 h → sv_fr sv_same h0 (k218 x0 x2 h)) {x0 : Nat} {x2 : Int32} {h : sv_H} (hs : sv_same h0 h) : sv_fr sv_same h0 (fn_X15_write_218b k218 x0 x2 h) := by
  unfold fn_X15_write_218b
  refine fr_bd (fun _ => ?_)
  refine fr_if ?_ ?_
  · exact fr_X15_write_244 sv_fuel hs
  · refine fr_bd (fun _ => ?_)
    refine fr_bd (fun _ => ?_)
    refine fr_cl (fun _ _ e => hs.trans (fr_X15_sum e)) (fun _ h hs => ?_)
    exact hk218 hs
theorem fr_X15_write_218 {h0 : sv_H} : ∀ (n : Nat) {x0 : Nat} {x2 : Int32} {h : sv_H}, sv_same h0 h → sv_fr sv_same h0 (fn_X15_write_218 n x0 x2 h) := by
  intro n
  induction n with
  | zero => intro x0 x2 h hs r hE e; cases (show (none : Option (Int32 × sv_H)) = some (r, hE) from e)
  | succ n ih => intro x0 x2 h hs; exact fr_X15_write_218b (fun hs => ih hs) hs
theorem fr_X15_write_194 {h0 : sv_H} {k80 : Nat → Int32 → sv_H → Option (Int32 × sv_H)} (hk80 : ∀ {x0 : Nat} {x1 : Int32} {h : sv_H}, sv_same h0 h → sv_fr sv_same h0 (k80 x0 x1 h)) {x0 : Nat} {x1 : Int32} {x2 : Int32} {h : sv_H} (hs : sv_same h0 h) : sv_fr sv_same h0 (fn_X15_write_194 k80 x0 x1 x2 h) := by
  unfold fn_X15_write_194
  exact hk80 hs
theorem fr_X15_write_147 {h0 : sv_H} {k80 : Nat → Int32 → sv_H → Option (Int32 × sv_H)} (hk80 : ∀ {x0 : Nat} {x1 : Int32} {h : sv_H}, sv_same h0 h → sv_fr sv_same h0 (k80 x0 x1 h)) {x0 : Nat} {x1 : Int32} {x2 : Int32} {x3 : Int32} {s0 : Nat} {s1 : Int32} {s2 : Int32} {h : sv_H} (hs : sv_same h0 h) : sv_fr sv_same h0 (fn_X15_write_147 k80 x0 x1 x2 x3 s0 s1 s2 h) := by
  unfold fn_X15_write_147
  refine fr_cl (fun _ _ e => hs.trans (fr_X15_put e)) (fun _ h hs => ?_)
  refine fr_bd (fun _ => ?_)
  refine fr_bd (fun _ => ?_)
  refine fr_cl (fun _ _ e => hs.trans (fr_X15_put e)) (fun _ h hs => ?_)
  refine fr_if ?_ ?_
  · exact fr_X15_write_194 hk80 hs
  · refine fr_bd (fun _ => ?_)
    refine fr_bd (fun _ => ?_)
    refine fr_cl (fun _ _ e => hs.trans (fr_X15_put e)) (fun _ h hs => ?_)
    refine fr_bd (fun _ => ?_)
    refine fr_bd (fun _ => ?_)
    refine fr_cl (fun _ _ e => hs.trans (fr_X15_put e)) (fun _ h hs => ?_)
    exact fr_X15_write_194 hk80 hs
theorem fr_X15_write_135 {h0 : sv_H} {k80 : Nat → Int32 → sv_H → Option (Int32 × sv_H)} (hk80 : ∀ {x0 : Nat} {x1 : Int32} {h : sv_H}, sv_same h0 h → sv_fr sv_same h0 (k80 x0 x1 h)) {x0 : Nat} {x1 : Int32} {x2 : Int32} {x3 : Int32} {s0 : Nat} {s1 : Int32} {s2 : Int32} {h : sv_H} (hs : sv_same h0 h) : sv_fr sv_same h0 (fn_X15_write_135 k80 x0 x1 x2 x3 s0 s1 s2 h) := by
  unfold fn_X15_write_135
  refine fr_if ?_ ?_
  · exact fr_X15_write_147 hk80 hs
  · exact fr_X15_write_147 hk80 hs
theorem fr_X15_write_117 {h0 : sv_H} {k80 : Nat → Int32 → sv_H → Option (Int32 × sv_H)} (hk80 : ∀ {x0 : Nat} {x1 : Int32} {h : sv_H}, sv_same h0 h → sv_fr sv_same h0 (k80 x0 x1 h)) {x0 : Nat} {x1 : Int32} {x2 : Int32} {s0 : Int32} {h : sv_H} (hs : sv_same h0 h) : sv_fr sv_same h0 (fn_X15_write_117 k80 x0 x1 x2 s0 h) := by
  unfold fn_X15_write_117
  refine fr_bd (fun _ => ?_)
  refine fr_bd (fun _ => ?_)
  refine fr_if ?_ ?_
  · exact fr_X15_write_135 hk80 hs
  · exact fr_X15_write_135 hk80 hs
theorem fr_X15_write_112 {h0 : sv_H} {k80 : Nat → Int32 → sv_H → Option (Int32 × sv_H)} (hk80 : ∀ {x0 : Nat} {x1 : Int32} {h : sv_H}, sv_same h0 h → sv_fr sv_same h0 (k80 x0 x1 h)) {x0 : Nat} {x1 : Int32} {x2 : Int32} {h : sv_H} (hs : sv_same h0 h) : sv_fr sv_same h0 (fn_X15_write_112 k80 x0 x1 x2 h) := by
  unfold fn_X15_write_112
  exact fr_X15_write_117 hk80 hs
theorem fr_X15_write_80b {h0 : sv_H} {k80 : Nat → Int32 → sv_H → Option (Int32 × sv_H)} (hk80 : ∀ {x0 : Nat} {x1 : Int32} {h : sv_H}, sv_same h0 h → sv_fr sv_same h0 (k80 x0 x1 h)) {x0 : Nat} {x1 : Int32} {h : sv_H} (hs : sv_same h0 h) : sv_fr sv_same h0 (fn_X15_write_80b k80 x0 x1 h) := by
  unfold fn_X15_write_80b
  refine fr_bd (fun _ => ?_)
  refine fr_if ?_ ?_
  · refine fr_cl (fun _ _ e => hs.trans (fr_X15_put e)) (fun _ h hs => ?_)
    refine fr_st (fun _ e => hs.trans (st_pI e)) (fun h hs => ?_)
    refine fr_st (fun _ e => hs.trans (st_pI e)) (fun h hs => ?_)
    exact fr_X15_write_218 sv_fuel hs
  · refine fr_cl (fun _ _ e => hs.trans (fr_X15_run e)) (fun _ h hs => ?_)
    refine fr_bd (fun _ => ?_)
    refine fr_bd (fun _ => ?_)
    refine fr_if ?_ ?_
    · refine fr_bd (fun _ => ?_)
      refine fr_bd (fun _ => ?_)
      refine fr_if ?_ ?_
      · exact fr_X15_write_117 hk80 hs
      · exact fr_X15_write_112 hk80 hs
    · exact fr_X15_write_112 hk80 hs
theorem fr_X15_write_80 {h0 : sv_H} : ∀ (n : Nat) {x0 : Nat} {x1 : Int32} {h : sv_H}, sv_same h0 h → sv_fr sv_same h0 (fn_X15_write_80 n x0 x1 h) := by
  intro n
  induction n with
  | zero => intro x0 x1 h hs r hE e; cases (show (none : Option (Int32 × sv_H)) = some (r, hE) from e)
  | succ n ih => intro x0 x1 h hs; exact fr_X15_write_80b (fun hs => ih hs) hs
theorem fr_X15_write_24b {h0 : sv_H} {k24 : Nat → Int32 → sv_H → Option (Int32 × sv_H)} (hk24 : ∀ {x0 : Nat} {x1 : Int32} {h : sv_H}, sv_same h0 h → sv_fr sv_same h0 (k24 x0 x1 h)) {x0 : Nat} {x1 : Int32} {h : sv_H} (hs : sv_same h0 h) : sv_fr sv_same h0 (fn_X15_write_24b k24 x0 x1 h) := by
  unfold fn_X15_write_24b
  refine fr_if ?_ ?_
  · refine fr_bd (fun _ => ?_)
    refine fr_bd (fun _ => ?_)
    refine fr_cl (fun _ _ e => hs.trans (fr_X15_put e)) (fun _ h hs => ?_)
    refine fr_bd (fun _ => ?_)
    refine fr_bd (fun _ => ?_)
    refine fr_cl (fun _ _ e => hs.trans (fr_X15_put e)) (fun _ h hs => ?_)
    exact fr_X15_write_80 sv_fuel hs
  · refine fr_bd (fun _ => ?_)
    refine fr_bd (fun _ => ?_)
    refine fr_cl (fun _ _ e => hs.trans (fr_X15_put e)) (fun _ h hs => ?_)
    refine fr_bd (fun _ => ?_)
    refine fr_bd (fun _ => ?_)
    refine fr_cl (fun _ _ e => hs.trans (fr_X15_put e)) (fun _ h hs => ?_)
    exact hk24 hs
theorem fr_X15_write_24 {h0 : sv_H} : ∀ (n : Nat) {x0 : Nat} {x1 : Int32} {h : sv_H}, sv_same h0 h → sv_fr sv_same h0 (fn_X15_write_24 n x0 x1 h) := by
  intro n
  induction n with
  | zero => intro x0 x1 h hs r hE e; cases (show (none : Option (Int32 × sv_H)) = some (r, hE) from e)
  | succ n ih => intro x0 x1 h hs; exact fr_X15_write_24b (fun hs => ih hs) hs
theorem fr_X15_write_0 {h0 : sv_H} {x0 : Nat} {h : sv_H} (hs : sv_same h0 h) : sv_fr sv_same h0 (fn_X15_write x0 h) := by
  unfold fn_X15_write
  refine fr_if ?_ fr_no
  refine fr_st (fun _ e => hs.trans (st_pI e)) (fun h hs => ?_)
  refine fr_cl (fun _ _ e => hs.trans (fr_X15_put e)) (fun _ h hs => ?_)
  refine fr_cl (fun _ _ e => hs.trans (fr_X15_put e)) (fun _ h hs => ?_)
  refine fr_cl (fun _ _ e => hs.trans (fr_X15_put e)) (fun _ h hs => ?_)
  exact fr_X15_write_24 sv_fuel hs
theorem fr_X15_write {x0 : Nat} {h : sv_H} {r : Int32} {hE : sv_H} (hw : fn_X15_write x0 h = some (r, hE)) : sv_same h hE := fr_X15_write_0 (sv_same.refl h) r hE hw

theorem fr_X17_saveDemo_27b {h0 : sv_H} {k27 : Nat → Int32 → sv_H → Option (Int32 × sv_H)} (hk27 : ∀ {x0 : Nat} {x1 : Int32} {h : sv_H}, sv_same h0 h → sv_fr sv_same h0 (k27 x0 x1 h)) {x0 : Nat} {x1 : Int32} {h : sv_H} (hs : sv_same h0 h) : sv_fr sv_same h0 (fn_X17_saveDemo_27b k27 x0 x1 h) := by
  unfold fn_X17_saveDemo_27b
  refine fr_bd (fun _ => ?_)
  refine fr_if ?_ ?_
  · refine fr_bd (fun _ => ?_)
    exact fr_rt hs
  · refine fr_bd (fun _ => ?_)
    refine fr_bd (fun _ => ?_)
    refine fr_bd (fun _ => ?_)
    refine fr_bd (fun _ => ?_)
    refine fr_st (fun _ e => hs.trans (st_sI e)) (fun h hs => ?_)
    exact hk27 hs
theorem fr_X17_saveDemo_27 {h0 : sv_H} : ∀ (n : Nat) {x0 : Nat} {x1 : Int32} {h : sv_H}, sv_same h0 h → sv_fr sv_same h0 (fn_X17_saveDemo_27 n x0 x1 h) := by
  intro n
  induction n with
  | zero => intro x0 x1 h hs r hE e; cases (show (none : Option (Int32 × sv_H)) = some (r, hE) from e)
  | succ n ih => intro x0 x1 h hs; exact fr_X17_saveDemo_27b (fun hs => ih hs) hs
theorem fr_X17_saveDemo_0 {h0 : sv_H} {x0 : Nat} {h : sv_H} (hs : sv_same h0 h) : sv_fr sv_same h0 (fn_X17_saveDemo x0 h) := by
  unfold fn_X17_saveDemo
  refine fr_if ?_ fr_no
  refine fr_st (fun _ e => hs.trans (st_pI e)) (fun h hs => ?_)
  refine fr_bd (fun _ => ?_)
  refine fr_if ?_ ?_
  · exact fr_rt hs
  · refine fr_bd (fun _ => ?_)
    refine fr_cl (fun _ _ e => hs.trans (fr_X15_write e)) (fun _ h hs => ?_)
    refine fr_st (fun _ e => hs.trans (st_pI e)) (fun h hs => ?_)
    exact fr_X17_saveDemo_27 sv_fuel hs
theorem fr_X17_saveDemo {x0 : Nat} {h : sv_H} {r : Int32} {hE : sv_H} (hw : fn_X17_saveDemo x0 h = some (r, hE)) : sv_same h hE := fr_X17_saveDemo_0 (sv_same.refl h) r hE hw

theorem fr_X12_turnBytes_0 {h0 : sv_H} {x0 : Nat} {h : sv_H} (hs : sv_le h0 h) : sv_fr sv_le h0 (fn_X12_turnBytes x0 h) := by
  unfold fn_X12_turnBytes
  refine fr_if ?_ fr_no
  refine fr_bd (fun _ => ?_)
  refine fr_bd (fun _ => ?_)
  refine fr_cl (fun _ _ e => hs.trans (fr_X0_become e)) (fun _ h hs => ?_)
  exact fr_rt hs
theorem fr_X12_turnBytes {x0 : Nat} {h : sv_H} {r : Unit} {hE : sv_H} (hw : fn_X12_turnBytes x0 h = some (r, hE)) : sv_le h hE := fr_X12_turnBytes_0 (sv_le.refl h) r hE hw

theorem fr_X17_turnBytes_18b {h0 : sv_H} {k18 : Nat → Int32 → sv_H → Option (Unit × sv_H)} (hk18 : ∀ {x0 : Nat} {x1 : Int32} {h : sv_H}, sv_same h0 h → sv_fr sv_same h0 (k18 x0 x1 h)) {x0 : Nat} {x1 : Int32} {h : sv_H} (hs : sv_same h0 h) : sv_fr sv_same h0 (fn_X17_turnBytes_18b k18 x0 x1 h) := by
  unfold fn_X17_turnBytes_18b
  refine fr_bd (fun _ => ?_)
  refine fr_if ?_ ?_
  · exact fr_rt hs
  · refine fr_bd (fun _ => ?_)
    refine fr_bd (fun _ => ?_)
    refine fr_bd (fun _ => ?_)
    refine fr_bd (fun _ => ?_)
    refine fr_st (fun _ e => hs.trans (st_sB e)) (fun h hs => ?_)
    exact hk18 hs
theorem fr_X17_turnBytes_18 {h0 : sv_H} : ∀ (n : Nat) {x0 : Nat} {x1 : Int32} {h : sv_H}, sv_same h0 h → sv_fr sv_same h0 (fn_X17_turnBytes_18 n x0 x1 h) := by
  intro n
  induction n with
  | zero => intro x0 x1 h hs r hE e; cases (show (none : Option (Unit × sv_H)) = some (r, hE) from e)
  | succ n ih => intro x0 x1 h hs; exact fr_X17_turnBytes_18b (fun hs => ih hs) hs
theorem fr_X17_turnBytes_0 {h0 : sv_H} {x0 : Nat} {h : sv_H} (hs : sv_same h0 h) : sv_fr sv_same h0 (fn_X17_turnBytes x0 h) := by
  unfold fn_X17_turnBytes
  refine fr_if ?_ fr_no
  refine fr_st (fun _ e => hs.trans (st_pI e)) (fun h hs => ?_)
  refine fr_bd (fun _ => ?_)
  refine fr_bd (fun _ => ?_)
  refine fr_st (fun _ e => hs.trans (st_pI e)) (fun h hs => ?_)
  exact fr_X17_turnBytes_18 sv_fuel hs
theorem fr_X17_turnBytes {x0 : Nat} {h : sv_H} {r : Unit} {hE : sv_H} (hw : fn_X17_turnBytes x0 h = some (r, hE)) : sv_same h hE := fr_X17_turnBytes_0 (sv_same.refl h) r hE hw

theorem fr_X12_isPlace_33 {h0 : sv_H} {s0 : Int32} {h : sv_H} (hs : sv_same h0 h) : sv_fr sv_same h0 (fn_X12_isPlace_33 s0 h) := by
  unfold fn_X12_isPlace_33
  exact fr_rz hs
theorem fr_X12_isPlace_32 {h0 : sv_H} {h : sv_H} (hs : sv_same h0 h) : sv_fr sv_same h0 (fn_X12_isPlace_32 h) := by
  unfold fn_X12_isPlace_32
  exact fr_X12_isPlace_33 hs
theorem fr_X12_isPlace_0 {h0 : sv_H} {x0 : Int32} {x1 : Int32} {h : sv_H} (hs : sv_same h0 h) : sv_fr sv_same h0 (fn_X12_isPlace x0 x1 h) := by
  unfold fn_X12_isPlace
  refine fr_if ?_ ?_
  · exact fr_X12_isPlace_32 hs
  · refine fr_if ?_ ?_
    · exact fr_X12_isPlace_32 hs
    · refine fr_if ?_ ?_
      · exact fr_X12_isPlace_32 hs
      · refine fr_if ?_ ?_
        · exact fr_X12_isPlace_32 hs
        · exact fr_X12_isPlace_33 hs
theorem fr_X12_isPlace {x0 : Int32} {x1 : Int32} {h : sv_H} {r : Int32} {hE : sv_H} (hw : fn_X12_isPlace x0 x1 h = some (r, hE)) : sv_same h hE := fr_X12_isPlace_0 (sv_same.refl h) r hE hw

theorem fr_X12_isSector_20 {h0 : sv_H} {s0 : Int32} {h : sv_H} (hs : sv_same h0 h) : sv_fr sv_same h0 (fn_X12_isSector_20 s0 h) := by
  unfold fn_X12_isSector_20
  exact fr_rz hs
theorem fr_X12_isSector_19 {h0 : sv_H} {h : sv_H} (hs : sv_same h0 h) : sv_fr sv_same h0 (fn_X12_isSector_19 h) := by
  unfold fn_X12_isSector_19
  exact fr_X12_isSector_20 hs
theorem fr_X12_isSector_0 {h0 : sv_H} {x0 : Nat} {x1 : Int32} {h : sv_H} (hs : sv_same h0 h) : sv_fr sv_same h0 (fn_X12_isSector x0 x1 h) := by
  unfold fn_X12_isSector
  refine fr_if ?_ fr_no
  refine fr_if ?_ ?_
  · exact fr_X12_isSector_19 hs
  · refine fr_bd (fun _ => ?_)
    refine fr_bd (fun _ => ?_)
    refine fr_if ?_ ?_
    · exact fr_X12_isSector_19 hs
    · exact fr_X12_isSector_20 hs
theorem fr_X12_isSector {x0 : Nat} {x1 : Int32} {h : sv_H} {r : Int32} {hE : sv_H} (hw : fn_X12_isSector x0 x1 h = some (r, hE)) : sv_same h hE := fr_X12_isSector_0 (sv_same.refl h) r hE hw

theorem fr_X12_startAt_34 {h0 : sv_H} {h : sv_H} (hs : sv_same h0 h) : sv_fr sv_same h0 (fn_X12_startAt_34 h) := by
  unfold fn_X12_startAt_34
  exact fr_rt hs
theorem fr_X12_startAt_0 {h0 : sv_H} {x0 : Nat} {x1 : Int32} {x2 : Int32} {x3 : Int32} {x4 : Int32} {h : sv_H} (hs : sv_same h0 h) : sv_fr sv_same h0 (fn_X12_startAt x0 x1 x2 x3 x4 h) := by
  unfold fn_X12_startAt
  refine fr_if ?_ fr_no
  refine fr_cl (fun _ _ e => hs.trans (fr_X12_hasMap e)) (fun _ h hs => ?_)
  refine fr_if ?_ ?_
  · exact fr_X12_startAt_34 hs
  · refine fr_cl (fun _ _ e => hs.trans (fr_X12_isPlace e)) (fun _ h hs => ?_)
    refine fr_if ?_ ?_
    · exact fr_X12_startAt_34 hs
    · refine fr_if ?_ ?_
      · exact fr_X12_startAt_34 hs
      · refine fr_if ?_ ?_
        · exact fr_X12_startAt_34 hs
        · refine fr_cl (fun _ _ e => hs.trans (fr_X12_isSector e)) (fun _ h hs => ?_)
          refine fr_if ?_ ?_
          · exact fr_X12_startAt_34 hs
          · refine fr_bd (fun _ => ?_)
            refine fr_bd (fun _ => ?_)
            refine fr_cl (fun _ _ e => hs.trans (fr_X7_put e)) (fun _ h hs => ?_)
            refine fr_bd (fun _ => ?_)
            refine fr_bd (fun _ => ?_)
            refine fr_bd (fun _ => ?_)
            refine fr_bd (fun _ => ?_)
            refine fr_cl (fun _ _ e => hs.trans (fr_X10_begin e)) (fun _ h hs => ?_)
            exact fr_rt hs
theorem fr_X12_startAt {x0 : Nat} {x1 : Int32} {x2 : Int32} {x3 : Int32} {x4 : Int32} {h : sv_H} {r : Int32} {hE : sv_H} (hw : fn_X12_startAt x0 x1 x2 x3 x4 h = some (r, hE)) : sv_same h hE := fr_X12_startAt_0 (sv_same.refl h) r hE hw

theorem fr_X15_start_51 {h0 : sv_H} {h : sv_H} (hs : sv_same h0 h) : sv_fr sv_same h0 (fn_X15_start_51 h) := by
  unfold fn_X15_start_51
  exact fr_rt hs
theorem fr_X15_start_0 {h0 : sv_H} {x0 : Nat} {x1 : Int32} {x2 : Int32} {x3 : Int32} {x4 : Int32} {h : sv_H} (hs : sv_same h0 h) : sv_fr sv_same h0 (fn_X15_start x0 x1 x2 x3 x4 h) := by
  unfold fn_X15_start
  refine fr_if ?_ fr_no
  refine fr_if ?_ ?_
  · exact fr_X15_start_51 hs
  · refine fr_if ?_ ?_
    · exact fr_X15_start_51 hs
    · refine fr_if ?_ ?_
      · exact fr_X15_start_51 hs
      · refine fr_if ?_ ?_
        · exact fr_X15_start_51 hs
        · refine fr_if ?_ ?_
          · exact fr_X15_start_51 hs
          · refine fr_if ?_ ?_
            · exact fr_X15_start_51 hs
            · refine fr_if ?_ ?_
              · exact fr_X15_start_51 hs
              · refine fr_if ?_ ?_
                · refine fr_bd (fun _ => ?_)
                  refine fr_st (fun _ e => hs.trans (st_sI e)) (fun h hs => ?_)
                  refine fr_bd (fun _ => ?_)
                  refine fr_st (fun _ e => hs.trans (st_sI e)) (fun h hs => ?_)
                  refine fr_bd (fun _ => ?_)
                  refine fr_st (fun _ e => hs.trans (st_sI e)) (fun h hs => ?_)
                  refine fr_bd (fun _ => ?_)
                  refine fr_st (fun _ e => hs.trans (st_sI e)) (fun h hs => ?_)
                  exact fr_rt hs
                · exact fr_X15_start_51 hs
theorem fr_X15_start {x0 : Nat} {x1 : Int32} {x2 : Int32} {x3 : Int32} {x4 : Int32} {h : sv_H} {r : Int32} {hE : sv_H} (hw : fn_X15_start x0 x1 x2 x3 x4 h = some (r, hE)) : sv_same h hE := fr_X15_start_0 (sv_same.refl h) r hE hw

theorem fr_X17_startAt_36 {h0 : sv_H} {h : sv_H} (hs : sv_same h0 h) : sv_fr sv_same h0 (fn_X17_startAt_36 h) := by
  unfold fn_X17_startAt_36
  exact fr_rt hs
theorem fr_X17_startAt_0 {h0 : sv_H} {x0 : Nat} {x1 : Int32} {x2 : Int32} {x3 : Int32} {x4 : Int32} {h : sv_H} (hs : sv_same h0 h) : sv_fr sv_same h0 (fn_X17_startAt x0 x1 x2 x3 x4 h) := by
  unfold fn_X17_startAt
  refine fr_if ?_ fr_no
  refine fr_st (fun _ e => hs.trans (st_pI e)) (fun h hs => ?_)
  refine fr_bd (fun _ => ?_)
  refine fr_if ?_ ?_
  · exact fr_X17_startAt_36 hs
  · refine fr_cl (fun _ _ e => hs.trans (fr_X17_sectors e)) (fun _ h hs => ?_)
    refine fr_if ?_ ?_
    · exact fr_X17_startAt_36 hs
    · refine fr_bd (fun _ => ?_)
      refine fr_cl (fun _ _ e => hs.trans (fr_X15_start e)) (fun _ h hs => ?_)
      refine fr_if ?_ ?_
      · exact fr_X17_startAt_36 hs
      · refine fr_cl (fun _ _ e => hs.trans (fr_X17_begin e)) (fun _ h hs => ?_)
        exact fr_rt hs
theorem fr_X17_startAt {x0 : Nat} {x1 : Int32} {x2 : Int32} {x3 : Int32} {x4 : Int32} {h : sv_H} {r : Int32} {hE : sv_H} (hw : fn_X17_startAt x0 x1 x2 x3 x4 h = some (r, hE)) : sv_same h hE := fr_X17_startAt_0 (sv_same.refl h) r hE hw

theorem fr_X5_isInput_41 {h0 : sv_H} {s0 : Int32} {h : sv_H} (hs : sv_same h0 h) : sv_fr sv_same h0 (fn_X5_isInput_41 s0 h) := by
  unfold fn_X5_isInput_41
  exact fr_rz hs
theorem fr_X5_isInput_40 {h0 : sv_H} {h : sv_H} (hs : sv_same h0 h) : sv_fr sv_same h0 (fn_X5_isInput_40 h) := by
  unfold fn_X5_isInput_40
  exact fr_X5_isInput_41 hs
theorem fr_X5_isInput_0 {h0 : sv_H} {x0 : Int32} {x1 : Int32} {x2 : Int32} {h : sv_H} (hs : sv_same h0 h) : sv_fr sv_same h0 (fn_X5_isInput x0 x1 x2 h) := by
  unfold fn_X5_isInput
  refine fr_if ?_ ?_
  · exact fr_X5_isInput_40 hs
  · refine fr_if ?_ ?_
    · exact fr_X5_isInput_40 hs
    · refine fr_if ?_ ?_
      · exact fr_X5_isInput_40 hs
      · refine fr_if ?_ ?_
        · exact fr_X5_isInput_40 hs
        · refine fr_if ?_ ?_
          · exact fr_X5_isInput_40 hs
          · refine fr_if ?_ ?_
            · exact fr_X5_isInput_40 hs
            · exact fr_X5_isInput_41 hs
theorem fr_X5_isInput {x0 : Int32} {x1 : Int32} {x2 : Int32} {h : sv_H} {r : Int32} {hE : sv_H} (hw : fn_X5_isInput x0 x1 x2 h = some (r, hE)) : sv_same h hE := fr_X5_isInput_0 (sv_same.refl h) r hE hw

theorem fr_X12_addInput_29 {h0 : sv_H} {h : sv_H} (hs : sv_le h0 h) : sv_fr sv_le h0 (fn_X12_addInput_29 h) := by
  unfold fn_X12_addInput_29
  exact fr_rt hs
theorem fr_X12_addInput_0 {h0 : sv_H} {x0 : Nat} {x1 : Int32} {x2 : Int32} {x3 : Int32} {x4 : Int32} {h : sv_H} (hs : sv_le h0 h) : sv_fr sv_le h0 (fn_X12_addInput x0 x1 x2 x3 x4 h) := by
  unfold fn_X12_addInput
  refine fr_if ?_ fr_no
  refine fr_cl (fun _ _ e => hs.trans (fr_X12_hasMap e).le) (fun _ h hs => ?_)
  refine fr_if ?_ ?_
  · exact fr_X12_addInput_29 hs
  · refine fr_cl (fun _ _ e => hs.trans (fr_X5_isInput e).le) (fun _ h hs => ?_)
    refine fr_if ?_ ?_
    · exact fr_X12_addInput_29 hs
    · refine fr_bd (fun _ => ?_)
      refine fr_bd (fun _ => ?_)
      refine fr_if ?_ ?_
      · refine fr_bd (fun _ => ?_)
        refine fr_cl (fun _ _ e => hs.trans (fr_X5_inputOf e).le) (fun _ h hs => ?_)
        refine fr_cl (fun _ _ e => hs.trans (fr_X5_add e)) (fun _ h hs => ?_)
        refine fr_bd (fun _ => ?_)
        refine fr_bd (fun _ => ?_)
        exact fr_rt hs
      · exact fr_X12_addInput_29 hs
theorem fr_X12_addInput {x0 : Nat} {x1 : Int32} {x2 : Int32} {x3 : Int32} {x4 : Int32} {h : sv_H} {r : Int32} {hE : sv_H} (hw : fn_X12_addInput x0 x1 x2 x3 x4 h = some (r, hE)) : sv_le h hE := fr_X12_addInput_0 (sv_le.refl h) r hE hw

theorem fr_X15_isIn_16 {h0 : sv_H} {s0 : Int32} {h : sv_H} (hs : sv_same h0 h) : sv_fr sv_same h0 (fn_X15_isIn_16 s0 h) := by
  unfold fn_X15_isIn_16
  exact fr_rz hs
theorem fr_X15_isIn_15 {h0 : sv_H} {h : sv_H} (hs : sv_same h0 h) : sv_fr sv_same h0 (fn_X15_isIn_15 h) := by
  unfold fn_X15_isIn_15
  exact fr_X15_isIn_16 hs
theorem fr_X15_isIn_0 {h0 : sv_H} {x0 : Int32} {x1 : Int32} {h : sv_H} (hs : sv_same h0 h) : sv_fr sv_same h0 (fn_X15_isIn x0 x1 h) := by
  unfold fn_X15_isIn
  refine fr_if ?_ ?_
  · exact fr_X15_isIn_15 hs
  · refine fr_if ?_ ?_
    · exact fr_X15_isIn_15 hs
    · exact fr_X15_isIn_16 hs
theorem fr_X15_isIn {x0 : Int32} {x1 : Int32} {h : sv_H} {r : Int32} {hE : sv_H} (hw : fn_X15_isIn x0 x1 h = some (r, hE)) : sv_same h hE := fr_X15_isIn_0 (sv_same.refl h) r hE hw

theorem fr_X15_record_54 {h0 : sv_H} {h : sv_H} (hs : sv_same h0 h) : sv_fr sv_same h0 (fn_X15_record_54 h) := by
  unfold fn_X15_record_54
  exact fr_rt hs
theorem fr_X15_record_59b {h0 : sv_H} {k59 : Nat → Int32 → Int32 → Int32 → Int32 → Int32 → Int32 → sv_H → Option (Int32 × sv_H)} (hk59 : ∀ {x0 : Nat} {x1 : Int32} {x2 : Int32} {x3 : Int32} {x4 : Int32} {x5 : Int32} {x6 : Int32} {h : sv_H}, sv_same h0 h → sv_fr sv_same h0 (k59 x0 x1 x2 x3 x4 x5 x6 h)) {x0 : Nat} {x1 : Int32} {x2 : Int32} {x3 : Int32} {x4 : Int32} {x5 : Int32} {x6 : Int32} {h : sv_H} (hs : sv_same h0 h) : sv_fr sv_same h0 (fn_X15_record_59b k59 x0 x1 x2 x3 x4 x5 x6 h) := by
  unfold fn_X15_record_59b
  refine fr_if ?_ ?_
  · refine fr_bd (fun _ => ?_)
    exact fr_rt hs
  · refine fr_bd (fun _ => ?_)
    refine fr_bd (fun _ => ?_)
    refine fr_st (fun _ e => hs.trans (st_sI e)) (fun h hs => ?_)
    refine fr_bd (fun _ => ?_)
    refine fr_bd (fun _ => ?_)
    refine fr_st (fun _ e => hs.trans (st_sI e)) (fun h hs => ?_)
    refine fr_bd (fun _ => ?_)
    refine fr_bd (fun _ => ?_)
    refine fr_st (fun _ e => hs.trans (st_sI e)) (fun h hs => ?_)
    refine fr_bd (fun _ => ?_)
    refine fr_bd (fun _ => ?_)
    refine fr_st (fun _ e => hs.trans (st_sZ e)) (fun h hs => ?_)
    refine fr_bd (fun _ => ?_)
    refine fr_st (fun _ e => hs.trans (st_pI e)) (fun h hs => ?_)
    exact hk59 hs
theorem fr_X15_record_59 {h0 : sv_H} : ∀ (n : Nat) {x0 : Nat} {x1 : Int32} {x2 : Int32} {x3 : Int32} {x4 : Int32} {x5 : Int32} {x6 : Int32} {h : sv_H}, sv_same h0 h → sv_fr sv_same h0 (fn_X15_record_59 n x0 x1 x2 x3 x4 x5 x6 h) := by
  intro n
  induction n with
  | zero => intro x0 x1 x2 x3 x4 x5 x6 h hs r hE e; cases (show (none : Option (Int32 × sv_H)) = some (r, hE) from e)
  | succ n ih => intro x0 x1 x2 x3 x4 x5 x6 h hs; exact fr_X15_record_59b (fun hs => ih hs) hs
theorem fr_X15_record_0 {h0 : sv_H} {x0 : Nat} {x1 : Int32} {x2 : Int32} {x3 : Int32} {x4 : Int32} {x5 : Int32} {h : sv_H} (hs : sv_same h0 h) : sv_fr sv_same h0 (fn_X15_record x0 x1 x2 x3 x4 x5 h) := by
  unfold fn_X15_record
  refine fr_if ?_ fr_no
  refine fr_cl (fun _ _ e => hs.trans (fr_X15_isIn e)) (fun _ h hs => ?_)
  refine fr_if ?_ ?_
  · exact fr_X15_record_54 hs
  · refine fr_cl (fun _ _ e => hs.trans (fr_X15_isIn e)) (fun _ h hs => ?_)
    refine fr_if ?_ ?_
    · exact fr_X15_record_54 hs
    · refine fr_cl (fun _ _ e => hs.trans (fr_X15_isIn e)) (fun _ h hs => ?_)
      refine fr_if ?_ ?_
      · exact fr_X15_record_54 hs
      · refine fr_if ?_ ?_
        · exact fr_X15_record_54 hs
        · refine fr_if ?_ ?_
          · exact fr_X15_record_54 hs
          · refine fr_bd (fun _ => ?_)
            refine fr_if ?_ ?_
            · exact fr_X15_record_59 sv_fuel hs
            · exact fr_X15_record_54 hs
theorem fr_X15_record {x0 : Nat} {x1 : Int32} {x2 : Int32} {x3 : Int32} {x4 : Int32} {x5 : Int32} {h : sv_H} {r : Int32} {hE : sv_H} (hw : fn_X15_record x0 x1 x2 x3 x4 x5 h = some (r, hE)) : sv_same h hE := fr_X15_record_0 (sv_same.refl h) r hE hw

theorem fr_X17_addInput_29 {h0 : sv_H} {s0 : Int32} {h : sv_H} (hs : sv_same h0 h) : sv_fr sv_same h0 (fn_X17_addInput_29 s0 h) := by
  unfold fn_X17_addInput_29
  exact fr_rt hs
theorem fr_X17_addInput_0 {h0 : sv_H} {x0 : Nat} {x1 : Int32} {x2 : Int32} {x3 : Int32} {x4 : Int32} {h : sv_H} (hs : sv_same h0 h) : sv_fr sv_same h0 (fn_X17_addInput x0 x1 x2 x3 x4 h) := by
  unfold fn_X17_addInput
  refine fr_if ?_ fr_no
  refine fr_st (fun _ e => hs.trans (st_pI e)) (fun h hs => ?_)
  refine fr_bd (fun _ => ?_)
  refine fr_if ?_ ?_
  · exact fr_X17_addInput_29 hs
  · refine fr_bd (fun _ => ?_)
    refine fr_cl (fun _ _ e => hs.trans (fr_X15_record e)) (fun _ h hs => ?_)
    exact fr_X17_addInput_29 hs
theorem fr_X17_addInput {x0 : Nat} {x1 : Int32} {x2 : Int32} {x3 : Int32} {x4 : Int32} {h : sv_H} {r : Int32} {hE : sv_H} (hw : fn_X17_addInput x0 x1 x2 x3 x4 h = some (r, hE)) : sv_same h hE := fr_X17_addInput_0 (sv_same.refl h) r hE hw

theorem fr_X12_dropInputs_15 {h0 : sv_H} {h : sv_H} (hs : sv_same h0 h) : sv_fr sv_same h0 (fn_X12_dropInputs_15 h) := by
  unfold fn_X12_dropInputs_15
  exact fr_rt hs
theorem fr_X12_dropInputs_0 {h0 : sv_H} {x0 : Nat} {x1 : Int32} {h : sv_H} (hs : sv_same h0 h) : sv_fr sv_same h0 (fn_X12_dropInputs x0 x1 h) := by
  unfold fn_X12_dropInputs
  refine fr_if ?_ fr_no
  refine fr_if ?_ ?_
  · exact fr_X12_dropInputs_15 hs
  · refine fr_bd (fun _ => ?_)
    refine fr_bd (fun _ => ?_)
    refine fr_if ?_ ?_
    · refine fr_bd (fun _ => ?_)
      refine fr_bd (fun _ => ?_)
      refine fr_st (fun _ e => hs.trans (st_pI e)) (fun h hs => ?_)
      exact fr_rt hs
    · exact fr_X12_dropInputs_15 hs
theorem fr_X12_dropInputs {x0 : Nat} {x1 : Int32} {h : sv_H} {r : Int32} {hE : sv_H} (hw : fn_X12_dropInputs x0 x1 h = some (r, hE)) : sv_same h hE := fr_X12_dropInputs_0 (sv_same.refl h) r hE hw

theorem fr_X15_undo_12 {h0 : sv_H} {h : sv_H} (hs : sv_same h0 h) : sv_fr sv_same h0 (fn_X15_undo_12 h) := by
  unfold fn_X15_undo_12
  exact fr_rt hs
theorem fr_X15_undo_0 {h0 : sv_H} {x0 : Nat} {x1 : Int32} {h : sv_H} (hs : sv_same h0 h) : sv_fr sv_same h0 (fn_X15_undo x0 x1 h) := by
  unfold fn_X15_undo
  refine fr_if ?_ fr_no
  refine fr_if ?_ ?_
  · exact fr_X15_undo_12 hs
  · refine fr_bd (fun _ => ?_)
    refine fr_if ?_ ?_
    · refine fr_bd (fun _ => ?_)
      refine fr_st (fun _ e => hs.trans (st_pI e)) (fun h hs => ?_)
      exact fr_rt hs
    · exact fr_X15_undo_12 hs
theorem fr_X15_undo {x0 : Nat} {x1 : Int32} {h : sv_H} {r : Int32} {hE : sv_H} (hw : fn_X15_undo x0 x1 h = some (r, hE)) : sv_same h hE := fr_X15_undo_0 (sv_same.refl h) r hE hw

theorem fr_X17_dropInputs_0 {h0 : sv_H} {x0 : Nat} {x1 : Int32} {h : sv_H} (hs : sv_same h0 h) : sv_fr sv_same h0 (fn_X17_dropInputs x0 x1 h) := by
  unfold fn_X17_dropInputs
  refine fr_if ?_ fr_no
  refine fr_st (fun _ e => hs.trans (st_pI e)) (fun h hs => ?_)
  refine fr_bd (fun _ => ?_)
  refine fr_cl (fun _ _ e => hs.trans (fr_X15_undo e)) (fun _ h hs => ?_)
  exact fr_rz hs
theorem fr_X17_dropInputs {x0 : Nat} {x1 : Int32} {h : sv_H} {r : Int32} {hE : sv_H} (hw : fn_X17_dropInputs x0 x1 h = some (r, hE)) : sv_same h hE := fr_X17_dropInputs_0 (sv_same.refl h) r hE hw

theorem fr_X12_cosine_0 {h0 : sv_H} {x0 : Int32} {h : sv_H} (hs : sv_same h0 h) : sv_fr sv_same h0 (fn_X12_cosine x0 h) := by
  unfold fn_X12_cosine
  refine fr_if ?_ ?_
  · refine fr_if ?_ ?_
    · refine fr_if ?_ ?_
      · refine fr_bd (fun _ => ?_)
        exact fr_rt hs
      · refine fr_bd (fun _ => ?_)
        exact fr_rt hs
    · refine fr_bd (fun _ => ?_)
      exact fr_rt hs
  · refine fr_bd (fun _ => ?_)
    exact fr_rt hs
theorem fr_X12_cosine {x0 : Int32} {h : sv_H} {r : Int32} {hE : sv_H} (hw : fn_X12_cosine x0 h = some (r, hE)) : sv_same h hE := fr_X12_cosine_0 (sv_same.refl h) r hE hw

theorem fr_X12_sine_0 {h0 : sv_H} {x0 : Int32} {h : sv_H} (hs : sv_same h0 h) : sv_fr sv_same h0 (fn_X12_sine x0 h) := by
  unfold fn_X12_sine
  refine fr_cl (fun _ _ e => hs.trans (fr_J9_floorMod_7cf53 e)) (fun _ h hs => ?_)
  refine fr_cl (fun _ _ e => hs.trans (fr_X12_cosine e)) (fun _ h hs => ?_)
  exact fr_rt hs
theorem fr_X12_sine {x0 : Int32} {h : sv_H} {r : Int32} {hE : sv_H} (hw : fn_X12_sine x0 h = some (r, hE)) : sv_same h hE := fr_X12_sine_0 (sv_same.refl h) r hE hw

theorem fr_X3_aim_0 {h0 : sv_H} {x0 : Nat} {x1 : Int32} {x2 : Int32} {x3 : Int32} {x4 : Int32} {h : sv_H} (hs : sv_same h0 h) : sv_fr sv_same h0 (fn_X3_aim x0 x1 x2 x3 x4 h) := by
  unfold fn_X3_aim
  refine fr_if ?_ fr_no
  refine fr_st (fun _ e => hs.trans (st_pI e)) (fun h hs => ?_)
  refine fr_st (fun _ e => hs.trans (st_pI e)) (fun h hs => ?_)
  refine fr_st (fun _ e => hs.trans (st_pI e)) (fun h hs => ?_)
  refine fr_st (fun _ e => hs.trans (st_pI e)) (fun h hs => ?_)
  exact fr_rt hs
theorem fr_X3_aim {x0 : Nat} {x1 : Int32} {x2 : Int32} {x3 : Int32} {x4 : Int32} {h : sv_H} {r : Unit} {hE : sv_H} (hw : fn_X3_aim x0 x1 x2 x3 x4 h = some (r, hE)) : sv_same h hE := fr_X3_aim_0 (sv_same.refl h) r hE hw

theorem fr_X3_makeGap_166 {h0 : sv_H} {x5 : Int32} {h : sv_H} (hs : sv_same h0 h) : sv_fr sv_same h0 (fn_X3_makeGap_166 x5 h) := by
  unfold fn_X3_makeGap_166
  exact fr_rt hs
theorem fr_X3_makeGap_22b {h0 : sv_H} {k22 : Nat → Int64 → Int64 → Int32 → Int32 → sv_H → Option (Int32 × sv_H)} (hk22 : ∀ {x0 : Nat} {x1 : Int64} {x3 : Int64} {x5 : Int32} {x6 : Int32} {h : sv_H}, sv_same h0 h → sv_fr sv_same h0 (k22 x0 x1 x3 x5 x6 h)) {x0 : Nat} {x1 : Int64} {x3 : Int64} {x5 : Int32} {x6 : Int32} {h : sv_H} (hs : sv_same h0 h) : sv_fr sv_same h0 (fn_X3_makeGap_22b k22 x0 x1 x3 x5 x6 h) := by
  unfold fn_X3_makeGap_22b
  refine fr_if ?_ ?_
  · exact fr_X3_makeGap_166 hs
  · refine fr_if ?_ ?_
    · exact fr_X3_makeGap_166 hs
    · refine fr_bd (fun _ => ?_)
      refine fr_bd (fun _ => ?_)
      refine fr_bd (fun _ => ?_)
      refine fr_bd (fun _ => ?_)
      refine fr_cl (fun _ _ e => hs.trans (fr_X12_compareQuotients e)) (fun _ h hs => ?_)
      refine fr_if ?_ ?_
      · refine fr_bd (fun _ => ?_)
        refine fr_bd (fun _ => ?_)
        refine fr_bd (fun _ => ?_)
        refine fr_st (fun _ e => hs.trans (st_sI e)) (fun h hs => ?_)
        refine fr_bd (fun _ => ?_)
        refine fr_bd (fun _ => ?_)
        refine fr_bd (fun _ => ?_)
        refine fr_st (fun _ e => hs.trans (st_sZ e)) (fun h hs => ?_)
        refine fr_bd (fun _ => ?_)
        refine fr_bd (fun _ => ?_)
        refine fr_bd (fun _ => ?_)
        refine fr_st (fun _ e => hs.trans (st_sJ e)) (fun h hs => ?_)
        refine fr_bd (fun _ => ?_)
        refine fr_bd (fun _ => ?_)
        refine fr_bd (fun _ => ?_)
        refine fr_st (fun _ e => hs.trans (st_sJ e)) (fun h hs => ?_)
        refine fr_bd (fun _ => ?_)
        refine fr_bd (fun _ => ?_)
        refine fr_bd (fun _ => ?_)
        refine fr_st (fun _ e => hs.trans (st_sJ e)) (fun h hs => ?_)
        refine fr_bd (fun _ => ?_)
        refine fr_bd (fun _ => ?_)
        refine fr_bd (fun _ => ?_)
        refine fr_st (fun _ e => hs.trans (st_sJ e)) (fun h hs => ?_)
        exact hk22 hs
      · exact fr_rt hs
theorem fr_X3_makeGap_22 {h0 : sv_H} : ∀ (n : Nat) {x0 : Nat} {x1 : Int64} {x3 : Int64} {x5 : Int32} {x6 : Int32} {h : sv_H}, sv_same h0 h → sv_fr sv_same h0 (fn_X3_makeGap_22 n x0 x1 x3 x5 x6 h) := by
  intro n
  induction n with
  | zero => intro x0 x1 x3 x5 x6 h hs r hE e; cases (show (none : Option (Int32 × sv_H)) = some (r, hE) from e)
  | succ n ih => intro x0 x1 x3 x5 x6 h hs; exact fr_X3_makeGap_22b (fun hs => ih hs) hs
theorem fr_X3_makeGap_0 {h0 : sv_H} {x0 : Nat} {x1 : Int64} {x3 : Int64} {h : sv_H} (hs : sv_same h0 h) : sv_fr sv_same h0 (fn_X3_makeGap x0 x1 x3 h) := by
  unfold fn_X3_makeGap
  refine fr_if ?_ fr_no
  refine fr_bd (fun _ => ?_)
  refine fr_bd (fun _ => ?_)
  refine fr_st (fun _ e => hs.trans (st_pI e)) (fun h hs => ?_)
  refine fr_bd (fun _ => ?_)
  exact fr_X3_makeGap_22 sv_fuel hs
theorem fr_X3_makeGap {x0 : Nat} {x1 : Int64} {x3 : Int64} {h : sv_H} {r : Int32} {hE : sv_H} (hw : fn_X3_makeGap x0 x1 x3 h = some (r, hE)) : sv_same h hE := fr_X3_makeGap_0 (sv_same.refl h) r hE hw

theorem fr_X3_meet_189 {h0 : sv_H} {h : sv_H} (hs : sv_same h0 h) : sv_fr sv_same h0 (fn_X3_meet_189 h) := by
  unfold fn_X3_meet_189
  exact fr_rt hs
theorem fr_X3_meet_226 {h0 : sv_H} {x0 : Nat} {x4 : Int64} {x6 : Int64} {x10 : Int64} {x12 : Int64} {x14 : Int32} {s0 : Nat} {s1 : Int32} {s2 : Int32} {h : sv_H} (hs : sv_same h0 h) : sv_fr sv_same h0 (fn_X3_meet_226 x0 x4 x6 x10 x12 x14 s0 s1 s2 h) := by
  unfold fn_X3_meet_226
  refine fr_st (fun _ e => hs.trans (st_sZ e)) (fun h hs => ?_)
  refine fr_bd (fun _ => ?_)
  refine fr_st (fun _ e => hs.trans (st_sJ e)) (fun h hs => ?_)
  refine fr_bd (fun _ => ?_)
  refine fr_st (fun _ e => hs.trans (st_sJ e)) (fun h hs => ?_)
  refine fr_bd (fun _ => ?_)
  refine fr_st (fun _ e => hs.trans (st_sJ e)) (fun h hs => ?_)
  refine fr_bd (fun _ => ?_)
  refine fr_st (fun _ e => hs.trans (st_sJ e)) (fun h hs => ?_)
  exact fr_rt hs
theorem fr_X3_meet_159 {h0 : sv_H} {x0 : Nat} {x2 : Int32} {x3 : Int32} {x4 : Int64} {x6 : Int64} {x8 : Int64} {s0 : Int64} {h : sv_H} (hs : sv_same h0 h) : sv_fr sv_same h0 (fn_X3_meet_159 x0 x2 x3 x4 x6 x8 s0 h) := by
  unfold fn_X3_meet_159
  refine fr_let (fun _ => ?_)
  refine fr_if ?_ ?_
  · exact fr_X3_meet_189 hs
  · refine fr_if ?_ ?_
    · refine fr_cl (fun _ _ e => hs.trans (fr_X3_makeGap e)) (fun _ h hs => ?_)
      refine fr_bd (fun _ => ?_)
      refine fr_st (fun _ e => hs.trans (st_sI e)) (fun h hs => ?_)
      refine fr_bd (fun _ => ?_)
      refine fr_if ?_ ?_
      · exact fr_X3_meet_226 hs
      · exact fr_X3_meet_226 hs
    · exact fr_X3_meet_189 hs
theorem fr_X3_meet_94 {h0 : sv_H} {x0 : Nat} {x1 : Nat} {x2 : Int32} {x3 : Int32} {x4 : Int64} {x6 : Int64} {s0 : Int32} {s1 : Int32} {h : sv_H} (hs : sv_same h0 h) : sv_fr sv_same h0 (fn_X3_meet_94 x0 x1 x2 x3 x4 x6 s0 s1 h) := by
  unfold fn_X3_meet_94
  refine fr_if ?_ ?_
  · exact fr_rt hs
  · refine fr_bd (fun _ => ?_)
    refine fr_bd (fun _ => ?_)
    refine fr_bd (fun _ => ?_)
    refine fr_bd (fun _ => ?_)
    refine fr_bd (fun _ => ?_)
    refine fr_bd (fun _ => ?_)
    refine fr_bd (fun _ => ?_)
    refine fr_bd (fun _ => ?_)
    refine fr_cl (fun _ _ e => hs.trans (fr_X12_cross e)) (fun _ h hs => ?_)
    refine fr_if ?_ ?_
    · exact fr_X3_meet_159 hs
    · exact fr_X3_meet_159 hs
theorem fr_X3_meet_82 {h0 : sv_H} {x0 : Nat} {x1 : Nat} {x2 : Int32} {x3 : Int32} {x4 : Int64} {x6 : Int64} {s0 : Int32} {h : sv_H} (hs : sv_same h0 h) : sv_fr sv_same h0 (fn_X3_meet_82 x0 x1 x2 x3 x4 x6 s0 h) := by
  unfold fn_X3_meet_82
  refine fr_if ?_ ?_
  · exact fr_X3_meet_94 hs
  · exact fr_X3_meet_94 hs
theorem fr_X3_meet_0 {h0 : sv_H} {x0 : Nat} {x1 : Nat} {x2 : Int32} {x3 : Int32} {h : sv_H} (hs : sv_same h0 h) : sv_fr sv_same h0 (fn_X3_meet x0 x1 x2 x3 h) := by
  unfold fn_X3_meet
  refine fr_if ?_ fr_no
  refine fr_bd (fun _ => ?_)
  refine fr_bd (fun _ => ?_)
  refine fr_bd (fun _ => ?_)
  refine fr_bd (fun _ => ?_)
  refine fr_bd (fun _ => ?_)
  refine fr_bd (fun _ => ?_)
  refine fr_cl (fun _ _ e => hs.trans (fr_X12_cross e)) (fun _ h hs => ?_)
  refine fr_bd (fun _ => ?_)
  refine fr_bd (fun _ => ?_)
  refine fr_bd (fun _ => ?_)
  refine fr_bd (fun _ => ?_)
  refine fr_bd (fun _ => ?_)
  refine fr_bd (fun _ => ?_)
  refine fr_cl (fun _ _ e => hs.trans (fr_X12_cross e)) (fun _ h hs => ?_)
  refine fr_if ?_ ?_
  · exact fr_X3_meet_82 hs
  · exact fr_X3_meet_82 hs
theorem fr_X3_meet {x0 : Nat} {x1 : Nat} {x2 : Int32} {x3 : Int32} {h : sv_H} {r : Unit} {hE : sv_H} (hw : fn_X3_meet x0 x1 x2 x3 h = some (r, hE)) : sv_same h hE := fr_X3_meet_0 (sv_same.refl h) r hE hw

theorem fr_X3_meetClose_89 {h0 : sv_H} {k30 : Nat → Nat → Int32 → Int32 → Int32 → sv_H → Option (Unit × sv_H)} (hk30 : ∀ {x0 : Nat} {x1 : Nat} {x2 : Int32} {x3 : Int32} {x4 : Int32} {h : sv_H}, sv_same h0 h → sv_fr sv_same h0 (k30 x0 x1 x2 x3 x4 h)) {x0 : Nat} {x1 : Nat} {x2 : Int32} {x3 : Int32} {x4 : Int32} {h : sv_H} (hs : sv_same h0 h) : sv_fr sv_same h0 (fn_X3_meetClose_89 k30 x0 x1 x2 x3 x4 h) := by
  unfold fn_X3_meetClose_89
  exact hk30 hs
theorem fr_X3_meetClose_30b {h0 : sv_H} {k30 : Nat → Nat → Int32 → Int32 → Int32 → sv_H → Option (Unit × sv_H)} (hk30 : ∀ {x0 : Nat} {x1 : Nat} {x2 : Int32} {x3 : Int32} {x4 : Int32} {h : sv_H}, sv_same h0 h → sv_fr sv_same h0 (k30 x0 x1 x2 x3 x4 h)) {x0 : Nat} {x1 : Nat} {x2 : Int32} {x3 : Int32} {x4 : Int32} {h : sv_H} (hs : sv_same h0 h) : sv_fr sv_same h0 (fn_X3_meetClose_30b k30 x0 x1 x2 x3 x4 h) := by
  unfold fn_X3_meetClose_30b
  refine fr_bd (fun _ => ?_)
  refine fr_if ?_ ?_
  · exact fr_rt hs
  · refine fr_bd (fun _ => ?_)
    refine fr_bd (fun _ => ?_)
    refine fr_bd (fun _ => ?_)
    refine fr_bd (fun _ => ?_)
    refine fr_bd (fun _ => ?_)
    refine fr_bd (fun _ => ?_)
    refine fr_cl (fun _ _ e => hs.trans (fr_X11_reachesBox e)) (fun _ h hs => ?_)
    refine fr_if ?_ ?_
    · exact fr_X3_meetClose_89 hk30 hs
    · refine fr_cl (fun _ _ e => hs.trans (fr_X3_meet e)) (fun _ h hs => ?_)
      exact fr_X3_meetClose_89 hk30 hs
theorem fr_X3_meetClose_30 {h0 : sv_H} : ∀ (n : Nat) {x0 : Nat} {x1 : Nat} {x2 : Int32} {x3 : Int32} {x4 : Int32} {h : sv_H}, sv_same h0 h → sv_fr sv_same h0 (fn_X3_meetClose_30 n x0 x1 x2 x3 x4 h) := by
  intro n
  induction n with
  | zero => intro x0 x1 x2 x3 x4 h hs r hE e; cases (show (none : Option (Unit × sv_H)) = some (r, hE) from e)
  | succ n ih => intro x0 x1 x2 x3 x4 h hs; exact fr_X3_meetClose_30b (fun hs => ih hs) hs
theorem fr_X3_meetClose_0 {h0 : sv_H} {x0 : Nat} {x1 : Nat} {x2 : Int32} {h : sv_H} (hs : sv_same h0 h) : sv_fr sv_same h0 (fn_X3_meetClose x0 x1 x2 h) := by
  unfold fn_X3_meetClose
  refine fr_if ?_ fr_no
  refine fr_st (fun _ e => hs.trans (st_pI e)) (fun h hs => ?_)
  refine fr_bd (fun _ => ?_)
  refine fr_let (fun _ => ?_)
  refine fr_bd (fun _ => ?_)
  refine fr_let (fun _ => ?_)
  refine fr_let (fun _ => ?_)
  refine fr_if fr_no ?_
  exact fr_X3_meetClose_30 sv_fuel hs
theorem fr_X3_meetClose {x0 : Nat} {x1 : Nat} {x2 : Int32} {h : sv_H} {r : Unit} {hE : sv_H} (hw : fn_X3_meetClose x0 x1 x2 h = some (r, hE)) : sv_same h hE := fr_X3_meetClose_0 (sv_same.refl h) r hE hw

theorem fr_X11_sectorOn_15 {h0 : sv_H} {s0 : Int32} {h : sv_H} (hs : sv_same h0 h) : sv_fr sv_same h0 (fn_X11_sectorOn_15 s0 h) := by
  unfold fn_X11_sectorOn_15
  exact fr_rt hs
theorem fr_X11_sectorOn_0 {h0 : sv_H} {x0 : Nat} {x1 : Int32} {h : sv_H} (hs : sv_same h0 h) : sv_fr sv_same h0 (fn_X11_sectorOn x0 x1 h) := by
  unfold fn_X11_sectorOn
  refine fr_if ?_ fr_no
  refine fr_if ?_ ?_
  · refine fr_bd (fun _ => ?_)
    exact fr_X11_sectorOn_15 hs
  · refine fr_bd (fun _ => ?_)
    exact fr_X11_sectorOn_15 hs
theorem fr_X11_sectorOn {x0 : Nat} {x1 : Int32} {h : sv_H} {r : Int32} {hE : sv_H} (hw : fn_X11_sectorOn x0 x1 h = some (r, hE)) : sv_same h hE := fr_X11_sectorOn_0 (sv_same.refl h) r hE hw

theorem fr_X10_stops_101 {h0 : sv_H} {s0 : Int32} {h : sv_H} (hs : sv_same h0 h) : sv_fr sv_same h0 (fn_X10_stops_101 s0 h) := by
  unfold fn_X10_stops_101
  exact fr_rz hs
theorem fr_X10_stops_96 {h0 : sv_H} {h : sv_H} (hs : sv_same h0 h) : sv_fr sv_same h0 (fn_X10_stops_96 h) := by
  unfold fn_X10_stops_96
  exact fr_X10_stops_101 hs
theorem fr_X10_stops_41 {h0 : sv_H} {x3 : Nat} {s0 : Nat} {s1 : Nat} {s2 : Int32} {h : sv_H} (hs : sv_same h0 h) : sv_fr sv_same h0 (fn_X10_stops_41 x3 s0 s1 s2 h) := by
  unfold fn_X10_stops_41
  refine fr_cl (fun _ _ e => hs.trans (fr_X11_sectorOn e)) (fun _ h hs => ?_)
  refine fr_bd (fun _ => ?_)
  refine fr_bd (fun _ => ?_)
  refine fr_bd (fun _ => ?_)
  refine fr_let (fun _ => ?_)
  refine fr_bd (fun _ => ?_)
  refine fr_bd (fun _ => ?_)
  refine fr_let (fun _ => ?_)
  refine fr_bd (fun _ => ?_)
  refine fr_bd (fun _ => ?_)
  refine fr_if ?_ ?_
  · exact fr_X10_stops_96 hs
  · refine fr_if ?_ ?_
    · exact fr_X10_stops_101 hs
    · exact fr_X10_stops_96 hs
theorem fr_X10_stops_0 {h0 : sv_H} {x0 : Nat} {x1 : Nat} {x2 : Int32} {h : sv_H} (hs : sv_same h0 h) : sv_fr sv_same h0 (fn_X10_stops x0 x1 x2 h) := by
  unfold fn_X10_stops
  refine fr_if ?_ fr_no
  refine fr_bd (fun _ => ?_)
  refine fr_if ?_ ?_
  · exact fr_rt hs
  · refine fr_bd (fun _ => ?_)
    refine fr_bd (fun _ => ?_)
    refine fr_cl (fun _ _ e => hs.trans (fr_X11_sectorOn e)) (fun _ h hs => ?_)
    refine fr_bd (fun _ => ?_)
    refine fr_bd (fun _ => ?_)
    refine fr_bd (fun _ => ?_)
    refine fr_if ?_ ?_
    · exact fr_X10_stops_41 hs
    · exact fr_X10_stops_41 hs
theorem fr_X10_stops {x0 : Nat} {x1 : Nat} {x2 : Int32} {h : sv_H} {r : Int32} {hE : sv_H} (hw : fn_X10_stops x0 x1 x2 h = some (r, hE)) : sv_same h hE := fr_X10_stops_0 (sv_same.refl h) r hE hw

theorem fr_X10_moverByCrossing_38 {h0 : sv_H} {h : sv_H} (hs : sv_same h0 h) : sv_fr sv_same h0 (fn_X10_moverByCrossing_38 h) := by
  unfold fn_X10_moverByCrossing_38
  exact fr_rt hs
theorem fr_X10_moverByCrossing_0 {h0 : sv_H} {x0 : Int32} {h : sv_H} (hs : sv_same h0 h) : sv_fr sv_same h0 (fn_X10_moverByCrossing x0 h) := by
  unfold fn_X10_moverByCrossing
  refine fr_if ?_ ?_
  · exact fr_rt hs
  refine fr_if ?_ ?_
  · exact fr_rt hs
  refine fr_if ?_ ?_
  · exact fr_X10_moverByCrossing_38 hs
  refine fr_if ?_ ?_
  · exact fr_rt hs
  exact fr_X10_moverByCrossing_38 hs
theorem fr_X10_moverByCrossing {x0 : Int32} {h : sv_H} {r : Int32} {hE : sv_H} (hw : fn_X10_moverByCrossing x0 h = some (r, hE)) : sv_same h hE := fr_X10_moverByCrossing_0 (sv_same.refl h) r hE hw

theorem fr_X2_neighbourBy_19 {h0 : sv_H} {h : sv_H} (hs : sv_same h0 h) : sv_fr sv_same h0 (fn_X2_neighbourBy_19 h) := by
  unfold fn_X2_neighbourBy_19
  exact fr_rt hs
theorem fr_X2_neighbourBy_50 {h0 : sv_H} {s0 : Int32} {h : sv_H} (hs : sv_same h0 h) : sv_fr sv_same h0 (fn_X2_neighbourBy_50 s0 h) := by
  unfold fn_X2_neighbourBy_50
  exact fr_rt hs
theorem fr_X2_neighbourBy_0 {h0 : sv_H} {x0 : Nat} {x1 : Nat} {x2 : Int32} {h : sv_H} (hs : sv_same h0 h) : sv_fr sv_same h0 (fn_X2_neighbourBy x0 x1 x2 h) := by
  unfold fn_X2_neighbourBy
  refine fr_if ?_ fr_no
  refine fr_bd (fun _ => ?_)
  refine fr_if ?_ ?_
  · exact fr_X2_neighbourBy_19 hs
  · refine fr_bd (fun _ => ?_)
    refine fr_bd (fun _ => ?_)
    refine fr_if ?_ ?_
    · exact fr_X2_neighbourBy_19 hs
    · refine fr_bd (fun _ => ?_)
      refine fr_if ?_ ?_
      · refine fr_bd (fun _ => ?_)
        exact fr_rt hs
      · refine fr_bd (fun _ => ?_)
        refine fr_if ?_ ?_
        · refine fr_bd (fun _ => ?_)
          exact fr_X2_neighbourBy_50 hs
        · exact fr_X2_neighbourBy_50 hs
theorem fr_X2_neighbourBy {x0 : Nat} {x1 : Nat} {x2 : Int32} {h : sv_H} {r : Int32} {hE : sv_H} (hw : fn_X2_neighbourBy x0 x1 x2 h = some (r, hE)) : sv_same h hE := fr_X2_neighbourBy_0 (sv_same.refl h) r hE hw

theorem fr_X2_lowCeiling_72 {h0 : sv_H} {s0 : Int32} {h : sv_H} (hs : sv_same h0 h) : sv_fr sv_same h0 (fn_X2_lowCeiling_72 s0 h) := by
  unfold fn_X2_lowCeiling_72
  exact fr_rt hs
theorem fr_X2_lowCeiling_47 {h0 : sv_H} {k5 : Nat → Int32 → Int32 → Int32 → sv_H → Option (Int32 × sv_H)} (hk5 : ∀ {x0 : Nat} {x1 : Int32} {x2 : Int32} {x3 : Int32} {h : sv_H}, sv_same h0 h → sv_fr sv_same h0 (k5 x0 x1 x2 x3 h)) {x0 : Nat} {x1 : Int32} {x2 : Int32} {x3 : Int32} {h : sv_H} (hs : sv_same h0 h) : sv_fr sv_same h0 (fn_X2_lowCeiling_47 k5 x0 x1 x2 x3 h) := by
  unfold fn_X2_lowCeiling_47
  exact hk5 hs
theorem fr_X2_lowCeiling_5b {h0 : sv_H} {k5 : Nat → Int32 → Int32 → Int32 → sv_H → Option (Int32 × sv_H)} (hk5 : ∀ {x0 : Nat} {x1 : Int32} {x2 : Int32} {x3 : Int32} {h : sv_H}, sv_same h0 h → sv_fr sv_same h0 (k5 x0 x1 x2 x3 h)) {x0 : Nat} {x1 : Int32} {x2 : Int32} {x3 : Int32} {h : sv_H} (hs : sv_same h0 h) : sv_fr sv_same h0 (fn_X2_lowCeiling_5b k5 x0 x1 x2 x3 h) := by
  unfold fn_X2_lowCeiling_5b
  refine fr_bd (fun _ => ?_)
  refine fr_if ?_ ?_
  · refine fr_if ?_ ?_
    · refine fr_bd (fun _ => ?_)
      refine fr_bd (fun _ => ?_)
      refine fr_bd (fun _ => ?_)
      exact fr_X2_lowCeiling_72 hs
    · exact fr_X2_lowCeiling_72 hs
  · refine fr_bd (fun _ => ?_)
    refine fr_bd (fun _ => ?_)
    refine fr_cl (fun _ _ e => hs.trans (fr_X2_neighbourBy e)) (fun _ h hs => ?_)
    refine fr_if ?_ ?_
    · exact fr_X2_lowCeiling_47 hk5 hs
    · refine fr_bd (fun _ => ?_)
      refine fr_bd (fun _ => ?_)
      refine fr_bd (fun _ => ?_)
      refine fr_let (fun _ => ?_)
      exact fr_X2_lowCeiling_47 hk5 hs
theorem fr_X2_lowCeiling_5 {h0 : sv_H} : ∀ (n : Nat) {x0 : Nat} {x1 : Int32} {x2 : Int32} {x3 : Int32} {h : sv_H}, sv_same h0 h → sv_fr sv_same h0 (fn_X2_lowCeiling_5 n x0 x1 x2 x3 h) := by
  intro n
  induction n with
  | zero => intro x0 x1 x2 x3 h hs r hE e; cases (show (none : Option (Int32 × sv_H)) = some (r, hE) from e)
  | succ n ih => intro x0 x1 x2 x3 h hs; exact fr_X2_lowCeiling_5b (fun hs => ih hs) hs
theorem fr_X2_lowCeiling_0 {h0 : sv_H} {x0 : Nat} {x1 : Int32} {h : sv_H} (hs : sv_same h0 h) : sv_fr sv_same h0 (fn_X2_lowCeiling x0 x1 h) := by
  unfold fn_X2_lowCeiling
  refine fr_if ?_ fr_no
  exact fr_X2_lowCeiling_5 sv_fuel hs
theorem fr_X2_lowCeiling {x0 : Nat} {x1 : Int32} {h : sv_H} {r : Int32} {hE : sv_H} (hw : fn_X2_lowCeiling x0 x1 h = some (r, hE)) : sv_same h hE := fr_X2_lowCeiling_0 (sv_same.refl h) r hE hw

theorem fr_X6_startMover_0 {h0 : sv_H} {x0 : Nat} {x1 : Int32} {x2 : Int32} {x3 : Int32} {h : sv_H} (hs : sv_same h0 h) : sv_fr sv_same h0 (fn_X6_startMover x0 x1 x2 x3 h) := by
  unfold fn_X6_startMover
  refine fr_if ?_ fr_no
  refine fr_st (fun _ e => hs.trans (st_pI e)) (fun h hs => ?_)
  refine fr_st (fun _ e => hs.trans (st_pI e)) (fun h hs => ?_)
  refine fr_st (fun _ e => hs.trans (st_pI e)) (fun h hs => ?_)
  refine fr_bd (fun _ => ?_)
  refine fr_st (fun _ e => hs.trans (st_pI e)) (fun h hs => ?_)
  refine fr_st (fun _ e => hs.trans (st_pI e)) (fun h hs => ?_)
  exact fr_rt hs
theorem fr_X6_startMover {x0 : Nat} {x1 : Int32} {x2 : Int32} {x3 : Int32} {h : sv_H} {r : Unit} {hE : sv_H} (hw : fn_X6_startMover x0 x1 x2 x3 h = some (r, hE)) : sv_same h hE := fr_X6_startMover_0 (sv_same.refl h) r hE hw

theorem fr_X2_lowFloor_54 {h0 : sv_H} {k12 : Nat → Int32 → Int32 → Int32 → sv_H → Option (Int32 × sv_H)} (hk12 : ∀ {x0 : Nat} {x1 : Int32} {x2 : Int32} {x3 : Int32} {h : sv_H}, sv_same h0 h → sv_fr sv_same h0 (k12 x0 x1 x2 x3 h)) {x0 : Nat} {x1 : Int32} {x2 : Int32} {x3 : Int32} {h : sv_H} (hs : sv_same h0 h) : sv_fr sv_same h0 (fn_X2_lowFloor_54 k12 x0 x1 x2 x3 h) := by
  unfold fn_X2_lowFloor_54
  exact hk12 hs
theorem fr_X2_lowFloor_12b {h0 : sv_H} {k12 : Nat → Int32 → Int32 → Int32 → sv_H → Option (Int32 × sv_H)} (hk12 : ∀ {x0 : Nat} {x1 : Int32} {x2 : Int32} {x3 : Int32} {h : sv_H}, sv_same h0 h → sv_fr sv_same h0 (k12 x0 x1 x2 x3 h)) {x0 : Nat} {x1 : Int32} {x2 : Int32} {x3 : Int32} {h : sv_H} (hs : sv_same h0 h) : sv_fr sv_same h0 (fn_X2_lowFloor_12b k12 x0 x1 x2 x3 h) := by
  unfold fn_X2_lowFloor_12b
  refine fr_bd (fun _ => ?_)
  refine fr_if ?_ ?_
  · exact fr_rt hs
  · refine fr_bd (fun _ => ?_)
    refine fr_bd (fun _ => ?_)
    refine fr_cl (fun _ _ e => hs.trans (fr_X2_neighbourBy e)) (fun _ h hs => ?_)
    refine fr_if ?_ ?_
    · exact fr_X2_lowFloor_54 hk12 hs
    · refine fr_bd (fun _ => ?_)
      refine fr_bd (fun _ => ?_)
      refine fr_bd (fun _ => ?_)
      refine fr_let (fun _ => ?_)
      exact fr_X2_lowFloor_54 hk12 hs
theorem fr_X2_lowFloor_12 {h0 : sv_H} : ∀ (n : Nat) {x0 : Nat} {x1 : Int32} {x2 : Int32} {x3 : Int32} {h : sv_H}, sv_same h0 h → sv_fr sv_same h0 (fn_X2_lowFloor_12 n x0 x1 x2 x3 h) := by
  intro n
  induction n with
  | zero => intro x0 x1 x2 x3 h hs r hE e; cases (show (none : Option (Int32 × sv_H)) = some (r, hE) from e)
  | succ n ih => intro x0 x1 x2 x3 h hs; exact fr_X2_lowFloor_12b (fun hs => ih hs) hs
theorem fr_X2_lowFloor_0 {h0 : sv_H} {x0 : Nat} {x1 : Int32} {h : sv_H} (hs : sv_same h0 h) : sv_fr sv_same h0 (fn_X2_lowFloor x0 x1 h) := by
  unfold fn_X2_lowFloor
  refine fr_if ?_ fr_no
  refine fr_bd (fun _ => ?_)
  refine fr_bd (fun _ => ?_)
  refine fr_bd (fun _ => ?_)
  exact fr_X2_lowFloor_12 sv_fuel hs
theorem fr_X2_lowFloor {x0 : Nat} {x1 : Int32} {h : sv_H} {r : Int32} {hE : sv_H} (hw : fn_X2_lowFloor x0 x1 h = some (r, hE)) : sv_same h hE := fr_X2_lowFloor_0 (sv_same.refl h) r hE hw

theorem fr_X2_highFloor_54 {h0 : sv_H} {k12 : Nat → Int32 → Int32 → Int32 → sv_H → Option (Int32 × sv_H)} (hk12 : ∀ {x0 : Nat} {x1 : Int32} {x2 : Int32} {x3 : Int32} {h : sv_H}, sv_same h0 h → sv_fr sv_same h0 (k12 x0 x1 x2 x3 h)) {x0 : Nat} {x1 : Int32} {x2 : Int32} {x3 : Int32} {h : sv_H} (hs : sv_same h0 h) : sv_fr sv_same h0 (fn_X2_highFloor_54 k12 x0 x1 x2 x3 h) := by
  unfold fn_X2_highFloor_54
  exact hk12 hs
theorem fr_X2_highFloor_12b {h0 : sv_H} {k12 : Nat → Int32 → Int32 → Int32 → sv_H → Option (Int32 × sv_H)} (hk12 : ∀ {x0 : Nat} {x1 : Int32} {x2 : Int32} {x3 : Int32} {h : sv_H}, sv_same h0 h → sv_fr sv_same h0 (k12 x0 x1 x2 x3 h)) {x0 : Nat} {x1 : Int32} {x2 : Int32} {x3 : Int32} {h : sv_H} (hs : sv_same h0 h) : sv_fr sv_same h0 (fn_X2_highFloor_12b k12 x0 x1 x2 x3 h) := by
  unfold fn_X2_highFloor_12b
  refine fr_bd (fun _ => ?_)
  refine fr_if ?_ ?_
  · exact fr_rt hs
  · refine fr_bd (fun _ => ?_)
    refine fr_bd (fun _ => ?_)
    refine fr_cl (fun _ _ e => hs.trans (fr_X2_neighbourBy e)) (fun _ h hs => ?_)
    refine fr_if ?_ ?_
    · exact fr_X2_highFloor_54 hk12 hs
    · refine fr_bd (fun _ => ?_)
      refine fr_bd (fun _ => ?_)
      refine fr_bd (fun _ => ?_)
      refine fr_let (fun _ => ?_)
      exact fr_X2_highFloor_54 hk12 hs
theorem fr_X2_highFloor_12 {h0 : sv_H} : ∀ (n : Nat) {x0 : Nat} {x1 : Int32} {x2 : Int32} {x3 : Int32} {h : sv_H}, sv_same h0 h → sv_fr sv_same h0 (fn_X2_highFloor_12 n x0 x1 x2 x3 h) := by
  intro n
  induction n with
  | zero => intro x0 x1 x2 x3 h hs r hE e; cases (show (none : Option (Int32 × sv_H)) = some (r, hE) from e)
  | succ n ih => intro x0 x1 x2 x3 h hs; exact fr_X2_highFloor_12b (fun hs => ih hs) hs
theorem fr_X2_highFloor_0 {h0 : sv_H} {x0 : Nat} {x1 : Int32} {h : sv_H} (hs : sv_same h0 h) : sv_fr sv_same h0 (fn_X2_highFloor x0 x1 h) := by
  unfold fn_X2_highFloor
  refine fr_if ?_ fr_no
  refine fr_bd (fun _ => ?_)
  refine fr_bd (fun _ => ?_)
  refine fr_bd (fun _ => ?_)
  exact fr_X2_highFloor_12 sv_fuel hs
theorem fr_X2_highFloor {x0 : Nat} {x1 : Int32} {h : sv_H} {r : Int32} {hE : sv_H} (hw : fn_X2_highFloor x0 x1 h = some (r, hE)) : sv_same h hE := fr_X2_highFloor_0 (sv_same.refl h) r hE hw

theorem fr_X2_startOne_103 {h0 : sv_H} {h : sv_H} (hs : sv_same h0 h) : sv_fr sv_same h0 (fn_X2_startOne_103 h) := by
  unfold fn_X2_startOne_103
  exact fr_rt hs
theorem fr_X2_startOne_0 {h0 : sv_H} {x0 : Nat} {x1 : Int32} {x2 : Int32} {h : sv_H} (hs : sv_same h0 h) : sv_fr sv_same h0 (fn_X2_startOne x0 x1 x2 h) := by
  unfold fn_X2_startOne
  refine fr_if ?_ fr_no
  refine fr_bd (fun _ => ?_)
  refine fr_bd (fun _ => ?_)
  refine fr_bd (fun _ => ?_)
  refine fr_if ?_ ?_
  · refine fr_if ?_ ?_
    · refine fr_cl (fun _ _ e => hs.trans (fr_X2_lowCeiling e)) (fun _ h hs => ?_)
      refine fr_bd (fun _ => ?_)
      refine fr_let (fun _ => ?_)
      refine fr_cl (fun _ _ e => hs.trans (fr_X6_startMover e)) (fun _ h hs => ?_)
      exact fr_X2_startOne_103 hs
    · refine fr_if ?_ ?_
      · refine fr_cl (fun _ _ e => hs.trans (fr_X2_lowFloor e)) (fun _ h hs => ?_)
        refine fr_cl (fun _ _ e => hs.trans (fr_X6_startMover e)) (fun _ h hs => ?_)
        exact fr_X2_startOne_103 hs
      · refine fr_if ?_ ?_
        · refine fr_cl (fun _ _ e => hs.trans (fr_X2_highFloor e)) (fun _ h hs => ?_)
          refine fr_bd (fun _ => ?_)
          refine fr_let (fun _ => ?_)
          refine fr_cl (fun _ _ e => hs.trans (fr_X6_startMover e)) (fun _ h hs => ?_)
          exact fr_X2_startOne_103 hs
        · exact fr_X2_startOne_103 hs
  · refine fr_if ?_ ?_
    · refine fr_bd (fun _ => ?_)
      refine fr_if ?_ ?_
      · refine fr_st (fun _ e => hs.trans (st_pI e)) (fun h hs => ?_)
        exact fr_X2_startOne_103 hs
      · exact fr_X2_startOne_103 hs
    · exact fr_X2_startOne_103 hs
theorem fr_X2_startOne {x0 : Nat} {x1 : Int32} {x2 : Int32} {h : sv_H} {r : Unit} {hE : sv_H} (hw : fn_X2_startOne x0 x1 x2 h = some (r, hE)) : sv_same h hE := fr_X2_startOne_0 (sv_same.refl h) r hE hw

theorem fr_X2_startAll_40 {h0 : sv_H} {h : sv_H} (hs : sv_same h0 h) : sv_fr sv_same h0 (fn_X2_startAll_40 h) := by
  unfold fn_X2_startAll_40
  exact fr_rt hs
theorem fr_X2_startAll_34 {h0 : sv_H} {k2 : Nat → Int32 → Int32 → Int32 → sv_H → Option (Unit × sv_H)} (hk2 : ∀ {x0 : Nat} {x1 : Int32} {x2 : Int32} {x3 : Int32} {h : sv_H}, sv_same h0 h → sv_fr sv_same h0 (k2 x0 x1 x2 x3 h)) {x0 : Nat} {x1 : Int32} {x2 : Int32} {x3 : Int32} {h : sv_H} (hs : sv_same h0 h) : sv_fr sv_same h0 (fn_X2_startAll_34 k2 x0 x1 x2 x3 h) := by
  unfold fn_X2_startAll_34
  exact hk2 hs
theorem fr_X2_startAll_2b {h0 : sv_H} {k2 : Nat → Int32 → Int32 → Int32 → sv_H → Option (Unit × sv_H)} (hk2 : ∀ {x0 : Nat} {x1 : Int32} {x2 : Int32} {x3 : Int32} {h : sv_H}, sv_same h0 h → sv_fr sv_same h0 (k2 x0 x1 x2 x3 h)) {x0 : Nat} {x1 : Int32} {x2 : Int32} {x3 : Int32} {h : sv_H} (hs : sv_same h0 h) : sv_fr sv_same h0 (fn_X2_startAll_2b k2 x0 x1 x2 x3 h) := by
  unfold fn_X2_startAll_2b
  refine fr_bd (fun _ => ?_)
  refine fr_if ?_ ?_
  · exact fr_X2_startAll_40 hs
  · refine fr_if ?_ ?_
    · exact fr_X2_startAll_40 hs
    · refine fr_bd (fun _ => ?_)
      refine fr_bd (fun _ => ?_)
      refine fr_bd (fun _ => ?_)
      refine fr_if ?_ ?_
      · refine fr_cl (fun _ _ e => hs.trans (fr_X2_startOne e)) (fun _ h hs => ?_)
        exact fr_X2_startAll_34 hk2 hs
      · exact fr_X2_startAll_34 hk2 hs
theorem fr_X2_startAll_2 {h0 : sv_H} : ∀ (n : Nat) {x0 : Nat} {x1 : Int32} {x2 : Int32} {x3 : Int32} {h : sv_H}, sv_same h0 h → sv_fr sv_same h0 (fn_X2_startAll_2 n x0 x1 x2 x3 h) := by
  intro n
  induction n with
  | zero => intro x0 x1 x2 x3 h hs r hE e; cases (show (none : Option (Unit × sv_H)) = some (r, hE) from e)
  | succ n ih => intro x0 x1 x2 x3 h hs; exact fr_X2_startAll_2b (fun hs => ih hs) hs
theorem fr_X2_startAll_0 {h0 : sv_H} {x0 : Nat} {x1 : Int32} {x2 : Int32} {h : sv_H} (hs : sv_same h0 h) : sv_fr sv_same h0 (fn_X2_startAll x0 x1 x2 h) := by
  unfold fn_X2_startAll
  refine fr_if ?_ fr_no
  exact fr_X2_startAll_2 sv_fuel hs
theorem fr_X2_startAll {x0 : Nat} {x1 : Int32} {x2 : Int32} {h : sv_H} {r : Unit} {hE : sv_H} (hw : fn_X2_startAll x0 x1 x2 h = some (r, hE)) : sv_same h hE := fr_X2_startAll_0 (sv_same.refl h) r hE hw

theorem fr_X10_go_57 {h0 : sv_H} {h : sv_H} (hs : sv_same h0 h) : sv_fr sv_same h0 (fn_X10_go_57 h) := by
  unfold fn_X10_go_57
  exact fr_rt hs
theorem fr_X10_go_185 {h0 : sv_H} {k135 : Nat → Int32 → sv_H → Option (Int32 × sv_H)} (hk135 : ∀ {x0 : Nat} {x3 : Int32} {h : sv_H}, sv_same h0 h → sv_fr sv_same h0 (k135 x0 x3 h)) {x0 : Nat} {x3 : Int32} {x4 : Nat} {s0 : Nat} {s1 : Nat} {s2 : Int32} {h : sv_H} (hs : sv_same h0 h) : sv_fr sv_same h0 (fn_X10_go_185 k135 x0 x3 x4 s0 s1 s2 h) := by
  unfold fn_X10_go_185
  refine fr_cl (fun _ _ e => hs.trans (fr_X11_sectorOn e)) (fun _ h hs => ?_)
  refine fr_st (fun _ e => hs.trans (st_pI e)) (fun h hs => ?_)
  refine fr_bd (fun _ => ?_)
  refine fr_bd (fun _ => ?_)
  refine fr_cl (fun _ _ e => hs.trans (fr_X10_moverByCrossing e)) (fun _ h hs => ?_)
  refine fr_bd (fun _ => ?_)
  refine fr_cl (fun _ _ e => hs.trans (fr_X2_startAll e)) (fun _ h hs => ?_)
  exact hk135 hs
theorem fr_X10_go_135b {h0 : sv_H} {k135 : Nat → Int32 → sv_H → Option (Int32 × sv_H)} (hk135 : ∀ {x0 : Nat} {x3 : Int32} {h : sv_H}, sv_same h0 h → sv_fr sv_same h0 (k135 x0 x3 h)) {x0 : Nat} {x3 : Int32} {h : sv_H} (hs : sv_same h0 h) : sv_fr sv_same h0 (fn_X10_go_135b k135 x0 x3 h) := by
  unfold fn_X10_go_135b
  refine fr_bd (fun _ => ?_)
  refine fr_bd (fun _ => ?_)
  refine fr_if ?_ ?_
  · exact fr_rt hs
  · refine fr_bd (fun _ => ?_)
    refine fr_bd (fun _ => ?_)
    refine fr_bd (fun _ => ?_)
    refine fr_bd (fun _ => ?_)
    refine fr_bd (fun _ => ?_)
    refine fr_bd (fun _ => ?_)
    refine fr_bd (fun _ => ?_)
    refine fr_bd (fun _ => ?_)
    refine fr_bd (fun _ => ?_)
    refine fr_if ?_ ?_
    · exact fr_X10_go_185 hk135 hs
    · exact fr_X10_go_185 hk135 hs
theorem fr_X10_go_135 {h0 : sv_H} : ∀ (n : Nat) {x0 : Nat} {x3 : Int32} {h : sv_H}, sv_same h0 h → sv_fr sv_same h0 (fn_X10_go_135 n x0 x3 h) := by
  intro n
  induction n with
  | zero => intro x0 x3 h hs r hE e; cases (show (none : Option (Int32 × sv_H)) = some (r, hE) from e)
  | succ n ih => intro x0 x3 h hs; exact fr_X10_go_135b (fun hs => ih hs) hs
theorem fr_X10_go_61b {h0 : sv_H} {k61 : Nat → Int32 → Int32 → Int32 → sv_H → Option (Int32 × sv_H)} (hk61 : ∀ {x0 : Nat} {x1 : Int32} {x2 : Int32} {x3 : Int32} {h : sv_H}, sv_same h0 h → sv_fr sv_same h0 (k61 x0 x1 x2 x3 h)) {x0 : Nat} {x1 : Int32} {x2 : Int32} {x3 : Int32} {h : sv_H} (hs : sv_same h0 h) : sv_fr sv_same h0 (fn_X10_go_61b k61 x0 x1 x2 x3 h) := by
  unfold fn_X10_go_61b
  refine fr_bd (fun _ => ?_)
  refine fr_bd (fun _ => ?_)
  refine fr_if ?_ ?_
  · refine fr_bd (fun _ => ?_)
    refine fr_st (fun _ e => hs.trans (st_pI e)) (fun h hs => ?_)
    refine fr_bd (fun _ => ?_)
    refine fr_st (fun _ e => hs.trans (st_pI e)) (fun h hs => ?_)
    exact fr_X10_go_135 sv_fuel hs
  · refine fr_bd (fun _ => ?_)
    refine fr_bd (fun _ => ?_)
    refine fr_bd (fun _ => ?_)
    refine fr_bd (fun _ => ?_)
    refine fr_bd (fun _ => ?_)
    refine fr_bd (fun _ => ?_)
    refine fr_bd (fun _ => ?_)
    refine fr_bd (fun _ => ?_)
    refine fr_bd (fun _ => ?_)
    refine fr_cl (fun _ _ e => hs.trans (fr_X10_stops e)) (fun _ h hs => ?_)
    refine fr_if ?_ ?_
    · exact hk61 hs
    · exact fr_rt hs
theorem fr_X10_go_61 {h0 : sv_H} : ∀ (n : Nat) {x0 : Nat} {x1 : Int32} {x2 : Int32} {x3 : Int32} {h : sv_H}, sv_same h0 h → sv_fr sv_same h0 (fn_X10_go_61 n x0 x1 x2 x3 h) := by
  intro n
  induction n with
  | zero => intro x0 x1 x2 x3 h hs r hE e; cases (show (none : Option (Int32 × sv_H)) = some (r, hE) from e)
  | succ n ih => intro x0 x1 x2 x3 h hs; exact fr_X10_go_61b (fun hs => ih hs) hs
theorem fr_X10_go_0 {h0 : sv_H} {x0 : Nat} {x1 : Int32} {x2 : Int32} {h : sv_H} (hs : sv_same h0 h) : sv_fr sv_same h0 (fn_X10_go x0 x1 x2 h) := by
  unfold fn_X10_go
  refine fr_if ?_ fr_no
  refine fr_bd (fun _ => ?_)
  refine fr_bd (fun _ => ?_)
  refine fr_bd (fun _ => ?_)
  refine fr_cl (fun _ _ e => hs.trans (fr_X3_aim e)) (fun _ h hs => ?_)
  refine fr_bd (fun _ => ?_)
  refine fr_bd (fun _ => ?_)
  refine fr_cl (fun _ _ e => hs.trans (fr_X3_meetClose e)) (fun _ h hs => ?_)
  refine fr_bd (fun _ => ?_)
  refine fr_let (fun _ => ?_)
  refine fr_if ?_ ?_
  · exact fr_X10_go_57 hs
  · refine fr_bd (fun _ => ?_)
    refine fr_let (fun _ => ?_)
    refine fr_if ?_ ?_
    · exact fr_X10_go_61 sv_fuel hs
    · exact fr_X10_go_57 hs
theorem fr_X10_go {x0 : Nat} {x1 : Int32} {x2 : Int32} {h : sv_H} {r : Int32} {hE : sv_H} (hw : fn_X10_go x0 x1 x2 h = some (r, hE)) : sv_same h hE := fr_X10_go_0 (sv_same.refl h) r hE hw

theorem fr_X10_use_51 {h0 : sv_H} {h : sv_H} (hs : sv_same h0 h) : sv_fr sv_same h0 (fn_X10_use_51 h) := by
  unfold fn_X10_use_51
  exact fr_rt hs
theorem fr_X10_use_121 {h0 : sv_H} {h : sv_H} (hs : sv_same h0 h) : sv_fr sv_same h0 (fn_X10_use_121 h) := by
  unfold fn_X10_use_121
  exact fr_rt hs
theorem fr_X10_use_101 {h0 : sv_H} {x0 : Nat} {x3 : Nat} {h : sv_H} (hs : sv_same h0 h) : sv_fr sv_same h0 (fn_X10_use_101 x0 x3 h) := by
  unfold fn_X10_use_101
  refine fr_bd (fun _ => ?_)
  refine fr_if ?_ ?_
  · refine fr_bd (fun _ => ?_)
    refine fr_bd (fun _ => ?_)
    refine fr_cl (fun _ _ e => hs.trans (fr_X2_startAll e)) (fun _ h hs => ?_)
    exact fr_X10_use_121 hs
  · exact fr_X10_use_121 hs
theorem fr_X10_use_0 {h0 : sv_H} {x0 : Nat} {x1 : Int32} {x2 : Int32} {h : sv_H} (hs : sv_same h0 h) : sv_fr sv_same h0 (fn_X10_use x0 x1 x2 h) := by
  unfold fn_X10_use
  refine fr_if ?_ fr_no
  refine fr_bd (fun _ => ?_)
  refine fr_bd (fun _ => ?_)
  refine fr_bd (fun _ => ?_)
  refine fr_cl (fun _ _ e => hs.trans (fr_X3_aim e)) (fun _ h hs => ?_)
  refine fr_bd (fun _ => ?_)
  refine fr_bd (fun _ => ?_)
  refine fr_cl (fun _ _ e => hs.trans (fr_X3_meetClose e)) (fun _ h hs => ?_)
  refine fr_bd (fun _ => ?_)
  refine fr_bd (fun _ => ?_)
  refine fr_if ?_ ?_
  · exact fr_X10_use_51 hs
  · refine fr_bd (fun _ => ?_)
    refine fr_bd (fun _ => ?_)
    refine fr_bd (fun _ => ?_)
    refine fr_if ?_ ?_
    · exact fr_X10_use_51 hs
    · refine fr_bd (fun _ => ?_)
      refine fr_bd (fun _ => ?_)
      refine fr_bd (fun _ => ?_)
      refine fr_bd (fun _ => ?_)
      refine fr_bd (fun _ => ?_)
      refine fr_bd (fun _ => ?_)
      refine fr_bd (fun _ => ?_)
      refine fr_if ?_ ?_
      · refine fr_bd (fun _ => ?_)
        refine fr_if ?_ ?_
        · exact fr_X10_use_101 hs
        · refine fr_bd (fun _ => ?_)
          refine fr_bd (fun _ => ?_)
          refine fr_cl (fun _ _ e => hs.trans (fr_X2_startOne e)) (fun _ h hs => ?_)
          exact fr_X10_use_121 hs
      · exact fr_X10_use_101 hs
theorem fr_X10_use {x0 : Nat} {x1 : Int32} {x2 : Int32} {h : sv_H} {r : Unit} {hE : sv_H} (hw : fn_X10_use x0 x1 x2 h = some (r, hE)) : sv_same h hE := fr_X10_use_0 (sv_same.refl h) r hE hw

theorem fr_X6_waitOn_33 {h0 : sv_H} {h : sv_H} (hs : sv_same h0 h) : sv_fr sv_same h0 (fn_X6_waitOn_33 h) := by
  unfold fn_X6_waitOn_33
  exact fr_rt hs
theorem fr_X6_waitOn_30 {h0 : sv_H} {s0 : Nat} {s1 : Int32} {h : sv_H} (hs : sv_same h0 h) : sv_fr sv_same h0 (fn_X6_waitOn_30 s0 s1 h) := by
  unfold fn_X6_waitOn_30
  refine fr_st (fun _ e => hs.trans (st_pI e)) (fun h hs => ?_)
  exact fr_X6_waitOn_33 hs
theorem fr_X6_waitOn_0 {h0 : sv_H} {x0 : Nat} {h : sv_H} (hs : sv_same h0 h) : sv_fr sv_same h0 (fn_X6_waitOn x0 h) := by
  unfold fn_X6_waitOn
  refine fr_if ?_ fr_no
  refine fr_bd (fun _ => ?_)
  refine fr_st (fun _ e => hs.trans (st_pI e)) (fun h hs => ?_)
  refine fr_bd (fun _ => ?_)
  refine fr_if ?_ ?_
  · exact fr_X6_waitOn_33 hs
  · refine fr_bd (fun _ => ?_)
    refine fr_if ?_ ?_
    · exact fr_X6_waitOn_30 hs
    · exact fr_X6_waitOn_30 hs
theorem fr_X6_waitOn {x0 : Nat} {h : sv_H} {r : Unit} {hE : sv_H} (hw : fn_X6_waitOn x0 h = some (r, hE)) : sv_same h hE := fr_X6_waitOn_0 (sv_same.refl h) r hE hw

theorem fr_X6_waitFor_0 {h0 : sv_H} {x0 : Nat} {x1 : Int32} {h : sv_H} (hs : sv_same h0 h) : sv_fr sv_same h0 (fn_X6_waitFor x0 x1 h) := by
  unfold fn_X6_waitFor
  refine fr_if ?_ fr_no
  refine fr_st (fun _ e => hs.trans (st_pI e)) (fun h hs => ?_)
  refine fr_st (fun _ e => hs.trans (st_pI e)) (fun h hs => ?_)
  exact fr_rt hs
theorem fr_X6_waitFor {x0 : Nat} {x1 : Int32} {h : sv_H} {r : Unit} {hE : sv_H} (hw : fn_X6_waitFor x0 x1 h = some (r, hE)) : sv_same h hE := fr_X6_waitFor_0 (sv_same.refl h) r hE hw

theorem fr_X6_openDoor_35 {h0 : sv_H} {h : sv_H} (hs : sv_same h0 h) : sv_fr sv_same h0 (fn_X6_openDoor_35 h) := by
  unfold fn_X6_openDoor_35
  exact fr_rt hs
theorem fr_X6_openDoor_0 {h0 : sv_H} {x0 : Nat} {h : sv_H} (hs : sv_same h0 h) : sv_fr sv_same h0 (fn_X6_openDoor x0 h) := by
  unfold fn_X6_openDoor
  refine fr_if ?_ fr_no
  refine fr_bd (fun _ => ?_)
  refine fr_bd (fun _ => ?_)
  refine fr_let (fun _ => ?_)
  refine fr_st (fun _ e => hs.trans (st_pI e)) (fun h hs => ?_)
  refine fr_bd (fun _ => ?_)
  refine fr_bd (fun _ => ?_)
  refine fr_if ?_ ?_
  · refine fr_cl (fun _ _ e => hs.trans (fr_X6_waitFor e)) (fun _ h hs => ?_)
    exact fr_X6_openDoor_35 hs
  · exact fr_X6_openDoor_35 hs
theorem fr_X6_openDoor {x0 : Nat} {h : sv_H} {r : Unit} {hE : sv_H} (hw : fn_X6_openDoor x0 h = some (r, hE)) : sv_same h hE := fr_X6_openDoor_0 (sv_same.refl h) r hE hw

theorem fr_X6_closeDoor_56 {h0 : sv_H} {h : sv_H} (hs : sv_same h0 h) : sv_fr sv_same h0 (fn_X6_closeDoor_56 h) := by
  unfold fn_X6_closeDoor_56
  exact fr_rt hs
theorem fr_X6_closeDoor_36 {h0 : sv_H} {x0 : Nat} {x2 : Int32} {h : sv_H} (hs : sv_same h0 h) : sv_fr sv_same h0 (fn_X6_closeDoor_36 x0 x2 h) := by
  unfold fn_X6_closeDoor_36
  refine fr_st (fun _ e => hs.trans (st_pI e)) (fun h hs => ?_)
  refine fr_bd (fun _ => ?_)
  refine fr_bd (fun _ => ?_)
  refine fr_if ?_ ?_
  · refine fr_cl (fun _ _ e => hs.trans (fr_X6_endMover e)) (fun _ h hs => ?_)
    exact fr_X6_closeDoor_56 hs
  · exact fr_X6_closeDoor_56 hs
theorem fr_X6_closeDoor_0 {h0 : sv_H} {x0 : Nat} {x1 : Int32} {h : sv_H} (hs : sv_same h0 h) : sv_fr sv_same h0 (fn_X6_closeDoor x0 x1 h) := by
  unfold fn_X6_closeDoor
  refine fr_if ?_ fr_no
  refine fr_bd (fun _ => ?_)
  refine fr_bd (fun _ => ?_)
  refine fr_let (fun _ => ?_)
  refine fr_if ?_ ?_
  · exact fr_X6_closeDoor_36 hs
  · refine fr_bd (fun _ => ?_)
    refine fr_if ?_ ?_
    · exact fr_X6_closeDoor_36 hs
    · refine fr_st (fun _ e => hs.trans (st_pI e)) (fun h hs => ?_)
      exact fr_rt hs
theorem fr_X6_closeDoor {x0 : Nat} {x1 : Int32} {h : sv_H} {r : Unit} {hE : sv_H} (hw : fn_X6_closeDoor x0 x1 h = some (r, hE)) : sv_same h hE := fr_X6_closeDoor_0 (sv_same.refl h) r hE hw

theorem fr_X6_sinkLift_34 {h0 : sv_H} {h : sv_H} (hs : sv_same h0 h) : sv_fr sv_same h0 (fn_X6_sinkLift_34 h) := by
  unfold fn_X6_sinkLift_34
  exact fr_rt hs
theorem fr_X6_sinkLift_0 {h0 : sv_H} {x0 : Nat} {h : sv_H} (hs : sv_same h0 h) : sv_fr sv_same h0 (fn_X6_sinkLift x0 h) := by
  unfold fn_X6_sinkLift
  refine fr_if ?_ fr_no
  refine fr_bd (fun _ => ?_)
  refine fr_bd (fun _ => ?_)
  refine fr_let (fun _ => ?_)
  refine fr_st (fun _ e => hs.trans (st_pI e)) (fun h hs => ?_)
  refine fr_bd (fun _ => ?_)
  refine fr_bd (fun _ => ?_)
  refine fr_if ?_ ?_
  · refine fr_cl (fun _ _ e => hs.trans (fr_X6_waitFor e)) (fun _ h hs => ?_)
    exact fr_X6_sinkLift_34 hs
  · exact fr_X6_sinkLift_34 hs
theorem fr_X6_sinkLift {x0 : Nat} {h : sv_H} {r : Unit} {hE : sv_H} (hw : fn_X6_sinkLift x0 h = some (r, hE)) : sv_same h hE := fr_X6_sinkLift_0 (sv_same.refl h) r hE hw

theorem fr_X6_raiseFloor_47 {h0 : sv_H} {h : sv_H} (hs : sv_same h0 h) : sv_fr sv_same h0 (fn_X6_raiseFloor_47 h) := by
  unfold fn_X6_raiseFloor_47
  exact fr_rt hs
theorem fr_X6_raiseFloor_29 {h0 : sv_H} {x0 : Nat} {x2 : Int32} {x4 : Int32} {h : sv_H} (hs : sv_same h0 h) : sv_fr sv_same h0 (fn_X6_raiseFloor_29 x0 x2 x4 h) := by
  unfold fn_X6_raiseFloor_29
  refine fr_st (fun _ e => hs.trans (st_pI e)) (fun h hs => ?_)
  refine fr_bd (fun _ => ?_)
  refine fr_if ?_ ?_
  · refine fr_cl (fun _ _ e => hs.trans (fr_X6_endMover e)) (fun _ h hs => ?_)
    exact fr_X6_raiseFloor_47 hs
  · exact fr_X6_raiseFloor_47 hs
theorem fr_X6_raiseFloor_0 {h0 : sv_H} {x0 : Nat} {x1 : Int32} {x2 : Int32} {x3 : Int32} {h : sv_H} (hs : sv_same h0 h) : sv_fr sv_same h0 (fn_X6_raiseFloor x0 x1 x2 x3 h) := by
  unfold fn_X6_raiseFloor
  refine fr_if ?_ fr_no
  refine fr_bd (fun _ => ?_)
  refine fr_let (fun _ => ?_)
  refine fr_if ?_ ?_
  · exact fr_X6_raiseFloor_29 hs
  · refine fr_bd (fun _ => ?_)
    refine fr_if ?_ ?_
    · exact fr_X6_raiseFloor_29 hs
    · exact fr_rt hs
theorem fr_X6_raiseFloor {x0 : Nat} {x1 : Int32} {x2 : Int32} {x3 : Int32} {h : sv_H} {r : Unit} {hE : sv_H} (hw : fn_X6_raiseFloor x0 x1 x2 x3 h = some (r, hE)) : sv_same h hE := fr_X6_raiseFloor_0 (sv_same.refl h) r hE hw

theorem fr_X6_tick_104 {h0 : sv_H} {h : sv_H} (hs : sv_same h0 h) : sv_fr sv_same h0 (fn_X6_tick_104 h) := by
  unfold fn_X6_tick_104
  exact fr_rt hs
theorem fr_X6_tick_44 {h0 : sv_H} {x0 : Nat} {x1 : Int32} {h : sv_H} (hs : sv_same h0 h) : sv_fr sv_same h0 (fn_X6_tick_44 x0 x1 h) := by
  unfold fn_X6_tick_44
  refine fr_bd (fun _ => ?_)
  refine fr_if ?_ ?_
  · refine fr_cl (fun _ _ e => hs.trans (fr_X6_closeDoor e)) (fun _ h hs => ?_)
    exact fr_X6_tick_104 hs
  · refine fr_bd (fun _ => ?_)
    refine fr_if ?_ ?_
    · refine fr_bd (fun _ => ?_)
      refine fr_if ?_ ?_
      · refine fr_bd (fun _ => ?_)
        refine fr_cl (fun _ _ e => hs.trans (fr_X6_raiseFloor e)) (fun _ h hs => ?_)
        exact fr_X6_tick_104 hs
      · refine fr_bd (fun _ => ?_)
        refine fr_cl (fun _ _ e => hs.trans (fr_X6_raiseFloor e)) (fun _ h hs => ?_)
        exact fr_X6_tick_104 hs
    · refine fr_cl (fun _ _ e => hs.trans (fr_X6_sinkLift e)) (fun _ h hs => ?_)
      exact fr_X6_tick_104 hs
theorem fr_X6_tick_0 {h0 : sv_H} {x0 : Nat} {x1 : Int32} {h : sv_H} (hs : sv_same h0 h) : sv_fr sv_same h0 (fn_X6_tick x0 x1 h) := by
  unfold fn_X6_tick
  refine fr_if ?_ fr_no
  refine fr_bd (fun _ => ?_)
  refine fr_if ?_ ?_
  · exact fr_rt hs
  · refine fr_bd (fun _ => ?_)
    refine fr_if ?_ ?_
    · refine fr_cl (fun _ _ e => hs.trans (fr_X6_waitOn e)) (fun _ h hs => ?_)
      exact fr_X6_tick_104 hs
    · refine fr_bd (fun _ => ?_)
      refine fr_if ?_ ?_
      · refine fr_bd (fun _ => ?_)
        refine fr_if ?_ ?_
        · exact fr_X6_tick_44 hs
        · refine fr_cl (fun _ _ e => hs.trans (fr_X6_openDoor e)) (fun _ h hs => ?_)
          exact fr_X6_tick_104 hs
      · exact fr_X6_tick_44 hs
theorem fr_X6_tick {x0 : Nat} {x1 : Int32} {h : sv_H} {r : Unit} {hE : sv_H} (hw : fn_X6_tick x0 x1 h = some (r, hE)) : sv_same h hE := fr_X6_tick_0 (sv_same.refl h) r hE hw

theorem fr_X2_tick_26 {h0 : sv_H} {k2 : Nat → Int32 → Int32 → sv_H → Option (Unit × sv_H)} (hk2 : ∀ {x0 : Nat} {x1 : Int32} {x2 : Int32} {h : sv_H}, sv_same h0 h → sv_fr sv_same h0 (k2 x0 x1 x2 h)) {x0 : Nat} {x1 : Int32} {x2 : Int32} {s0 : Nat} {s1 : Int32} {h : sv_H} (hs : sv_same h0 h) : sv_fr sv_same h0 (fn_X2_tick_26 k2 x0 x1 x2 s0 s1 h) := by
  unfold fn_X2_tick_26
  refine fr_cl (fun _ _ e => hs.trans (fr_X6_tick e)) (fun _ h hs => ?_)
  exact hk2 hs
theorem fr_X2_tick_2b {h0 : sv_H} {k2 : Nat → Int32 → Int32 → sv_H → Option (Unit × sv_H)} (hk2 : ∀ {x0 : Nat} {x1 : Int32} {x2 : Int32} {h : sv_H}, sv_same h0 h → sv_fr sv_same h0 (k2 x0 x1 x2 h)) {x0 : Nat} {x1 : Int32} {x2 : Int32} {h : sv_H} (hs : sv_same h0 h) : sv_fr sv_same h0 (fn_X2_tick_2b k2 x0 x1 x2 h) := by
  unfold fn_X2_tick_2b
  refine fr_bd (fun _ => ?_)
  refine fr_if ?_ ?_
  · exact fr_rt hs
  · refine fr_bd (fun _ => ?_)
    refine fr_bd (fun _ => ?_)
    refine fr_if ?_ ?_
    · exact fr_X2_tick_26 hk2 hs
    · exact fr_X2_tick_26 hk2 hs
theorem fr_X2_tick_2 {h0 : sv_H} : ∀ (n : Nat) {x0 : Nat} {x1 : Int32} {x2 : Int32} {h : sv_H}, sv_same h0 h → sv_fr sv_same h0 (fn_X2_tick_2 n x0 x1 x2 h) := by
  intro n
  induction n with
  | zero => intro x0 x1 x2 h hs r hE e; cases (show (none : Option (Unit × sv_H)) = some (r, hE) from e)
  | succ n ih => intro x0 x1 x2 h hs; exact fr_X2_tick_2b (fun hs => ih hs) hs
theorem fr_X2_tick_0 {h0 : sv_H} {x0 : Nat} {x1 : Int32} {h : sv_H} (hs : sv_same h0 h) : sv_fr sv_same h0 (fn_X2_tick x0 x1 h) := by
  unfold fn_X2_tick
  refine fr_if ?_ fr_no
  exact fr_X2_tick_2 sv_fuel hs
theorem fr_X2_tick {x0 : Nat} {x1 : Int32} {h : sv_H} {r : Unit} {hE : sv_H} (hw : fn_X2_tick x0 x1 h = some (r, hE)) : sv_same h hE := fr_X2_tick_0 (sv_same.refl h) r hE hw

theorem fr_X10_step_124 {h0 : sv_H} {x0 : Nat} {x8 : Int32} {h : sv_H} (hs : sv_same h0 h) : sv_fr sv_same h0 (fn_X10_step_124 x0 x8 h) := by
  unfold fn_X10_step_124
  refine fr_bd (fun _ => ?_)
  refine fr_st (fun _ e => hs.trans (st_pI e)) (fun h hs => ?_)
  refine fr_bd (fun _ => ?_)
  refine fr_bd (fun _ => ?_)
  refine fr_cl (fun _ _ e => hs.trans (fr_X2_tick e)) (fun _ h hs => ?_)
  exact fr_rt hs
theorem fr_X10_step_111 {h0 : sv_H} {x0 : Nat} {x1 : Int32} {x2 : Int32} {x3 : Int32} {x8 : Int32} {h : sv_H} (hs : sv_same h0 h) : sv_fr sv_same h0 (fn_X10_step_111 x0 x1 x2 x3 x8 h) := by
  unfold fn_X10_step_111
  refine fr_cl (fun _ _ e => hs.trans (fr_X5_usesOf e)) (fun _ h hs => ?_)
  refine fr_if ?_ ?_
  · exact fr_X10_step_124 hs
  · refine fr_cl (fun _ _ e => hs.trans (fr_X10_use e)) (fun _ h hs => ?_)
    exact fr_X10_step_124 hs
theorem fr_X10_step_109 {h0 : sv_H} {x0 : Nat} {x1 : Int32} {x2 : Int32} {x3 : Int32} {s0 : Int32} {h : sv_H} (hs : sv_same h0 h) : sv_fr sv_same h0 (fn_X10_step_109 x0 x1 x2 x3 s0 h) := by
  unfold fn_X10_step_109
  exact fr_X10_step_111 hs
theorem fr_X10_step_93 {h0 : sv_H} {x0 : Nat} {x1 : Int32} {x2 : Int32} {x3 : Int32} {x6 : Int32} {x7 : Int32} {h : sv_H} (hs : sv_same h0 h) : sv_fr sv_same h0 (fn_X10_step_93 x0 x1 x2 x3 x6 x7 h) := by
  unfold fn_X10_step_93
  refine fr_cl (fun _ _ e => hs.trans (fr_X10_go e)) (fun _ h hs => ?_)
  refine fr_if ?_ ?_
  · exact fr_X10_step_109 hs
  · exact fr_X10_step_109 hs
theorem fr_X10_step_0 {h0 : sv_H} {x0 : Nat} {x1 : Int32} {h : sv_H} (hs : sv_same h0 h) : sv_fr sv_same h0 (fn_X10_step x0 x1 h) := by
  unfold fn_X10_step
  refine fr_if ?_ fr_no
  refine fr_bd (fun _ => ?_)
  refine fr_cl (fun _ _ e => hs.trans (fr_X5_turnOf e)) (fun _ h hs => ?_)
  refine fr_cl (fun _ _ e => hs.trans (fr_J9_floorMod_7cf53 e)) (fun _ h hs => ?_)
  refine fr_st (fun _ e => hs.trans (st_pI e)) (fun h hs => ?_)
  refine fr_bd (fun _ => ?_)
  refine fr_cl (fun _ _ e => hs.trans (fr_X12_cosine e)) (fun _ h hs => ?_)
  refine fr_bd (fun _ => ?_)
  refine fr_cl (fun _ _ e => hs.trans (fr_X12_sine e)) (fun _ h hs => ?_)
  refine fr_cl (fun _ _ e => hs.trans (fr_X5_aheadOf e)) (fun _ h hs => ?_)
  refine fr_cl (fun _ _ e => hs.trans (fr_X5_asideOf e)) (fun _ h hs => ?_)
  refine fr_cl (fun _ _ e => hs.trans (fr_J9_floorDiv_7cf53 e)) (fun _ h hs => ?_)
  refine fr_cl (fun _ _ e => hs.trans (fr_J9_floorDiv_7cf53 e)) (fun _ h hs => ?_)
  refine fr_if ?_ ?_
  · refine fr_if ?_ ?_
    · exact fr_X10_step_111 hs
    · exact fr_X10_step_93 hs
  · exact fr_X10_step_93 hs
theorem fr_X10_step {x0 : Nat} {x1 : Int32} {h : sv_H} {r : Int32} {hE : sv_H} (hw : fn_X10_step x0 x1 h = some (r, hE)) : sv_same h hE := fr_X10_step_0 (sv_same.refl h) r hE hw

theorem fr_X12_playTo_22 {h0 : sv_H} {h : sv_H} (hs : sv_same h0 h) : sv_fr sv_same h0 (fn_X12_playTo_22 h) := by
  unfold fn_X12_playTo_22
  exact fr_rt hs
theorem fr_X12_playTo_74 {h0 : sv_H} {k46 : Nat → Int32 → Int32 → Int32 → sv_H → Option (Int32 × sv_H)} (hk46 : ∀ {x0 : Nat} {x1 : Int32} {x2 : Int32} {x3 : Int32} {h : sv_H}, sv_same h0 h → sv_fr sv_same h0 (k46 x0 x1 x2 x3 h)) {x0 : Nat} {x1 : Int32} {x2 : Int32} {x3 : Int32} {h : sv_H} (hs : sv_same h0 h) : sv_fr sv_same h0 (fn_X12_playTo_74 k46 x0 x1 x2 x3 h) := by
  unfold fn_X12_playTo_74
  exact hk46 hs
theorem fr_X12_playTo_46b {h0 : sv_H} {k46 : Nat → Int32 → Int32 → Int32 → sv_H → Option (Int32 × sv_H)} (hk46 : ∀ {x0 : Nat} {x1 : Int32} {x2 : Int32} {x3 : Int32} {h : sv_H}, sv_same h0 h → sv_fr sv_same h0 (k46 x0 x1 x2 x3 h)) {x0 : Nat} {x1 : Int32} {x2 : Int32} {x3 : Int32} {h : sv_H} (hs : sv_same h0 h) : sv_fr sv_same h0 (fn_X12_playTo_46b k46 x0 x1 x2 x3 h) := by
  unfold fn_X12_playTo_46b
  refine fr_if ?_ ?_
  · exact fr_rt hs
  · refine fr_bd (fun _ => ?_)
    refine fr_bd (fun _ => ?_)
    refine fr_bd (fun _ => ?_)
    refine fr_bd (fun _ => ?_)
    refine fr_cl (fun _ _ e => hs.trans (fr_X10_step e)) (fun _ h hs => ?_)
    refine fr_if ?_ ?_
    · exact fr_X12_playTo_74 hk46 hs
    · exact fr_X12_playTo_74 hk46 hs
theorem fr_X12_playTo_46 {h0 : sv_H} : ∀ (n : Nat) {x0 : Nat} {x1 : Int32} {x2 : Int32} {x3 : Int32} {h : sv_H}, sv_same h0 h → sv_fr sv_same h0 (fn_X12_playTo_46 n x0 x1 x2 x3 h) := by
  intro n
  induction n with
  | zero => intro x0 x1 x2 x3 h hs r hE e; cases (show (none : Option (Int32 × sv_H)) = some (r, hE) from e)
  | succ n ih => intro x0 x1 x2 x3 h hs; exact fr_X12_playTo_46b (fun hs => ih hs) hs
theorem fr_X12_playTo_0 {h0 : sv_H} {x0 : Nat} {x1 : Int32} {h : sv_H} (hs : sv_same h0 h) : sv_fr sv_same h0 (fn_X12_playTo x0 x1 h) := by
  unfold fn_X12_playTo
  refine fr_if ?_ fr_no
  refine fr_cl (fun _ _ e => hs.trans (fr_X12_hasMap e)) (fun _ h hs => ?_)
  refine fr_if ?_ ?_
  · exact fr_X12_playTo_22 hs
  · refine fr_if ?_ ?_
    · exact fr_X12_playTo_22 hs
    · refine fr_bd (fun _ => ?_)
      refine fr_bd (fun _ => ?_)
      refine fr_if ?_ ?_
      · refine fr_bd (fun _ => ?_)
        refine fr_bd (fun _ => ?_)
        refine fr_bd (fun _ => ?_)
        refine fr_bd (fun _ => ?_)
        refine fr_cl (fun _ _ e => hs.trans (fr_X10_begin e)) (fun _ h hs => ?_)
        exact fr_X12_playTo_46 sv_fuel hs
      · exact fr_X12_playTo_22 hs
theorem fr_X12_playTo {x0 : Nat} {x1 : Int32} {h : sv_H} {r : Int32} {hE : sv_H} (hw : fn_X12_playTo x0 x1 h = some (r, hE)) : sv_same h hE := fr_X12_playTo_0 (sv_same.refl h) r hE hw

theorem fr_X17_quarter_0 {h0 : sv_H} {x0 : Int32} {h : sv_H} (hs : sv_same h0 h) : sv_fr sv_same h0 (fn_X17_quarter x0 h) := by
  unfold fn_X17_quarter
  refine fr_if ?_ ?_
  · exact fr_rt hs
  refine fr_if ?_ ?_
  · exact fr_rt hs
  refine fr_if ?_ ?_
  · exact fr_rt hs
  refine fr_if ?_ ?_
  · exact fr_rt hs
  refine fr_if ?_ ?_
  · exact fr_rt hs
  refine fr_if ?_ ?_
  · exact fr_rt hs
  refine fr_if ?_ ?_
  · exact fr_rt hs
  refine fr_if ?_ ?_
  · exact fr_rt hs
  refine fr_if ?_ ?_
  · exact fr_rt hs
  refine fr_if ?_ ?_
  · exact fr_rt hs
  refine fr_if ?_ ?_
  · exact fr_rt hs
  refine fr_if ?_ ?_
  · exact fr_rt hs
  refine fr_if ?_ ?_
  · exact fr_rt hs
  refine fr_if ?_ ?_
  · exact fr_rt hs
  refine fr_if ?_ ?_
  · exact fr_rt hs
  refine fr_if ?_ ?_
  · exact fr_rt hs
  exact fr_rt hs
theorem fr_X17_quarter {x0 : Int32} {h : sv_H} {r : Int32} {hE : sv_H} (hw : fn_X17_quarter x0 h = some (r, hE)) : sv_same h hE := fr_X17_quarter_0 (sv_same.refl h) r hE hw

theorem fr_X17_cosine_65 {h0 : sv_H} {s0 : Int32} {h : sv_H} (hs : sv_same h0 h) : sv_fr sv_same h0 (fn_X17_cosine_65 s0 h) := by
  unfold fn_X17_cosine_65
  exact fr_rt hs
theorem fr_X17_cosine_0 {h0 : sv_H} {x0 : Int32} {h : sv_H} (hs : sv_same h0 h) : sv_fr sv_same h0 (fn_X17_cosine x0 h) := by
  unfold fn_X17_cosine
  refine fr_if ?_ ?_
  · refine fr_if ?_ ?_
    · refine fr_if ?_ ?_
      · refine fr_cl (fun _ _ e => hs.trans (fr_X17_quarter e)) (fun _ h hs => ?_)
        exact fr_X17_cosine_65 hs
      · refine fr_cl (fun _ _ e => hs.trans (fr_X17_quarter e)) (fun _ h hs => ?_)
        exact fr_X17_cosine_65 hs
    · refine fr_cl (fun _ _ e => hs.trans (fr_X17_quarter e)) (fun _ h hs => ?_)
      exact fr_X17_cosine_65 hs
  · refine fr_cl (fun _ _ e => hs.trans (fr_X17_quarter e)) (fun _ h hs => ?_)
    exact fr_X17_cosine_65 hs
theorem fr_X17_cosine {x0 : Int32} {h : sv_H} {r : Int32} {hE : sv_H} (hw : fn_X17_cosine x0 h = some (r, hE)) : sv_same h hE := fr_X17_cosine_0 (sv_same.refl h) r hE hw

theorem fr_X17_sine_0 {h0 : sv_H} {x0 : Int32} {h : sv_H} (hs : sv_same h0 h) : sv_fr sv_same h0 (fn_X17_sine x0 h) := by
  unfold fn_X17_sine
  refine fr_cl (fun _ _ e => hs.trans (fr_X17_cosine e)) (fun _ h hs => ?_)
  exact fr_rt hs
theorem fr_X17_sine {x0 : Int32} {h : sv_H} {r : Int32} {hE : sv_H} (hw : fn_X17_sine x0 h = some (r, hE)) : sv_same h hE := fr_X17_sine_0 (sv_same.refl h) r hE hw

theorem fr_X17_down_47 {h0 : sv_H} {s0 : Int64} {h : sv_H} (hs : sv_same h0 h) : sv_fr sv_same h0 (fn_X17_down_47 s0 h) := by
  unfold fn_X17_down_47
  exact fr_rt hs
theorem fr_X17_down_45 {h0 : sv_H} {x4 : Int64} {h : sv_H} (hs : sv_same h0 h) : sv_fr sv_same h0 (fn_X17_down_45 x4 h) := by
  unfold fn_X17_down_45
  exact fr_X17_down_47 hs
theorem fr_X17_down_35 {h0 : sv_H} {x4 : Int64} {s0 : Int32} {s1 : Int32} {h : sv_H} (hs : sv_same h0 h) : sv_fr sv_same h0 (fn_X17_down_35 x4 s0 s1 h) := by
  unfold fn_X17_down_35
  refine fr_if ?_ ?_
  · exact fr_X17_down_45 hs
  · exact fr_X17_down_47 hs
theorem fr_X17_down_24 {h0 : sv_H} {x2 : Int64} {x4 : Int64} {s0 : Int32} {h : sv_H} (hs : sv_same h0 h) : sv_fr sv_same h0 (fn_X17_down_24 x2 x4 s0 h) := by
  unfold fn_X17_down_24
  refine fr_if ?_ ?_
  · exact fr_X17_down_35 hs
  · exact fr_X17_down_35 hs
theorem fr_X17_down_0 {h0 : sv_H} {x0 : Int64} {x2 : Int64} {h : sv_H} (hs : sv_same h0 h) : sv_fr sv_same h0 (fn_X17_down x0 x2 h) := by
  unfold fn_X17_down
  refine fr_if fr_no ?_
  refine fr_if fr_no ?_
  refine fr_if ?_ ?_
  · exact fr_X17_down_45 hs
  · refine fr_if ?_ ?_
    · exact fr_X17_down_24 hs
    · exact fr_X17_down_24 hs
theorem fr_X17_down {x0 : Int64} {x2 : Int64} {h : sv_H} {r : Int64} {hE : sv_H} (hw : fn_X17_down x0 x2 h = some (r, hE)) : sv_same h hE := fr_X17_down_0 (sv_same.refl h) r hE hw

theorem fr_X17_cross_0 {h0 : sv_H} {x0 : Int64} {x2 : Int64} {x4 : Int64} {x6 : Int64} {h : sv_H} (hs : sv_same h0 h) : sv_fr sv_same h0 (fn_X17_cross x0 x2 x4 x6 h) := by
  unfold fn_X17_cross
  exact fr_rt hs
theorem fr_X17_cross {x0 : Int64} {x2 : Int64} {x4 : Int64} {x6 : Int64} {h : sv_H} {r : Int64} {hE : sv_H} (hw : fn_X17_cross x0 x2 x4 x6 h = some (r, hE)) : sv_same h hE := fr_X17_cross_0 (sv_same.refl h) r hE hw

theorem fr_X17_meets_242 {h0 : sv_H} {s0 : Int32} {h : sv_H} (hs : sv_same h0 h) : sv_fr sv_same h0 (fn_X17_meets_242 s0 h) := by
  unfold fn_X17_meets_242
  exact fr_rz hs
theorem fr_X17_meets_241 {h0 : sv_H} {h : sv_H} (hs : sv_same h0 h) : sv_fr sv_same h0 (fn_X17_meets_241 h) := by
  unfold fn_X17_meets_241
  exact fr_X17_meets_242 hs
theorem fr_X17_meets_225 {h0 : sv_H} {x0 : Nat} {s0 : Int32} {s1 : Int32} {h : sv_H} (hs : sv_same h0 h) : sv_fr sv_same h0 (fn_X17_meets_225 x0 s0 s1 h) := by
  unfold fn_X17_meets_225
  refine fr_if ?_ ?_
  · exact fr_X17_meets_241 hs
  · refine fr_bd (fun _ => ?_)
    refine fr_if ?_ ?_
    · exact fr_X17_meets_241 hs
    · exact fr_X17_meets_242 hs
theorem fr_X17_meets_211 {h0 : sv_H} {x0 : Nat} {s0 : Int32} {h : sv_H} (hs : sv_same h0 h) : sv_fr sv_same h0 (fn_X17_meets_211 x0 s0 h) := by
  unfold fn_X17_meets_211
  refine fr_bd (fun _ => ?_)
  refine fr_if ?_ ?_
  · exact fr_X17_meets_225 hs
  · exact fr_X17_meets_225 hs
theorem fr_X17_meets_197 {h0 : sv_H} {x0 : Nat} {h : sv_H} (hs : sv_same h0 h) : sv_fr sv_same h0 (fn_X17_meets_197 x0 h) := by
  unfold fn_X17_meets_197
  refine fr_bd (fun _ => ?_)
  refine fr_if ?_ ?_
  · exact fr_X17_meets_211 hs
  · exact fr_X17_meets_211 hs
theorem fr_X17_meets_167 {h0 : sv_H} {x0 : Nat} {s0 : Nat} {s1 : Int32} {h : sv_H} (hs : sv_same h0 h) : sv_fr sv_same h0 (fn_X17_meets_167 x0 s0 s1 h) := by
  unfold fn_X17_meets_167
  refine fr_st (fun _ e => hs.trans (st_pZ e)) (fun h hs => ?_)
  refine fr_bd (fun _ => ?_)
  refine fr_if ?_ ?_
  · exact fr_X17_meets_197 hs
  · refine fr_bd (fun _ => ?_)
    refine fr_st (fun _ e => hs.trans (st_pJ e)) (fun h hs => ?_)
    refine fr_bd (fun _ => ?_)
    refine fr_st (fun _ e => hs.trans (st_pJ e)) (fun h hs => ?_)
    exact fr_X17_meets_197 hs
theorem fr_X17_meets_0 {h0 : sv_H} {x0 : Nat} {x1 : Int32} {h : sv_H} (hs : sv_same h0 h) : sv_fr sv_same h0 (fn_X17_meets x0 x1 h) := by
  unfold fn_X17_meets
  refine fr_if ?_ fr_no
  refine fr_bd (fun _ => ?_)
  refine fr_bd (fun _ => ?_)
  refine fr_bd (fun _ => ?_)
  refine fr_bd (fun _ => ?_)
  refine fr_bd (fun _ => ?_)
  refine fr_bd (fun _ => ?_)
  refine fr_bd (fun _ => ?_)
  refine fr_bd (fun _ => ?_)
  refine fr_bd (fun _ => ?_)
  refine fr_bd (fun _ => ?_)
  refine fr_bd (fun _ => ?_)
  refine fr_bd (fun _ => ?_)
  refine fr_bd (fun _ => ?_)
  refine fr_bd (fun _ => ?_)
  refine fr_bd (fun _ => ?_)
  refine fr_bd (fun _ => ?_)
  refine fr_cl (fun _ _ e => hs.trans (fr_X17_cross e)) (fun _ h hs => ?_)
  refine fr_st (fun _ e => hs.trans (st_pJ e)) (fun h hs => ?_)
  refine fr_bd (fun _ => ?_)
  refine fr_bd (fun _ => ?_)
  refine fr_bd (fun _ => ?_)
  refine fr_bd (fun _ => ?_)
  refine fr_cl (fun _ _ e => hs.trans (fr_X17_cross e)) (fun _ h hs => ?_)
  refine fr_st (fun _ e => hs.trans (st_pJ e)) (fun h hs => ?_)
  refine fr_bd (fun _ => ?_)
  refine fr_bd (fun _ => ?_)
  refine fr_cl (fun _ _ e => hs.trans (fr_X17_cross e)) (fun _ h hs => ?_)
  refine fr_st (fun _ e => hs.trans (st_pJ e)) (fun h hs => ?_)
  refine fr_bd (fun _ => ?_)
  refine fr_bd (fun _ => ?_)
  refine fr_st (fun _ e => hs.trans (st_pJ e)) (fun h hs => ?_)
  refine fr_bd (fun _ => ?_)
  refine fr_if ?_ ?_
  · exact fr_X17_meets_167 hs
  · exact fr_X17_meets_167 hs
theorem fr_X17_meets {x0 : Nat} {x1 : Int32} {h : sv_H} {r : Int32} {hE : sv_H} (hw : fn_X17_meets x0 x1 h = some (r, hE)) : sv_same h hE := fr_X17_meets_0 (sv_same.refl h) r hE hw

theorem fr_X16_order_83 {h0 : sv_H} {s0 : Int32} {h : sv_H} (hs : sv_same h0 h) : sv_fr sv_same h0 (fn_X16_order_83 s0 h) := by
  unfold fn_X16_order_83
  exact fr_rt hs
theorem fr_X16_order_37 {h0 : sv_H} {s0 : Int32} {h : sv_H} (hs : sv_same h0 h) : sv_fr sv_same h0 (fn_X16_order_37 s0 h) := by
  unfold fn_X16_order_37
  exact fr_rt hs
theorem fr_X16_order_0 {h0 : sv_H} {x0 : Int64} {x2 : Int64} {x4 : Int64} {x6 : Int64} {h : sv_H} (hs : sv_same h0 h) : sv_fr sv_same h0 (fn_X16_order x0 x2 x4 x6 h) := by
  unfold fn_X16_order
  refine fr_cl (fun _ _ e => hs.trans (fr_J9_multiplyHigh_f86c9 e)) (fun _ h hs => ?_)
  refine fr_cl (fun _ _ e => hs.trans (fr_J9_multiplyHigh_f86c9 e)) (fun _ h hs => ?_)
  refine fr_if ?_ ?_
  · refine fr_if ?_ ?_
    · refine fr_if ?_ ?_
      · exact fr_X16_order_83 hs
      · exact fr_X16_order_83 hs
    · exact fr_X16_order_83 hs
  · refine fr_if ?_ ?_
    · exact fr_X16_order_37 hs
    · exact fr_X16_order_37 hs
theorem fr_X16_order {x0 : Int64} {x2 : Int64} {x4 : Int64} {x6 : Int64} {h : sv_H} {r : Int32} {hE : sv_H} (hw : fn_X16_order x0 x2 x4 x6 h = some (r, hE)) : sv_same h hE := fr_X16_order_0 (sv_same.refl h) r hE hw

theorem fr_X17_gather_134 {h0 : sv_H} {k18 : Nat → Int32 → sv_H → Option (Unit × sv_H)} (hk18 : ∀ {x0 : Nat} {x5 : Int32} {h : sv_H}, sv_same h0 h → sv_fr sv_same h0 (k18 x0 x5 h)) {x0 : Nat} {x5 : Int32} {h : sv_H} (hs : sv_same h0 h) : sv_fr sv_same h0 (fn_X17_gather_134 k18 x0 x5 h) := by
  unfold fn_X17_gather_134
  exact hk18 hs
theorem fr_X17_gather_115 {h0 : sv_H} {k18 : Nat → Int32 → sv_H → Option (Unit × sv_H)} (hk18 : ∀ {x0 : Nat} {x5 : Int32} {h : sv_H}, sv_same h0 h → sv_fr sv_same h0 (k18 x0 x5 h)) {x0 : Nat} {x5 : Int32} {x10 : Int32} {h : sv_H} (hs : sv_same h0 h) : sv_fr sv_same h0 (fn_X17_gather_115 k18 x0 x5 x10 h) := by
  unfold fn_X17_gather_115
  refine fr_bd (fun _ => ?_)
  refine fr_st (fun _ e => hs.trans (st_sI e)) (fun h hs => ?_)
  refine fr_bd (fun _ => ?_)
  refine fr_st (fun _ e => hs.trans (st_pI e)) (fun h hs => ?_)
  exact fr_X17_gather_134 hk18 hs
theorem fr_X17_gather_54b {h0 : sv_H} {k18 : Nat → Int32 → sv_H → Option (Unit × sv_H)} (hk18 : ∀ {x0 : Nat} {x5 : Int32} {h : sv_H}, sv_same h0 h → sv_fr sv_same h0 (k18 x0 x5 h)) {k54 : Nat → Int32 → Int64 → Int64 → Int32 → sv_H → Option (Unit × sv_H)} (hk54 : ∀ {x0 : Nat} {x5 : Int32} {x6 : Int64} {x8 : Int64} {x10 : Int32} {h : sv_H}, sv_same h0 h → sv_fr sv_same h0 (k54 x0 x5 x6 x8 x10 h)) {x0 : Nat} {x5 : Int32} {x6 : Int64} {x8 : Int64} {x10 : Int32} {h : sv_H} (hs : sv_same h0 h) : sv_fr sv_same h0 (fn_X17_gather_54b k18 k54 x0 x5 x6 x8 x10 h) := by
  unfold fn_X17_gather_54b
  refine fr_if ?_ ?_
  · exact fr_X17_gather_115 hk18 hs
  · refine fr_bd (fun _ => ?_)
    refine fr_bd (fun _ => ?_)
    refine fr_cl (fun _ _ e => hs.trans (fr_X17_meets e)) (fun _ h hs => ?_)
    refine fr_if ?_ ?_
    · exact fr_X17_gather_115 hk18 hs
    · refine fr_bd (fun _ => ?_)
      refine fr_bd (fun _ => ?_)
      refine fr_cl (fun _ _ e => hs.trans (fr_X16_order e)) (fun _ h hs => ?_)
      refine fr_if ?_ ?_
      · exact fr_X17_gather_115 hk18 hs
      · refine fr_bd (fun _ => ?_)
        refine fr_bd (fun _ => ?_)
        refine fr_bd (fun _ => ?_)
        refine fr_st (fun _ e => hs.trans (st_sI e)) (fun h hs => ?_)
        exact hk54 hs
theorem fr_X17_gather_54 {h0 : sv_H} {k18 : Nat → Int32 → sv_H → Option (Unit × sv_H)} (hk18 : ∀ {x0 : Nat} {x5 : Int32} {h : sv_H}, sv_same h0 h → sv_fr sv_same h0 (k18 x0 x5 h)) : ∀ (n : Nat) {x0 : Nat} {x5 : Int32} {x6 : Int64} {x8 : Int64} {x10 : Int32} {h : sv_H}, sv_same h0 h → sv_fr sv_same h0 (fn_X17_gather_54 k18 n x0 x5 x6 x8 x10 h) := by
  intro n
  induction n with
  | zero => intro x0 x5 x6 x8 x10 h hs r hE e; cases (show (none : Option (Unit × sv_H)) = some (r, hE) from e)
  | succ n ih => intro x0 x5 x6 x8 x10 h hs; exact fr_X17_gather_54b hk18 (fun hs => ih hs) hs
theorem fr_X17_gather_18b {h0 : sv_H} {k18 : Nat → Int32 → sv_H → Option (Unit × sv_H)} (hk18 : ∀ {x0 : Nat} {x5 : Int32} {h : sv_H}, sv_same h0 h → sv_fr sv_same h0 (k18 x0 x5 h)) {x0 : Nat} {x5 : Int32} {h : sv_H} (hs : sv_same h0 h) : sv_fr sv_same h0 (fn_X17_gather_18b k18 x0 x5 h) := by
  unfold fn_X17_gather_18b
  refine fr_cl (fun _ _ e => hs.trans (fr_X17_walls e)) (fun _ h hs => ?_)
  refine fr_if ?_ ?_
  · exact fr_rt hs
  · refine fr_cl (fun _ _ e => hs.trans (fr_X17_meets e)) (fun _ h hs => ?_)
    refine fr_if ?_ ?_
    · exact fr_X17_gather_134 hk18 hs
    · refine fr_bd (fun _ => ?_)
      refine fr_bd (fun _ => ?_)
      refine fr_bd (fun _ => ?_)
      exact fr_X17_gather_54 hk18 sv_fuel hs
theorem fr_X17_gather_18 {h0 : sv_H} : ∀ (n : Nat) {x0 : Nat} {x5 : Int32} {h : sv_H}, sv_same h0 h → sv_fr sv_same h0 (fn_X17_gather_18 n x0 x5 h) := by
  intro n
  induction n with
  | zero => intro x0 x5 h hs r hE e; cases (show (none : Option (Unit × sv_H)) = some (r, hE) from e)
  | succ n ih => intro x0 x5 h hs; exact fr_X17_gather_18b (fun hs => ih hs) hs
theorem fr_X17_gather_0 {h0 : sv_H} {x0 : Nat} {x1 : Int64} {x3 : Int64} {h : sv_H} (hs : sv_same h0 h) : sv_fr sv_same h0 (fn_X17_gather x0 x1 x3 h) := by
  unfold fn_X17_gather
  refine fr_if ?_ fr_no
  refine fr_st (fun _ e => hs.trans (st_pJ e)) (fun h hs => ?_)
  refine fr_st (fun _ e => hs.trans (st_pJ e)) (fun h hs => ?_)
  refine fr_st (fun _ e => hs.trans (st_pI e)) (fun h hs => ?_)
  exact fr_X17_gather_18 sv_fuel hs
theorem fr_X17_gather {x0 : Nat} {x1 : Int64} {x3 : Int64} {h : sv_H} {r : Unit} {hE : sv_H} (hw : fn_X17_gather x0 x1 x3 h = some (r, hE)) : sv_same h hE := fr_X17_gather_0 (sv_same.refl h) r hE hw

theorem fr_X17_wallPart_0 {h0 : sv_H} {x0 : Nat} {x1 : Int32} {x2 : Int32} {h : sv_H} (hs : sv_same h0 h) : sv_fr sv_same h0 (fn_X17_wallPart x0 x1 x2 h) := by
  unfold fn_X17_wallPart
  refine fr_if ?_ fr_no
  refine fr_bd (fun _ => ?_)
  refine fr_cl (fun _ _ e => hs.trans (fr_X14_wall e)) (fun _ h hs => ?_)
  exact fr_rt hs
theorem fr_X17_wallPart {x0 : Nat} {x1 : Int32} {x2 : Int32} {h : sv_H} {r : Int32} {hE : sv_H} (hw : fn_X17_wallPart x0 x1 x2 h = some (r, hE)) : sv_same h hE := fr_X17_wallPart_0 (sv_same.refl h) r hE hw

theorem fr_X17_sideOf_31 {h0 : sv_H} {s0 : Int32} {h : sv_H} (hs : sv_same h0 h) : sv_fr sv_same h0 (fn_X17_sideOf_31 s0 h) := by
  unfold fn_X17_sideOf_31
  exact fr_rt hs
theorem fr_X17_sideOf_15 {h0 : sv_H} {s0 : Nat} {s1 : Int32} {s2 : Int32} {h : sv_H} (hs : sv_same h0 h) : sv_fr sv_same h0 (fn_X17_sideOf_15 s0 s1 s2 h) := by
  unfold fn_X17_sideOf_15
  refine fr_cl (fun _ _ e => hs.trans (fr_X17_wallPart e)) (fun _ h hs => ?_)
  refine fr_if ?_ ?_
  · exact fr_X17_sideOf_31 hs
  · exact fr_X17_sideOf_31 hs
theorem fr_X17_sideOf_0 {h0 : sv_H} {x0 : Nat} {x1 : Int32} {x2 : Int32} {h : sv_H} (hs : sv_same h0 h) : sv_fr sv_same h0 (fn_X17_sideOf x0 x1 x2 h) := by
  unfold fn_X17_sideOf
  refine fr_if ?_ fr_no
  refine fr_bd (fun _ => ?_)
  refine fr_if ?_ ?_
  · exact fr_X17_sideOf_15 hs
  · exact fr_X17_sideOf_15 hs
theorem fr_X17_sideOf {x0 : Nat} {x1 : Int32} {x2 : Int32} {h : sv_H} {r : Int32} {hE : sv_H} (hw : fn_X17_sideOf x0 x1 x2 h = some (r, hE)) : sv_same h hE := fr_X17_sideOf_0 (sv_same.refl h) r hE hw

theorem fr_X17_stops_22 {h0 : sv_H} {h : sv_H} (hs : sv_same h0 h) : sv_fr sv_same h0 (fn_X17_stops_22 h) := by
  unfold fn_X17_stops_22
  exact fr_rt hs
theorem fr_X17_stops_151 {h0 : sv_H} {s0 : Int32} {h : sv_H} (hs : sv_same h0 h) : sv_fr sv_same h0 (fn_X17_stops_151 s0 h) := by
  unfold fn_X17_stops_151
  exact fr_rz hs
theorem fr_X17_stops_146 {h0 : sv_H} {h : sv_H} (hs : sv_same h0 h) : sv_fr sv_same h0 (fn_X17_stops_146 h) := by
  unfold fn_X17_stops_146
  exact fr_X17_stops_151 hs
theorem fr_X17_stops_110 {h0 : sv_H} {x0 : Nat} {x2 : Int32} {x3 : Int32} {x4 : Int32} {s0 : Int32} {h : sv_H} (hs : sv_same h0 h) : sv_fr sv_same h0 (fn_X17_stops_110 x0 x2 x3 x4 s0 h) := by
  unfold fn_X17_stops_110
  refine fr_bd (fun _ => ?_)
  refine fr_bd (fun _ => ?_)
  refine fr_bd (fun _ => ?_)
  refine fr_bd (fun _ => ?_)
  refine fr_bd (fun _ => ?_)
  refine fr_bd (fun _ => ?_)
  refine fr_if ?_ ?_
  · exact fr_X17_stops_146 hs
  · refine fr_if ?_ ?_
    · exact fr_X17_stops_151 hs
    · exact fr_X17_stops_146 hs
theorem fr_X17_stops_66 {h0 : sv_H} {x0 : Nat} {x2 : Int32} {x3 : Int32} {s0 : Int32} {h : sv_H} (hs : sv_same h0 h) : sv_fr sv_same h0 (fn_X17_stops_66 x0 x2 x3 s0 h) := by
  unfold fn_X17_stops_66
  refine fr_bd (fun _ => ?_)
  refine fr_bd (fun _ => ?_)
  refine fr_bd (fun _ => ?_)
  refine fr_bd (fun _ => ?_)
  refine fr_bd (fun _ => ?_)
  refine fr_bd (fun _ => ?_)
  refine fr_if ?_ ?_
  · refine fr_bd (fun _ => ?_)
    refine fr_bd (fun _ => ?_)
    refine fr_bd (fun _ => ?_)
    exact fr_X17_stops_110 hs
  · refine fr_bd (fun _ => ?_)
    refine fr_bd (fun _ => ?_)
    refine fr_bd (fun _ => ?_)
    exact fr_X17_stops_110 hs
theorem fr_X17_stops_0 {h0 : sv_H} {x0 : Nat} {x1 : Int32} {h : sv_H} (hs : sv_same h0 h) : sv_fr sv_same h0 (fn_X17_stops x0 x1 h) := by
  unfold fn_X17_stops
  refine fr_if ?_ fr_no
  refine fr_cl (fun _ _ e => hs.trans (fr_X17_sideOf e)) (fun _ h hs => ?_)
  refine fr_cl (fun _ _ e => hs.trans (fr_X17_sideOf e)) (fun _ h hs => ?_)
  refine fr_if ?_ ?_
  · exact fr_X17_stops_22 hs
  · refine fr_if ?_ ?_
    · refine fr_bd (fun _ => ?_)
      refine fr_bd (fun _ => ?_)
      refine fr_bd (fun _ => ?_)
      refine fr_bd (fun _ => ?_)
      refine fr_bd (fun _ => ?_)
      refine fr_bd (fun _ => ?_)
      refine fr_if ?_ ?_
      · refine fr_bd (fun _ => ?_)
        refine fr_bd (fun _ => ?_)
        refine fr_bd (fun _ => ?_)
        exact fr_X17_stops_66 hs
      · refine fr_bd (fun _ => ?_)
        refine fr_bd (fun _ => ?_)
        refine fr_bd (fun _ => ?_)
        exact fr_X17_stops_66 hs
    · exact fr_X17_stops_22 hs
theorem fr_X17_stops {x0 : Nat} {x1 : Int32} {h : sv_H} {r : Int32} {hE : sv_H} (hw : fn_X17_stops x0 x1 h = some (r, hE)) : sv_same h hE := fr_X17_stops_0 (sv_same.refl h) r hE hw

theorem fr_X13_lowCeiling_70 {h0 : sv_H} {s0 : Int32} {h : sv_H} (hs : sv_same h0 h) : sv_fr sv_same h0 (fn_X13_lowCeiling_70 s0 h) := by
  unfold fn_X13_lowCeiling_70
  exact fr_rt hs
theorem fr_X13_lowCeiling_47 {h0 : sv_H} {k5 : Nat → Int32 → Int32 → Int32 → sv_H → Option (Int32 × sv_H)} (hk5 : ∀ {x0 : Nat} {x1 : Int32} {x2 : Int32} {x3 : Int32} {h : sv_H}, sv_same h0 h → sv_fr sv_same h0 (k5 x0 x1 x2 x3 h)) {x0 : Nat} {x1 : Int32} {x3 : Int32} {s0 : Int32} {h : sv_H} (hs : sv_same h0 h) : sv_fr sv_same h0 (fn_X13_lowCeiling_47 k5 x0 x1 x3 s0 h) := by
  unfold fn_X13_lowCeiling_47
  exact hk5 hs
theorem fr_X13_lowCeiling_46 {h0 : sv_H} {k5 : Nat → Int32 → Int32 → Int32 → sv_H → Option (Int32 × sv_H)} (hk5 : ∀ {x0 : Nat} {x1 : Int32} {x2 : Int32} {x3 : Int32} {h : sv_H}, sv_same h0 h → sv_fr sv_same h0 (k5 x0 x1 x2 x3 h)) {x0 : Nat} {x1 : Int32} {x2 : Int32} {x3 : Int32} {h : sv_H} (hs : sv_same h0 h) : sv_fr sv_same h0 (fn_X13_lowCeiling_46 k5 x0 x1 x2 x3 h) := by
  unfold fn_X13_lowCeiling_46
  exact fr_X13_lowCeiling_47 hk5 hs
theorem fr_X13_lowCeiling_5b {h0 : sv_H} {k5 : Nat → Int32 → Int32 → Int32 → sv_H → Option (Int32 × sv_H)} (hk5 : ∀ {x0 : Nat} {x1 : Int32} {x2 : Int32} {x3 : Int32} {h : sv_H}, sv_same h0 h → sv_fr sv_same h0 (k5 x0 x1 x2 x3 h)) {x0 : Nat} {x1 : Int32} {x2 : Int32} {x3 : Int32} {h : sv_H} (hs : sv_same h0 h) : sv_fr sv_same h0 (fn_X13_lowCeiling_5b k5 x0 x1 x2 x3 h) := by
  unfold fn_X13_lowCeiling_5b
  refine fr_bd (fun _ => ?_)
  refine fr_if ?_ ?_
  · refine fr_if ?_ ?_
    · refine fr_bd (fun _ => ?_)
      refine fr_bd (fun _ => ?_)
      exact fr_X13_lowCeiling_70 hs
    · exact fr_X13_lowCeiling_70 hs
  · refine fr_bd (fun _ => ?_)
    refine fr_bd (fun _ => ?_)
    refine fr_if ?_ ?_
    · exact fr_X13_lowCeiling_46 hk5 hs
    · refine fr_bd (fun _ => ?_)
      refine fr_bd (fun _ => ?_)
      refine fr_if ?_ ?_
      · exact fr_X13_lowCeiling_46 hk5 hs
      · refine fr_bd (fun _ => ?_)
        refine fr_bd (fun _ => ?_)
        exact fr_X13_lowCeiling_47 hk5 hs
theorem fr_X13_lowCeiling_5 {h0 : sv_H} : ∀ (n : Nat) {x0 : Nat} {x1 : Int32} {x2 : Int32} {x3 : Int32} {h : sv_H}, sv_same h0 h → sv_fr sv_same h0 (fn_X13_lowCeiling_5 n x0 x1 x2 x3 h) := by
  intro n
  induction n with
  | zero => intro x0 x1 x2 x3 h hs r hE e; cases (show (none : Option (Int32 × sv_H)) = some (r, hE) from e)
  | succ n ih => intro x0 x1 x2 x3 h hs; exact fr_X13_lowCeiling_5b (fun hs => ih hs) hs
theorem fr_X13_lowCeiling_0 {h0 : sv_H} {x0 : Nat} {x1 : Int32} {h : sv_H} (hs : sv_same h0 h) : sv_fr sv_same h0 (fn_X13_lowCeiling x0 x1 h) := by
  unfold fn_X13_lowCeiling
  refine fr_if ?_ fr_no
  exact fr_X13_lowCeiling_5 sv_fuel hs
theorem fr_X13_lowCeiling {x0 : Nat} {x1 : Int32} {h : sv_H} {r : Int32} {hE : sv_H} (hw : fn_X13_lowCeiling x0 x1 h = some (r, hE)) : sv_same h hE := fr_X13_lowCeiling_0 (sv_same.refl h) r hE hw

theorem fr_X13_highFloor_51 {h0 : sv_H} {k9 : Nat → Int32 → Int32 → Int32 → sv_H → Option (Int32 × sv_H)} (hk9 : ∀ {x0 : Nat} {x1 : Int32} {x2 : Int32} {x3 : Int32} {h : sv_H}, sv_same h0 h → sv_fr sv_same h0 (k9 x0 x1 x2 x3 h)) {x0 : Nat} {x1 : Int32} {x3 : Int32} {s0 : Int32} {h : sv_H} (hs : sv_same h0 h) : sv_fr sv_same h0 (fn_X13_highFloor_51 k9 x0 x1 x3 s0 h) := by
  unfold fn_X13_highFloor_51
  exact hk9 hs
theorem fr_X13_highFloor_50 {h0 : sv_H} {k9 : Nat → Int32 → Int32 → Int32 → sv_H → Option (Int32 × sv_H)} (hk9 : ∀ {x0 : Nat} {x1 : Int32} {x2 : Int32} {x3 : Int32} {h : sv_H}, sv_same h0 h → sv_fr sv_same h0 (k9 x0 x1 x2 x3 h)) {x0 : Nat} {x1 : Int32} {x2 : Int32} {x3 : Int32} {h : sv_H} (hs : sv_same h0 h) : sv_fr sv_same h0 (fn_X13_highFloor_50 k9 x0 x1 x2 x3 h) := by
  unfold fn_X13_highFloor_50
  exact fr_X13_highFloor_51 hk9 hs
theorem fr_X13_highFloor_9b {h0 : sv_H} {k9 : Nat → Int32 → Int32 → Int32 → sv_H → Option (Int32 × sv_H)} (hk9 : ∀ {x0 : Nat} {x1 : Int32} {x2 : Int32} {x3 : Int32} {h : sv_H}, sv_same h0 h → sv_fr sv_same h0 (k9 x0 x1 x2 x3 h)) {x0 : Nat} {x1 : Int32} {x2 : Int32} {x3 : Int32} {h : sv_H} (hs : sv_same h0 h) : sv_fr sv_same h0 (fn_X13_highFloor_9b k9 x0 x1 x2 x3 h) := by
  unfold fn_X13_highFloor_9b
  refine fr_bd (fun _ => ?_)
  refine fr_if ?_ ?_
  · exact fr_rt hs
  · refine fr_bd (fun _ => ?_)
    refine fr_bd (fun _ => ?_)
    refine fr_if ?_ ?_
    · exact fr_X13_highFloor_50 hk9 hs
    · refine fr_bd (fun _ => ?_)
      refine fr_bd (fun _ => ?_)
      refine fr_if ?_ ?_
      · exact fr_X13_highFloor_50 hk9 hs
      · refine fr_bd (fun _ => ?_)
        refine fr_bd (fun _ => ?_)
        exact fr_X13_highFloor_51 hk9 hs
theorem fr_X13_highFloor_9 {h0 : sv_H} : ∀ (n : Nat) {x0 : Nat} {x1 : Int32} {x2 : Int32} {x3 : Int32} {h : sv_H}, sv_same h0 h → sv_fr sv_same h0 (fn_X13_highFloor_9 n x0 x1 x2 x3 h) := by
  intro n
  induction n with
  | zero => intro x0 x1 x2 x3 h hs r hE e; cases (show (none : Option (Int32 × sv_H)) = some (r, hE) from e)
  | succ n ih => intro x0 x1 x2 x3 h hs; exact fr_X13_highFloor_9b (fun hs => ih hs) hs
theorem fr_X13_highFloor_0 {h0 : sv_H} {x0 : Nat} {x1 : Int32} {h : sv_H} (hs : sv_same h0 h) : sv_fr sv_same h0 (fn_X13_highFloor x0 x1 h) := by
  unfold fn_X13_highFloor
  refine fr_if ?_ fr_no
  refine fr_bd (fun _ => ?_)
  refine fr_bd (fun _ => ?_)
  exact fr_X13_highFloor_9 sv_fuel hs
theorem fr_X13_highFloor {x0 : Nat} {x1 : Int32} {h : sv_H} {r : Int32} {hE : sv_H} (hw : fn_X13_highFloor x0 x1 h = some (r, hE)) : sv_same h hE := fr_X13_highFloor_0 (sv_same.refl h) r hE hw

theorem fr_X13_lowFloor_51 {h0 : sv_H} {k9 : Nat → Int32 → Int32 → Int32 → sv_H → Option (Int32 × sv_H)} (hk9 : ∀ {x0 : Nat} {x1 : Int32} {x2 : Int32} {x3 : Int32} {h : sv_H}, sv_same h0 h → sv_fr sv_same h0 (k9 x0 x1 x2 x3 h)) {x0 : Nat} {x1 : Int32} {x3 : Int32} {s0 : Int32} {h : sv_H} (hs : sv_same h0 h) : sv_fr sv_same h0 (fn_X13_lowFloor_51 k9 x0 x1 x3 s0 h) := by
  unfold fn_X13_lowFloor_51
  exact hk9 hs
theorem fr_X13_lowFloor_50 {h0 : sv_H} {k9 : Nat → Int32 → Int32 → Int32 → sv_H → Option (Int32 × sv_H)} (hk9 : ∀ {x0 : Nat} {x1 : Int32} {x2 : Int32} {x3 : Int32} {h : sv_H}, sv_same h0 h → sv_fr sv_same h0 (k9 x0 x1 x2 x3 h)) {x0 : Nat} {x1 : Int32} {x2 : Int32} {x3 : Int32} {h : sv_H} (hs : sv_same h0 h) : sv_fr sv_same h0 (fn_X13_lowFloor_50 k9 x0 x1 x2 x3 h) := by
  unfold fn_X13_lowFloor_50
  exact fr_X13_lowFloor_51 hk9 hs
theorem fr_X13_lowFloor_9b {h0 : sv_H} {k9 : Nat → Int32 → Int32 → Int32 → sv_H → Option (Int32 × sv_H)} (hk9 : ∀ {x0 : Nat} {x1 : Int32} {x2 : Int32} {x3 : Int32} {h : sv_H}, sv_same h0 h → sv_fr sv_same h0 (k9 x0 x1 x2 x3 h)) {x0 : Nat} {x1 : Int32} {x2 : Int32} {x3 : Int32} {h : sv_H} (hs : sv_same h0 h) : sv_fr sv_same h0 (fn_X13_lowFloor_9b k9 x0 x1 x2 x3 h) := by
  unfold fn_X13_lowFloor_9b
  refine fr_bd (fun _ => ?_)
  refine fr_if ?_ ?_
  · exact fr_rt hs
  · refine fr_bd (fun _ => ?_)
    refine fr_bd (fun _ => ?_)
    refine fr_if ?_ ?_
    · exact fr_X13_lowFloor_50 hk9 hs
    · refine fr_bd (fun _ => ?_)
      refine fr_bd (fun _ => ?_)
      refine fr_if ?_ ?_
      · exact fr_X13_lowFloor_50 hk9 hs
      · refine fr_bd (fun _ => ?_)
        refine fr_bd (fun _ => ?_)
        exact fr_X13_lowFloor_51 hk9 hs
theorem fr_X13_lowFloor_9 {h0 : sv_H} : ∀ (n : Nat) {x0 : Nat} {x1 : Int32} {x2 : Int32} {x3 : Int32} {h : sv_H}, sv_same h0 h → sv_fr sv_same h0 (fn_X13_lowFloor_9 n x0 x1 x2 x3 h) := by
  intro n
  induction n with
  | zero => intro x0 x1 x2 x3 h hs r hE e; cases (show (none : Option (Int32 × sv_H)) = some (r, hE) from e)
  | succ n ih => intro x0 x1 x2 x3 h hs; exact fr_X13_lowFloor_9b (fun hs => ih hs) hs
theorem fr_X13_lowFloor_0 {h0 : sv_H} {x0 : Nat} {x1 : Int32} {h : sv_H} (hs : sv_same h0 h) : sv_fr sv_same h0 (fn_X13_lowFloor x0 x1 h) := by
  unfold fn_X13_lowFloor
  refine fr_if ?_ fr_no
  refine fr_bd (fun _ => ?_)
  refine fr_bd (fun _ => ?_)
  exact fr_X13_lowFloor_9 sv_fuel hs
theorem fr_X13_lowFloor {x0 : Nat} {x1 : Int32} {h : sv_H} {r : Int32} {hE : sv_H} (hw : fn_X13_lowFloor x0 x1 h = some (r, hE)) : sv_same h hE := fr_X13_lowFloor_0 (sv_same.refl h) r hE hw

theorem fr_X13_begin_17 {h0 : sv_H} {h : sv_H} (hs : sv_same h0 h) : sv_fr sv_same h0 (fn_X13_begin_17 h) := by
  unfold fn_X13_begin_17
  exact fr_rt hs
theorem fr_X13_begin_223 {h0 : sv_H} {s0 : Nat} {s1 : Int32} {s2 : Int32} {h : sv_H} (hs : sv_same h0 h) : sv_fr sv_same h0 (fn_X13_begin_223 s0 s1 s2 h) := by
  unfold fn_X13_begin_223
  refine fr_st (fun _ e => hs.trans (st_sI e)) (fun h hs => ?_)
  exact fr_rt hs
theorem fr_X13_begin_128 {h0 : sv_H} {x0 : Nat} {x1 : Int32} {x2 : Int32} {s0 : Nat} {s1 : Int32} {s2 : Int32} {h : sv_H} (hs : sv_same h0 h) : sv_fr sv_same h0 (fn_X13_begin_128 x0 x1 x2 s0 s1 s2 h) := by
  unfold fn_X13_begin_128
  refine fr_st (fun _ e => hs.trans (st_sI e)) (fun h hs => ?_)
  refine fr_bd (fun _ => ?_)
  refine fr_bd (fun _ => ?_)
  refine fr_bd (fun _ => ?_)
  refine fr_st (fun _ e => hs.trans (st_sI e)) (fun h hs => ?_)
  refine fr_cl (fun _ _ e => hs.trans (fr_X13_lowCeiling e)) (fun _ h hs => ?_)
  refine fr_cl (fun _ _ e => hs.trans (fr_X13_highFloor e)) (fun _ h hs => ?_)
  refine fr_bd (fun _ => ?_)
  refine fr_if ?_ ?_
  · refine fr_bd (fun _ => ?_)
    refine fr_bd (fun _ => ?_)
    refine fr_if ?_ ?_
    · refine fr_bd (fun _ => ?_)
      refine fr_bd (fun _ => ?_)
      exact fr_X13_begin_223 hs
    · exact fr_X13_begin_223 hs
  · refine fr_if ?_ ?_
    · refine fr_cl (fun _ _ e => hs.trans (fr_X13_lowFloor e)) (fun _ h hs => ?_)
      exact fr_X13_begin_223 hs
    · refine fr_bd (fun _ => ?_)
      refine fr_bd (fun _ => ?_)
      refine fr_if ?_ ?_
      · refine fr_bd (fun _ => ?_)
        refine fr_bd (fun _ => ?_)
        exact fr_X13_begin_223 hs
      · exact fr_X13_begin_223 hs
theorem fr_X13_begin_96 {h0 : sv_H} {x3 : Int32} {s0 : Nat} {s1 : Int32} {s2 : Int32} {h : sv_H} (hs : sv_same h0 h) : sv_fr sv_same h0 (fn_X13_begin_96 x3 s0 s1 s2 h) := by
  unfold fn_X13_begin_96
  refine fr_st (fun _ e => hs.trans (st_sI e)) (fun h hs => ?_)
  exact fr_rz hs
theorem fr_X13_begin_76 {h0 : sv_H} {x0 : Nat} {x1 : Int32} {x3 : Int32} {s0 : Nat} {s1 : Int32} {s2 : Int32} {h : sv_H} (hs : sv_same h0 h) : sv_fr sv_same h0 (fn_X13_begin_76 x0 x1 x3 s0 s1 s2 h) := by
  unfold fn_X13_begin_76
  refine fr_st (fun _ e => hs.trans (st_sI e)) (fun h hs => ?_)
  refine fr_bd (fun _ => ?_)
  refine fr_if ?_ ?_
  · refine fr_bd (fun _ => ?_)
    refine fr_bd (fun _ => ?_)
    exact fr_X13_begin_96 hs
  · exact fr_X13_begin_96 hs
theorem fr_X13_begin_56 {h0 : sv_H} {x0 : Nat} {x1 : Int32} {s0 : Int32} {h : sv_H} (hs : sv_same h0 h) : sv_fr sv_same h0 (fn_X13_begin_56 x0 x1 s0 h) := by
  unfold fn_X13_begin_56
  refine fr_bd (fun _ => ?_)
  refine fr_if ?_ ?_
  · refine fr_bd (fun _ => ?_)
    refine fr_bd (fun _ => ?_)
    exact fr_X13_begin_76 hs
  · exact fr_X13_begin_76 hs
theorem fr_X13_begin_55 {h0 : sv_H} {x0 : Nat} {x1 : Int32} {h : sv_H} (hs : sv_same h0 h) : sv_fr sv_same h0 (fn_X13_begin_55 x0 x1 h) := by
  unfold fn_X13_begin_55
  exact fr_X13_begin_56 hs
theorem fr_X13_begin_0 {h0 : sv_H} {x0 : Nat} {x1 : Int32} {x2 : Int32} {h : sv_H} (hs : sv_same h0 h) : sv_fr sv_same h0 (fn_X13_begin x0 x1 x2 h) := by
  unfold fn_X13_begin
  refine fr_if ?_ fr_no
  refine fr_cl (fun _ _ e => hs.trans (fr_X13_isSector e)) (fun _ h hs => ?_)
  refine fr_if ?_ ?_
  · exact fr_X13_begin_17 hs
  · refine fr_if ?_ ?_
    · exact fr_X13_begin_17 hs
    · refine fr_if ?_ ?_
      · refine fr_bd (fun _ => ?_)
        refine fr_bd (fun _ => ?_)
        refine fr_if ?_ ?_
        · refine fr_bd (fun _ => ?_)
          refine fr_st (fun _ e => hs.trans (st_sI e)) (fun h hs => ?_)
          refine fr_bd (fun _ => ?_)
          refine fr_st (fun _ e => hs.trans (st_sI e)) (fun h hs => ?_)
          refine fr_bd (fun _ => ?_)
          refine fr_if ?_ ?_
          · exact fr_X13_begin_128 hs
          · exact fr_X13_begin_128 hs
        · refine fr_if ?_ ?_
          · refine fr_bd (fun _ => ?_)
            refine fr_bd (fun _ => ?_)
            refine fr_if ?_ ?_
            · refine fr_bd (fun _ => ?_)
              refine fr_bd (fun _ => ?_)
              refine fr_if ?_ ?_
              · exact fr_X13_begin_55 hs
              · exact fr_X13_begin_56 hs
            · exact fr_X13_begin_55 hs
          · exact fr_X13_begin_55 hs
      · exact fr_X13_begin_17 hs
theorem fr_X13_begin {x0 : Nat} {x1 : Int32} {x2 : Int32} {h : sv_H} {r : Int32} {hE : sv_H} (hw : fn_X13_begin x0 x1 x2 h = some (r, hE)) : sv_same h hE := fr_X13_begin_0 (sv_same.refl h) r hE hw

theorem fr_X17_startAll_40 {h0 : sv_H} {k2 : Nat → Int32 → Int32 → Int32 → sv_H → Option (Unit × sv_H)} (hk2 : ∀ {x0 : Nat} {x1 : Int32} {x2 : Int32} {x3 : Int32} {h : sv_H}, sv_same h0 h → sv_fr sv_same h0 (k2 x0 x1 x2 x3 h)) {x0 : Nat} {x1 : Int32} {x2 : Int32} {x3 : Int32} {s0 : Int32} {h : sv_H} (hs : sv_same h0 h) : sv_fr sv_same h0 (fn_X17_startAll_40 k2 x0 x1 x2 x3 s0 h) := by
  unfold fn_X17_startAll_40
  exact hk2 hs
theorem fr_X17_startAll_39 {h0 : sv_H} {k2 : Nat → Int32 → Int32 → Int32 → sv_H → Option (Unit × sv_H)} (hk2 : ∀ {x0 : Nat} {x1 : Int32} {x2 : Int32} {x3 : Int32} {h : sv_H}, sv_same h0 h → sv_fr sv_same h0 (k2 x0 x1 x2 x3 h)) {x0 : Nat} {x1 : Int32} {x2 : Int32} {x3 : Int32} {h : sv_H} (hs : sv_same h0 h) : sv_fr sv_same h0 (fn_X17_startAll_39 k2 x0 x1 x2 x3 h) := by
  unfold fn_X17_startAll_39
  exact fr_X17_startAll_40 hk2 hs
theorem fr_X17_startAll_2b {h0 : sv_H} {k2 : Nat → Int32 → Int32 → Int32 → sv_H → Option (Unit × sv_H)} (hk2 : ∀ {x0 : Nat} {x1 : Int32} {x2 : Int32} {x3 : Int32} {h : sv_H}, sv_same h0 h → sv_fr sv_same h0 (k2 x0 x1 x2 x3 h)) {x0 : Nat} {x1 : Int32} {x2 : Int32} {x3 : Int32} {h : sv_H} (hs : sv_same h0 h) : sv_fr sv_same h0 (fn_X17_startAll_2b k2 x0 x1 x2 x3 h) := by
  unfold fn_X17_startAll_2b
  refine fr_cl (fun _ _ e => hs.trans (fr_X17_sectors e)) (fun _ h hs => ?_)
  refine fr_if ?_ ?_
  · exact fr_rt hs
  · refine fr_bd (fun _ => ?_)
    refine fr_bd (fun _ => ?_)
    refine fr_bd (fun _ => ?_)
    refine fr_if ?_ ?_
    · refine fr_bd (fun _ => ?_)
      refine fr_cl (fun _ _ e => hs.trans (fr_X13_begin e)) (fun _ h hs => ?_)
      refine fr_if ?_ ?_
      · exact fr_X17_startAll_39 hk2 hs
      · exact fr_X17_startAll_40 hk2 hs
    · exact fr_X17_startAll_39 hk2 hs
theorem fr_X17_startAll_2 {h0 : sv_H} : ∀ (n : Nat) {x0 : Nat} {x1 : Int32} {x2 : Int32} {x3 : Int32} {h : sv_H}, sv_same h0 h → sv_fr sv_same h0 (fn_X17_startAll_2 n x0 x1 x2 x3 h) := by
  intro n
  induction n with
  | zero => intro x0 x1 x2 x3 h hs r hE e; cases (show (none : Option (Unit × sv_H)) = some (r, hE) from e)
  | succ n ih => intro x0 x1 x2 x3 h hs; exact fr_X17_startAll_2b (fun hs => ih hs) hs
theorem fr_X17_startAll_0 {h0 : sv_H} {x0 : Nat} {x1 : Int32} {x2 : Int32} {h : sv_H} (hs : sv_same h0 h) : sv_fr sv_same h0 (fn_X17_startAll x0 x1 x2 h) := by
  unfold fn_X17_startAll
  refine fr_if ?_ fr_no
  exact fr_X17_startAll_2 sv_fuel hs
theorem fr_X17_startAll {x0 : Nat} {x1 : Int32} {x2 : Int32} {h : sv_H} {r : Unit} {hE : sv_H} (hw : fn_X17_startAll x0 x1 x2 h = some (r, hE)) : sv_same h hE := fr_X17_startAll_0 (sv_same.refl h) r hE hw

theorem fr_X17_walks_139 {h0 : sv_H} {h : sv_H} (hs : sv_same h0 h) : sv_fr sv_same h0 (fn_X17_walks_139 h) := by
  unfold fn_X17_walks_139
  exact fr_rt hs
theorem fr_X17_walks_247 {h0 : sv_H} {k169 : Nat → Int32 → Int32 → sv_H → Option (Int32 × sv_H)} (hk169 : ∀ {x0 : Nat} {x4 : Int32} {x5 : Int32} {h : sv_H}, sv_same h0 h → sv_fr sv_same h0 (k169 x0 x4 x5 h)) {x0 : Nat} {x4 : Int32} {x5 : Int32} {h : sv_H} (hs : sv_same h0 h) : sv_fr sv_same h0 (fn_X17_walks_247 k169 x0 x4 x5 h) := by
  unfold fn_X17_walks_247
  exact hk169 hs
theorem fr_X17_walks_244 {h0 : sv_H} {k169 : Nat → Int32 → Int32 → sv_H → Option (Int32 × sv_H)} (hk169 : ∀ {x0 : Nat} {x4 : Int32} {x5 : Int32} {h : sv_H}, sv_same h0 h → sv_fr sv_same h0 (k169 x0 x4 x5 h)) {x0 : Nat} {x4 : Int32} {x5 : Int32} {s0 : Nat} {s1 : Int32} {s2 : Int32} {h : sv_H} (hs : sv_same h0 h) : sv_fr sv_same h0 (fn_X17_walks_244 k169 x0 x4 x5 s0 s1 s2 h) := by
  unfold fn_X17_walks_244
  refine fr_cl (fun _ _ e => hs.trans (fr_X17_startAll e)) (fun _ h hs => ?_)
  exact fr_X17_walks_247 hk169 hs
theorem fr_X17_walks_209 {h0 : sv_H} {k169 : Nat → Int32 → Int32 → sv_H → Option (Int32 × sv_H)} (hk169 : ∀ {x0 : Nat} {x4 : Int32} {x5 : Int32} {h : sv_H}, sv_same h0 h → sv_fr sv_same h0 (k169 x0 x4 x5 h)) {x0 : Nat} {x4 : Int32} {x5 : Int32} {x6 : Int32} {h : sv_H} (hs : sv_same h0 h) : sv_fr sv_same h0 (fn_X17_walks_209 k169 x0 x4 x5 x6 h) := by
  unfold fn_X17_walks_209
  refine fr_bd (fun _ => ?_)
  refine fr_bd (fun _ => ?_)
  refine fr_cl (fun _ _ e => hs.trans (fr_X17_wallPart e)) (fun _ h hs => ?_)
  refine fr_if ?_ ?_
  · exact fr_X17_walks_244 hk169 hs
  · refine fr_if ?_ ?_
    · exact fr_X17_walks_244 hk169 hs
    · exact fr_X17_walks_244 hk169 hs
theorem fr_X17_walks_169b {h0 : sv_H} {k169 : Nat → Int32 → Int32 → sv_H → Option (Int32 × sv_H)} (hk169 : ∀ {x0 : Nat} {x4 : Int32} {x5 : Int32} {h : sv_H}, sv_same h0 h → sv_fr sv_same h0 (k169 x0 x4 x5 h)) {x0 : Nat} {x4 : Int32} {x5 : Int32} {h : sv_H} (hs : sv_same h0 h) : sv_fr sv_same h0 (fn_X17_walks_169b k169 x0 x4 x5 h) := by
  unfold fn_X17_walks_169b
  refine fr_if ?_ ?_
  · exact fr_rt hs
  · refine fr_bd (fun _ => ?_)
    refine fr_bd (fun _ => ?_)
    refine fr_cl (fun _ _ e => hs.trans (fr_X17_wallPart e)) (fun _ h hs => ?_)
    refine fr_if ?_ ?_
    · exact fr_X17_walks_209 hk169 hs
    · refine fr_if ?_ ?_
      · exact fr_X17_walks_209 hk169 hs
      · refine fr_if ?_ ?_
        · exact fr_X17_walks_209 hk169 hs
        · exact fr_X17_walks_247 hk169 hs
theorem fr_X17_walks_169 {h0 : sv_H} : ∀ (n : Nat) {x0 : Nat} {x4 : Int32} {x5 : Int32} {h : sv_H}, sv_same h0 h → sv_fr sv_same h0 (fn_X17_walks_169 n x0 x4 x5 h) := by
  intro n
  induction n with
  | zero => intro x0 x4 x5 h hs r hE e; cases (show (none : Option (Int32 × sv_H)) = some (r, hE) from e)
  | succ n ih => intro x0 x4 x5 h hs; exact fr_X17_walks_169b (fun hs => ih hs) hs
theorem fr_X17_walks_85 {h0 : sv_H} {k19 : Nat → Int32 → Int32 → Int32 → Int32 → Int32 → sv_H → Option (Int32 × sv_H)} (hk19 : ∀ {x0 : Nat} {x1 : Int32} {x2 : Int32} {x3 : Int32} {x4 : Int32} {x5 : Int32} {h : sv_H}, sv_same h0 h → sv_fr sv_same h0 (k19 x0 x1 x2 x3 x4 x5 h)) {x0 : Nat} {x1 : Int32} {x2 : Int32} {x3 : Int32} {x4 : Int32} {x5 : Int32} {h : sv_H} (hs : sv_same h0 h) : sv_fr sv_same h0 (fn_X17_walks_85 k19 x0 x1 x2 x3 x4 x5 h) := by
  unfold fn_X17_walks_85
  exact hk19 hs
theorem fr_X17_walks_19b {h0 : sv_H} {k19 : Nat → Int32 → Int32 → Int32 → Int32 → Int32 → sv_H → Option (Int32 × sv_H)} (hk19 : ∀ {x0 : Nat} {x1 : Int32} {x2 : Int32} {x3 : Int32} {x4 : Int32} {x5 : Int32} {h : sv_H}, sv_same h0 h → sv_fr sv_same h0 (k19 x0 x1 x2 x3 x4 x5 h)) {x0 : Nat} {x1 : Int32} {x2 : Int32} {x3 : Int32} {x4 : Int32} {x5 : Int32} {h : sv_H} (hs : sv_same h0 h) : sv_fr sv_same h0 (fn_X17_walks_19b k19 x0 x1 x2 x3 x4 x5 h) := by
  unfold fn_X17_walks_19b
  refine fr_bd (fun _ => ?_)
  refine fr_if ?_ ?_
  · refine fr_bd (fun _ => ?_)
    refine fr_if ?_ ?_
    · exact fr_X17_walks_139 hs
    · refine fr_bd (fun _ => ?_)
      refine fr_if ?_ ?_
      · exact fr_X17_walks_139 hs
      · refine fr_bd (fun _ => ?_)
        refine fr_if ?_ ?_
        · exact fr_X17_walks_139 hs
        · refine fr_bd (fun _ => ?_)
          refine fr_if ?_ ?_
          · refine fr_bd (fun _ => ?_)
            refine fr_st (fun _ e => hs.trans (st_pI e)) (fun h hs => ?_)
            refine fr_bd (fun _ => ?_)
            refine fr_st (fun _ e => hs.trans (st_pI e)) (fun h hs => ?_)
            refine fr_st (fun _ e => hs.trans (st_pI e)) (fun h hs => ?_)
            exact fr_X17_walks_169 sv_fuel hs
          · exact fr_X17_walks_139 hs
  · refine fr_bd (fun _ => ?_)
    refine fr_bd (fun _ => ?_)
    refine fr_cl (fun _ _ e => hs.trans (fr_X17_meets e)) (fun _ h hs => ?_)
    refine fr_bd (fun _ => ?_)
    refine fr_bd (fun _ => ?_)
    refine fr_if ?_ ?_
    · exact fr_X17_walks_85 hk19 hs
    · refine fr_bd (fun _ => ?_)
      refine fr_bd (fun _ => ?_)
      refine fr_cl (fun _ _ e => hs.trans (fr_X17_stops e)) (fun _ h hs => ?_)
      refine fr_if ?_ ?_
      · refine fr_bd (fun _ => ?_)
        refine fr_bd (fun _ => ?_)
        refine fr_cl (fun _ _ e => hs.trans (fr_X17_sideOf e)) (fun _ h hs => ?_)
        exact fr_X17_walks_85 hk19 hs
      · exact fr_rt hs
theorem fr_X17_walks_19 {h0 : sv_H} : ∀ (n : Nat) {x0 : Nat} {x1 : Int32} {x2 : Int32} {x3 : Int32} {x4 : Int32} {x5 : Int32} {h : sv_H}, sv_same h0 h → sv_fr sv_same h0 (fn_X17_walks_19 n x0 x1 x2 x3 x4 x5 h) := by
  intro n
  induction n with
  | zero => intro x0 x1 x2 x3 x4 x5 h hs r hE e; cases (show (none : Option (Int32 × sv_H)) = some (r, hE) from e)
  | succ n ih => intro x0 x1 x2 x3 x4 x5 h hs; exact fr_X17_walks_19b (fun hs => ih hs) hs
theorem fr_X17_walks_0 {h0 : sv_H} {x0 : Nat} {x1 : Int32} {x2 : Int32} {h : sv_H} (hs : sv_same h0 h) : sv_fr sv_same h0 (fn_X17_walks x0 x1 x2 h) := by
  unfold fn_X17_walks
  refine fr_if ?_ fr_no
  refine fr_cl (fun _ _ e => hs.trans (fr_X17_gather e)) (fun _ h hs => ?_)
  refine fr_bd (fun _ => ?_)
  exact fr_X17_walks_19 sv_fuel hs
theorem fr_X17_walks {x0 : Nat} {x1 : Int32} {x2 : Int32} {h : sv_H} {r : Int32} {hE : sv_H} (hw : fn_X17_walks x0 x1 x2 h = some (r, hE)) : sv_same h hE := fr_X17_walks_0 (sv_same.refl h) r hE hw

theorem fr_X17_use_63 {h0 : sv_H} {h : sv_H} (hs : sv_same h0 h) : sv_fr sv_same h0 (fn_X17_use_63 h) := by
  unfold fn_X17_use_63
  exact fr_rt hs
theorem fr_X17_use_132 {h0 : sv_H} {h : sv_H} (hs : sv_same h0 h) : sv_fr sv_same h0 (fn_X17_use_132 h) := by
  unfold fn_X17_use_132
  exact fr_rt hs
theorem fr_X17_use_109 {h0 : sv_H} {x0 : Nat} {x1 : Int32} {h : sv_H} (hs : sv_same h0 h) : sv_fr sv_same h0 (fn_X17_use_109 x0 x1 h) := by
  unfold fn_X17_use_109
  refine fr_cl (fun _ _ e => hs.trans (fr_X17_wallPart e)) (fun _ h hs => ?_)
  refine fr_if ?_ ?_
  · refine fr_cl (fun _ _ e => hs.trans (fr_X17_wallPart e)) (fun _ h hs => ?_)
    refine fr_cl (fun _ _ e => hs.trans (fr_X17_startAll e)) (fun _ h hs => ?_)
    exact fr_X17_use_132 hs
  · exact fr_X17_use_132 hs
theorem fr_X17_use_0 {h0 : sv_H} {x0 : Nat} {h : sv_H} (hs : sv_same h0 h) : sv_fr sv_same h0 (fn_X17_use x0 h) := by
  unfold fn_X17_use
  refine fr_if ?_ fr_no
  refine fr_bd (fun _ => ?_)
  refine fr_cl (fun _ _ e => hs.trans (fr_X17_cosine e)) (fun _ h hs => ?_)
  refine fr_bd (fun _ => ?_)
  refine fr_cl (fun _ _ e => hs.trans (fr_X17_sine e)) (fun _ h hs => ?_)
  refine fr_cl (fun _ _ e => hs.trans (fr_X17_gather e)) (fun _ h hs => ?_)
  refine fr_bd (fun _ => ?_)
  refine fr_if ?_ ?_
  · exact fr_X17_use_63 hs
  · refine fr_bd (fun _ => ?_)
    refine fr_bd (fun _ => ?_)
    refine fr_cl (fun _ _ e => hs.trans (fr_X17_meets e)) (fun _ h hs => ?_)
    refine fr_if ?_ ?_
    · exact fr_X17_use_63 hs
    · refine fr_bd (fun _ => ?_)
      refine fr_bd (fun _ => ?_)
      refine fr_if ?_ ?_
      · exact fr_X17_use_63 hs
      · refine fr_bd (fun _ => ?_)
        refine fr_if ?_ ?_
        · exact fr_X17_use_63 hs
        · refine fr_bd (fun _ => ?_)
          refine fr_bd (fun _ => ?_)
          refine fr_cl (fun _ _ e => hs.trans (fr_X17_wallPart e)) (fun _ h hs => ?_)
          refine fr_cl (fun _ _ e => hs.trans (fr_X17_wallPart e)) (fun _ h hs => ?_)
          refine fr_if ?_ ?_
          · refine fr_if ?_ ?_
            · exact fr_X17_use_109 hs
            · refine fr_bd (fun _ => ?_)
              refine fr_cl (fun _ _ e => hs.trans (fr_X13_begin e)) (fun _ h hs => ?_)
              exact fr_X17_use_132 hs
          · exact fr_X17_use_109 hs
theorem fr_X17_use {x0 : Nat} {h : sv_H} {r : Unit} {hE : sv_H} (hw : fn_X17_use x0 h = some (r, hE)) : sv_same h hE := fr_X17_use_0 (sv_same.refl h) r hE hw

theorem fr_X13_await_0 {h0 : sv_H} {x0 : Nat} {x1 : Int32} {x2 : Int32} {h : sv_H} (hs : sv_same h0 h) : sv_fr sv_same h0 (fn_X13_await x0 x1 x2 h) := by
  unfold fn_X13_await
  refine fr_if ?_ fr_no
  refine fr_bd (fun _ => ?_)
  refine fr_st (fun _ e => hs.trans (st_sI e)) (fun h hs => ?_)
  refine fr_bd (fun _ => ?_)
  refine fr_st (fun _ e => hs.trans (st_sI e)) (fun h hs => ?_)
  exact fr_rt hs
theorem fr_X13_await {x0 : Nat} {x1 : Int32} {x2 : Int32} {h : sv_H} {r : Unit} {hE : sv_H} (hw : fn_X13_await x0 x1 x2 h = some (r, hE)) : sv_same h hE := fr_X13_await_0 (sv_same.refl h) r hE hw

theorem fr_X13_end_0 {h0 : sv_H} {x0 : Nat} {x1 : Int32} {h : sv_H} (hs : sv_same h0 h) : sv_fr sv_same h0 (fn_X13_end x0 x1 h) := by
  unfold fn_X13_end
  refine fr_if ?_ fr_no
  refine fr_bd (fun _ => ?_)
  refine fr_st (fun _ e => hs.trans (st_sI e)) (fun h hs => ?_)
  refine fr_bd (fun _ => ?_)
  refine fr_st (fun _ e => hs.trans (st_sI e)) (fun h hs => ?_)
  refine fr_bd (fun _ => ?_)
  refine fr_st (fun _ e => hs.trans (st_sI e)) (fun h hs => ?_)
  exact fr_rt hs
theorem fr_X13_end {x0 : Nat} {x1 : Int32} {h : sv_H} {r : Unit} {hE : sv_H} (hw : fn_X13_end x0 x1 h = some (r, hE)) : sv_same h hE := fr_X13_end_0 (sv_same.refl h) r hE hw

theorem fr_X13_stepDoor_157 {h0 : sv_H} {h : sv_H} (hs : sv_same h0 h) : sv_fr sv_same h0 (fn_X13_stepDoor_157 h) := by
  unfold fn_X13_stepDoor_157
  exact fr_rt hs
theorem fr_X13_stepDoor_135 {h0 : sv_H} {x0 : Nat} {x1 : Int32} {x2 : Int32} {h : sv_H} (hs : sv_same h0 h) : sv_fr sv_same h0 (fn_X13_stepDoor_135 x0 x1 x2 h) := by
  unfold fn_X13_stepDoor_135
  refine fr_bd (fun _ => ?_)
  refine fr_st (fun _ e => hs.trans (st_sI e)) (fun h hs => ?_)
  refine fr_bd (fun _ => ?_)
  refine fr_bd (fun _ => ?_)
  refine fr_if ?_ ?_
  · refine fr_cl (fun _ _ e => hs.trans (fr_X13_end e)) (fun _ h hs => ?_)
    exact fr_X13_stepDoor_157 hs
  · exact fr_X13_stepDoor_157 hs
theorem fr_X13_stepDoor_95 {h0 : sv_H} {x0 : Nat} {x1 : Int32} {s0 : Int32} {h : sv_H} (hs : sv_same h0 h) : sv_fr sv_same h0 (fn_X13_stepDoor_95 x0 x1 s0 h) := by
  unfold fn_X13_stepDoor_95
  refine fr_bd (fun _ => ?_)
  refine fr_if ?_ ?_
  · refine fr_bd (fun _ => ?_)
    refine fr_bd (fun _ => ?_)
    refine fr_if ?_ ?_
    · exact fr_X13_stepDoor_135 hs
    · refine fr_bd (fun _ => ?_)
      refine fr_st (fun _ e => hs.trans (st_pI e)) (fun h hs => ?_)
      refine fr_bd (fun _ => ?_)
      refine fr_st (fun _ e => hs.trans (st_sI e)) (fun h hs => ?_)
      exact fr_rt hs
  · exact fr_X13_stepDoor_135 hs
theorem fr_X13_stepDoor_74 {h0 : sv_H} {h : sv_H} (hs : sv_same h0 h) : sv_fr sv_same h0 (fn_X13_stepDoor_74 h) := by
  unfold fn_X13_stepDoor_74
  exact fr_rt hs
theorem fr_X13_stepDoor_51 {h0 : sv_H} {x0 : Nat} {x1 : Int32} {s0 : Nat} {s1 : Int32} {s2 : Int32} {h : sv_H} (hs : sv_same h0 h) : sv_fr sv_same h0 (fn_X13_stepDoor_51 x0 x1 s0 s1 s2 h) := by
  unfold fn_X13_stepDoor_51
  refine fr_st (fun _ e => hs.trans (st_sI e)) (fun h hs => ?_)
  refine fr_bd (fun _ => ?_)
  refine fr_bd (fun _ => ?_)
  refine fr_bd (fun _ => ?_)
  refine fr_bd (fun _ => ?_)
  refine fr_if ?_ ?_
  · refine fr_cl (fun _ _ e => hs.trans (fr_X13_await e)) (fun _ h hs => ?_)
    exact fr_X13_stepDoor_74 hs
  · exact fr_X13_stepDoor_74 hs
theorem fr_X13_stepDoor_0 {h0 : sv_H} {x0 : Nat} {x1 : Int32} {h : sv_H} (hs : sv_same h0 h) : sv_fr sv_same h0 (fn_X13_stepDoor x0 x1 h) := by
  unfold fn_X13_stepDoor
  refine fr_if ?_ fr_no
  refine fr_bd (fun _ => ?_)
  refine fr_bd (fun _ => ?_)
  refine fr_bd (fun _ => ?_)
  refine fr_bd (fun _ => ?_)
  refine fr_bd (fun _ => ?_)
  refine fr_bd (fun _ => ?_)
  refine fr_if ?_ ?_
  · refine fr_bd (fun _ => ?_)
    refine fr_bd (fun _ => ?_)
    refine fr_if ?_ ?_
    · exact fr_X13_stepDoor_95 hs
    · refine fr_bd (fun _ => ?_)
      refine fr_bd (fun _ => ?_)
      exact fr_X13_stepDoor_95 hs
  · refine fr_bd (fun _ => ?_)
    refine fr_bd (fun _ => ?_)
    refine fr_bd (fun _ => ?_)
    refine fr_if ?_ ?_
    · exact fr_X13_stepDoor_51 hs
    · refine fr_bd (fun _ => ?_)
      refine fr_bd (fun _ => ?_)
      exact fr_X13_stepDoor_51 hs
theorem fr_X13_stepDoor {x0 : Nat} {x1 : Int32} {h : sv_H} {r : Unit} {hE : sv_H} (hw : fn_X13_stepDoor x0 x1 h = some (r, hE)) : sv_same h hE := fr_X13_stepDoor_0 (sv_same.refl h) r hE hw

theorem fr_X13_rise_78 {h0 : sv_H} {h : sv_H} (hs : sv_same h0 h) : sv_fr sv_same h0 (fn_X13_rise_78 h) := by
  unfold fn_X13_rise_78
  exact fr_rt hs
theorem fr_X13_rise_59 {h0 : sv_H} {x0 : Nat} {x1 : Int32} {x3 : Int32} {x4 : Int32} {h : sv_H} (hs : sv_same h0 h) : sv_fr sv_same h0 (fn_X13_rise_59 x0 x1 x3 x4 h) := by
  unfold fn_X13_rise_59
  refine fr_bd (fun _ => ?_)
  refine fr_st (fun _ e => hs.trans (st_sI e)) (fun h hs => ?_)
  refine fr_if ?_ ?_
  · refine fr_cl (fun _ _ e => hs.trans (fr_X13_end e)) (fun _ h hs => ?_)
    exact fr_X13_rise_78 hs
  · exact fr_X13_rise_78 hs
theorem fr_X13_rise_24 {h0 : sv_H} {x0 : Nat} {x1 : Int32} {x3 : Int32} {s0 : Int32} {h : sv_H} (hs : sv_same h0 h) : sv_fr sv_same h0 (fn_X13_rise_24 x0 x1 x3 s0 h) := by
  unfold fn_X13_rise_24
  refine fr_bd (fun _ => ?_)
  refine fr_if ?_ ?_
  · refine fr_bd (fun _ => ?_)
    refine fr_bd (fun _ => ?_)
    refine fr_if ?_ ?_
    · exact fr_X13_rise_59 hs
    · refine fr_bd (fun _ => ?_)
      refine fr_st (fun _ e => hs.trans (st_pI e)) (fun h hs => ?_)
      exact fr_rt hs
  · exact fr_X13_rise_59 hs
theorem fr_X13_rise_0 {h0 : sv_H} {x0 : Nat} {x1 : Int32} {x2 : Int32} {x3 : Int32} {h : sv_H} (hs : sv_same h0 h) : sv_fr sv_same h0 (fn_X13_rise x0 x1 x2 x3 h) := by
  unfold fn_X13_rise
  refine fr_if ?_ fr_no
  refine fr_bd (fun _ => ?_)
  refine fr_bd (fun _ => ?_)
  refine fr_if ?_ ?_
  · refine fr_bd (fun _ => ?_)
    refine fr_bd (fun _ => ?_)
    exact fr_X13_rise_24 hs
  · exact fr_X13_rise_24 hs
theorem fr_X13_rise {x0 : Nat} {x1 : Int32} {x2 : Int32} {x3 : Int32} {h : sv_H} {r : Unit} {hE : sv_H} (hw : fn_X13_rise x0 x1 x2 x3 h = some (r, hE)) : sv_same h hE := fr_X13_rise_0 (sv_same.refl h) r hE hw

theorem fr_X13_step_128 {h0 : sv_H} {h : sv_H} (hs : sv_same h0 h) : sv_fr sv_same h0 (fn_X13_step_128 h) := by
  unfold fn_X13_step_128
  exact fr_rt hs
theorem fr_X13_step_105 {h0 : sv_H} {x0 : Nat} {x1 : Int32} {s0 : Nat} {s1 : Int32} {s2 : Int32} {h : sv_H} (hs : sv_same h0 h) : sv_fr sv_same h0 (fn_X13_step_105 x0 x1 s0 s1 s2 h) := by
  unfold fn_X13_step_105
  refine fr_st (fun _ e => hs.trans (st_sI e)) (fun h hs => ?_)
  refine fr_bd (fun _ => ?_)
  refine fr_bd (fun _ => ?_)
  refine fr_bd (fun _ => ?_)
  refine fr_bd (fun _ => ?_)
  refine fr_if ?_ ?_
  · refine fr_cl (fun _ _ e => hs.trans (fr_X13_await e)) (fun _ h hs => ?_)
    exact fr_X13_step_128 hs
  · exact fr_X13_step_128 hs
theorem fr_X13_step_0 {h0 : sv_H} {x0 : Nat} {x1 : Int32} {h : sv_H} (hs : sv_same h0 h) : sv_fr sv_same h0 (fn_X13_step x0 x1 h) := by
  unfold fn_X13_step
  refine fr_if ?_ fr_no
  refine fr_bd (fun _ => ?_)
  refine fr_bd (fun _ => ?_)
  refine fr_if ?_ ?_
  · refine fr_cl (fun _ _ e => hs.trans (fr_X13_stepDoor e)) (fun _ h hs => ?_)
    exact fr_X13_step_128 hs
  · refine fr_bd (fun _ => ?_)
    refine fr_bd (fun _ => ?_)
    refine fr_if ?_ ?_
    · refine fr_bd (fun _ => ?_)
      refine fr_bd (fun _ => ?_)
      refine fr_cl (fun _ _ e => hs.trans (fr_X13_rise e)) (fun _ h hs => ?_)
      exact fr_X13_step_128 hs
    · refine fr_bd (fun _ => ?_)
      refine fr_bd (fun _ => ?_)
      refine fr_if ?_ ?_
      · refine fr_bd (fun _ => ?_)
        refine fr_bd (fun _ => ?_)
        refine fr_bd (fun _ => ?_)
        refine fr_bd (fun _ => ?_)
        refine fr_bd (fun _ => ?_)
        refine fr_if ?_ ?_
        · refine fr_bd (fun _ => ?_)
          refine fr_bd (fun _ => ?_)
          exact fr_X13_step_105 hs
        · refine fr_bd (fun _ => ?_)
          refine fr_bd (fun _ => ?_)
          exact fr_X13_step_105 hs
      · refine fr_bd (fun _ => ?_)
        refine fr_bd (fun _ => ?_)
        refine fr_cl (fun _ _ e => hs.trans (fr_X13_rise e)) (fun _ h hs => ?_)
        exact fr_X13_step_128 hs
theorem fr_X13_step {x0 : Nat} {x1 : Int32} {h : sv_H} {r : Unit} {hE : sv_H} (hw : fn_X13_step x0 x1 h = some (r, hE)) : sv_same h hE := fr_X13_step_0 (sv_same.refl h) r hE hw

theorem fr_X13_ticks_11 {h0 : sv_H} {h : sv_H} (hs : sv_same h0 h) : sv_fr sv_same h0 (fn_X13_ticks_11 h) := by
  unfold fn_X13_ticks_11
  exact fr_rt hs
theorem fr_X13_ticks_118 {h0 : sv_H} {k15 : Nat → Int32 → Int32 → sv_H → Option (Int32 × sv_H)} (hk15 : ∀ {x0 : Nat} {x1 : Int32} {x2 : Int32} {h : sv_H}, sv_same h0 h → sv_fr sv_same h0 (k15 x0 x1 x2 h)) {k32 : Nat → Int32 → Int32 → Int32 → sv_H → Option (Int32 × sv_H)} (hk32 : ∀ {x0 : Nat} {x1 : Int32} {x2 : Int32} {x3 : Int32} {h : sv_H}, sv_same h0 h → sv_fr sv_same h0 (k32 x0 x1 x2 x3 h)) {x0 : Nat} {x1 : Int32} {x2 : Int32} {x3 : Int32} {h : sv_H} (hs : sv_same h0 h) : sv_fr sv_same h0 (fn_X13_ticks_118 k15 k32 x0 x1 x2 x3 h) := by
  unfold fn_X13_ticks_118
  exact hk32 hs
theorem fr_X13_ticks_104 {h0 : sv_H} {k15 : Nat → Int32 → Int32 → sv_H → Option (Int32 × sv_H)} (hk15 : ∀ {x0 : Nat} {x1 : Int32} {x2 : Int32} {h : sv_H}, sv_same h0 h → sv_fr sv_same h0 (k15 x0 x1 x2 h)) {k32 : Nat → Int32 → Int32 → Int32 → sv_H → Option (Int32 × sv_H)} (hk32 : ∀ {x0 : Nat} {x1 : Int32} {x2 : Int32} {x3 : Int32} {h : sv_H}, sv_same h0 h → sv_fr sv_same h0 (k32 x0 x1 x2 x3 h)) {x0 : Nat} {x1 : Int32} {x2 : Int32} {x3 : Int32} {h : sv_H} (hs : sv_same h0 h) : sv_fr sv_same h0 (fn_X13_ticks_104 k15 k32 x0 x1 x2 x3 h) := by
  unfold fn_X13_ticks_104
  refine fr_bd (fun _ => ?_)
  refine fr_bd (fun _ => ?_)
  refine fr_if ?_ ?_
  · exact fr_X13_ticks_118 hk15 hk32 hs
  · refine fr_cl (fun _ _ e => hs.trans (fr_X13_step e)) (fun _ h hs => ?_)
    exact fr_X13_ticks_118 hk15 hk32 hs
theorem fr_X13_ticks_100 {h0 : sv_H} {k15 : Nat → Int32 → Int32 → sv_H → Option (Int32 × sv_H)} (hk15 : ∀ {x0 : Nat} {x1 : Int32} {x2 : Int32} {h : sv_H}, sv_same h0 h → sv_fr sv_same h0 (k15 x0 x1 x2 h)) {k32 : Nat → Int32 → Int32 → Int32 → sv_H → Option (Int32 × sv_H)} (hk32 : ∀ {x0 : Nat} {x1 : Int32} {x2 : Int32} {x3 : Int32} {h : sv_H}, sv_same h0 h → sv_fr sv_same h0 (k32 x0 x1 x2 x3 h)) {x0 : Nat} {x1 : Int32} {x2 : Int32} {x3 : Int32} {s0 : Nat} {s1 : Int32} {s2 : Int32} {h : sv_H} (hs : sv_same h0 h) : sv_fr sv_same h0 (fn_X13_ticks_100 k15 k32 x0 x1 x2 x3 s0 s1 s2 h) := by
  unfold fn_X13_ticks_100
  refine fr_st (fun _ e => hs.trans (st_sI e)) (fun h hs => ?_)
  exact fr_X13_ticks_118 hk15 hk32 hs
theorem fr_X13_ticks_32b {h0 : sv_H} {k15 : Nat → Int32 → Int32 → sv_H → Option (Int32 × sv_H)} (hk15 : ∀ {x0 : Nat} {x1 : Int32} {x2 : Int32} {h : sv_H}, sv_same h0 h → sv_fr sv_same h0 (k15 x0 x1 x2 h)) {k32 : Nat → Int32 → Int32 → Int32 → sv_H → Option (Int32 × sv_H)} (hk32 : ∀ {x0 : Nat} {x1 : Int32} {x2 : Int32} {x3 : Int32} {h : sv_H}, sv_same h0 h → sv_fr sv_same h0 (k32 x0 x1 x2 x3 h)) {x0 : Nat} {x1 : Int32} {x2 : Int32} {x3 : Int32} {h : sv_H} (hs : sv_same h0 h) : sv_fr sv_same h0 (fn_X13_ticks_32b k15 k32 x0 x1 x2 x3 h) := by
  unfold fn_X13_ticks_32b
  refine fr_bd (fun _ => ?_)
  refine fr_if ?_ ?_
  · exact hk15 hs
  · refine fr_bd (fun _ => ?_)
    refine fr_bd (fun _ => ?_)
    refine fr_if ?_ ?_
    · exact fr_X13_ticks_104 hk15 hk32 hs
    · refine fr_bd (fun _ => ?_)
      refine fr_bd (fun _ => ?_)
      refine fr_if ?_ ?_
      · exact fr_X13_ticks_104 hk15 hk32 hs
      · refine fr_bd (fun _ => ?_)
        refine fr_bd (fun _ => ?_)
        refine fr_st (fun _ e => hs.trans (st_sI e)) (fun h hs => ?_)
        refine fr_bd (fun _ => ?_)
        refine fr_bd (fun _ => ?_)
        refine fr_bd (fun _ => ?_)
        refine fr_if ?_ ?_
        · refine fr_bd (fun _ => ?_)
          refine fr_bd (fun _ => ?_)
          refine fr_if ?_ ?_
          · exact fr_X13_ticks_100 hk15 hk32 hs
          · exact fr_X13_ticks_100 hk15 hk32 hs
        · exact fr_X13_ticks_100 hk15 hk32 hs
theorem fr_X13_ticks_32 {h0 : sv_H} {k15 : Nat → Int32 → Int32 → sv_H → Option (Int32 × sv_H)} (hk15 : ∀ {x0 : Nat} {x1 : Int32} {x2 : Int32} {h : sv_H}, sv_same h0 h → sv_fr sv_same h0 (k15 x0 x1 x2 h)) : ∀ (n : Nat) {x0 : Nat} {x1 : Int32} {x2 : Int32} {x3 : Int32} {h : sv_H}, sv_same h0 h → sv_fr sv_same h0 (fn_X13_ticks_32 k15 n x0 x1 x2 x3 h) := by
  intro n
  induction n with
  | zero => intro x0 x1 x2 x3 h hs r hE e; cases (show (none : Option (Int32 × sv_H)) = some (r, hE) from e)
  | succ n ih => intro x0 x1 x2 x3 h hs; exact fr_X13_ticks_32b hk15 (fun hs => ih hs) hs
theorem fr_X13_ticks_15b {h0 : sv_H} {k15 : Nat → Int32 → Int32 → sv_H → Option (Int32 × sv_H)} (hk15 : ∀ {x0 : Nat} {x1 : Int32} {x2 : Int32} {h : sv_H}, sv_same h0 h → sv_fr sv_same h0 (k15 x0 x1 x2 h)) {x0 : Nat} {x1 : Int32} {x2 : Int32} {h : sv_H} (hs : sv_same h0 h) : sv_fr sv_same h0 (fn_X13_ticks_15b k15 x0 x1 x2 h) := by
  unfold fn_X13_ticks_15b
  refine fr_if ?_ ?_
  · refine fr_bd (fun _ => ?_)
    exact fr_rt hs
  · refine fr_bd (fun _ => ?_)
    refine fr_st (fun _ e => hs.trans (st_pI e)) (fun h hs => ?_)
    exact fr_X13_ticks_32 hk15 sv_fuel hs
theorem fr_X13_ticks_15 {h0 : sv_H} : ∀ (n : Nat) {x0 : Nat} {x1 : Int32} {x2 : Int32} {h : sv_H}, sv_same h0 h → sv_fr sv_same h0 (fn_X13_ticks_15 n x0 x1 x2 h) := by
  intro n
  induction n with
  | zero => intro x0 x1 x2 h hs r hE e; cases (show (none : Option (Int32 × sv_H)) = some (r, hE) from e)
  | succ n ih => intro x0 x1 x2 h hs; exact fr_X13_ticks_15b (fun hs => ih hs) hs
theorem fr_X13_ticks_0 {h0 : sv_H} {x0 : Nat} {x1 : Int32} {h : sv_H} (hs : sv_same h0 h) : sv_fr sv_same h0 (fn_X13_ticks x0 x1 h) := by
  unfold fn_X13_ticks
  refine fr_if ?_ fr_no
  refine fr_if ?_ ?_
  · exact fr_X13_ticks_11 hs
  · refine fr_if ?_ ?_
    · exact fr_X13_ticks_15 sv_fuel hs
    · exact fr_X13_ticks_11 hs
theorem fr_X13_ticks {x0 : Nat} {x1 : Int32} {h : sv_H} {r : Int32} {hE : sv_H} (hw : fn_X13_ticks x0 x1 h = some (r, hE)) : sv_same h hE := fr_X13_ticks_0 (sv_same.refl h) r hE hw

theorem fr_X17_go_121 {h0 : sv_H} {x0 : Nat} {x7 : Int32} {h : sv_H} (hs : sv_same h0 h) : sv_fr sv_same h0 (fn_X17_go_121 x0 x7 h) := by
  unfold fn_X17_go_121
  refine fr_bd (fun _ => ?_)
  refine fr_bd (fun _ => ?_)
  refine fr_st (fun _ e => hs.trans (st_pI e)) (fun h hs => ?_)
  refine fr_bd (fun _ => ?_)
  refine fr_cl (fun _ _ e => hs.trans (fr_X13_ticks e)) (fun _ h hs => ?_)
  exact fr_rt hs
theorem fr_X17_go_110 {h0 : sv_H} {x0 : Nat} {x4 : Int32} {s0 : Int32} {h : sv_H} (hs : sv_same h0 h) : sv_fr sv_same h0 (fn_X17_go_110 x0 x4 s0 h) := by
  unfold fn_X17_go_110
  refine fr_if ?_ ?_
  · exact fr_X17_go_121 hs
  · refine fr_cl (fun _ _ e => hs.trans (fr_X17_use e)) (fun _ h hs => ?_)
    exact fr_X17_go_121 hs
theorem fr_X17_go_94 {h0 : sv_H} {x0 : Nat} {x4 : Int32} {x5 : Int32} {x6 : Int32} {h : sv_H} (hs : sv_same h0 h) : sv_fr sv_same h0 (fn_X17_go_94 x0 x4 x5 x6 h) := by
  unfold fn_X17_go_94
  refine fr_cl (fun _ _ e => hs.trans (fr_X17_walks e)) (fun _ h hs => ?_)
  refine fr_if ?_ ?_
  · exact fr_X17_go_110 hs
  · exact fr_X17_go_110 hs
theorem fr_X17_go_0 {h0 : sv_H} {x0 : Nat} {x1 : Int32} {x2 : Int32} {x3 : Int32} {x4 : Int32} {h : sv_H} (hs : sv_same h0 h) : sv_fr sv_same h0 (fn_X17_go x0 x1 x2 x3 x4 h) := by
  unfold fn_X17_go
  refine fr_if ?_ fr_no
  refine fr_bd (fun _ => ?_)
  refine fr_st (fun _ e => hs.trans (st_pI e)) (fun h hs => ?_)
  refine fr_bd (fun _ => ?_)
  refine fr_cl (fun _ _ e => hs.trans (fr_X17_cosine e)) (fun _ h hs => ?_)
  refine fr_bd (fun _ => ?_)
  refine fr_cl (fun _ _ e => hs.trans (fr_X17_sine e)) (fun _ h hs => ?_)
  refine fr_cl (fun _ _ e => hs.trans (fr_X17_down e)) (fun _ h hs => ?_)
  refine fr_bd (fun _ => ?_)
  refine fr_cl (fun _ _ e => hs.trans (fr_X17_sine e)) (fun _ h hs => ?_)
  refine fr_bd (fun _ => ?_)
  refine fr_cl (fun _ _ e => hs.trans (fr_X17_cosine e)) (fun _ h hs => ?_)
  refine fr_cl (fun _ _ e => hs.trans (fr_X17_down e)) (fun _ h hs => ?_)
  refine fr_if ?_ ?_
  · refine fr_if ?_ ?_
    · exact fr_X17_go_110 hs
    · exact fr_X17_go_94 hs
  · exact fr_X17_go_94 hs
theorem fr_X17_go {x0 : Nat} {x1 : Int32} {x2 : Int32} {x3 : Int32} {x4 : Int32} {h : sv_H} {r : Int32} {hE : sv_H} (hw : fn_X17_go x0 x1 x2 x3 x4 h = some (r, hE)) : sv_same h hE := fr_X17_go_0 (sv_same.refl h) r hE hw

theorem fr_X17_playTo_27 {h0 : sv_H} {h : sv_H} (hs : sv_same h0 h) : sv_fr sv_same h0 (fn_X17_playTo_27 h) := by
  unfold fn_X17_playTo_27
  exact fr_rt hs
theorem fr_X17_playTo_92 {h0 : sv_H} {k37 : Nat → Int32 → Int32 → Int32 → sv_H → Option (Int32 × sv_H)} (hk37 : ∀ {x0 : Nat} {x1 : Int32} {x2 : Int32} {x3 : Int32} {h : sv_H}, sv_same h0 h → sv_fr sv_same h0 (k37 x0 x1 x2 x3 h)) {x0 : Nat} {x1 : Int32} {x3 : Int32} {s0 : Int32} {s1 : Int32} {h : sv_H} (hs : sv_same h0 h) : sv_fr sv_same h0 (fn_X17_playTo_92 k37 x0 x1 x3 s0 s1 h) := by
  unfold fn_X17_playTo_92
  exact hk37 hs
theorem fr_X17_playTo_37b {h0 : sv_H} {k37 : Nat → Int32 → Int32 → Int32 → sv_H → Option (Int32 × sv_H)} (hk37 : ∀ {x0 : Nat} {x1 : Int32} {x2 : Int32} {x3 : Int32} {h : sv_H}, sv_same h0 h → sv_fr sv_same h0 (k37 x0 x1 x2 x3 h)) {x0 : Nat} {x1 : Int32} {x2 : Int32} {x3 : Int32} {h : sv_H} (hs : sv_same h0 h) : sv_fr sv_same h0 (fn_X17_playTo_37b k37 x0 x1 x2 x3 h) := by
  unfold fn_X17_playTo_37b
  refine fr_if ?_ ?_
  · exact fr_rt hs
  · refine fr_bd (fun _ => ?_)
    refine fr_bd (fun _ => ?_)
    refine fr_bd (fun _ => ?_)
    refine fr_bd (fun _ => ?_)
    refine fr_bd (fun _ => ?_)
    refine fr_bd (fun _ => ?_)
    refine fr_bd (fun _ => ?_)
    refine fr_bd (fun _ => ?_)
    refine fr_bd (fun _ => ?_)
    refine fr_bd (fun _ => ?_)
    refine fr_bd (fun _ => ?_)
    refine fr_bd (fun _ => ?_)
    refine fr_cl (fun _ _ e => hs.trans (fr_X17_go e)) (fun _ h hs => ?_)
    refine fr_if ?_ ?_
    · exact fr_X17_playTo_92 hk37 hs
    · exact fr_X17_playTo_92 hk37 hs
theorem fr_X17_playTo_37 {h0 : sv_H} : ∀ (n : Nat) {x0 : Nat} {x1 : Int32} {x2 : Int32} {x3 : Int32} {h : sv_H}, sv_same h0 h → sv_fr sv_same h0 (fn_X17_playTo_37 n x0 x1 x2 x3 h) := by
  intro n
  induction n with
  | zero => intro x0 x1 x2 x3 h hs r hE e; cases (show (none : Option (Int32 × sv_H)) = some (r, hE) from e)
  | succ n ih => intro x0 x1 x2 x3 h hs; exact fr_X17_playTo_37b (fun hs => ih hs) hs
theorem fr_X17_playTo_0 {h0 : sv_H} {x0 : Nat} {x1 : Int32} {h : sv_H} (hs : sv_same h0 h) : sv_fr sv_same h0 (fn_X17_playTo x0 x1 h) := by
  unfold fn_X17_playTo
  refine fr_if ?_ fr_no
  refine fr_st (fun _ e => hs.trans (st_pI e)) (fun h hs => ?_)
  refine fr_bd (fun _ => ?_)
  refine fr_if ?_ ?_
  · exact fr_X17_playTo_27 hs
  · refine fr_if ?_ ?_
    · exact fr_X17_playTo_27 hs
    · refine fr_bd (fun _ => ?_)
      refine fr_bd (fun _ => ?_)
      refine fr_if ?_ ?_
      · refine fr_cl (fun _ _ e => hs.trans (fr_X17_begin e)) (fun _ h hs => ?_)
        exact fr_X17_playTo_37 sv_fuel hs
      · exact fr_X17_playTo_27 hs
theorem fr_X17_playTo {x0 : Nat} {x1 : Int32} {h : sv_H} {r : Int32} {hE : sv_H} (hw : fn_X17_playTo x0 x1 h = some (r, hE)) : sv_same h hE := fr_X17_playTo_0 (sv_same.refl h) r hE hw

theorem fr_X12_stepBy_16 {h0 : sv_H} {h : sv_H} (hs : sv_same h0 h) : sv_fr sv_same h0 (fn_X12_stepBy_16 h) := by
  unfold fn_X12_stepBy_16
  exact fr_rt hs
theorem fr_X12_stepBy_0 {h0 : sv_H} {x0 : Nat} {x1 : Int32} {x2 : Int32} {x3 : Int32} {x4 : Int32} {h : sv_H} (hs : sv_same h0 h) : sv_fr sv_same h0 (fn_X12_stepBy x0 x1 x2 x3 x4 h) := by
  unfold fn_X12_stepBy
  refine fr_if ?_ fr_no
  refine fr_cl (fun _ _ e => hs.trans (fr_X12_hasMap e)) (fun _ h hs => ?_)
  refine fr_if ?_ ?_
  · exact fr_X12_stepBy_16 hs
  · refine fr_cl (fun _ _ e => hs.trans (fr_X5_isInput e)) (fun _ h hs => ?_)
    refine fr_if ?_ ?_
    · exact fr_X12_stepBy_16 hs
    · refine fr_bd (fun _ => ?_)
      refine fr_cl (fun _ _ e => hs.trans (fr_X5_inputOf e)) (fun _ h hs => ?_)
      refine fr_cl (fun _ _ e => hs.trans (fr_X10_step e)) (fun _ h hs => ?_)
      exact fr_rt hs
theorem fr_X12_stepBy {x0 : Nat} {x1 : Int32} {x2 : Int32} {x3 : Int32} {x4 : Int32} {h : sv_H} {r : Int32} {hE : sv_H} (hw : fn_X12_stepBy x0 x1 x2 x3 x4 h = some (r, hE)) : sv_same h hE := fr_X12_stepBy_0 (sv_same.refl h) r hE hw

theorem fr_X17_stepBy_64 {h0 : sv_H} {s0 : Int32} {h : sv_H} (hs : sv_same h0 h) : sv_fr sv_same h0 (fn_X17_stepBy_64 s0 h) := by
  unfold fn_X17_stepBy_64
  exact fr_rt hs
theorem fr_X17_stepBy_44 {h0 : sv_H} {x0 : Nat} {x1 : Int32} {x2 : Int32} {x3 : Int32} {x4 : Int32} {s0 : Int32} {h : sv_H} (hs : sv_same h0 h) : sv_fr sv_same h0 (fn_X17_stepBy_44 x0 x1 x2 x3 x4 s0 h) := by
  unfold fn_X17_stepBy_44
  refine fr_if ?_ ?_
  · exact fr_X17_stepBy_64 hs
  · refine fr_cl (fun _ _ e => hs.trans (fr_X17_go e)) (fun _ h hs => ?_)
    exact fr_X17_stepBy_64 hs
theorem fr_X17_stepBy_43 {h0 : sv_H} {x0 : Nat} {x1 : Int32} {x2 : Int32} {x3 : Int32} {x4 : Int32} {h : sv_H} (hs : sv_same h0 h) : sv_fr sv_same h0 (fn_X17_stepBy_43 x0 x1 x2 x3 x4 h) := by
  unfold fn_X17_stepBy_43
  exact fr_X17_stepBy_44 hs
theorem fr_X17_stepBy_0 {h0 : sv_H} {x0 : Nat} {x1 : Int32} {x2 : Int32} {x3 : Int32} {x4 : Int32} {h : sv_H} (hs : sv_same h0 h) : sv_fr sv_same h0 (fn_X17_stepBy x0 x1 x2 x3 x4 h) := by
  unfold fn_X17_stepBy
  refine fr_if ?_ fr_no
  refine fr_st (fun _ e => hs.trans (st_pI e)) (fun h hs => ?_)
  refine fr_bd (fun _ => ?_)
  refine fr_if ?_ ?_
  · exact fr_X17_stepBy_43 hs
  · refine fr_cl (fun _ _ e => hs.trans (fr_X15_isIn e)) (fun _ h hs => ?_)
    refine fr_if ?_ ?_
    · exact fr_X17_stepBy_43 hs
    · refine fr_cl (fun _ _ e => hs.trans (fr_X15_isIn e)) (fun _ h hs => ?_)
      refine fr_if ?_ ?_
      · exact fr_X17_stepBy_43 hs
      · refine fr_cl (fun _ _ e => hs.trans (fr_X15_isIn e)) (fun _ h hs => ?_)
        refine fr_if ?_ ?_
        · exact fr_X17_stepBy_43 hs
        · exact fr_X17_stepBy_44 hs
theorem fr_X17_stepBy {x0 : Nat} {x1 : Int32} {x2 : Int32} {x3 : Int32} {x4 : Int32} {h : sv_H} {r : Int32} {hE : sv_H} (hw : fn_X17_stepBy x0 x1 x2 x3 x4 h = some (r, hE)) : sv_same h hE := fr_X17_stepBy_0 (sv_same.refl h) r hE hw

theorem fr_X10_eye_0 {h0 : sv_H} {x0 : Nat} {h : sv_H} (hs : sv_same h0 h) : sv_fr sv_same h0 (fn_X10_eye x0 h) := by
  unfold fn_X10_eye
  refine fr_if ?_ fr_no
  refine fr_bd (fun _ => ?_)
  refine fr_bd (fun _ => ?_)
  refine fr_bd (fun _ => ?_)
  refine fr_bd (fun _ => ?_)
  refine fr_bd (fun _ => ?_)
  exact fr_rt hs
theorem fr_X10_eye {x0 : Nat} {h : sv_H} {r : Int32} {hE : sv_H} (hw : fn_X10_eye x0 h = some (r, hE)) : sv_same h hE := fr_X10_eye_0 (sv_same.refl h) r hE hw

theorem fr_X12_walkerOf_0 {h0 : sv_H} {x0 : Nat} {x1 : Int32} {h : sv_H} (hs : sv_same h0 h) : sv_fr sv_same h0 (fn_X12_walkerOf x0 x1 h) := by
  unfold fn_X12_walkerOf
  refine fr_if ?_ fr_no
  refine fr_cl (fun _ _ e => hs.trans (fr_X12_hasMap e)) (fun _ h hs => ?_)
  refine fr_if ?_ ?_
  · exact fr_rt hs
  · refine fr_if ?_ ?_
    · refine fr_bd (fun _ => ?_)
      refine fr_bd (fun _ => ?_)
      exact fr_rt hs
    refine fr_if ?_ ?_
    · refine fr_bd (fun _ => ?_)
      refine fr_bd (fun _ => ?_)
      exact fr_rt hs
    refine fr_if ?_ ?_
    · refine fr_bd (fun _ => ?_)
      refine fr_bd (fun _ => ?_)
      exact fr_rt hs
    refine fr_if ?_ ?_
    · refine fr_bd (fun _ => ?_)
      refine fr_bd (fun _ => ?_)
      exact fr_rt hs
    refine fr_if ?_ ?_
    · refine fr_bd (fun _ => ?_)
      refine fr_cl (fun _ _ e => hs.trans (fr_X10_eye e)) (fun _ h hs => ?_)
      exact fr_rt hs
    refine fr_if ?_ ?_
    · refine fr_bd (fun _ => ?_)
      refine fr_bd (fun _ => ?_)
      exact fr_rt hs
    exact fr_rt hs
theorem fr_X12_walkerOf {x0 : Nat} {x1 : Int32} {h : sv_H} {r : Int32} {hE : sv_H} (hw : fn_X12_walkerOf x0 x1 h = some (r, hE)) : sv_same h hE := fr_X12_walkerOf_0 (sv_same.refl h) r hE hw

theorem fr_X17_eye_0 {h0 : sv_H} {x0 : Nat} {h : sv_H} (hs : sv_same h0 h) : sv_fr sv_same h0 (fn_X17_eye x0 h) := by
  unfold fn_X17_eye
  refine fr_if ?_ fr_no
  refine fr_bd (fun _ => ?_)
  refine fr_bd (fun _ => ?_)
  refine fr_bd (fun _ => ?_)
  refine fr_bd (fun _ => ?_)
  exact fr_rt hs
theorem fr_X17_eye {x0 : Nat} {h : sv_H} {r : Int32} {hE : sv_H} (hw : fn_X17_eye x0 h = some (r, hE)) : sv_same h hE := fr_X17_eye_0 (sv_same.refl h) r hE hw

theorem fr_X17_walkerOf_0 {h0 : sv_H} {x0 : Nat} {x1 : Int32} {h : sv_H} (hs : sv_same h0 h) : sv_fr sv_same h0 (fn_X17_walkerOf x0 x1 h) := by
  unfold fn_X17_walkerOf
  refine fr_if ?_ fr_no
  refine fr_st (fun _ e => hs.trans (st_pI e)) (fun h hs => ?_)
  refine fr_bd (fun _ => ?_)
  refine fr_if ?_ ?_
  · exact fr_rt hs
  · refine fr_if ?_ ?_
    · refine fr_bd (fun _ => ?_)
      exact fr_rt hs
    refine fr_if ?_ ?_
    · refine fr_bd (fun _ => ?_)
      exact fr_rt hs
    refine fr_if ?_ ?_
    · refine fr_bd (fun _ => ?_)
      exact fr_rt hs
    refine fr_if ?_ ?_
    · refine fr_bd (fun _ => ?_)
      exact fr_rt hs
    refine fr_if ?_ ?_
    · refine fr_cl (fun _ _ e => hs.trans (fr_X17_eye e)) (fun _ h hs => ?_)
      exact fr_rt hs
    refine fr_if ?_ ?_
    · refine fr_bd (fun _ => ?_)
      refine fr_bd (fun _ => ?_)
      exact fr_rt hs
    exact fr_rt hs
theorem fr_X17_walkerOf {x0 : Nat} {x1 : Int32} {h : sv_H} {r : Int32} {hE : sv_H} (hw : fn_X17_walkerOf x0 x1 h = some (r, hE)) : sv_same h hE := fr_X17_walkerOf_0 (sv_same.refl h) r hE hw

theorem fr_X2_moverCount_28 {h0 : sv_H} {k4 : Nat → Int32 → Int32 → sv_H → Option (Int32 × sv_H)} (hk4 : ∀ {x0 : Nat} {x1 : Int32} {x2 : Int32} {h : sv_H}, sv_same h0 h → sv_fr sv_same h0 (k4 x0 x1 x2 h)) {x0 : Nat} {x1 : Int32} {x2 : Int32} {h : sv_H} (hs : sv_same h0 h) : sv_fr sv_same h0 (fn_X2_moverCount_28 k4 x0 x1 x2 h) := by
  unfold fn_X2_moverCount_28
  exact hk4 hs
theorem fr_X2_moverCount_4b {h0 : sv_H} {k4 : Nat → Int32 → Int32 → sv_H → Option (Int32 × sv_H)} (hk4 : ∀ {x0 : Nat} {x1 : Int32} {x2 : Int32} {h : sv_H}, sv_same h0 h → sv_fr sv_same h0 (k4 x0 x1 x2 h)) {x0 : Nat} {x1 : Int32} {x2 : Int32} {h : sv_H} (hs : sv_same h0 h) : sv_fr sv_same h0 (fn_X2_moverCount_4b k4 x0 x1 x2 h) := by
  unfold fn_X2_moverCount_4b
  refine fr_bd (fun _ => ?_)
  refine fr_if ?_ ?_
  · exact fr_rt hs
  · refine fr_bd (fun _ => ?_)
    refine fr_bd (fun _ => ?_)
    refine fr_bd (fun _ => ?_)
    refine fr_if ?_ ?_
    · exact fr_X2_moverCount_28 hk4 hs
    · exact fr_X2_moverCount_28 hk4 hs
theorem fr_X2_moverCount_4 {h0 : sv_H} : ∀ (n : Nat) {x0 : Nat} {x1 : Int32} {x2 : Int32} {h : sv_H}, sv_same h0 h → sv_fr sv_same h0 (fn_X2_moverCount_4 n x0 x1 x2 h) := by
  intro n
  induction n with
  | zero => intro x0 x1 x2 h hs r hE e; cases (show (none : Option (Int32 × sv_H)) = some (r, hE) from e)
  | succ n ih => intro x0 x1 x2 h hs; exact fr_X2_moverCount_4b (fun hs => ih hs) hs
theorem fr_X2_moverCount_0 {h0 : sv_H} {x0 : Nat} {h : sv_H} (hs : sv_same h0 h) : sv_fr sv_same h0 (fn_X2_moverCount x0 h) := by
  unfold fn_X2_moverCount
  refine fr_if ?_ fr_no
  exact fr_X2_moverCount_4 sv_fuel hs
theorem fr_X2_moverCount {x0 : Nat} {h : sv_H} {r : Int32} {hE : sv_H} (hw : fn_X2_moverCount x0 h = some (r, hE)) : sv_same h hE := fr_X2_moverCount_0 (sv_same.refl h) r hE hw

theorem fr_X2_lightIn_53 {h0 : sv_H} {s0 : Int32} {h : sv_H} (hs : sv_same h0 h) : sv_fr sv_same h0 (fn_X2_lightIn_53 s0 h) := by
  unfold fn_X2_lightIn_53
  exact fr_rt hs
theorem fr_X2_lightIn_71 {h0 : sv_H} {s0 : Int32} {h : sv_H} (hs : sv_same h0 h) : sv_fr sv_same h0 (fn_X2_lightIn_71 s0 h) := by
  unfold fn_X2_lightIn_71
  exact fr_rt hs
theorem fr_X2_lightIn_0 {h0 : sv_H} {x0 : Nat} {x1 : Nat} {x2 : Int32} {h : sv_H} (hs : sv_same h0 h) : sv_fr sv_same h0 (fn_X2_lightIn x0 x1 x2 h) := by
  unfold fn_X2_lightIn
  refine fr_if ?_ fr_no
  refine fr_bd (fun _ => ?_)
  refine fr_if ?_ ?_
  · refine fr_if ?_ ?_
    · refine fr_bd (fun _ => ?_)
      exact fr_X2_lightIn_53 hs
    · refine fr_bd (fun _ => ?_)
      exact fr_X2_lightIn_53 hs
  refine fr_if ?_ ?_
  · refine fr_if ?_ ?_
    · refine fr_bd (fun _ => ?_)
      exact fr_X2_lightIn_71 hs
    · exact fr_X2_lightIn_71 hs
  refine fr_if ?_ ?_
  · refine fr_bd (fun _ => ?_)
    refine fr_cl (fun _ _ e => hs.trans (fr_X2_moverCount e)) (fun _ h hs => ?_)
    refine fr_let (fun _ => ?_)
    exact fr_rt hs
  refine fr_bd (fun _ => ?_)
  exact fr_rt hs
theorem fr_X2_lightIn {x0 : Nat} {x1 : Nat} {x2 : Int32} {h : sv_H} {r : Int32} {hE : sv_H} (hw : fn_X2_lightIn x0 x1 x2 h = some (r, hE)) : sv_same h hE := fr_X2_lightIn_0 (sv_same.refl h) r hE hw

theorem fr_X12_sectorOf_15 {h0 : sv_H} {h : sv_H} (hs : sv_same h0 h) : sv_fr sv_same h0 (fn_X12_sectorOf_15 h) := by
  unfold fn_X12_sectorOf_15
  exact fr_rt hs
theorem fr_X12_sectorOf_0 {h0 : sv_H} {x0 : Nat} {x1 : Int32} {x2 : Int32} {h : sv_H} (hs : sv_same h0 h) : sv_fr sv_same h0 (fn_X12_sectorOf x0 x1 x2 h) := by
  unfold fn_X12_sectorOf
  refine fr_if ?_ fr_no
  refine fr_cl (fun _ _ e => hs.trans (fr_X12_hasMap e)) (fun _ h hs => ?_)
  refine fr_if ?_ ?_
  · exact fr_X12_sectorOf_15 hs
  · refine fr_cl (fun _ _ e => hs.trans (fr_X12_isSector e)) (fun _ h hs => ?_)
    refine fr_if ?_ ?_
    · exact fr_X12_sectorOf_15 hs
    · refine fr_bd (fun _ => ?_)
      refine fr_bd (fun _ => ?_)
      refine fr_bd (fun _ => ?_)
      refine fr_if ?_ ?_
      · refine fr_bd (fun _ => ?_)
        exact fr_rt hs
      refine fr_if ?_ ?_
      · refine fr_bd (fun _ => ?_)
        exact fr_rt hs
      refine fr_if ?_ ?_
      · refine fr_bd (fun _ => ?_)
        refine fr_bd (fun _ => ?_)
        refine fr_bd (fun _ => ?_)
        refine fr_cl (fun _ _ e => hs.trans (fr_X2_lightIn e)) (fun _ h hs => ?_)
        exact fr_rt hs
      refine fr_if ?_ ?_
      · refine fr_bd (fun _ => ?_)
        exact fr_rt hs
      refine fr_if ?_ ?_
      · refine fr_bd (fun _ => ?_)
        exact fr_rt hs
      exact fr_rt hs
theorem fr_X12_sectorOf {x0 : Nat} {x1 : Int32} {x2 : Int32} {h : sv_H} {r : Int32} {hE : sv_H} (hw : fn_X12_sectorOf x0 x1 x2 h = some (r, hE)) : sv_same h hE := fr_X12_sectorOf_0 (sv_same.refl h) r hE hw

theorem fr_X13_many_27 {h0 : sv_H} {k4 : Nat → Int32 → Int32 → sv_H → Option (Int32 × sv_H)} (hk4 : ∀ {x0 : Nat} {x1 : Int32} {x2 : Int32} {h : sv_H}, sv_same h0 h → sv_fr sv_same h0 (k4 x0 x1 x2 h)) {x0 : Nat} {x2 : Int32} {s0 : Int32} {s1 : Int32} {h : sv_H} (hs : sv_same h0 h) : sv_fr sv_same h0 (fn_X13_many_27 k4 x0 x2 s0 s1 h) := by
  unfold fn_X13_many_27
  exact hk4 hs
theorem fr_X13_many_4b {h0 : sv_H} {k4 : Nat → Int32 → Int32 → sv_H → Option (Int32 × sv_H)} (hk4 : ∀ {x0 : Nat} {x1 : Int32} {x2 : Int32} {h : sv_H}, sv_same h0 h → sv_fr sv_same h0 (k4 x0 x1 x2 h)) {x0 : Nat} {x1 : Int32} {x2 : Int32} {h : sv_H} (hs : sv_same h0 h) : sv_fr sv_same h0 (fn_X13_many_4b k4 x0 x1 x2 h) := by
  unfold fn_X13_many_4b
  refine fr_bd (fun _ => ?_)
  refine fr_if ?_ ?_
  · exact fr_rt hs
  · refine fr_bd (fun _ => ?_)
    refine fr_bd (fun _ => ?_)
    refine fr_if ?_ ?_
    · exact fr_X13_many_27 hk4 hs
    · exact fr_X13_many_27 hk4 hs
theorem fr_X13_many_4 {h0 : sv_H} : ∀ (n : Nat) {x0 : Nat} {x1 : Int32} {x2 : Int32} {h : sv_H}, sv_same h0 h → sv_fr sv_same h0 (fn_X13_many_4 n x0 x1 x2 h) := by
  intro n
  induction n with
  | zero => intro x0 x1 x2 h hs r hE e; cases (show (none : Option (Int32 × sv_H)) = some (r, hE) from e)
  | succ n ih => intro x0 x1 x2 h hs; exact fr_X13_many_4b (fun hs => ih hs) hs
theorem fr_X13_many_0 {h0 : sv_H} {x0 : Nat} {h : sv_H} (hs : sv_same h0 h) : sv_fr sv_same h0 (fn_X13_many x0 h) := by
  unfold fn_X13_many
  refine fr_if ?_ fr_no
  exact fr_X13_many_4 sv_fuel hs
theorem fr_X13_many {x0 : Nat} {h : sv_H} {r : Int32} {hE : sv_H} (hw : fn_X13_many x0 h = some (r, hE)) : sv_same h hE := fr_X13_many_0 (sv_same.refl h) r hE hw

theorem fr_X13_lightOf_66 {h0 : sv_H} {s0 : Int32} {h : sv_H} (hs : sv_same h0 h) : sv_fr sv_same h0 (fn_X13_lightOf_66 s0 h) := by
  unfold fn_X13_lightOf_66
  exact fr_rt hs
theorem fr_X13_lightOf_84 {h0 : sv_H} {s0 : Int32} {h : sv_H} (hs : sv_same h0 h) : sv_fr sv_same h0 (fn_X13_lightOf_84 s0 h) := by
  unfold fn_X13_lightOf_84
  exact fr_rt hs
theorem fr_X13_lightOf_94 {h0 : sv_H} {s0 : Int32} {h : sv_H} (hs : sv_same h0 h) : sv_fr sv_same h0 (fn_X13_lightOf_94 s0 h) := by
  unfold fn_X13_lightOf_94
  exact fr_rt hs
theorem fr_X13_lightOf_0 {h0 : sv_H} {x0 : Nat} {x1 : Int32} {h : sv_H} (hs : sv_same h0 h) : sv_fr sv_same h0 (fn_X13_lightOf x0 x1 h) := by
  unfold fn_X13_lightOf
  refine fr_if ?_ fr_no
  refine fr_bd (fun _ => ?_)
  refine fr_bd (fun _ => ?_)
  refine fr_cl (fun _ _ e => hs.trans (fr_X13_many e)) (fun _ h hs => ?_)
  refine fr_bd (fun _ => ?_)
  refine fr_bd (fun _ => ?_)
  refine fr_if ?_ ?_
  · refine fr_bd (fun _ => ?_)
    refine fr_if ?_ ?_
    · exact fr_X13_lightOf_66 hs
    · exact fr_X13_lightOf_66 hs
  refine fr_if ?_ ?_
  · refine fr_bd (fun _ => ?_)
    refine fr_if ?_ ?_
    · exact fr_X13_lightOf_84 hs
    · exact fr_X13_lightOf_84 hs
  refine fr_if ?_ ?_
  · refine fr_if ?_ ?_
    · exact fr_X13_lightOf_94 hs
    · exact fr_X13_lightOf_94 hs
  exact fr_rt hs
theorem fr_X13_lightOf {x0 : Nat} {x1 : Int32} {h : sv_H} {r : Int32} {hE : sv_H} (hw : fn_X13_lightOf x0 x1 h = some (r, hE)) : sv_same h hE := fr_X13_lightOf_0 (sv_same.refl h) r hE hw

theorem fr_X13_of_0 {h0 : sv_H} {x0 : Nat} {x1 : Int32} {x2 : Int32} {h : sv_H} (hs : sv_same h0 h) : sv_fr sv_same h0 (fn_X13_of x0 x1 x2 h) := by
  unfold fn_X13_of
  refine fr_if ?_ fr_no
  refine fr_cl (fun _ _ e => hs.trans (fr_X13_isSector e)) (fun _ h hs => ?_)
  refine fr_if ?_ ?_
  · exact fr_rt hs
  · refine fr_if ?_ ?_
    · refine fr_bd (fun _ => ?_)
      refine fr_bd (fun _ => ?_)
      exact fr_rt hs
    refine fr_if ?_ ?_
    · refine fr_bd (fun _ => ?_)
      refine fr_bd (fun _ => ?_)
      exact fr_rt hs
    refine fr_if ?_ ?_
    · refine fr_cl (fun _ _ e => hs.trans (fr_X13_lightOf e)) (fun _ h hs => ?_)
      exact fr_rt hs
    refine fr_if ?_ ?_
    · refine fr_bd (fun _ => ?_)
      refine fr_bd (fun _ => ?_)
      exact fr_rt hs
    refine fr_if ?_ ?_
    · refine fr_bd (fun _ => ?_)
      refine fr_bd (fun _ => ?_)
      exact fr_rt hs
    refine fr_if ?_ ?_
    · refine fr_bd (fun _ => ?_)
      refine fr_bd (fun _ => ?_)
      exact fr_rt hs
    refine fr_if ?_ ?_
    · refine fr_cl (fun _ _ e => hs.trans (fr_X13_lowFloor e)) (fun _ h hs => ?_)
      exact fr_rt hs
    refine fr_if ?_ ?_
    · refine fr_cl (fun _ _ e => hs.trans (fr_X13_highFloor e)) (fun _ h hs => ?_)
      exact fr_rt hs
    refine fr_if ?_ ?_
    · refine fr_cl (fun _ _ e => hs.trans (fr_X13_lowCeiling e)) (fun _ h hs => ?_)
      exact fr_rt hs
    refine fr_if ?_ ?_
    · refine fr_bd (fun _ => ?_)
      refine fr_bd (fun _ => ?_)
      exact fr_rt hs
    exact fr_rt hs
theorem fr_X13_of {x0 : Nat} {x1 : Int32} {x2 : Int32} {h : sv_H} {r : Int32} {hE : sv_H} (hw : fn_X13_of x0 x1 x2 h = some (r, hE)) : sv_same h hE := fr_X13_of_0 (sv_same.refl h) r hE hw

theorem fr_X17_sectorOf_41 {h0 : sv_H} {s0 : Int32} {h : sv_H} (hs : sv_same h0 h) : sv_fr sv_same h0 (fn_X17_sectorOf_41 s0 h) := by
  unfold fn_X17_sectorOf_41
  exact fr_rt hs
theorem fr_X17_sectorOf_26 {h0 : sv_H} {h : sv_H} (hs : sv_same h0 h) : sv_fr sv_same h0 (fn_X17_sectorOf_26 h) := by
  unfold fn_X17_sectorOf_26
  exact fr_X17_sectorOf_41 hs
theorem fr_X17_sectorOf_0 {h0 : sv_H} {x0 : Nat} {x1 : Int32} {x2 : Int32} {h : sv_H} (hs : sv_same h0 h) : sv_fr sv_same h0 (fn_X17_sectorOf x0 x1 x2 h) := by
  unfold fn_X17_sectorOf
  refine fr_if ?_ fr_no
  refine fr_st (fun _ e => hs.trans (st_pI e)) (fun h hs => ?_)
  refine fr_if ?_ ?_
  · exact fr_X17_sectorOf_26 hs
  · refine fr_cl (fun _ _ e => hs.trans (fr_X17_sectors e)) (fun _ h hs => ?_)
    refine fr_if ?_ ?_
    · exact fr_X17_sectorOf_26 hs
    · refine fr_if ?_ ?_
      · exact fr_X17_sectorOf_26 hs
      · refine fr_if ?_ ?_
        · refine fr_bd (fun _ => ?_)
          refine fr_cl (fun _ _ e => hs.trans (fr_X13_of e)) (fun _ h hs => ?_)
          exact fr_X17_sectorOf_41 hs
        · exact fr_X17_sectorOf_26 hs
theorem fr_X17_sectorOf {x0 : Nat} {x1 : Int32} {x2 : Int32} {h : sv_H} {r : Int32} {hE : sv_H} (hw : fn_X17_sectorOf x0 x1 x2 h = some (r, hE)) : sv_same h hE := fr_X17_sectorOf_0 (sv_same.refl h) r hE hw

theorem fr_X12_isSeen_22 {h0 : sv_H} {s0 : Int32} {h : sv_H} (hs : sv_same h0 h) : sv_fr sv_same h0 (fn_X12_isSeen_22 s0 h) := by
  unfold fn_X12_isSeen_22
  exact fr_rz hs
theorem fr_X12_isSeen_21 {h0 : sv_H} {h : sv_H} (hs : sv_same h0 h) : sv_fr sv_same h0 (fn_X12_isSeen_21 h) := by
  unfold fn_X12_isSeen_21
  exact fr_X12_isSeen_22 hs
theorem fr_X12_isSeen_0 {h0 : sv_H} {x0 : Nat} {x1 : Int32} {h : sv_H} (hs : sv_same h0 h) : sv_fr sv_same h0 (fn_X12_isSeen x0 x1 h) := by
  unfold fn_X12_isSeen
  refine fr_if ?_ fr_no
  refine fr_cl (fun _ _ e => hs.trans (fr_X12_hasMap e)) (fun _ h hs => ?_)
  refine fr_if ?_ ?_
  · exact fr_X12_isSeen_21 hs
  · refine fr_if ?_ ?_
    · exact fr_X12_isSeen_21 hs
    · refine fr_if ?_ ?_
      · exact fr_X12_isSeen_21 hs
      · exact fr_X12_isSeen_22 hs
theorem fr_X12_isSeen {x0 : Nat} {x1 : Int32} {h : sv_H} {r : Int32} {hE : sv_H} (hw : fn_X12_isSeen x0 x1 h = some (r, hE)) : sv_same h hE := fr_X12_isSeen_0 (sv_same.refl h) r hE hw

theorem fr_X3_meetAll_7b {h0 : sv_H} {k7 : Nat → Nat → Int32 → sv_H → Option (Unit × sv_H)} (hk7 : ∀ {x0 : Nat} {x1 : Nat} {x2 : Int32} {h : sv_H}, sv_same h0 h → sv_fr sv_same h0 (k7 x0 x1 x2 h)) {x0 : Nat} {x1 : Nat} {x2 : Int32} {h : sv_H} (hs : sv_same h0 h) : sv_fr sv_same h0 (fn_X3_meetAll_7b k7 x0 x1 x2 h) := by
  unfold fn_X3_meetAll_7b
  refine fr_bd (fun _ => ?_)
  refine fr_if ?_ ?_
  · exact fr_rt hs
  · refine fr_bd (fun _ => ?_)
    refine fr_bd (fun _ => ?_)
    refine fr_cl (fun _ _ e => hs.trans (fr_X3_meet e)) (fun _ h hs => ?_)
    exact hk7 hs
theorem fr_X3_meetAll_7 {h0 : sv_H} : ∀ (n : Nat) {x0 : Nat} {x1 : Nat} {x2 : Int32} {h : sv_H}, sv_same h0 h → sv_fr sv_same h0 (fn_X3_meetAll_7 n x0 x1 x2 h) := by
  intro n
  induction n with
  | zero => intro x0 x1 x2 h hs r hE e; cases (show (none : Option (Unit × sv_H)) = some (r, hE) from e)
  | succ n ih => intro x0 x1 x2 h hs; exact fr_X3_meetAll_7b (fun hs => ih hs) hs
theorem fr_X3_meetAll_0 {h0 : sv_H} {x0 : Nat} {x1 : Nat} {h : sv_H} (hs : sv_same h0 h) : sv_fr sv_same h0 (fn_X3_meetAll x0 x1 h) := by
  unfold fn_X3_meetAll
  refine fr_if ?_ fr_no
  refine fr_st (fun _ e => hs.trans (st_pI e)) (fun h hs => ?_)
  exact fr_X3_meetAll_7 sv_fuel hs
theorem fr_X3_meetAll {x0 : Nat} {x1 : Nat} {h : sv_H} {r : Unit} {hE : sv_H} (hw : fn_X3_meetAll x0 x1 h = some (r, hE)) : sv_same h hE := fr_X3_meetAll_0 (sv_same.refl h) r hE hw

theorem fr_X9_rowOf_0 {h0 : sv_H} {x0 : Nat} {x1 : Int32} {x2 : Int32} {h : sv_H} (hs : sv_same h0 h) : sv_fr sv_same h0 (fn_X9_rowOf x0 x1 x2 h) := by
  unfold fn_X9_rowOf
  refine fr_if ?_ fr_no
  refine fr_bd (fun _ => ?_)
  refine fr_bd (fun _ => ?_)
  refine fr_bd (fun _ => ?_)
  refine fr_bd (fun _ => ?_)
  refine fr_bd (fun _ => ?_)
  refine fr_bd (fun _ => ?_)
  refine fr_bd (fun _ => ?_)
  refine fr_cl (fun _ _ e => hs.trans (fr_J9_floorDiv_f86c9 e)) (fun _ h hs => ?_)
  exact fr_rt hs
theorem fr_X9_rowOf {x0 : Nat} {x1 : Int32} {x2 : Int32} {h : sv_H} {r : Int64} {hE : sv_H} (hw : fn_X9_rowOf x0 x1 x2 h = some (r, hE)) : sv_same h hE := fr_X9_rowOf_0 (sv_same.refl h) r hE hw

theorem fr_X9_between_0 {h0 : sv_H} {x0 : Int64} {x2 : Int32} {x3 : Int32} {h : sv_H} (hs : sv_same h0 h) : sv_fr sv_same h0 (fn_X9_between x0 x2 x3 h) := by
  unfold fn_X9_between
  refine fr_let (fun _ => ?_)
  refine fr_let (fun _ => ?_)
  exact fr_rt hs
theorem fr_X9_between {x0 : Int64} {x2 : Int32} {x3 : Int32} {h : sv_H} {r : Int32} {hE : sv_H} (hw : fn_X9_between x0 x2 x3 h = some (r, hE)) : sv_same h hE := fr_X9_between_0 (sv_same.refl h) r hE hw

theorem fr_X2_texel_0 {h0 : sv_H} {x0 : Nat} {x1 : Int32} {x2 : Int64} {x4 : Int64} {h : sv_H} (hs : sv_same h0 h) : sv_fr sv_same h0 (fn_X2_texel x0 x1 x2 x4 h) := by
  unfold fn_X2_texel
  refine fr_if ?_ fr_no
  refine fr_if ?_ ?_
  · exact fr_rt hs
  · refine fr_bd (fun _ => ?_)
    refine fr_bd (fun _ => ?_)
    refine fr_bd (fun _ => ?_)
    refine fr_bd (fun _ => ?_)
    refine fr_bd (fun _ => ?_)
    refine fr_bd (fun _ => ?_)
    refine fr_bd (fun _ => ?_)
    refine fr_bd (fun _ => ?_)
    refine fr_bd (fun _ => ?_)
    refine fr_bd (fun _ => ?_)
    refine fr_bd (fun _ => ?_)
    exact fr_rt hs
theorem fr_X2_texel {x0 : Nat} {x1 : Int32} {x2 : Int64} {x4 : Int64} {h : sv_H} {r : Int32} {hE : sv_H} (hw : fn_X2_texel x0 x1 x2 x4 h = some (r, hE)) : sv_same h hE := fr_X2_texel_0 (sv_same.refl h) r hE hw

theorem fr_X9_paintPlane_46 {h0 : sv_H} {k3 : Nat → Nat → Int32 → Int32 → Int32 → Int32 → Int32 → sv_H → Option (Unit × sv_H)} (hk3 : ∀ {x0 : Nat} {x1 : Nat} {x3 : Int32} {x4 : Int32} {x5 : Int32} {x6 : Int32} {x7 : Int32} {h : sv_H}, sv_same h0 h → sv_fr sv_same h0 (k3 x0 x1 x3 x4 x5 x6 x7 h)) {x0 : Nat} {x1 : Nat} {x3 : Int32} {x4 : Int32} {x5 : Int32} {x6 : Int32} {x7 : Int32} {x8 : Int64} {x10 : Int64} {h : sv_H} (hs : sv_same h0 h) : sv_fr sv_same h0 (fn_X9_paintPlane_46 k3 x0 x1 x3 x4 x5 x6 x7 x8 x10 h) := by
  unfold fn_X9_paintPlane_46
  refine fr_bd (fun _ => ?_)
  refine fr_bd (fun _ => ?_)
  refine fr_bd (fun _ => ?_)
  refine fr_bd (fun _ => ?_)
  refine fr_cl (fun _ _ e => hs.trans (fr_J9_floorDiv_f86c9 e)) (fun _ h hs => ?_)
  refine fr_bd (fun _ => ?_)
  refine fr_bd (fun _ => ?_)
  refine fr_bd (fun _ => ?_)
  refine fr_bd (fun _ => ?_)
  refine fr_cl (fun _ _ e => hs.trans (fr_J9_floorDiv_f86c9 e)) (fun _ h hs => ?_)
  refine fr_cl (fun _ _ e => hs.trans (fr_J9_floorDiv_f86c9 e)) (fun _ h hs => ?_)
  refine fr_let (fun _ => ?_)
  refine fr_bd (fun _ => ?_)
  refine fr_cl (fun _ _ e => hs.trans (fr_X2_texel e)) (fun _ h hs => ?_)
  refine fr_st (fun _ e => hs.trans (st_sI e)) (fun h hs => ?_)
  exact hk3 hs
theorem fr_X9_paintPlane_3b {h0 : sv_H} {k3 : Nat → Nat → Int32 → Int32 → Int32 → Int32 → Int32 → sv_H → Option (Unit × sv_H)} (hk3 : ∀ {x0 : Nat} {x1 : Nat} {x3 : Int32} {x4 : Int32} {x5 : Int32} {x6 : Int32} {x7 : Int32} {h : sv_H}, sv_same h0 h → sv_fr sv_same h0 (k3 x0 x1 x3 x4 x5 x6 x7 h)) {x0 : Nat} {x1 : Nat} {x3 : Int32} {x4 : Int32} {x5 : Int32} {x6 : Int32} {x7 : Int32} {h : sv_H} (hs : sv_same h0 h) : sv_fr sv_same h0 (fn_X9_paintPlane_3b k3 x0 x1 x3 x4 x5 x6 x7 h) := by
  unfold fn_X9_paintPlane_3b
  refine fr_if ?_ ?_
  · exact fr_rt hs
  · refine fr_bd (fun _ => ?_)
    refine fr_if ?_ ?_
    · exact fr_X9_paintPlane_46 hk3 hs
    · exact fr_X9_paintPlane_46 hk3 hs
theorem fr_X9_paintPlane_3 {h0 : sv_H} : ∀ (n : Nat) {x0 : Nat} {x1 : Nat} {x3 : Int32} {x4 : Int32} {x5 : Int32} {x6 : Int32} {x7 : Int32} {h : sv_H}, sv_same h0 h → sv_fr sv_same h0 (fn_X9_paintPlane_3 n x0 x1 x3 x4 x5 x6 x7 h) := by
  intro n
  induction n with
  | zero => intro x0 x1 x3 x4 x5 x6 x7 h hs r hE e; cases (show (none : Option (Unit × sv_H)) = some (r, hE) from e)
  | succ n ih => intro x0 x1 x3 x4 x5 x6 x7 h hs; exact fr_X9_paintPlane_3b (fun hs => ih hs) hs
theorem fr_X9_paintPlane_0 {h0 : sv_H} {x0 : Nat} {x1 : Nat} {x2 : Int32} {x3 : Int32} {x4 : Int32} {x5 : Int32} {x6 : Int32} {h : sv_H} (hs : sv_same h0 h) : sv_fr sv_same h0 (fn_X9_paintPlane x0 x1 x2 x3 x4 x5 x6 h) := by
  unfold fn_X9_paintPlane
  refine fr_if ?_ fr_no
  exact fr_X9_paintPlane_3 sv_fuel hs
theorem fr_X9_paintPlane {x0 : Nat} {x1 : Nat} {x2 : Int32} {x3 : Int32} {x4 : Int32} {x5 : Int32} {x6 : Int32} {h : sv_H} {r : Unit} {hE : sv_H} (hw : fn_X9_paintPlane x0 x1 x2 x3 x4 x5 x6 h = some (r, hE)) : sv_same h hE := fr_X9_paintPlane_0 (sv_same.refl h) r hE hw

theorem fr_X9_markRows_3b {h0 : sv_H} {k3 : Nat → Int32 → Int32 → Int32 → sv_H → Option (Unit × sv_H)} (hk3 : ∀ {x0 : Nat} {x2 : Int32} {x3 : Int32} {x4 : Int32} {h : sv_H}, sv_same h0 h → sv_fr sv_same h0 (k3 x0 x2 x3 x4 h)) {x0 : Nat} {x2 : Int32} {x3 : Int32} {x4 : Int32} {h : sv_H} (hs : sv_same h0 h) : sv_fr sv_same h0 (fn_X9_markRows_3b k3 x0 x2 x3 x4 h) := by
  unfold fn_X9_markRows_3b
  refine fr_if ?_ ?_
  · exact fr_rt hs
  · refine fr_bd (fun _ => ?_)
    refine fr_st (fun _ e => hs.trans (st_sI e)) (fun h hs => ?_)
    exact hk3 hs
theorem fr_X9_markRows_3 {h0 : sv_H} : ∀ (n : Nat) {x0 : Nat} {x2 : Int32} {x3 : Int32} {x4 : Int32} {h : sv_H}, sv_same h0 h → sv_fr sv_same h0 (fn_X9_markRows_3 n x0 x2 x3 x4 h) := by
  intro n
  induction n with
  | zero => intro x0 x2 x3 x4 h hs r hE e; cases (show (none : Option (Unit × sv_H)) = some (r, hE) from e)
  | succ n ih => intro x0 x2 x3 x4 h hs; exact fr_X9_markRows_3b (fun hs => ih hs) hs
theorem fr_X9_markRows_0 {h0 : sv_H} {x0 : Nat} {x1 : Int32} {x2 : Int32} {x3 : Int32} {h : sv_H} (hs : sv_same h0 h) : sv_fr sv_same h0 (fn_X9_markRows x0 x1 x2 x3 h) := by
  unfold fn_X9_markRows
  refine fr_if ?_ fr_no
  exact fr_X9_markRows_3 sv_fuel hs
theorem fr_X9_markRows {x0 : Nat} {x1 : Int32} {x2 : Int32} {x3 : Int32} {h : sv_H} {r : Unit} {hE : sv_H} (hw : fn_X9_markRows x0 x1 x2 x3 h = some (r, hE)) : sv_same h hE := fr_X9_markRows_0 (sv_same.refl h) r hE hw

theorem fr_X9_paintCeiling_60b {h0 : sv_H} {k60 : Nat → Int32 → Int32 → Int32 → sv_H → Option (Unit × sv_H)} (hk60 : ∀ {x0 : Nat} {x2 : Int32} {x3 : Int32} {x6 : Int32} {h : sv_H}, sv_same h0 h → sv_fr sv_same h0 (k60 x0 x2 x3 x6 h)) {x0 : Nat} {x2 : Int32} {x3 : Int32} {x6 : Int32} {h : sv_H} (hs : sv_same h0 h) : sv_fr sv_same h0 (fn_X9_paintCeiling_60b k60 x0 x2 x3 x6 h) := by
  unfold fn_X9_paintCeiling_60b
  refine fr_if ?_ ?_
  · refine fr_bd (fun _ => ?_)
    refine fr_cl (fun _ _ e => hs.trans (fr_X9_markRows e)) (fun _ h hs => ?_)
    exact fr_rt hs
  · refine fr_bd (fun _ => ?_)
    refine fr_st (fun _ e => hs.trans (st_sI e)) (fun h hs => ?_)
    exact hk60 hs
theorem fr_X9_paintCeiling_60 {h0 : sv_H} : ∀ (n : Nat) {x0 : Nat} {x2 : Int32} {x3 : Int32} {x6 : Int32} {h : sv_H}, sv_same h0 h → sv_fr sv_same h0 (fn_X9_paintCeiling_60 n x0 x2 x3 x6 h) := by
  intro n
  induction n with
  | zero => intro x0 x2 x3 x6 h hs r hE e; cases (show (none : Option (Unit × sv_H)) = some (r, hE) from e)
  | succ n ih => intro x0 x2 x3 x6 h hs; exact fr_X9_paintCeiling_60b (fun hs => ih hs) hs
theorem fr_X9_paintCeiling_0 {h0 : sv_H} {x0 : Nat} {x1 : Nat} {x2 : Int32} {x3 : Int32} {x4 : Int32} {h : sv_H} (hs : sv_same h0 h) : sv_fr sv_same h0 (fn_X9_paintCeiling x0 x1 x2 x3 x4 h) := by
  unfold fn_X9_paintCeiling
  refine fr_if ?_ fr_no
  refine fr_bd (fun _ => ?_)
  refine fr_bd (fun _ => ?_)
  refine fr_bd (fun _ => ?_)
  refine fr_if ?_ ?_
  · refine fr_bd (fun _ => ?_)
    exact fr_X9_paintCeiling_60 sv_fuel hs
  · refine fr_bd (fun _ => ?_)
    refine fr_bd (fun _ => ?_)
    refine fr_bd (fun _ => ?_)
    refine fr_cl (fun _ _ e => hs.trans (fr_X9_paintPlane e)) (fun _ h hs => ?_)
    refine fr_bd (fun _ => ?_)
    refine fr_cl (fun _ _ e => hs.trans (fr_X9_markRows e)) (fun _ h hs => ?_)
    exact fr_rt hs
theorem fr_X9_paintCeiling {x0 : Nat} {x1 : Nat} {x2 : Int32} {x3 : Int32} {x4 : Int32} {h : sv_H} {r : Unit} {hE : sv_H} (hw : fn_X9_paintCeiling x0 x1 x2 x3 x4 h = some (r, hE)) : sv_same h hE := fr_X9_paintCeiling_0 (sv_same.refl h) r hE hw

theorem fr_X11_length_0 {h0 : sv_H} {x0 : Nat} {h : sv_H} (hs : sv_same h0 h) : sv_fr sv_same h0 (fn_X11_length x0 h) := by
  unfold fn_X11_length
  refine fr_if ?_ fr_no
  refine fr_bd (fun _ => ?_)
  refine fr_bd (fun _ => ?_)
  refine fr_let (fun _ => ?_)
  refine fr_bd (fun _ => ?_)
  refine fr_bd (fun _ => ?_)
  refine fr_let (fun _ => ?_)
  refine fr_let (fun _ => ?_)
  exact fr_rt hs
theorem fr_X11_length {x0 : Nat} {h : sv_H} {r : Int32} {hE : sv_H} (hw : fn_X11_length x0 h = some (r, hE)) : sv_same h hE := fr_X11_length_0 (sv_same.refl h) r hE hw

theorem fr_X9_acrossAt_33 {h0 : sv_H} {x0 : Nat} {x1 : Nat} {x2 : Int32} {s0 : Int64} {h : sv_H} (hs : sv_same h0 h) : sv_fr sv_same h0 (fn_X9_acrossAt_33 x0 x1 x2 s0 h) := by
  unfold fn_X9_acrossAt_33
  refine fr_cl (fun _ _ e => hs.trans (fr_X11_length e)) (fun _ h hs => ?_)
  refine fr_let (fun _ => ?_)
  refine fr_bd (fun _ => ?_)
  refine fr_bd (fun _ => ?_)
  refine fr_bd (fun _ => ?_)
  refine fr_if fr_no ?_
  exact fr_rt hs
theorem fr_X9_acrossAt_0 {h0 : sv_H} {x0 : Nat} {x1 : Nat} {x2 : Int32} {h : sv_H} (hs : sv_same h0 h) : sv_fr sv_same h0 (fn_X9_acrossAt x0 x1 x2 h) := by
  unfold fn_X9_acrossAt
  refine fr_if ?_ fr_no
  refine fr_bd (fun _ => ?_)
  refine fr_bd (fun _ => ?_)
  refine fr_bd (fun _ => ?_)
  refine fr_if ?_ ?_
  · refine fr_bd (fun _ => ?_)
    refine fr_bd (fun _ => ?_)
    refine fr_bd (fun _ => ?_)
    exact fr_X9_acrossAt_33 hs
  · refine fr_bd (fun _ => ?_)
    refine fr_bd (fun _ => ?_)
    refine fr_bd (fun _ => ?_)
    exact fr_X9_acrossAt_33 hs
theorem fr_X9_acrossAt {x0 : Nat} {x1 : Nat} {x2 : Int32} {h : sv_H} {r : Int64} {hE : sv_H} (hw : fn_X9_acrossAt x0 x1 x2 h = some (r, hE)) : sv_same h hE := fr_X9_acrossAt_0 (sv_same.refl h) r hE hw

theorem fr_X2_heightOf_15 {h0 : sv_H} {s0 : Int32} {h : sv_H} (hs : sv_same h0 h) : sv_fr sv_same h0 (fn_X2_heightOf_15 s0 h) := by
  unfold fn_X2_heightOf_15
  exact fr_rt hs
theorem fr_X2_heightOf_0 {h0 : sv_H} {x0 : Nat} {x1 : Int32} {h : sv_H} (hs : sv_same h0 h) : sv_fr sv_same h0 (fn_X2_heightOf x0 x1 h) := by
  unfold fn_X2_heightOf
  refine fr_if ?_ fr_no
  refine fr_if ?_ ?_
  · exact fr_X2_heightOf_15 hs
  · refine fr_bd (fun _ => ?_)
    refine fr_bd (fun _ => ?_)
    exact fr_X2_heightOf_15 hs
theorem fr_X2_heightOf {x0 : Nat} {x1 : Int32} {h : sv_H} {r : Int32} {hE : sv_H} (hw : fn_X2_heightOf x0 x1 h = some (r, hE)) : sv_same h hE := fr_X2_heightOf_0 (sv_same.refl h) r hE hw

theorem fr_X9_anchorOf_142 {h0 : sv_H} {s0 : Int32} {h : sv_H} (hs : sv_same h0 h) : sv_fr sv_same h0 (fn_X9_anchorOf_142 s0 h) := by
  unfold fn_X9_anchorOf_142
  exact fr_rt hs
theorem fr_X9_anchorOf_123 {h0 : sv_H} {s0 : Int32} {h : sv_H} (hs : sv_same h0 h) : sv_fr sv_same h0 (fn_X9_anchorOf_123 s0 h) := by
  unfold fn_X9_anchorOf_123
  exact fr_rt hs
theorem fr_X9_anchorOf_87 {h0 : sv_H} {x2 : Nat} {x3 : Int32} {x5 : Int32} {x6 : Nat} {x7 : Int32} {s0 : Nat} {s1 : Nat} {s2 : Int32} {h : sv_H} (hs : sv_same h0 h) : sv_fr sv_same h0 (fn_X9_anchorOf_87 x2 x3 x5 x6 x7 s0 s1 s2 h) := by
  unfold fn_X9_anchorOf_87
  refine fr_cl (fun _ _ e => hs.trans (fr_X11_sectorOn e)) (fun _ h hs => ?_)
  refine fr_bd (fun _ => ?_)
  refine fr_if ?_ ?_
  · refine fr_bd (fun _ => ?_)
    refine fr_if ?_ ?_
    · refine fr_bd (fun _ => ?_)
      exact fr_X9_anchorOf_123 hs
    · refine fr_bd (fun _ => ?_)
      exact fr_X9_anchorOf_123 hs
  · refine fr_if ?_ ?_
    · refine fr_bd (fun _ => ?_)
      exact fr_X9_anchorOf_142 hs
    · refine fr_bd (fun _ => ?_)
      exact fr_X9_anchorOf_142 hs
theorem fr_X9_anchorOf_63 {h0 : sv_H} {s0 : Int32} {h : sv_H} (hs : sv_same h0 h) : sv_fr sv_same h0 (fn_X9_anchorOf_63 s0 h) := by
  unfold fn_X9_anchorOf_63
  exact fr_rt hs
theorem fr_X9_anchorOf_35 {h0 : sv_H} {x0 : Nat} {x1 : Nat} {x2 : Nat} {x3 : Int32} {x4 : Int32} {x5 : Int32} {x6 : Nat} {s0 : Int32} {h : sv_H} (hs : sv_same h0 h) : sv_fr sv_same h0 (fn_X9_anchorOf_35 x0 x1 x2 x3 x4 x5 x6 s0 h) := by
  unfold fn_X9_anchorOf_35
  refine fr_if ?_ ?_
  · refine fr_if ?_ ?_
    · refine fr_bd (fun _ => ?_)
      exact fr_X9_anchorOf_63 hs
    · refine fr_bd (fun _ => ?_)
      exact fr_X9_anchorOf_63 hs
  · refine fr_bd (fun _ => ?_)
    refine fr_bd (fun _ => ?_)
    refine fr_bd (fun _ => ?_)
    refine fr_bd (fun _ => ?_)
    refine fr_if ?_ ?_
    · exact fr_X9_anchorOf_87 hs
    · exact fr_X9_anchorOf_87 hs
theorem fr_X9_anchorOf_0 {h0 : sv_H} {x0 : Nat} {x1 : Nat} {x2 : Nat} {x3 : Int32} {x4 : Int32} {x5 : Int32} {h : sv_H} (hs : sv_same h0 h) : sv_fr sv_same h0 (fn_X9_anchorOf x0 x1 x2 x3 x4 x5 h) := by
  unfold fn_X9_anchorOf
  refine fr_if ?_ fr_no
  refine fr_bd (fun _ => ?_)
  refine fr_bd (fun _ => ?_)
  refine fr_bd (fun _ => ?_)
  refine fr_bd (fun _ => ?_)
  refine fr_cl (fun _ _ e => hs.trans (fr_X11_sectorOn e)) (fun _ h hs => ?_)
  refine fr_bd (fun _ => ?_)
  refine fr_bd (fun _ => ?_)
  refine fr_if ?_ ?_
  · exact fr_X9_anchorOf_35 hs
  · exact fr_X9_anchorOf_35 hs
theorem fr_X9_anchorOf {x0 : Nat} {x1 : Nat} {x2 : Nat} {x3 : Int32} {x4 : Int32} {x5 : Int32} {h : sv_H} {r : Int32} {hE : sv_H} (hw : fn_X9_anchorOf x0 x1 x2 x3 x4 x5 h = some (r, hE)) : sv_same h hE := fr_X9_anchorOf_0 (sv_same.refl h) r hE hw

theorem fr_X9_paintWall_159b {h0 : sv_H} {k159 : Nat → Nat → Int32 → Int32 → Int32 → Int32 → Int32 → Int64 → Int64 → Int64 → Int32 → sv_H → Option (Unit × sv_H)} (hk159 : ∀ {x0 : Nat} {x1 : Nat} {x2 : Int32} {x3 : Int32} {x4 : Int32} {x5 : Int32} {x9 : Int32} {x10 : Int64} {x12 : Int64} {x14 : Int64} {x16 : Int32} {h : sv_H}, sv_same h0 h → sv_fr sv_same h0 (k159 x0 x1 x2 x3 x4 x5 x9 x10 x12 x14 x16 h)) {x0 : Nat} {x1 : Nat} {x2 : Int32} {x3 : Int32} {x4 : Int32} {x5 : Int32} {x9 : Int32} {x10 : Int64} {x12 : Int64} {x14 : Int64} {x16 : Int32} {h : sv_H} (hs : sv_same h0 h) : sv_fr sv_same h0 (fn_X9_paintWall_159b k159 x0 x1 x2 x3 x4 x5 x9 x10 x12 x14 x16 h) := by
  unfold fn_X9_paintWall_159b
  refine fr_if ?_ ?_
  · refine fr_bd (fun _ => ?_)
    refine fr_bd (fun _ => ?_)
    refine fr_bd (fun _ => ?_)
    refine fr_cl (fun _ _ e => hs.trans (fr_X9_markRows e)) (fun _ h hs => ?_)
    exact fr_rt hs
  · refine fr_bd (fun _ => ?_)
    refine fr_bd (fun _ => ?_)
    refine fr_bd (fun _ => ?_)
    refine fr_bd (fun _ => ?_)
    refine fr_bd (fun _ => ?_)
    refine fr_bd (fun _ => ?_)
    refine fr_bd (fun _ => ?_)
    refine fr_cl (fun _ _ e => hs.trans (fr_J9_floorDiv_f86c9 e)) (fun _ h hs => ?_)
    refine fr_bd (fun _ => ?_)
    refine fr_cl (fun _ _ e => hs.trans (fr_X2_texel e)) (fun _ h hs => ?_)
    refine fr_st (fun _ e => hs.trans (st_sI e)) (fun h hs => ?_)
    exact hk159 hs
theorem fr_X9_paintWall_159 {h0 : sv_H} : ∀ (n : Nat) {x0 : Nat} {x1 : Nat} {x2 : Int32} {x3 : Int32} {x4 : Int32} {x5 : Int32} {x9 : Int32} {x10 : Int64} {x12 : Int64} {x14 : Int64} {x16 : Int32} {h : sv_H}, sv_same h0 h → sv_fr sv_same h0 (fn_X9_paintWall_159 n x0 x1 x2 x3 x4 x5 x9 x10 x12 x14 x16 h) := by
  intro n
  induction n with
  | zero => intro x0 x1 x2 x3 x4 x5 x9 x10 x12 x14 x16 h hs r hE e; cases (show (none : Option (Unit × sv_H)) = some (r, hE) from e)
  | succ n ih => intro x0 x1 x2 x3 x4 x5 x9 x10 x12 x14 x16 h hs; exact fr_X9_paintWall_159b (fun hs => ih hs) hs
theorem fr_X9_paintWall_73 {h0 : sv_H} {x0 : Nat} {x1 : Nat} {x2 : Int32} {x3 : Int32} {x4 : Int32} {x5 : Int32} {x6 : Int32} {x7 : Nat} {s0 : Nat} {s1 : Int32} {h : sv_H} (hs : sv_same h0 h) : sv_fr sv_same h0 (fn_X9_paintWall_73 x0 x1 x2 x3 x4 x5 x6 x7 s0 s1 h) := by
  unfold fn_X9_paintWall_73
  refine fr_bd (fun _ => ?_)
  refine fr_cl (fun _ _ e => hs.trans (fr_X9_acrossAt e)) (fun _ h hs => ?_)
  refine fr_bd (fun _ => ?_)
  refine fr_cl (fun _ _ e => hs.trans (fr_X2_heightOf e)) (fun _ h hs => ?_)
  refine fr_cl (fun _ _ e => hs.trans (fr_X9_anchorOf e)) (fun _ h hs => ?_)
  refine fr_bd (fun _ => ?_)
  refine fr_bd (fun _ => ?_)
  refine fr_bd (fun _ => ?_)
  refine fr_bd (fun _ => ?_)
  refine fr_bd (fun _ => ?_)
  refine fr_bd (fun _ => ?_)
  refine fr_bd (fun _ => ?_)
  refine fr_if fr_no ?_
  refine fr_let (fun _ => ?_)
  exact fr_X9_paintWall_159 sv_fuel hs
theorem fr_X9_paintWall_44 {h0 : sv_H} {x0 : Nat} {x1 : Nat} {x2 : Int32} {x3 : Int32} {x4 : Int32} {x5 : Int32} {x6 : Int32} {x7 : Nat} {s0 : Int32} {h : sv_H} (hs : sv_same h0 h) : sv_fr sv_same h0 (fn_X9_paintWall_44 x0 x1 x2 x3 x4 x5 x6 x7 s0 h) := by
  unfold fn_X9_paintWall_44
  refine fr_bd (fun _ => ?_)
  refine fr_bd (fun _ => ?_)
  refine fr_bd (fun _ => ?_)
  refine fr_bd (fun _ => ?_)
  refine fr_if ?_ ?_
  · exact fr_X9_paintWall_73 hs
  · exact fr_X9_paintWall_73 hs
theorem fr_X9_paintWall_0 {h0 : sv_H} {x0 : Nat} {x1 : Nat} {x2 : Int32} {x3 : Int32} {x4 : Int32} {x5 : Int32} {x6 : Int32} {h : sv_H} (hs : sv_same h0 h) : sv_fr sv_same h0 (fn_X9_paintWall x0 x1 x2 x3 x4 x5 x6 h) := by
  unfold fn_X9_paintWall
  refine fr_if ?_ fr_no
  refine fr_if ?_ ?_
  · refine fr_bd (fun _ => ?_)
    refine fr_bd (fun _ => ?_)
    refine fr_bd (fun _ => ?_)
    refine fr_bd (fun _ => ?_)
    refine fr_bd (fun _ => ?_)
    refine fr_if ?_ ?_
    · exact fr_X9_paintWall_44 hs
    · refine fr_if ?_ ?_
      · exact fr_X9_paintWall_44 hs
      · exact fr_X9_paintWall_44 hs
  · exact fr_rt hs
theorem fr_X9_paintWall {x0 : Nat} {x1 : Nat} {x2 : Int32} {x3 : Int32} {x4 : Int32} {x5 : Int32} {x6 : Int32} {h : sv_H} {r : Unit} {hE : sv_H} (hw : fn_X9_paintWall x0 x1 x2 x3 x4 x5 x6 h = some (r, hE)) : sv_same h hE := fr_X9_paintWall_0 (sv_same.refl h) r hE hw

theorem fr_X9_paintUpTo_258 {h0 : sv_H} {x0 : Nat} {x1 : Nat} {x2 : Int32} {x4 : Int32} {x7 : Int32} {x10 : Int32} {s0 : Int32} {h : sv_H} (hs : sv_same h0 h) : sv_fr sv_same h0 (fn_X9_paintUpTo_258 x0 x1 x2 x4 x7 x10 s0 h) := by
  unfold fn_X9_paintUpTo_258
  refine fr_cl (fun _ _ e => hs.trans (fr_X9_paintWall e)) (fun _ h hs => ?_)
  refine fr_st (fun _ e => hs.trans (st_pI e)) (fun h hs => ?_)
  refine fr_st (fun _ e => hs.trans (st_pI e)) (fun h hs => ?_)
  exact fr_rt hs
theorem fr_X9_paintUpTo_208 {h0 : sv_H} {x0 : Nat} {x1 : Nat} {x2 : Int32} {x4 : Int32} {x5 : Nat} {x6 : Int32} {x7 : Int32} {x9 : Nat} {s0 : Int32} {h : sv_H} (hs : sv_same h0 h) : sv_fr sv_same h0 (fn_X9_paintUpTo_208 x0 x1 x2 x4 x5 x6 x7 x9 s0 h) := by
  unfold fn_X9_paintUpTo_208
  refine fr_cl (fun _ _ e => hs.trans (fr_X9_paintWall e)) (fun _ h hs => ?_)
  refine fr_bd (fun _ => ?_)
  refine fr_bd (fun _ => ?_)
  refine fr_if ?_ ?_
  · exact fr_X9_paintUpTo_258 hs
  · refine fr_bd (fun _ => ?_)
    refine fr_cl (fun _ _ e => hs.trans (fr_X9_rowOf e)) (fun _ h hs => ?_)
    refine fr_cl (fun _ _ e => hs.trans (fr_X9_between e)) (fun _ h hs => ?_)
    exact fr_X9_paintUpTo_258 hs
theorem fr_X9_paintUpTo_131 {h0 : sv_H} {x0 : Nat} {x1 : Nat} {x2 : Int32} {x4 : Int32} {x5 : Nat} {x6 : Int32} {x7 : Int32} {s0 : Nat} {s1 : Int32} {h : sv_H} (hs : sv_same h0 h) : sv_fr sv_same h0 (fn_X9_paintUpTo_131 x0 x1 x2 x4 x5 x6 x7 s0 s1 h) := by
  unfold fn_X9_paintUpTo_131
  refine fr_cl (fun _ _ e => hs.trans (fr_X11_sectorOn e)) (fun _ h hs => ?_)
  refine fr_if ?_ ?_
  · refine fr_cl (fun _ _ e => hs.trans (fr_X9_paintWall e)) (fun _ h hs => ?_)
    refine fr_bd (fun _ => ?_)
    refine fr_st (fun _ e => hs.trans (st_pI e)) (fun h hs => ?_)
    exact fr_rt hs
  · refine fr_bd (fun _ => ?_)
    refine fr_bd (fun _ => ?_)
    refine fr_bd (fun _ => ?_)
    refine fr_bd (fun _ => ?_)
    refine fr_if ?_ ?_
    · exact fr_X9_paintUpTo_208 hs
    · refine fr_bd (fun _ => ?_)
      refine fr_cl (fun _ _ e => hs.trans (fr_X9_rowOf e)) (fun _ h hs => ?_)
      refine fr_cl (fun _ _ e => hs.trans (fr_X9_between e)) (fun _ h hs => ?_)
      exact fr_X9_paintUpTo_208 hs
theorem fr_X9_paintUpTo_0 {h0 : sv_H} {x0 : Nat} {x1 : Nat} {x2 : Int32} {x3 : Int32} {x4 : Int32} {h : sv_H} (hs : sv_same h0 h) : sv_fr sv_same h0 (fn_X9_paintUpTo x0 x1 x2 x3 x4 h) := by
  unfold fn_X9_paintUpTo
  refine fr_if ?_ fr_no
  refine fr_bd (fun _ => ?_)
  refine fr_bd (fun _ => ?_)
  refine fr_bd (fun _ => ?_)
  refine fr_cl (fun _ _ e => hs.trans (fr_X9_rowOf e)) (fun _ h hs => ?_)
  refine fr_bd (fun _ => ?_)
  refine fr_bd (fun _ => ?_)
  refine fr_cl (fun _ _ e => hs.trans (fr_X9_between e)) (fun _ h hs => ?_)
  refine fr_bd (fun _ => ?_)
  refine fr_cl (fun _ _ e => hs.trans (fr_X9_rowOf e)) (fun _ h hs => ?_)
  refine fr_bd (fun _ => ?_)
  refine fr_cl (fun _ _ e => hs.trans (fr_X9_between e)) (fun _ h hs => ?_)
  refine fr_cl (fun _ _ e => hs.trans (fr_X9_paintCeiling e)) (fun _ h hs => ?_)
  refine fr_bd (fun _ => ?_)
  refine fr_bd (fun _ => ?_)
  refine fr_bd (fun _ => ?_)
  refine fr_cl (fun _ _ e => hs.trans (fr_X9_paintPlane e)) (fun _ h hs => ?_)
  refine fr_bd (fun _ => ?_)
  refine fr_cl (fun _ _ e => hs.trans (fr_X9_markRows e)) (fun _ h hs => ?_)
  refine fr_bd (fun _ => ?_)
  refine fr_bd (fun _ => ?_)
  refine fr_bd (fun _ => ?_)
  refine fr_bd (fun _ => ?_)
  refine fr_bd (fun _ => ?_)
  refine fr_bd (fun _ => ?_)
  refine fr_bd (fun _ => ?_)
  refine fr_bd (fun _ => ?_)
  refine fr_if ?_ ?_
  · exact fr_X9_paintUpTo_131 hs
  · exact fr_X9_paintUpTo_131 hs
theorem fr_X9_paintUpTo {x0 : Nat} {x1 : Nat} {x2 : Int32} {x3 : Int32} {x4 : Int32} {h : sv_H} {r : Unit} {hE : sv_H} (hw : fn_X9_paintUpTo x0 x1 x2 x3 x4 h = some (r, hE)) : sv_same h hE := fr_X9_paintUpTo_0 (sv_same.refl h) r hE hw

theorem fr_X9_look_244 {h0 : sv_H} {h : sv_H} (hs : sv_same h0 h) : sv_fr sv_same h0 (fn_X9_look_244 h) := by
  unfold fn_X9_look_244
  exact fr_rt hs
theorem fr_X9_look_238 {h0 : sv_H} {k114 : Nat → Nat → Int32 → sv_H → Option (Unit × sv_H)} (hk114 : ∀ {x0 : Nat} {x1 : Nat} {x6 : Int32} {h : sv_H}, sv_same h0 h → sv_fr sv_same h0 (k114 x0 x1 x6 h)) {x0 : Nat} {x1 : Nat} {x6 : Int32} {h : sv_H} (hs : sv_same h0 h) : sv_fr sv_same h0 (fn_X9_look_238 k114 x0 x1 x6 h) := by
  unfold fn_X9_look_238
  exact hk114 hs
theorem fr_X9_look_114b {h0 : sv_H} {k114 : Nat → Nat → Int32 → sv_H → Option (Unit × sv_H)} (hk114 : ∀ {x0 : Nat} {x1 : Nat} {x6 : Int32} {h : sv_H}, sv_same h0 h → sv_fr sv_same h0 (k114 x0 x1 x6 h)) {x0 : Nat} {x1 : Nat} {x6 : Int32} {h : sv_H} (hs : sv_same h0 h) : sv_fr sv_same h0 (fn_X9_look_114b k114 x0 x1 x6 h) := by
  unfold fn_X9_look_114b
  refine fr_bd (fun _ => ?_)
  refine fr_bd (fun _ => ?_)
  refine fr_if ?_ ?_
  · exact fr_X9_look_244 hs
  · refine fr_bd (fun _ => ?_)
    refine fr_bd (fun _ => ?_)
    refine fr_if ?_ ?_
    · exact fr_X9_look_244 hs
    · refine fr_bd (fun _ => ?_)
      refine fr_bd (fun _ => ?_)
      refine fr_bd (fun _ => ?_)
      refine fr_bd (fun _ => ?_)
      refine fr_bd (fun _ => ?_)
      refine fr_bd (fun _ => ?_)
      refine fr_bd (fun _ => ?_)
      refine fr_bd (fun _ => ?_)
      refine fr_bd (fun _ => ?_)
      refine fr_cl (fun _ _ e => hs.trans (fr_X11_sectorOn e)) (fun _ h hs => ?_)
      refine fr_if ?_ ?_
      · exact fr_X9_look_238 hk114 hs
      · refine fr_bd (fun _ => ?_)
        refine fr_bd (fun _ => ?_)
        refine fr_bd (fun _ => ?_)
        refine fr_bd (fun _ => ?_)
        refine fr_bd (fun _ => ?_)
        refine fr_st (fun _ e => hs.trans (st_sI e)) (fun h hs => ?_)
        refine fr_bd (fun _ => ?_)
        refine fr_st (fun _ e => hs.trans (st_pI e)) (fun h hs => ?_)
        refine fr_bd (fun _ => ?_)
        refine fr_bd (fun _ => ?_)
        refine fr_bd (fun _ => ?_)
        refine fr_bd (fun _ => ?_)
        refine fr_bd (fun _ => ?_)
        refine fr_bd (fun _ => ?_)
        refine fr_cl (fun _ _ e => hs.trans (fr_X2_lightIn e)) (fun _ h hs => ?_)
        refine fr_cl (fun _ _ e => hs.trans (fr_X9_paintUpTo e)) (fun _ h hs => ?_)
        exact fr_X9_look_238 hk114 hs
theorem fr_X9_look_114 {h0 : sv_H} : ∀ (n : Nat) {x0 : Nat} {x1 : Nat} {x6 : Int32} {h : sv_H}, sv_same h0 h → sv_fr sv_same h0 (fn_X9_look_114 n x0 x1 x6 h) := by
  intro n
  induction n with
  | zero => intro x0 x1 x6 h hs r hE e; cases (show (none : Option (Unit × sv_H)) = some (r, hE) from e)
  | succ n ih => intro x0 x1 x6 h hs; exact fr_X9_look_114b (fun hs => ih hs) hs
theorem fr_X9_look_0 {h0 : sv_H} {x0 : Nat} {x1 : Nat} {x2 : Int32} {h : sv_H} (hs : sv_same h0 h) : sv_fr sv_same h0 (fn_X9_look x0 x1 x2 h) := by
  unfold fn_X9_look
  refine fr_if ?_ fr_no
  refine fr_bd (fun _ => ?_)
  refine fr_cl (fun _ _ e => hs.trans (fr_X12_cosine e)) (fun _ h hs => ?_)
  refine fr_bd (fun _ => ?_)
  refine fr_cl (fun _ _ e => hs.trans (fr_X12_sine e)) (fun _ h hs => ?_)
  refine fr_bd (fun _ => ?_)
  refine fr_bd (fun _ => ?_)
  refine fr_bd (fun _ => ?_)
  refine fr_cl (fun _ _ e => hs.trans (fr_X3_aim e)) (fun _ h hs => ?_)
  refine fr_bd (fun _ => ?_)
  refine fr_bd (fun _ => ?_)
  refine fr_cl (fun _ _ e => hs.trans (fr_X3_meetAll e)) (fun _ h hs => ?_)
  refine fr_bd (fun _ => ?_)
  refine fr_cl (fun _ _ e => hs.trans (fr_J7_fill_53178 e)) (fun _ h hs => ?_)
  refine fr_bd (fun _ => ?_)
  refine fr_cl (fun _ _ e => hs.trans (fr_J7_fill_53178 e)) (fun _ h hs => ?_)
  refine fr_cl (fun _ _ e => hs.trans (fr_X10_eye e)) (fun _ h hs => ?_)
  refine fr_st (fun _ e => hs.trans (st_pI e)) (fun h hs => ?_)
  refine fr_st (fun _ e => hs.trans (st_pI e)) (fun h hs => ?_)
  refine fr_st (fun _ e => hs.trans (st_pI e)) (fun h hs => ?_)
  refine fr_st (fun _ e => hs.trans (st_pI e)) (fun h hs => ?_)
  exact fr_X9_look_114 sv_fuel hs
theorem fr_X9_look {x0 : Nat} {x1 : Nat} {x2 : Int32} {h : sv_H} {r : Unit} {hE : sv_H} (hw : fn_X9_look x0 x1 x2 h = some (r, hE)) : sv_same h hE := fr_X9_look_0 (sv_same.refl h) r hE hw

theorem fr_X12_pixelAt_18 {h0 : sv_H} {h : sv_H} (hs : sv_same h0 h) : sv_fr sv_same h0 (fn_X12_pixelAt_18 h) := by
  unfold fn_X12_pixelAt_18
  exact fr_rt hs
theorem fr_X12_pixelAt_0 {h0 : sv_H} {x0 : Nat} {x1 : Int32} {x2 : Int32} {h : sv_H} (hs : sv_same h0 h) : sv_fr sv_same h0 (fn_X12_pixelAt x0 x1 x2 h) := by
  unfold fn_X12_pixelAt
  refine fr_if ?_ fr_no
  refine fr_cl (fun _ _ e => hs.trans (fr_X12_isSeen e)) (fun _ h hs => ?_)
  refine fr_if ?_ ?_
  · exact fr_X12_pixelAt_18 hs
  · refine fr_if ?_ ?_
    · exact fr_X12_pixelAt_18 hs
    · refine fr_if ?_ ?_
      · refine fr_bd (fun _ => ?_)
        refine fr_bd (fun _ => ?_)
        refine fr_cl (fun _ _ e => hs.trans (fr_X9_look e)) (fun _ h hs => ?_)
        refine fr_bd (fun _ => ?_)
        refine fr_bd (fun _ => ?_)
        refine fr_bd (fun _ => ?_)
        exact fr_rt hs
      · exact fr_X12_pixelAt_18 hs
theorem fr_X12_pixelAt {x0 : Nat} {x1 : Int32} {x2 : Int32} {h : sv_H} {r : Int32} {hE : sv_H} (hw : fn_X12_pixelAt x0 x1 x2 h = some (r, hE)) : sv_same h hE := fr_X12_pixelAt_0 (sv_same.refl h) r hE hw

theorem fr_X17_isPixel_32 {h0 : sv_H} {s0 : Int32} {h : sv_H} (hs : sv_same h0 h) : sv_fr sv_same h0 (fn_X17_isPixel_32 s0 h) := by
  unfold fn_X17_isPixel_32
  exact fr_rz hs
theorem fr_X17_isPixel_31 {h0 : sv_H} {h : sv_H} (hs : sv_same h0 h) : sv_fr sv_same h0 (fn_X17_isPixel_31 h) := by
  unfold fn_X17_isPixel_31
  exact fr_X17_isPixel_32 hs
theorem fr_X17_isPixel_0 {h0 : sv_H} {x0 : Nat} {x1 : Int32} {x2 : Int32} {h : sv_H} (hs : sv_same h0 h) : sv_fr sv_same h0 (fn_X17_isPixel x0 x1 x2 h) := by
  unfold fn_X17_isPixel
  refine fr_if ?_ fr_no
  refine fr_bd (fun _ => ?_)
  refine fr_if ?_ ?_
  · exact fr_X17_isPixel_31 hs
  · refine fr_if ?_ ?_
    · exact fr_X17_isPixel_31 hs
    · refine fr_if ?_ ?_
      · exact fr_X17_isPixel_31 hs
      · refine fr_if ?_ ?_
        · exact fr_X17_isPixel_31 hs
        · refine fr_if ?_ ?_
          · exact fr_X17_isPixel_31 hs
          · exact fr_X17_isPixel_32 hs
theorem fr_X17_isPixel {x0 : Nat} {x1 : Int32} {x2 : Int32} {h : sv_H} {r : Int32} {hE : sv_H} (hw : fn_X17_isPixel x0 x1 x2 h = some (r, hE)) : sv_same h hE := fr_X17_isPixel_0 (sv_same.refl h) r hE hw

theorem fr_X17_rowOf_56 {h0 : sv_H} {s0 : Int32} {h : sv_H} (hs : sv_same h0 h) : sv_fr sv_same h0 (fn_X17_rowOf_56 s0 h) := by
  unfold fn_X17_rowOf_56
  exact fr_rt hs
theorem fr_X17_rowOf_0 {h0 : sv_H} {x0 : Nat} {x1 : Int32} {x2 : Int32} {x3 : Int32} {h : sv_H} (hs : sv_same h0 h) : sv_fr sv_same h0 (fn_X17_rowOf x0 x1 x2 x3 h) := by
  unfold fn_X17_rowOf
  refine fr_if ?_ fr_no
  refine fr_cl (fun _ _ e => hs.trans (fr_X17_eye e)) (fun _ h hs => ?_)
  refine fr_bd (fun _ => ?_)
  refine fr_bd (fun _ => ?_)
  refine fr_cl (fun _ _ e => hs.trans (fr_X17_down e)) (fun _ h hs => ?_)
  refine fr_if ?_ ?_
  · refine fr_if ?_ ?_
    · exact fr_X17_rowOf_56 hs
    · exact fr_X17_rowOf_56 hs
  · exact fr_X17_rowOf_56 hs
theorem fr_X17_rowOf {x0 : Nat} {x1 : Int32} {x2 : Int32} {x3 : Int32} {h : sv_H} {r : Int32} {hE : sv_H} (hw : fn_X17_rowOf x0 x1 x2 x3 h = some (r, hE)) : sv_same h hE := fr_X17_rowOf_0 (sv_same.refl h) r hE hw

theorem fr_X14_texture_13 {h0 : sv_H} {h : sv_H} (hs : sv_same h0 h) : sv_fr sv_same h0 (fn_X14_texture_13 h) := by
  unfold fn_X14_texture_13
  exact fr_rt hs
theorem fr_X14_texture_111 {h0 : sv_H} {s0 : Int32} {h : sv_H} (hs : sv_same h0 h) : sv_fr sv_same h0 (fn_X14_texture_111 s0 h) := by
  unfold fn_X14_texture_111
  exact fr_rt hs
theorem fr_X14_texture_110 {h0 : sv_H} {h : sv_H} (hs : sv_same h0 h) : sv_fr sv_same h0 (fn_X14_texture_110 h) := by
  unfold fn_X14_texture_110
  exact fr_X14_texture_111 hs
theorem fr_X14_texture_59 {h0 : sv_H} {s0 : Int32} {h : sv_H} (hs : sv_same h0 h) : sv_fr sv_same h0 (fn_X14_texture_59 s0 h) := by
  unfold fn_X14_texture_59
  exact fr_rt hs
theorem fr_X14_texture_0 {h0 : sv_H} {x0 : Nat} {x1 : Int32} {x2 : Int32} {h : sv_H} (hs : sv_same h0 h) : sv_fr sv_same h0 (fn_X14_texture x0 x1 x2 h) := by
  unfold fn_X14_texture
  refine fr_if ?_ fr_no
  refine fr_cl (fun _ _ e => hs.trans (fr_X14_has e)) (fun _ h hs => ?_)
  refine fr_if ?_ ?_
  · exact fr_X14_texture_13 hs
  · refine fr_if ?_ ?_
    · refine fr_cl (fun _ _ e => hs.trans (fr_X14_textureAt e)) (fun _ h hs => ?_)
      refine fr_bd (fun _ => ?_)
      refine fr_bd (fun _ => ?_)
      refine fr_bd (fun _ => ?_)
      refine fr_bd (fun _ => ?_)
      refine fr_if ?_ ?_
      · refine fr_if ?_ ?_
        · exact fr_X14_texture_110 hs
        · refine fr_if ?_ ?_
          · exact fr_X14_texture_110 hs
          · refine fr_bd (fun _ => ?_)
            refine fr_bd (fun _ => ?_)
            exact fr_X14_texture_111 hs
      · refine fr_if ?_ ?_
        · exact fr_X14_texture_59 hs
        · exact fr_X14_texture_59 hs
    · exact fr_X14_texture_13 hs
theorem fr_X14_texture {x0 : Nat} {x1 : Int32} {x2 : Int32} {h : sv_H} {r : Int32} {hE : sv_H} (hw : fn_X14_texture x0 x1 x2 h = some (r, hE)) : sv_same h hE := fr_X14_texture_0 (sv_same.refl h) r hE hw

theorem fr_X17_modulo_0 {h0 : sv_H} {x0 : Int64} {x2 : Int32} {h : sv_H} (hs : sv_same h0 h) : sv_fr sv_same h0 (fn_X17_modulo x0 x2 h) := by
  unfold fn_X17_modulo
  refine fr_if fr_no ?_
  refine fr_if fr_no ?_
  exact fr_rt hs
theorem fr_X17_modulo {x0 : Int64} {x2 : Int32} {h : sv_H} {r : Int32} {hE : sv_H} (hw : fn_X17_modulo x0 x2 h = some (r, hE)) : sv_same h hE := fr_X17_modulo_0 (sv_same.refl h) r hE hw

theorem fr_X17_texel_0 {h0 : sv_H} {x0 : Nat} {x1 : Int32} {x2 : Int64} {x4 : Int64} {h : sv_H} (hs : sv_same h0 h) : sv_fr sv_same h0 (fn_X17_texel x0 x1 x2 x4 h) := by
  unfold fn_X17_texel
  refine fr_if ?_ fr_no
  refine fr_if ?_ ?_
  · exact fr_rt hs
  · refine fr_bd (fun _ => ?_)
    refine fr_cl (fun _ _ e => hs.trans (fr_X14_texture e)) (fun _ h hs => ?_)
    refine fr_bd (fun _ => ?_)
    refine fr_cl (fun _ _ e => hs.trans (fr_X14_texture e)) (fun _ h hs => ?_)
    refine fr_bd (fun _ => ?_)
    refine fr_cl (fun _ _ e => hs.trans (fr_X17_modulo e)) (fun _ h hs => ?_)
    refine fr_cl (fun _ _ e => hs.trans (fr_X17_modulo e)) (fun _ h hs => ?_)
    refine fr_cl (fun _ _ e => hs.trans (fr_X14_texture e)) (fun _ h hs => ?_)
    exact fr_rt hs
theorem fr_X17_texel {x0 : Nat} {x1 : Int32} {x2 : Int64} {x4 : Int64} {h : sv_H} {r : Int32} {hE : sv_H} (hw : fn_X17_texel x0 x1 x2 x4 h = some (r, hE)) : sv_same h hE := fr_X17_texel_0 (sv_same.refl h) r hE hw

theorem fr_X17_shade_28 {h0 : sv_H} {s0 : Int32} {h : sv_H} (hs : sv_same h0 h) : sv_fr sv_same h0 (fn_X17_shade_28 s0 h) := by
  unfold fn_X17_shade_28
  exact fr_rt hs
theorem fr_X17_shade_0 {h0 : sv_H} {x0 : Nat} {x1 : Int32} {x2 : Int64} {h : sv_H} (hs : sv_same h0 h) : sv_fr sv_same h0 (fn_X17_shade x0 x1 x2 h) := by
  unfold fn_X17_shade
  refine fr_if ?_ fr_no
  refine fr_bd (fun _ => ?_)
  refine fr_cl (fun _ _ e => hs.trans (fr_X13_of e)) (fun _ h hs => ?_)
  refine fr_if ?_ ?_
  · exact fr_X17_shade_28 hs
  · exact fr_X17_shade_28 hs
theorem fr_X17_shade {x0 : Nat} {x1 : Int32} {x2 : Int64} {h : sv_H} {r : Int32} {hE : sv_H} (hw : fn_X17_shade x0 x1 x2 h = some (r, hE)) : sv_same h hE := fr_X17_shade_0 (sv_same.refl h) r hE hw

theorem fr_X17_flat_293 {h0 : sv_H} {k80 : Nat → Int32 → Int32 → Int32 → Int32 → Int32 → Int64 → Int32 → sv_H → Option (Unit × sv_H)} (hk80 : ∀ {x0 : Nat} {x2 : Int32} {x3 : Int32} {x4 : Int32} {x5 : Int32} {x6 : Int32} {x7 : Int64} {x9 : Int32} {h : sv_H}, sv_same h0 h → sv_fr sv_same h0 (k80 x0 x2 x3 x4 x5 x6 x7 x9 h)) {x0 : Nat} {x2 : Int32} {x3 : Int32} {x4 : Int32} {x5 : Int32} {x6 : Int32} {x7 : Int64} {x9 : Int32} {s0 : Nat} {s1 : Int32} {s2 : Int32} {h : sv_H} (hs : sv_same h0 h) : sv_fr sv_same h0 (fn_X17_flat_293 k80 x0 x2 x3 x4 x5 x6 x7 x9 s0 s1 s2 h) := by
  unfold fn_X17_flat_293
  refine fr_st (fun _ e => hs.trans (st_sI e)) (fun h hs => ?_)
  exact hk80 hs
theorem fr_X17_flat_289 {h0 : sv_H} {k80 : Nat → Int32 → Int32 → Int32 → Int32 → Int32 → Int64 → Int32 → sv_H → Option (Unit × sv_H)} (hk80 : ∀ {x0 : Nat} {x2 : Int32} {x3 : Int32} {x4 : Int32} {x5 : Int32} {x6 : Int32} {x7 : Int64} {x9 : Int32} {h : sv_H}, sv_same h0 h → sv_fr sv_same h0 (k80 x0 x2 x3 x4 x5 x6 x7 x9 h)) {x0 : Nat} {x2 : Int32} {x3 : Int32} {x4 : Int32} {x5 : Int32} {x6 : Int32} {x7 : Int64} {x9 : Int32} {s0 : Nat} {s1 : Int32} {s2 : Int32} {s3 : Nat} {s4 : Int32} {s5 : Int64} {h : sv_H} (hs : sv_same h0 h) : sv_fr sv_same h0 (fn_X17_flat_289 k80 x0 x2 x3 x4 x5 x6 x7 x9 s0 s1 s2 s3 s4 s5 h) := by
  unfold fn_X17_flat_289
  refine fr_cl (fun _ _ e => hs.trans (fr_X17_shade e)) (fun _ h hs => ?_)
  exact fr_X17_flat_293 hk80 hs
theorem fr_X17_flat_221 {h0 : sv_H} {k80 : Nat → Int32 → Int32 → Int32 → Int32 → Int32 → Int64 → Int32 → sv_H → Option (Unit × sv_H)} (hk80 : ∀ {x0 : Nat} {x2 : Int32} {x3 : Int32} {x4 : Int32} {x5 : Int32} {x6 : Int32} {x7 : Int64} {x9 : Int32} {h : sv_H}, sv_same h0 h → sv_fr sv_same h0 (k80 x0 x2 x3 x4 x5 x6 x7 x9 h)) {x0 : Nat} {x2 : Int32} {x3 : Int32} {x4 : Int32} {x5 : Int32} {x6 : Int32} {x7 : Int64} {x9 : Int32} {x10 : Int64} {x12 : Int32} {x13 : Int64} {x15 : Int64} {s0 : Nat} {s1 : Int32} {s2 : Int32} {s3 : Int32} {h : sv_H} (hs : sv_same h0 h) : sv_fr sv_same h0 (fn_X17_flat_221 k80 x0 x2 x3 x4 x5 x6 x7 x9 x10 x12 x13 x15 s0 s1 s2 s3 h) := by
  unfold fn_X17_flat_221
  refine fr_st (fun _ e => hs.trans (st_sI e)) (fun h hs => ?_)
  refine fr_bd (fun _ => ?_)
  refine fr_if ?_ ?_
  · refine fr_cl (fun _ _ e => hs.trans (fr_X17_texel e)) (fun _ h hs => ?_)
    refine fr_if ?_ ?_
    · exact fr_X17_flat_289 hk80 hs
    · refine fr_cl (fun _ _ e => hs.trans (fr_X17_down e)) (fun _ h hs => ?_)
      exact fr_X17_flat_289 hk80 hs
  · exact fr_X17_flat_293 hk80 hs
theorem fr_X17_flat_199 {h0 : sv_H} {k80 : Nat → Int32 → Int32 → Int32 → Int32 → Int32 → Int64 → Int32 → sv_H → Option (Unit × sv_H)} (hk80 : ∀ {x0 : Nat} {x2 : Int32} {x3 : Int32} {x4 : Int32} {x5 : Int32} {x6 : Int32} {x7 : Int64} {x9 : Int32} {h : sv_H}, sv_same h0 h → sv_fr sv_same h0 (k80 x0 x2 x3 x4 x5 x6 x7 x9 h)) {x0 : Nat} {x2 : Int32} {x3 : Int32} {x4 : Int32} {x5 : Int32} {x6 : Int32} {x7 : Int64} {x9 : Int32} {x10 : Int64} {x12 : Int32} {x13 : Int64} {s0 : Int64} {h : sv_H} (hs : sv_same h0 h) : sv_fr sv_same h0 (fn_X17_flat_199 k80 x0 x2 x3 x4 x5 x6 x7 x9 x10 x12 x13 s0 h) := by
  unfold fn_X17_flat_199
  refine fr_bd (fun _ => ?_)
  refine fr_if ?_ ?_
  · exact fr_X17_flat_221 hk80 hs
  · exact fr_X17_flat_221 hk80 hs
theorem fr_X17_flat_166 {h0 : sv_H} {k80 : Nat → Int32 → Int32 → Int32 → Int32 → Int32 → Int64 → Int32 → sv_H → Option (Unit × sv_H)} (hk80 : ∀ {x0 : Nat} {x2 : Int32} {x3 : Int32} {x4 : Int32} {x5 : Int32} {x6 : Int32} {x7 : Int64} {x9 : Int32} {h : sv_H}, sv_same h0 h → sv_fr sv_same h0 (k80 x0 x2 x3 x4 x5 x6 x7 x9 h)) {x0 : Nat} {x2 : Int32} {x3 : Int32} {x4 : Int32} {x5 : Int32} {x6 : Int32} {x7 : Int64} {x9 : Int32} {x10 : Int64} {x12 : Int32} {s0 : Int64} {h : sv_H} (hs : sv_same h0 h) : sv_fr sv_same h0 (fn_X17_flat_166 k80 x0 x2 x3 x4 x5 x6 x7 x9 x10 x12 s0 h) := by
  unfold fn_X17_flat_166
  refine fr_if ?_ ?_
  · refine fr_bd (fun _ => ?_)
    exact fr_X17_flat_199 hk80 hs
  · refine fr_bd (fun _ => ?_)
    refine fr_bd (fun _ => ?_)
    refine fr_cl (fun _ _ e => hs.trans (fr_X17_down e)) (fun _ h hs => ?_)
    exact fr_X17_flat_199 hk80 hs
theorem fr_X17_flat_133 {h0 : sv_H} {k80 : Nat → Int32 → Int32 → Int32 → Int32 → Int32 → Int64 → Int32 → sv_H → Option (Unit × sv_H)} (hk80 : ∀ {x0 : Nat} {x2 : Int32} {x3 : Int32} {x4 : Int32} {x5 : Int32} {x6 : Int32} {x7 : Int64} {x9 : Int32} {h : sv_H}, sv_same h0 h → sv_fr sv_same h0 (k80 x0 x2 x3 x4 x5 x6 x7 x9 h)) {x0 : Nat} {x2 : Int32} {x3 : Int32} {x4 : Int32} {x5 : Int32} {x6 : Int32} {x7 : Int64} {x9 : Int32} {x10 : Int64} {s0 : Int32} {h : sv_H} (hs : sv_same h0 h) : sv_fr sv_same h0 (fn_X17_flat_133 k80 x0 x2 x3 x4 x5 x6 x7 x9 x10 s0 h) := by
  unfold fn_X17_flat_133
  refine fr_if ?_ ?_
  · refine fr_bd (fun _ => ?_)
    exact fr_X17_flat_166 hk80 hs
  · refine fr_bd (fun _ => ?_)
    refine fr_bd (fun _ => ?_)
    refine fr_cl (fun _ _ e => hs.trans (fr_X17_down e)) (fun _ h hs => ?_)
    exact fr_X17_flat_166 hk80 hs
theorem fr_X17_flat_132 {h0 : sv_H} {k80 : Nat → Int32 → Int32 → Int32 → Int32 → Int32 → Int64 → Int32 → sv_H → Option (Unit × sv_H)} (hk80 : ∀ {x0 : Nat} {x2 : Int32} {x3 : Int32} {x4 : Int32} {x5 : Int32} {x6 : Int32} {x7 : Int64} {x9 : Int32} {h : sv_H}, sv_same h0 h → sv_fr sv_same h0 (k80 x0 x2 x3 x4 x5 x6 x7 x9 h)) {x0 : Nat} {x2 : Int32} {x3 : Int32} {x4 : Int32} {x5 : Int32} {x6 : Int32} {x7 : Int64} {x9 : Int32} {x10 : Int64} {h : sv_H} (hs : sv_same h0 h) : sv_fr sv_same h0 (fn_X17_flat_132 k80 x0 x2 x3 x4 x5 x6 x7 x9 x10 h) := by
  unfold fn_X17_flat_132
  exact fr_X17_flat_133 hk80 hs
theorem fr_X17_flat_128 {h0 : sv_H} {k80 : Nat → Int32 → Int32 → Int32 → Int32 → Int32 → Int64 → Int32 → sv_H → Option (Unit × sv_H)} (hk80 : ∀ {x0 : Nat} {x2 : Int32} {x3 : Int32} {x4 : Int32} {x5 : Int32} {x6 : Int32} {x7 : Int64} {x9 : Int32} {h : sv_H}, sv_same h0 h → sv_fr sv_same h0 (k80 x0 x2 x3 x4 x5 x6 x7 x9 h)) {x0 : Nat} {x2 : Int32} {x3 : Int32} {x4 : Int32} {x5 : Int32} {x6 : Int32} {x7 : Int64} {x9 : Int32} {x10 : Int64} {h : sv_H} (hs : sv_same h0 h) : sv_fr sv_same h0 (fn_X17_flat_128 k80 x0 x2 x3 x4 x5 x6 x7 x9 x10 h) := by
  unfold fn_X17_flat_128
  exact fr_X17_flat_133 hk80 hs
theorem fr_X17_flat_114 {h0 : sv_H} {k80 : Nat → Int32 → Int32 → Int32 → Int32 → Int32 → Int64 → Int32 → sv_H → Option (Unit × sv_H)} (hk80 : ∀ {x0 : Nat} {x2 : Int32} {x3 : Int32} {x4 : Int32} {x5 : Int32} {x6 : Int32} {x7 : Int64} {x9 : Int32} {h : sv_H}, sv_same h0 h → sv_fr sv_same h0 (k80 x0 x2 x3 x4 x5 x6 x7 x9 h)) {x0 : Nat} {x2 : Int32} {x3 : Int32} {x4 : Int32} {x5 : Int32} {x6 : Int32} {x7 : Int64} {x9 : Int32} {x10 : Int64} {h : sv_H} (hs : sv_same h0 h) : sv_fr sv_same h0 (fn_X17_flat_114 k80 x0 x2 x3 x4 x5 x6 x7 x9 x10 h) := by
  unfold fn_X17_flat_114
  refine fr_if ?_ ?_
  · exact fr_X17_flat_132 hk80 hs
  · refine fr_if ?_ ?_
    · exact fr_X17_flat_132 hk80 hs
    · exact fr_X17_flat_128 hk80 hs
theorem fr_X17_flat_80b {h0 : sv_H} {k80 : Nat → Int32 → Int32 → Int32 → Int32 → Int32 → Int64 → Int32 → sv_H → Option (Unit × sv_H)} (hk80 : ∀ {x0 : Nat} {x2 : Int32} {x3 : Int32} {x4 : Int32} {x5 : Int32} {x6 : Int32} {x7 : Int64} {x9 : Int32} {h : sv_H}, sv_same h0 h → sv_fr sv_same h0 (k80 x0 x2 x3 x4 x5 x6 x7 x9 h)) {x0 : Nat} {x2 : Int32} {x3 : Int32} {x4 : Int32} {x5 : Int32} {x6 : Int32} {x7 : Int64} {x9 : Int32} {h : sv_H} (hs : sv_same h0 h) : sv_fr sv_same h0 (fn_X17_flat_80b k80 x0 x2 x3 x4 x5 x6 x7 x9 h) := by
  unfold fn_X17_flat_80b
  refine fr_if ?_ ?_
  · exact fr_rt hs
  · refine fr_if ?_ ?_
    · exact fr_X17_flat_114 hk80 hs
    · refine fr_if ?_ ?_
      · exact fr_X17_flat_128 hk80 hs
      · exact fr_X17_flat_114 hk80 hs
theorem fr_X17_flat_80 {h0 : sv_H} : ∀ (n : Nat) {x0 : Nat} {x2 : Int32} {x3 : Int32} {x4 : Int32} {x5 : Int32} {x6 : Int32} {x7 : Int64} {x9 : Int32} {h : sv_H}, sv_same h0 h → sv_fr sv_same h0 (fn_X17_flat_80 n x0 x2 x3 x4 x5 x6 x7 x9 h) := by
  intro n
  induction n with
  | zero => intro x0 x2 x3 x4 x5 x6 x7 x9 h hs r hE e; cases (show (none : Option (Unit × sv_H)) = some (r, hE) from e)
  | succ n ih => intro x0 x2 x3 x4 x5 x6 x7 x9 h hs; exact fr_X17_flat_80b (fun hs => ih hs) hs
theorem fr_X17_flat_69 {h0 : sv_H} {x0 : Nat} {x1 : Int32} {x2 : Int32} {x3 : Int32} {x4 : Int32} {x5 : Int32} {x6 : Int32} {s0 : Int32} {h : sv_H} (hs : sv_same h0 h) : sv_fr sv_same h0 (fn_X17_flat_69 x0 x1 x2 x3 x4 x5 x6 s0 h) := by
  unfold fn_X17_flat_69
  refine fr_cl (fun _ _ e => hs.trans (fr_X17_eye e)) (fun _ h hs => ?_)
  exact fr_X17_flat_80 sv_fuel hs
theorem fr_X17_flat_39 {h0 : sv_H} {x0 : Nat} {x1 : Int32} {x2 : Int32} {x3 : Int32} {x4 : Int32} {x5 : Int32} {s0 : Int32} {h : sv_H} (hs : sv_same h0 h) : sv_fr sv_same h0 (fn_X17_flat_39 x0 x1 x2 x3 x4 x5 s0 h) := by
  unfold fn_X17_flat_39
  refine fr_if ?_ ?_
  · refine fr_bd (fun _ => ?_)
    refine fr_bd (fun _ => ?_)
    refine fr_bd (fun _ => ?_)
    exact fr_X17_flat_69 hs
  · refine fr_bd (fun _ => ?_)
    refine fr_bd (fun _ => ?_)
    refine fr_bd (fun _ => ?_)
    exact fr_X17_flat_69 hs
theorem fr_X17_flat_38 {h0 : sv_H} {x0 : Nat} {x1 : Int32} {x2 : Int32} {x3 : Int32} {x4 : Int32} {x5 : Int32} {h : sv_H} (hs : sv_same h0 h) : sv_fr sv_same h0 (fn_X17_flat_38 x0 x1 x2 x3 x4 x5 h) := by
  unfold fn_X17_flat_38
  exact fr_X17_flat_39 hs
theorem fr_X17_flat_16 {h0 : sv_H} {x0 : Nat} {x1 : Int32} {x2 : Int32} {x3 : Int32} {x4 : Int32} {s0 : Nat} {s1 : Int32} {s2 : Int32} {h : sv_H} (hs : sv_same h0 h) : sv_fr sv_same h0 (fn_X17_flat_16 x0 x1 x2 x3 x4 s0 s1 s2 h) := by
  unfold fn_X17_flat_16
  refine fr_cl (fun _ _ e => hs.trans (fr_X14_sector e)) (fun _ h hs => ?_)
  refine fr_if ?_ ?_
  · refine fr_if ?_ ?_
    · exact fr_X17_flat_39 hs
    · exact fr_X17_flat_38 hs
  · exact fr_X17_flat_38 hs
theorem fr_X17_flat_0 {h0 : sv_H} {x0 : Nat} {x1 : Int32} {x2 : Int32} {x3 : Int32} {x4 : Int32} {h : sv_H} (hs : sv_same h0 h) : sv_fr sv_same h0 (fn_X17_flat x0 x1 x2 x3 x4 h) := by
  unfold fn_X17_flat
  refine fr_if ?_ fr_no
  refine fr_bd (fun _ => ?_)
  refine fr_if ?_ ?_
  · exact fr_X17_flat_16 hs
  · exact fr_X17_flat_16 hs
theorem fr_X17_flat {x0 : Nat} {x1 : Int32} {x2 : Int32} {x3 : Int32} {x4 : Int32} {h : sv_H} {r : Unit} {hE : sv_H} (hw : fn_X17_flat x0 x1 x2 x3 x4 h = some (r, hE)) : sv_same h hE := fr_X17_flat_0 (sv_same.refl h) r hE hw

theorem fr_X17_part_393b {h0 : sv_H} {k393 : Nat → Int32 → Int32 → Int32 → Int32 → Int32 → Int64 → Int32 → Int32 → sv_H → Option (Unit × sv_H)} (hk393 : ∀ {x0 : Nat} {x2 : Int32} {x3 : Int32} {x4 : Int32} {x7 : Int32} {x11 : Int32} {x18 : Int64} {x20 : Int32} {x21 : Int32} {h : sv_H}, sv_same h0 h → sv_fr sv_same h0 (k393 x0 x2 x3 x4 x7 x11 x18 x20 x21 h)) {x0 : Nat} {x2 : Int32} {x3 : Int32} {x4 : Int32} {x7 : Int32} {x11 : Int32} {x18 : Int64} {x20 : Int32} {x21 : Int32} {h : sv_H} (hs : sv_same h0 h) : sv_fr sv_same h0 (fn_X17_part_393b k393 x0 x2 x3 x4 x7 x11 x18 x20 x21 h) := by
  unfold fn_X17_part_393b
  refine fr_if ?_ ?_
  · exact fr_rt hs
  · refine fr_cl (fun _ _ e => hs.trans (fr_X17_eye e)) (fun _ h hs => ?_)
    refine fr_bd (fun _ => ?_)
    refine fr_bd (fun _ => ?_)
    refine fr_cl (fun _ _ e => hs.trans (fr_X17_down e)) (fun _ h hs => ?_)
    refine fr_bd (fun _ => ?_)
    refine fr_st (fun _ e => hs.trans (st_sI e)) (fun h hs => ?_)
    refine fr_bd (fun _ => ?_)
    refine fr_cl (fun _ _ e => hs.trans (fr_X17_wallPart e)) (fun _ h hs => ?_)
    refine fr_cl (fun _ _ e => hs.trans (fr_X17_texel e)) (fun _ h hs => ?_)
    refine fr_st (fun _ e => hs.trans (st_sI e)) (fun h hs => ?_)
    exact hk393 hs
theorem fr_X17_part_393 {h0 : sv_H} : ∀ (n : Nat) {x0 : Nat} {x2 : Int32} {x3 : Int32} {x4 : Int32} {x7 : Int32} {x11 : Int32} {x18 : Int64} {x20 : Int32} {x21 : Int32} {h : sv_H}, sv_same h0 h → sv_fr sv_same h0 (fn_X17_part_393 n x0 x2 x3 x4 x7 x11 x18 x20 x21 h) := by
  intro n
  induction n with
  | zero => intro x0 x2 x3 x4 x7 x11 x18 x20 x21 h hs r hE e; cases (show (none : Option (Unit × sv_H)) = some (r, hE) from e)
  | succ n ih => intro x0 x2 x3 x4 x7 x11 x18 x20 x21 h hs; exact fr_X17_part_393b (fun hs => ih hs) hs
theorem fr_X17_part_355 {h0 : sv_H} {x0 : Nat} {x1 : Int32} {x2 : Int32} {x3 : Int32} {x4 : Int32} {x5 : Int32} {x7 : Int32} {x11 : Int32} {s0 : Int64} {h : sv_H} (hs : sv_same h0 h) : sv_fr sv_same h0 (fn_X17_part_355 x0 x1 x2 x3 x4 x5 x7 x11 s0 h) := by
  unfold fn_X17_part_355
  refine fr_cl (fun _ _ e => hs.trans (fr_X17_wallPart e)) (fun _ h hs => ?_)
  refine fr_bd (fun _ => ?_)
  refine fr_bd (fun _ => ?_)
  refine fr_cl (fun _ _ e => hs.trans (fr_X17_down e)) (fun _ h hs => ?_)
  refine fr_cl (fun _ _ e => hs.trans (fr_X17_shade e)) (fun _ h hs => ?_)
  exact fr_X17_part_393 sv_fuel hs
theorem fr_X17_part_305 {h0 : sv_H} {x0 : Nat} {x1 : Int32} {x2 : Int32} {x3 : Int32} {x4 : Int32} {x5 : Int32} {x7 : Int32} {x11 : Int32} {s0 : Int64} {h : sv_H} (hs : sv_same h0 h) : sv_fr sv_same h0 (fn_X17_part_305 x0 x1 x2 x3 x4 x5 x7 x11 s0 h) := by
  unfold fn_X17_part_305
  refine fr_bd (fun _ => ?_)
  refine fr_if ?_ ?_
  · refine fr_bd (fun _ => ?_)
    refine fr_bd (fun _ => ?_)
    refine fr_bd (fun _ => ?_)
    refine fr_cl (fun _ _ e => hs.trans (fr_X17_down e)) (fun _ h hs => ?_)
    exact fr_X17_part_355 hs
  · refine fr_bd (fun _ => ?_)
    refine fr_bd (fun _ => ?_)
    refine fr_bd (fun _ => ?_)
    refine fr_cl (fun _ _ e => hs.trans (fr_X17_down e)) (fun _ h hs => ?_)
    exact fr_X17_part_355 hs
theorem fr_X17_part_288 {h0 : sv_H} {x0 : Nat} {x1 : Int32} {x2 : Int32} {x3 : Int32} {x4 : Int32} {x5 : Int32} {x7 : Int32} {x11 : Int32} {x12 : Int64} {s0 : Int64} {h : sv_H} (hs : sv_same h0 h) : sv_fr sv_same h0 (fn_X17_part_288 x0 x1 x2 x3 x4 x5 x7 x11 x12 s0 h) := by
  unfold fn_X17_part_288
  refine fr_if ?_ ?_
  · exact fr_X17_part_305 hs
  · exact fr_X17_part_305 hs
theorem fr_X17_part_271 {h0 : sv_H} {x0 : Nat} {x1 : Int32} {x2 : Int32} {x3 : Int32} {x4 : Int32} {x5 : Int32} {x7 : Int32} {x11 : Int32} {x14 : Int64} {s0 : Int64} {h : sv_H} (hs : sv_same h0 h) : sv_fr sv_same h0 (fn_X17_part_271 x0 x1 x2 x3 x4 x5 x7 x11 x14 s0 h) := by
  unfold fn_X17_part_271
  refine fr_if ?_ ?_
  · exact fr_X17_part_288 hs
  · exact fr_X17_part_288 hs
theorem fr_X17_part_206 {h0 : sv_H} {x0 : Nat} {x1 : Int32} {x2 : Int32} {x3 : Int32} {x4 : Int32} {x5 : Int32} {x7 : Int32} {s0 : Int32} {h : sv_H} (hs : sv_same h0 h) : sv_fr sv_same h0 (fn_X17_part_206 x0 x1 x2 x3 x4 x5 x7 s0 h) := by
  unfold fn_X17_part_206
  refine fr_bd (fun _ => ?_)
  refine fr_bd (fun _ => ?_)
  refine fr_bd (fun _ => ?_)
  refine fr_bd (fun _ => ?_)
  refine fr_bd (fun _ => ?_)
  refine fr_bd (fun _ => ?_)
  refine fr_bd (fun _ => ?_)
  refine fr_bd (fun _ => ?_)
  refine fr_bd (fun _ => ?_)
  refine fr_bd (fun _ => ?_)
  refine fr_bd (fun _ => ?_)
  refine fr_bd (fun _ => ?_)
  refine fr_if ?_ ?_
  · exact fr_X17_part_271 hs
  · exact fr_X17_part_271 hs
theorem fr_X17_part_110 {h0 : sv_H} {x0 : Nat} {x1 : Int32} {x2 : Int32} {x3 : Int32} {x4 : Int32} {x5 : Int32} {x6 : Int32} {x7 : Int32} {x8 : Int32} {s0 : Int32} {h : sv_H} (hs : sv_same h0 h) : sv_fr sv_same h0 (fn_X17_part_110 x0 x1 x2 x3 x4 x5 x6 x7 x8 s0 h) := by
  unfold fn_X17_part_110
  refine fr_bd (fun _ => ?_)
  refine fr_bd (fun _ => ?_)
  refine fr_bd (fun _ => ?_)
  refine fr_if ?_ ?_
  · refine fr_if ?_ ?_
    · refine fr_bd (fun _ => ?_)
      refine fr_bd (fun _ => ?_)
      refine fr_bd (fun _ => ?_)
      exact fr_X17_part_206 hs
    · exact fr_X17_part_206 hs
  · refine fr_if ?_ ?_
    · refine fr_if ?_ ?_
      · exact fr_X17_part_206 hs
      · refine fr_bd (fun _ => ?_)
        refine fr_bd (fun _ => ?_)
        refine fr_bd (fun _ => ?_)
        exact fr_X17_part_206 hs
    · refine fr_if ?_ ?_
      · refine fr_bd (fun _ => ?_)
        refine fr_bd (fun _ => ?_)
        refine fr_bd (fun _ => ?_)
        exact fr_X17_part_206 hs
      · exact fr_X17_part_206 hs
theorem fr_X17_part_101 {h0 : sv_H} {x0 : Nat} {x1 : Int32} {x2 : Int32} {x3 : Int32} {x4 : Int32} {x5 : Int32} {x6 : Int32} {x7 : Int32} {x8 : Int32} {s0 : Int32} {s1 : Int32} {h : sv_H} (hs : sv_same h0 h) : sv_fr sv_same h0 (fn_X17_part_101 x0 x1 x2 x3 x4 x5 x6 x7 x8 s0 s1 h) := by
  unfold fn_X17_part_101
  refine fr_if ?_ ?_
  · exact fr_X17_part_110 hs
  · exact fr_X17_part_110 hs
theorem fr_X17_part_81 {h0 : sv_H} {x0 : Nat} {x1 : Int32} {x2 : Int32} {x3 : Int32} {x4 : Int32} {x5 : Int32} {x6 : Int32} {x7 : Int32} {s0 : Int32} {h : sv_H} (hs : sv_same h0 h) : sv_fr sv_same h0 (fn_X17_part_81 x0 x1 x2 x3 x4 x5 x6 x7 s0 h) := by
  unfold fn_X17_part_81
  refine fr_cl (fun _ _ e => hs.trans (fr_X17_wallPart e)) (fun _ h hs => ?_)
  refine fr_if ?_ ?_
  · exact fr_X17_part_101 hs
  · exact fr_X17_part_101 hs
theorem fr_X17_part_53 {h0 : sv_H} {x0 : Nat} {x1 : Int32} {x2 : Int32} {x3 : Int32} {x4 : Int32} {x5 : Int32} {x6 : Int32} {s0 : Nat} {s1 : Int32} {s2 : Int32} {s3 : Int32} {h : sv_H} (hs : sv_same h0 h) : sv_fr sv_same h0 (fn_X17_part_53 x0 x1 x2 x3 x4 x5 x6 s0 s1 s2 s3 h) := by
  unfold fn_X17_part_53
  refine fr_cl (fun _ _ e => hs.trans (fr_X17_wallPart e)) (fun _ h hs => ?_)
  refine fr_if ?_ ?_
  · exact fr_X17_part_81 hs
  · refine fr_bd (fun _ => ?_)
    refine fr_cl (fun _ _ e => hs.trans (fr_X14_texture e)) (fun _ h hs => ?_)
    exact fr_X17_part_81 hs
theorem fr_X17_part_34 {h0 : sv_H} {x0 : Nat} {x1 : Int32} {x2 : Int32} {x3 : Int32} {x4 : Int32} {x5 : Int32} {x6 : Int32} {s0 : Nat} {s1 : Int32} {s2 : Int32} {h : sv_H} (hs : sv_same h0 h) : sv_fr sv_same h0 (fn_X17_part_34 x0 x1 x2 x3 x4 x5 x6 s0 s1 s2 h) := by
  unfold fn_X17_part_34
  refine fr_if ?_ ?_
  · exact fr_X17_part_53 hs
  · refine fr_if ?_ ?_
    · exact fr_X17_part_53 hs
    · exact fr_X17_part_53 hs
theorem fr_X17_part_0 {h0 : sv_H} {x0 : Nat} {x1 : Int32} {x2 : Int32} {x3 : Int32} {x4 : Int32} {h : sv_H} (hs : sv_same h0 h) : sv_fr sv_same h0 (fn_X17_part x0 x1 x2 x3 x4 h) := by
  unfold fn_X17_part
  refine fr_if ?_ fr_no
  refine fr_cl (fun _ _ e => hs.trans (fr_X17_sideOf e)) (fun _ h hs => ?_)
  refine fr_cl (fun _ _ e => hs.trans (fr_X17_sideOf e)) (fun _ h hs => ?_)
  refine fr_bd (fun _ => ?_)
  refine fr_if ?_ ?_
  · exact fr_X17_part_34 hs
  · exact fr_X17_part_34 hs
theorem fr_X17_part {x0 : Nat} {x1 : Int32} {x2 : Int32} {x3 : Int32} {x4 : Int32} {h : sv_H} {r : Unit} {hE : sv_H} (hw : fn_X17_part x0 x1 x2 x3 x4 h = some (r, hE)) : sv_same h hE := fr_X17_part_0 (sv_same.refl h) r hE hw

theorem fr_X17_column_399 {h0 : sv_H} {h : sv_H} (hs : sv_same h0 h) : sv_fr sv_same h0 (fn_X17_column_399 h) := by
  unfold fn_X17_column_399
  exact fr_rt hs
theorem fr_X17_column_393 {h0 : sv_H} {k113 : Nat → Int32 → Int32 → Int32 → sv_H → Option (Unit × sv_H)} (hk113 : ∀ {x0 : Nat} {x2 : Int32} {x3 : Int32} {x4 : Int32} {h : sv_H}, sv_same h0 h → sv_fr sv_same h0 (k113 x0 x2 x3 x4 h)) {x0 : Nat} {x2 : Int32} {x3 : Int32} {x4 : Int32} {h : sv_H} (hs : sv_same h0 h) : sv_fr sv_same h0 (fn_X17_column_393 k113 x0 x2 x3 x4 h) := by
  unfold fn_X17_column_393
  exact hk113 hs
theorem fr_X17_column_363 {h0 : sv_H} {k113 : Nat → Int32 → Int32 → Int32 → sv_H → Option (Unit × sv_H)} (hk113 : ∀ {x0 : Nat} {x2 : Int32} {x3 : Int32} {x4 : Int32} {h : sv_H}, sv_same h0 h → sv_fr sv_same h0 (k113 x0 x2 x3 x4 h)) {x0 : Nat} {x4 : Int32} {x5 : Int32} {x9 : Int32} {x10 : Int32} {x11 : Int32} {s0 : Int32} {h : sv_H} (hs : sv_same h0 h) : sv_fr sv_same h0 (fn_X17_column_363 k113 x0 x4 x5 x9 x10 x11 s0 h) := by
  unfold fn_X17_column_363
  refine fr_cl (fun _ _ e => hs.trans (fr_X17_part e)) (fun _ h hs => ?_)
  refine fr_cl (fun _ _ e => hs.trans (fr_X17_part e)) (fun _ h hs => ?_)
  exact fr_X17_column_393 hk113 hs
theorem fr_X17_column_315 {h0 : sv_H} {k113 : Nat → Int32 → Int32 → Int32 → sv_H → Option (Unit × sv_H)} (hk113 : ∀ {x0 : Nat} {x2 : Int32} {x3 : Int32} {x4 : Int32} {h : sv_H}, sv_same h0 h → sv_fr sv_same h0 (k113 x0 x2 x3 x4 h)) {x0 : Nat} {x4 : Int32} {x5 : Int32} {x7 : Int32} {x8 : Int32} {x9 : Int32} {x10 : Int32} {s0 : Int32} {h : sv_H} (hs : sv_same h0 h) : sv_fr sv_same h0 (fn_X17_column_315 k113 x0 x4 x5 x7 x8 x9 x10 s0 h) := by
  unfold fn_X17_column_315
  refine fr_bd (fun _ => ?_)
  refine fr_bd (fun _ => ?_)
  refine fr_bd (fun _ => ?_)
  refine fr_bd (fun _ => ?_)
  refine fr_bd (fun _ => ?_)
  refine fr_bd (fun _ => ?_)
  refine fr_if ?_ ?_
  · exact fr_X17_column_363 hk113 hs
  · refine fr_bd (fun _ => ?_)
    refine fr_bd (fun _ => ?_)
    refine fr_bd (fun _ => ?_)
    refine fr_cl (fun _ _ e => hs.trans (fr_X17_rowOf e)) (fun _ h hs => ?_)
    exact fr_X17_column_363 hk113 hs
theorem fr_X17_column_113b {h0 : sv_H} {k113 : Nat → Int32 → Int32 → Int32 → sv_H → Option (Unit × sv_H)} (hk113 : ∀ {x0 : Nat} {x2 : Int32} {x3 : Int32} {x4 : Int32} {h : sv_H}, sv_same h0 h → sv_fr sv_same h0 (k113 x0 x2 x3 x4 h)) {x0 : Nat} {x2 : Int32} {x3 : Int32} {x4 : Int32} {h : sv_H} (hs : sv_same h0 h) : sv_fr sv_same h0 (fn_X17_column_113b k113 x0 x2 x3 x4 h) := by
  unfold fn_X17_column_113b
  refine fr_bd (fun _ => ?_)
  refine fr_if ?_ ?_
  · exact fr_X17_column_399 hs
  · refine fr_if ?_ ?_
    · exact fr_X17_column_399 hs
    · refine fr_bd (fun _ => ?_)
      refine fr_bd (fun _ => ?_)
      refine fr_cl (fun _ _ e => hs.trans (fr_X17_meets e)) (fun _ h hs => ?_)
      refine fr_cl (fun _ _ e => hs.trans (fr_X17_sideOf e)) (fun _ h hs => ?_)
      refine fr_cl (fun _ _ e => hs.trans (fr_X17_sideOf e)) (fun _ h hs => ?_)
      refine fr_if ?_ ?_
      · refine fr_bd (fun _ => ?_)
        refine fr_bd (fun _ => ?_)
        refine fr_st (fun _ e => hs.trans (st_sI e)) (fun h hs => ?_)
        refine fr_bd (fun _ => ?_)
        refine fr_st (fun _ e => hs.trans (st_pI e)) (fun h hs => ?_)
        refine fr_bd (fun _ => ?_)
        refine fr_bd (fun _ => ?_)
        refine fr_bd (fun _ => ?_)
        refine fr_cl (fun _ _ e => hs.trans (fr_X17_rowOf e)) (fun _ h hs => ?_)
        refine fr_bd (fun _ => ?_)
        refine fr_bd (fun _ => ?_)
        refine fr_bd (fun _ => ?_)
        refine fr_cl (fun _ _ e => hs.trans (fr_X17_rowOf e)) (fun _ h hs => ?_)
        refine fr_cl (fun _ _ e => hs.trans (fr_X17_flat e)) (fun _ h hs => ?_)
        refine fr_cl (fun _ _ e => hs.trans (fr_X17_flat e)) (fun _ h hs => ?_)
        refine fr_if ?_ ?_
        · refine fr_bd (fun _ => ?_)
          refine fr_bd (fun _ => ?_)
          refine fr_bd (fun _ => ?_)
          refine fr_bd (fun _ => ?_)
          refine fr_bd (fun _ => ?_)
          refine fr_bd (fun _ => ?_)
          refine fr_if ?_ ?_
          · exact fr_X17_column_315 hk113 hs
          · refine fr_bd (fun _ => ?_)
            refine fr_bd (fun _ => ?_)
            refine fr_bd (fun _ => ?_)
            refine fr_cl (fun _ _ e => hs.trans (fr_X17_rowOf e)) (fun _ h hs => ?_)
            exact fr_X17_column_315 hk113 hs
        · refine fr_cl (fun _ _ e => hs.trans (fr_X17_part e)) (fun _ h hs => ?_)
          exact fr_X17_column_393 hk113 hs
      · exact fr_X17_column_393 hk113 hs
theorem fr_X17_column_113 {h0 : sv_H} : ∀ (n : Nat) {x0 : Nat} {x2 : Int32} {x3 : Int32} {x4 : Int32} {h : sv_H}, sv_same h0 h → sv_fr sv_same h0 (fn_X17_column_113 n x0 x2 x3 x4 h) := by
  intro n
  induction n with
  | zero => intro x0 x2 x3 x4 h hs r hE e; cases (show (none : Option (Unit × sv_H)) = some (r, hE) from e)
  | succ n ih => intro x0 x2 x3 x4 h hs; exact fr_X17_column_113b (fun hs => ih hs) hs
theorem fr_X17_column_81b {h0 : sv_H} {k81 : Nat → Int32 → Int32 → Int32 → sv_H → Option (Unit × sv_H)} (hk81 : ∀ {x0 : Nat} {x2 : Int32} {x3 : Int32} {x4 : Int32} {h : sv_H}, sv_same h0 h → sv_fr sv_same h0 (k81 x0 x2 x3 x4 h)) {x0 : Nat} {x2 : Int32} {x3 : Int32} {x4 : Int32} {h : sv_H} (hs : sv_same h0 h) : sv_fr sv_same h0 (fn_X17_column_81b k81 x0 x2 x3 x4 h) := by
  unfold fn_X17_column_81b
  refine fr_if ?_ ?_
  · exact fr_X17_column_113 sv_fuel hs
  · refine fr_bd (fun _ => ?_)
    refine fr_st (fun _ e => hs.trans (st_sI e)) (fun h hs => ?_)
    refine fr_bd (fun _ => ?_)
    refine fr_st (fun _ e => hs.trans (st_sI e)) (fun h hs => ?_)
    exact hk81 hs
theorem fr_X17_column_81 {h0 : sv_H} : ∀ (n : Nat) {x0 : Nat} {x2 : Int32} {x3 : Int32} {x4 : Int32} {h : sv_H}, sv_same h0 h → sv_fr sv_same h0 (fn_X17_column_81 n x0 x2 x3 x4 h) := by
  intro n
  induction n with
  | zero => intro x0 x2 x3 x4 h hs r hE e; cases (show (none : Option (Unit × sv_H)) = some (r, hE) from e)
  | succ n ih => intro x0 x2 x3 x4 h hs; exact fr_X17_column_81b (fun hs => ih hs) hs
theorem fr_X17_column_0 {h0 : sv_H} {x0 : Nat} {x1 : Int32} {h : sv_H} (hs : sv_same h0 h) : sv_fr sv_same h0 (fn_X17_column x0 x1 h) := by
  unfold fn_X17_column
  refine fr_if ?_ fr_no
  refine fr_bd (fun _ => ?_)
  refine fr_cl (fun _ _ e => hs.trans (fr_X17_cosine e)) (fun _ h hs => ?_)
  refine fr_bd (fun _ => ?_)
  refine fr_cl (fun _ _ e => hs.trans (fr_X17_sine e)) (fun _ h hs => ?_)
  refine fr_bd (fun _ => ?_)
  refine fr_cl (fun _ _ e => hs.trans (fr_X17_sine e)) (fun _ h hs => ?_)
  refine fr_bd (fun _ => ?_)
  refine fr_cl (fun _ _ e => hs.trans (fr_X17_cosine e)) (fun _ h hs => ?_)
  refine fr_cl (fun _ _ e => hs.trans (fr_X17_gather e)) (fun _ h hs => ?_)
  refine fr_st (fun _ e => hs.trans (st_pI e)) (fun h hs => ?_)
  exact fr_X17_column_81 sv_fuel hs
theorem fr_X17_column {x0 : Nat} {x1 : Int32} {h : sv_H} {r : Unit} {hE : sv_H} (hw : fn_X17_column x0 x1 h = some (r, hE)) : sv_same h hE := fr_X17_column_0 (sv_same.refl h) r hE hw

theorem fr_X17_pixelAt_0 {h0 : sv_H} {x0 : Nat} {x1 : Int32} {x2 : Int32} {h : sv_H} (hs : sv_same h0 h) : sv_fr sv_same h0 (fn_X17_pixelAt x0 x1 x2 h) := by
  unfold fn_X17_pixelAt
  refine fr_if ?_ fr_no
  refine fr_st (fun _ e => hs.trans (st_pI e)) (fun h hs => ?_)
  refine fr_cl (fun _ _ e => hs.trans (fr_X17_isPixel e)) (fun _ h hs => ?_)
  refine fr_if ?_ ?_
  · exact fr_rt hs
  · refine fr_cl (fun _ _ e => hs.trans (fr_X17_column e)) (fun _ h hs => ?_)
    refine fr_bd (fun _ => ?_)
    refine fr_bd (fun _ => ?_)
    exact fr_rt hs
theorem fr_X17_pixelAt {x0 : Nat} {x1 : Int32} {x2 : Int32} {h : sv_H} {r : Int32} {hE : sv_H} (hw : fn_X17_pixelAt x0 x1 x2 h = some (r, hE)) : sv_same h hE := fr_X17_pixelAt_0 (sv_same.refl h) r hE hw

theorem fr_X12_surfaceAt_18 {h0 : sv_H} {h : sv_H} (hs : sv_same h0 h) : sv_fr sv_same h0 (fn_X12_surfaceAt_18 h) := by
  unfold fn_X12_surfaceAt_18
  exact fr_rt hs
theorem fr_X12_surfaceAt_0 {h0 : sv_H} {x0 : Nat} {x1 : Int32} {x2 : Int32} {h : sv_H} (hs : sv_same h0 h) : sv_fr sv_same h0 (fn_X12_surfaceAt x0 x1 x2 h) := by
  unfold fn_X12_surfaceAt
  refine fr_if ?_ fr_no
  refine fr_cl (fun _ _ e => hs.trans (fr_X12_isSeen e)) (fun _ h hs => ?_)
  refine fr_if ?_ ?_
  · exact fr_X12_surfaceAt_18 hs
  · refine fr_if ?_ ?_
    · exact fr_X12_surfaceAt_18 hs
    · refine fr_if ?_ ?_
      · refine fr_bd (fun _ => ?_)
        refine fr_bd (fun _ => ?_)
        refine fr_cl (fun _ _ e => hs.trans (fr_X9_look e)) (fun _ h hs => ?_)
        refine fr_bd (fun _ => ?_)
        refine fr_bd (fun _ => ?_)
        refine fr_bd (fun _ => ?_)
        exact fr_rt hs
      · exact fr_X12_surfaceAt_18 hs
theorem fr_X12_surfaceAt {x0 : Nat} {x1 : Int32} {x2 : Int32} {h : sv_H} {r : Int32} {hE : sv_H} (hw : fn_X12_surfaceAt x0 x1 x2 h = some (r, hE)) : sv_same h hE := fr_X12_surfaceAt_0 (sv_same.refl h) r hE hw

theorem fr_X17_surfaceAt_0 {h0 : sv_H} {x0 : Nat} {x1 : Int32} {x2 : Int32} {h : sv_H} (hs : sv_same h0 h) : sv_fr sv_same h0 (fn_X17_surfaceAt x0 x1 x2 h) := by
  unfold fn_X17_surfaceAt
  refine fr_if ?_ fr_no
  refine fr_st (fun _ e => hs.trans (st_pI e)) (fun h hs => ?_)
  refine fr_cl (fun _ _ e => hs.trans (fr_X17_isPixel e)) (fun _ h hs => ?_)
  refine fr_if ?_ ?_
  · exact fr_rt hs
  · refine fr_cl (fun _ _ e => hs.trans (fr_X17_column e)) (fun _ h hs => ?_)
    refine fr_bd (fun _ => ?_)
    refine fr_bd (fun _ => ?_)
    exact fr_rt hs
theorem fr_X17_surfaceAt {x0 : Nat} {x1 : Int32} {x2 : Int32} {h : sv_H} {r : Int32} {hE : sv_H} (hw : fn_X17_surfaceAt x0 x1 x2 h = some (r, hE)) : sv_same h hE := fr_X17_surfaceAt_0 (sv_same.refl h) r hE hw

theorem fr_X12_metAt_12 {h0 : sv_H} {h : sv_H} (hs : sv_same h0 h) : sv_fr sv_same h0 (fn_X12_metAt_12 h) := by
  unfold fn_X12_metAt_12
  exact fr_rt hs
theorem fr_X12_metAt_50 {h0 : sv_H} {s0 : Int32} {h : sv_H} (hs : sv_same h0 h) : sv_fr sv_same h0 (fn_X12_metAt_50 s0 h) := by
  unfold fn_X12_metAt_50
  exact fr_rt hs
theorem fr_X12_metAt_0 {h0 : sv_H} {x0 : Nat} {x1 : Int32} {x2 : Int32} {h : sv_H} (hs : sv_same h0 h) : sv_fr sv_same h0 (fn_X12_metAt x0 x1 x2 h) := by
  unfold fn_X12_metAt
  refine fr_if ?_ fr_no
  refine fr_cl (fun _ _ e => hs.trans (fr_X12_isSeen e)) (fun _ h hs => ?_)
  refine fr_if ?_ ?_
  · exact fr_X12_metAt_12 hs
  · refine fr_if ?_ ?_
    · refine fr_bd (fun _ => ?_)
      refine fr_bd (fun _ => ?_)
      refine fr_cl (fun _ _ e => hs.trans (fr_X9_look e)) (fun _ h hs => ?_)
      refine fr_bd (fun _ => ?_)
      refine fr_bd (fun _ => ?_)
      refine fr_if ?_ ?_
      · exact fr_X12_metAt_50 hs
      · refine fr_bd (fun _ => ?_)
        refine fr_bd (fun _ => ?_)
        refine fr_bd (fun _ => ?_)
        exact fr_X12_metAt_50 hs
    · exact fr_X12_metAt_12 hs
theorem fr_X12_metAt {x0 : Nat} {x1 : Int32} {x2 : Int32} {h : sv_H} {r : Int32} {hE : sv_H} (hw : fn_X12_metAt x0 x1 x2 h = some (r, hE)) : sv_same h hE := fr_X12_metAt_0 (sv_same.refl h) r hE hw

theorem fr_X17_metAt_43 {h0 : sv_H} {s0 : Int32} {h : sv_H} (hs : sv_same h0 h) : sv_fr sv_same h0 (fn_X17_metAt_43 s0 h) := by
  unfold fn_X17_metAt_43
  exact fr_rt hs
theorem fr_X17_metAt_42 {h0 : sv_H} {h : sv_H} (hs : sv_same h0 h) : sv_fr sv_same h0 (fn_X17_metAt_42 h) := by
  unfold fn_X17_metAt_42
  exact fr_X17_metAt_43 hs
theorem fr_X17_metAt_0 {h0 : sv_H} {x0 : Nat} {x1 : Int32} {x2 : Int32} {h : sv_H} (hs : sv_same h0 h) : sv_fr sv_same h0 (fn_X17_metAt x0 x1 x2 h) := by
  unfold fn_X17_metAt
  refine fr_if ?_ fr_no
  refine fr_st (fun _ e => hs.trans (st_pI e)) (fun h hs => ?_)
  refine fr_cl (fun _ _ e => hs.trans (fr_X17_isPixel e)) (fun _ h hs => ?_)
  refine fr_if ?_ ?_
  · exact fr_rt hs
  · refine fr_cl (fun _ _ e => hs.trans (fr_X17_column e)) (fun _ h hs => ?_)
    refine fr_if ?_ ?_
    · exact fr_X17_metAt_42 hs
    · refine fr_bd (fun _ => ?_)
      refine fr_if ?_ ?_
      · exact fr_X17_metAt_42 hs
      · refine fr_bd (fun _ => ?_)
        refine fr_bd (fun _ => ?_)
        exact fr_X17_metAt_43 hs
theorem fr_X17_metAt {x0 : Nat} {x1 : Int32} {x2 : Int32} {h : sv_H} {r : Int32} {hE : sv_H} (hw : fn_X17_metAt x0 x1 x2 h = some (r, hE)) : sv_same h hE := fr_X17_metAt_0 (sv_same.refl h) r hE hw

theorem fr_X12_frameOf_62b {h0 : sv_H} {k36 : Nat → Int64 → Int64 → Int32 → sv_H → Option (Int64 × sv_H)} (hk36 : ∀ {x0 : Nat} {x1 : Int64} {x3 : Int64} {x5 : Int32} {h : sv_H}, sv_same h0 h → sv_fr sv_same h0 (k36 x0 x1 x3 x5 h)) {k62 : Nat → Int64 → Int64 → Int32 → Int64 → Int32 → sv_H → Option (Int64 × sv_H)} (hk62 : ∀ {x0 : Nat} {x1 : Int64} {x3 : Int64} {x5 : Int32} {x6 : Int64} {x8 : Int32} {h : sv_H}, sv_same h0 h → sv_fr sv_same h0 (k62 x0 x1 x3 x5 x6 x8 h)) {x0 : Nat} {x1 : Int64} {x3 : Int64} {x5 : Int32} {x6 : Int64} {x8 : Int32} {h : sv_H} (hs : sv_same h0 h) : sv_fr sv_same h0 (fn_X12_frameOf_62b k36 k62 x0 x1 x3 x5 x6 x8 h) := by
  unfold fn_X12_frameOf_62b
  refine fr_if ?_ ?_
  · exact hk36 hs
  · refine fr_bd (fun _ => ?_)
    refine fr_bd (fun _ => ?_)
    refine fr_bd (fun _ => ?_)
    exact hk62 hs
theorem fr_X12_frameOf_62 {h0 : sv_H} {k36 : Nat → Int64 → Int64 → Int32 → sv_H → Option (Int64 × sv_H)} (hk36 : ∀ {x0 : Nat} {x1 : Int64} {x3 : Int64} {x5 : Int32} {h : sv_H}, sv_same h0 h → sv_fr sv_same h0 (k36 x0 x1 x3 x5 h)) : ∀ (n : Nat) {x0 : Nat} {x1 : Int64} {x3 : Int64} {x5 : Int32} {x6 : Int64} {x8 : Int32} {h : sv_H}, sv_same h0 h → sv_fr sv_same h0 (fn_X12_frameOf_62 k36 n x0 x1 x3 x5 x6 x8 h) := by
  intro n
  induction n with
  | zero => intro x0 x1 x3 x5 x6 x8 h hs r hE e; cases (show (none : Option (Int64 × sv_H)) = some (r, hE) from e)
  | succ n ih => intro x0 x1 x3 x5 x6 x8 h hs; exact fr_X12_frameOf_62b hk36 (fun hs => ih hs) hs
theorem fr_X12_frameOf_36b {h0 : sv_H} {k36 : Nat → Int64 → Int64 → Int32 → sv_H → Option (Int64 × sv_H)} (hk36 : ∀ {x0 : Nat} {x1 : Int64} {x3 : Int64} {x5 : Int32} {h : sv_H}, sv_same h0 h → sv_fr sv_same h0 (k36 x0 x1 x3 x5 h)) {x0 : Nat} {x1 : Int64} {x3 : Int64} {x5 : Int32} {h : sv_H} (hs : sv_same h0 h) : sv_fr sv_same h0 (fn_X12_frameOf_36b k36 x0 x1 x3 x5 h) := by
  unfold fn_X12_frameOf_36b
  refine fr_if ?_ ?_
  · exact fr_rt hs
  · refine fr_bd (fun _ => ?_)
    refine fr_bd (fun _ => ?_)
    refine fr_cl (fun _ _ e => hs.trans (fr_X9_look e)) (fun _ h hs => ?_)
    exact fr_X12_frameOf_62 hk36 sv_fuel hs
theorem fr_X12_frameOf_36 {h0 : sv_H} : ∀ (n : Nat) {x0 : Nat} {x1 : Int64} {x3 : Int64} {x5 : Int32} {h : sv_H}, sv_same h0 h → sv_fr sv_same h0 (fn_X12_frameOf_36 n x0 x1 x3 x5 h) := by
  intro n
  induction n with
  | zero => intro x0 x1 x3 x5 h hs r hE e; cases (show (none : Option (Int64 × sv_H)) = some (r, hE) from e)
  | succ n ih => intro x0 x1 x3 x5 h hs; exact fr_X12_frameOf_36b (fun hs => ih hs) hs
theorem fr_X12_frameOf_13b {h0 : sv_H} {k13 : Nat → Int64 → Int32 → sv_H → Option (Int64 × sv_H)} (hk13 : ∀ {x0 : Nat} {x1 : Int64} {x3 : Int32} {h : sv_H}, sv_same h0 h → sv_fr sv_same h0 (k13 x0 x1 x3 h)) {x0 : Nat} {x1 : Int64} {x3 : Int32} {h : sv_H} (hs : sv_same h0 h) : sv_fr sv_same h0 (fn_X12_frameOf_13b k13 x0 x1 x3 h) := by
  unfold fn_X12_frameOf_13b
  refine fr_if ?_ ?_
  · exact fr_X12_frameOf_36 sv_fuel hs
  · exact hk13 hs
theorem fr_X12_frameOf_13 {h0 : sv_H} : ∀ (n : Nat) {x0 : Nat} {x1 : Int64} {x3 : Int32} {h : sv_H}, sv_same h0 h → sv_fr sv_same h0 (fn_X12_frameOf_13 n x0 x1 x3 h) := by
  intro n
  induction n with
  | zero => intro x0 x1 x3 h hs r hE e; cases (show (none : Option (Int64 × sv_H)) = some (r, hE) from e)
  | succ n ih => intro x0 x1 x3 h hs; exact fr_X12_frameOf_13b (fun hs => ih hs) hs
theorem fr_X12_frameOf_0 {h0 : sv_H} {x0 : Nat} {h : sv_H} (hs : sv_same h0 h) : sv_fr sv_same h0 (fn_X12_frameOf x0 h) := by
  unfold fn_X12_frameOf
  refine fr_if ?_ fr_no
  refine fr_cl (fun _ _ e => hs.trans (fr_X12_hasMap e)) (fun _ h hs => ?_)
  refine fr_if ?_ ?_
  · exact fr_rt hs
  · exact fr_X12_frameOf_13 sv_fuel hs
theorem fr_X12_frameOf {x0 : Nat} {h : sv_H} {r : Int64} {hE : sv_H} (hw : fn_X12_frameOf x0 h = some (r, hE)) : sv_same h hE := fr_X12_frameOf_0 (sv_same.refl h) r hE hw

theorem fr_X17_frameOf_68b {h0 : sv_H} {k68 : Nat → Int64 → Int32 → sv_H → Option (Int64 × sv_H)} (hk68 : ∀ {x0 : Nat} {x1 : Int64} {x3 : Int32} {h : sv_H}, sv_same h0 h → sv_fr sv_same h0 (k68 x0 x1 x3 h)) {x0 : Nat} {x1 : Int64} {x3 : Int32} {h : sv_H} (hs : sv_same h0 h) : sv_fr sv_same h0 (fn_X17_frameOf_68b k68 x0 x1 x3 h) := by
  unfold fn_X17_frameOf_68b
  refine fr_if ?_ ?_
  · exact fr_rt hs
  · refine fr_bd (fun _ => ?_)
    refine fr_bd (fun _ => ?_)
    exact hk68 hs
theorem fr_X17_frameOf_68 {h0 : sv_H} : ∀ (n : Nat) {x0 : Nat} {x1 : Int64} {x3 : Int32} {h : sv_H}, sv_same h0 h → sv_fr sv_same h0 (fn_X17_frameOf_68 n x0 x1 x3 h) := by
  intro n
  induction n with
  | zero => intro x0 x1 x3 h hs r hE e; cases (show (none : Option (Int64 × sv_H)) = some (r, hE) from e)
  | succ n ih => intro x0 x1 x3 h hs; exact fr_X17_frameOf_68b (fun hs => ih hs) hs
theorem fr_X17_frameOf_29b {h0 : sv_H} {k16 : Nat → Int32 → sv_H → Option (Int64 × sv_H)} (hk16 : ∀ {x0 : Nat} {x1 : Int32} {h : sv_H}, sv_same h0 h → sv_fr sv_same h0 (k16 x0 x1 h)) {k29 : Nat → Int32 → Int32 → sv_H → Option (Int64 × sv_H)} (hk29 : ∀ {x0 : Nat} {x1 : Int32} {x2 : Int32} {h : sv_H}, sv_same h0 h → sv_fr sv_same h0 (k29 x0 x1 x2 h)) {x0 : Nat} {x1 : Int32} {x2 : Int32} {h : sv_H} (hs : sv_same h0 h) : sv_fr sv_same h0 (fn_X17_frameOf_29b k16 k29 x0 x1 x2 h) := by
  unfold fn_X17_frameOf_29b
  refine fr_if ?_ ?_
  · exact hk16 hs
  · refine fr_bd (fun _ => ?_)
    refine fr_bd (fun _ => ?_)
    refine fr_bd (fun _ => ?_)
    refine fr_st (fun _ e => hs.trans (st_sI e)) (fun h hs => ?_)
    exact hk29 hs
theorem fr_X17_frameOf_29 {h0 : sv_H} {k16 : Nat → Int32 → sv_H → Option (Int64 × sv_H)} (hk16 : ∀ {x0 : Nat} {x1 : Int32} {h : sv_H}, sv_same h0 h → sv_fr sv_same h0 (k16 x0 x1 h)) : ∀ (n : Nat) {x0 : Nat} {x1 : Int32} {x2 : Int32} {h : sv_H}, sv_same h0 h → sv_fr sv_same h0 (fn_X17_frameOf_29 k16 n x0 x1 x2 h) := by
  intro n
  induction n with
  | zero => intro x0 x1 x2 h hs r hE e; cases (show (none : Option (Int64 × sv_H)) = some (r, hE) from e)
  | succ n ih => intro x0 x1 x2 h hs; exact fr_X17_frameOf_29b hk16 (fun hs => ih hs) hs
theorem fr_X17_frameOf_16b {h0 : sv_H} {k16 : Nat → Int32 → sv_H → Option (Int64 × sv_H)} (hk16 : ∀ {x0 : Nat} {x1 : Int32} {h : sv_H}, sv_same h0 h → sv_fr sv_same h0 (k16 x0 x1 h)) {x0 : Nat} {x1 : Int32} {h : sv_H} (hs : sv_same h0 h) : sv_fr sv_same h0 (fn_X17_frameOf_16b k16 x0 x1 h) := by
  unfold fn_X17_frameOf_16b
  refine fr_if ?_ ?_
  · exact fr_X17_frameOf_68 sv_fuel hs
  · refine fr_cl (fun _ _ e => hs.trans (fr_X17_column e)) (fun _ h hs => ?_)
    exact fr_X17_frameOf_29 hk16 sv_fuel hs
theorem fr_X17_frameOf_16 {h0 : sv_H} : ∀ (n : Nat) {x0 : Nat} {x1 : Int32} {h : sv_H}, sv_same h0 h → sv_fr sv_same h0 (fn_X17_frameOf_16 n x0 x1 h) := by
  intro n
  induction n with
  | zero => intro x0 x1 h hs r hE e; cases (show (none : Option (Int64 × sv_H)) = some (r, hE) from e)
  | succ n ih => intro x0 x1 h hs; exact fr_X17_frameOf_16b (fun hs => ih hs) hs
theorem fr_X17_frameOf_0 {h0 : sv_H} {x0 : Nat} {h : sv_H} (hs : sv_same h0 h) : sv_fr sv_same h0 (fn_X17_frameOf x0 h) := by
  unfold fn_X17_frameOf
  refine fr_if ?_ fr_no
  refine fr_st (fun _ e => hs.trans (st_pI e)) (fun h hs => ?_)
  refine fr_bd (fun _ => ?_)
  refine fr_if ?_ ?_
  · exact fr_rt hs
  · exact fr_X17_frameOf_16 sv_fuel hs
theorem fr_X17_frameOf {x0 : Nat} {h : sv_H} {r : Int64} {hE : sv_H} (hw : fn_X17_frameOf x0 h = some (r, hE)) : sv_same h hE := fr_X17_frameOf_0 (sv_same.refl h) r hE hw

theorem fr_X12_nodeOf_22 {h0 : sv_H} {h : sv_H} (hs : sv_same h0 h) : sv_fr sv_same h0 (fn_X12_nodeOf_22 h) := by
  unfold fn_X12_nodeOf_22
  exact fr_rt hs
theorem fr_X12_nodeOf_0 {h0 : sv_H} {x0 : Nat} {x1 : Int32} {x2 : Int32} {h : sv_H} (hs : sv_same h0 h) : sv_fr sv_same h0 (fn_X12_nodeOf x0 x1 x2 h) := by
  unfold fn_X12_nodeOf
  refine fr_if ?_ fr_no
  refine fr_cl (fun _ _ e => hs.trans (fr_X12_hasMap e)) (fun _ h hs => ?_)
  refine fr_if ?_ ?_
  · exact fr_X12_nodeOf_22 hs
  · refine fr_if ?_ ?_
    · exact fr_X12_nodeOf_22 hs
    · refine fr_bd (fun _ => ?_)
      refine fr_bd (fun _ => ?_)
      refine fr_if ?_ ?_
      · refine fr_if ?_ ?_
        · refine fr_bd (fun _ => ?_)
          refine fr_bd (fun _ => ?_)
          refine fr_bd (fun _ => ?_)
          exact fr_rt hs
        refine fr_if ?_ ?_
        · refine fr_bd (fun _ => ?_)
          refine fr_bd (fun _ => ?_)
          refine fr_bd (fun _ => ?_)
          refine fr_let (fun _ => ?_)
          exact fr_rt hs
        refine fr_if ?_ ?_
        · refine fr_bd (fun _ => ?_)
          refine fr_bd (fun _ => ?_)
          refine fr_bd (fun _ => ?_)
          refine fr_let (fun _ => ?_)
          exact fr_rt hs
        refine fr_if ?_ ?_
        · refine fr_bd (fun _ => ?_)
          refine fr_bd (fun _ => ?_)
          refine fr_bd (fun _ => ?_)
          exact fr_rt hs
        refine fr_if ?_ ?_
        · refine fr_bd (fun _ => ?_)
          refine fr_bd (fun _ => ?_)
          refine fr_bd (fun _ => ?_)
          exact fr_rt hs
        refine fr_if ?_ ?_
        · refine fr_bd (fun _ => ?_)
          refine fr_bd (fun _ => ?_)
          refine fr_bd (fun _ => ?_)
          exact fr_rt hs
        exact fr_rt hs
      · exact fr_X12_nodeOf_22 hs
theorem fr_X12_nodeOf {x0 : Nat} {x1 : Int32} {x2 : Int32} {h : sv_H} {r : Int32} {hE : sv_H} (hw : fn_X12_nodeOf x0 x1 x2 h = some (r, hE)) : sv_same h hE := fr_X12_nodeOf_0 (sv_same.refl h) r hE hw

theorem fr_X16_piece_0 {h0 : sv_H} {x0 : Nat} {x1 : Int32} {x2 : Int64} {x4 : Int64} {x6 : Int64} {x8 : Int64} {h : sv_H} (hs : sv_same h0 h) : sv_fr sv_same h0 (fn_X16_piece x0 x1 x2 x4 x6 x8 h) := by
  unfold fn_X16_piece
  refine fr_if ?_ fr_no
  refine fr_bd (fun _ => ?_)
  refine fr_bd (fun _ => ?_)
  refine fr_st (fun _ e => hs.trans (st_sI e)) (fun h hs => ?_)
  refine fr_bd (fun _ => ?_)
  refine fr_bd (fun _ => ?_)
  refine fr_st (fun _ e => hs.trans (st_sJ e)) (fun h hs => ?_)
  refine fr_bd (fun _ => ?_)
  refine fr_bd (fun _ => ?_)
  refine fr_st (fun _ e => hs.trans (st_sJ e)) (fun h hs => ?_)
  refine fr_bd (fun _ => ?_)
  refine fr_bd (fun _ => ?_)
  refine fr_st (fun _ e => hs.trans (st_sJ e)) (fun h hs => ?_)
  refine fr_bd (fun _ => ?_)
  refine fr_bd (fun _ => ?_)
  refine fr_st (fun _ e => hs.trans (st_sJ e)) (fun h hs => ?_)
  refine fr_bd (fun _ => ?_)
  refine fr_st (fun _ e => hs.trans (st_pI e)) (fun h hs => ?_)
  refine fr_bd (fun _ => ?_)
  exact fr_rt hs
theorem fr_X16_piece {x0 : Nat} {x1 : Int32} {x2 : Int64} {x4 : Int64} {x6 : Int64} {x8 : Int64} {h : sv_H} {r : Int32} {hE : sv_H} (hw : fn_X16_piece x0 x1 x2 x4 x6 x8 h = some (r, hE)) : sv_same h hE := fr_X16_piece_0 (sv_same.refl h) r hE hw

theorem fr_X16_push_0 {h0 : sv_H} {x0 : Nat} {x1 : Int32} {x2 : Int32} {x3 : Int32} {x4 : Int32} {h : sv_H} (hs : sv_same h0 h) : sv_fr sv_same h0 (fn_X16_push x0 x1 x2 x3 x4 h) := by
  unfold fn_X16_push
  refine fr_if ?_ fr_no
  refine fr_bd (fun _ => ?_)
  refine fr_bd (fun _ => ?_)
  refine fr_st (fun _ e => hs.trans (st_sI e)) (fun h hs => ?_)
  refine fr_bd (fun _ => ?_)
  refine fr_bd (fun _ => ?_)
  refine fr_st (fun _ e => hs.trans (st_sI e)) (fun h hs => ?_)
  refine fr_bd (fun _ => ?_)
  refine fr_bd (fun _ => ?_)
  refine fr_st (fun _ e => hs.trans (st_sI e)) (fun h hs => ?_)
  refine fr_bd (fun _ => ?_)
  refine fr_bd (fun _ => ?_)
  refine fr_st (fun _ e => hs.trans (st_sI e)) (fun h hs => ?_)
  refine fr_bd (fun _ => ?_)
  refine fr_st (fun _ e => hs.trans (st_pI e)) (fun h hs => ?_)
  exact fr_rt hs
theorem fr_X16_push {x0 : Nat} {x1 : Int32} {x2 : Int32} {x3 : Int32} {x4 : Int32} {h : sv_H} {r : Unit} {hE : sv_H} (hw : fn_X16_push x0 x1 x2 x3 x4 h = some (r, hE)) : sv_same h hE := fr_X16_push_0 (sv_same.refl h) r hE hw

theorem fr_X16_cross_0 {h0 : sv_H} {x0 : Int64} {x2 : Int64} {x4 : Int64} {x6 : Int64} {h : sv_H} (hs : sv_same h0 h) : sv_fr sv_same h0 (fn_X16_cross x0 x2 x4 x6 h) := by
  unfold fn_X16_cross
  exact fr_rt hs
theorem fr_X16_cross {x0 : Int64} {x2 : Int64} {x4 : Int64} {x6 : Int64} {h : sv_H} {r : Int64} {hE : sv_H} (hw : fn_X16_cross x0 x2 x4 x6 h = some (r, hE)) : sv_same h hE := fr_X16_cross_0 (sv_same.refl h) r hE hw

theorem fr_X16_sideOf_0 {h0 : sv_H} {x0 : Nat} {x1 : Int32} {x2 : Int64} {x4 : Int64} {h : sv_H} (hs : sv_same h0 h) : sv_fr sv_same h0 (fn_X16_sideOf x0 x1 x2 x4 h) := by
  unfold fn_X16_sideOf
  refine fr_if ?_ fr_no
  refine fr_bd (fun _ => ?_)
  refine fr_bd (fun _ => ?_)
  refine fr_bd (fun _ => ?_)
  refine fr_bd (fun _ => ?_)
  refine fr_bd (fun _ => ?_)
  refine fr_bd (fun _ => ?_)
  refine fr_bd (fun _ => ?_)
  refine fr_bd (fun _ => ?_)
  refine fr_bd (fun _ => ?_)
  refine fr_bd (fun _ => ?_)
  refine fr_bd (fun _ => ?_)
  refine fr_bd (fun _ => ?_)
  refine fr_cl (fun _ _ e => hs.trans (fr_X16_cross e)) (fun _ h hs => ?_)
  exact fr_rt hs
theorem fr_X16_sideOf {x0 : Nat} {x1 : Int32} {x2 : Int64} {x4 : Int64} {h : sv_H} {r : Int64} {hE : sv_H} (hw : fn_X16_sideOf x0 x1 x2 x4 h = some (r, hE)) : sv_same h hE := fr_X16_sideOf_0 (sv_same.refl h) r hE hw

theorem fr_X16_sideAt_0 {h0 : sv_H} {x0 : Nat} {x1 : Int32} {x2 : Int32} {x3 : Int64} {x5 : Int64} {h : sv_H} (hs : sv_same h0 h) : sv_fr sv_same h0 (fn_X16_sideAt x0 x1 x2 x3 x5 h) := by
  unfold fn_X16_sideAt
  refine fr_if ?_ fr_no
  refine fr_bd (fun _ => ?_)
  refine fr_bd (fun _ => ?_)
  refine fr_bd (fun _ => ?_)
  refine fr_bd (fun _ => ?_)
  refine fr_cl (fun _ _ e => hs.trans (fr_X16_sideOf e)) (fun _ h hs => ?_)
  refine fr_bd (fun _ => ?_)
  refine fr_bd (fun _ => ?_)
  refine fr_bd (fun _ => ?_)
  refine fr_bd (fun _ => ?_)
  refine fr_cl (fun _ _ e => hs.trans (fr_X16_sideOf e)) (fun _ h hs => ?_)
  refine fr_cl (fun _ _ e => hs.trans (fr_X16_order e)) (fun _ h hs => ?_)
  exact fr_rt hs
theorem fr_X16_sideAt {x0 : Nat} {x1 : Int32} {x2 : Int32} {x3 : Int64} {x5 : Int64} {h : sv_H} {r : Int32} {hE : sv_H} (hw : fn_X16_sideAt x0 x1 x2 x3 x5 h = some (r, hE)) : sv_same h hE := fr_X16_sideAt_0 (sv_same.refl h) r hE hw

theorem fr_X16_lieOf_71 {h0 : sv_H} {s0 : Int32} {h : sv_H} (hs : sv_same h0 h) : sv_fr sv_same h0 (fn_X16_lieOf_71 s0 h) := by
  unfold fn_X16_lieOf_71
  exact fr_rt hs
theorem fr_X16_lieOf_0 {h0 : sv_H} {x0 : Nat} {x1 : Int32} {x2 : Int32} {h : sv_H} (hs : sv_same h0 h) : sv_fr sv_same h0 (fn_X16_lieOf x0 x1 x2 h) := by
  unfold fn_X16_lieOf
  refine fr_if ?_ fr_no
  refine fr_bd (fun _ => ?_)
  refine fr_bd (fun _ => ?_)
  refine fr_bd (fun _ => ?_)
  refine fr_bd (fun _ => ?_)
  refine fr_bd (fun _ => ?_)
  refine fr_bd (fun _ => ?_)
  refine fr_cl (fun _ _ e => hs.trans (fr_X16_sideAt e)) (fun _ h hs => ?_)
  refine fr_bd (fun _ => ?_)
  refine fr_bd (fun _ => ?_)
  refine fr_bd (fun _ => ?_)
  refine fr_bd (fun _ => ?_)
  refine fr_cl (fun _ _ e => hs.trans (fr_X16_sideAt e)) (fun _ h hs => ?_)
  refine fr_if ?_ ?_
  · refine fr_if ?_ ?_
    · exact fr_X16_lieOf_71 hs
    · exact fr_X16_lieOf_71 hs
  · exact fr_X16_lieOf_71 hs
theorem fr_X16_lieOf {x0 : Nat} {x1 : Int32} {x2 : Int32} {h : sv_H} {r : Int32} {hE : sv_H} (hw : fn_X16_lieOf x0 x1 x2 h = some (r, hE)) : sv_same h hE := fr_X16_lieOf_0 (sv_same.refl h) r hE hw

theorem fr_X16_bestOf_149 {h0 : sv_H} {x3 : Int32} {h : sv_H} (hs : sv_same h0 h) : sv_fr sv_same h0 (fn_X16_bestOf_149 x3 h) := by
  unfold fn_X16_bestOf_149
  exact fr_rt hs
theorem fr_X16_bestOf_143 {h0 : sv_H} {k9 : Nat → Int32 → Int32 → Int32 → Int32 → Int32 → sv_H → Option (Int32 × sv_H)} (hk9 : ∀ {x0 : Nat} {x1 : Int32} {x2 : Int32} {x3 : Int32} {x4 : Int32} {x5 : Int32} {h : sv_H}, sv_same h0 h → sv_fr sv_same h0 (k9 x0 x1 x2 x3 x4 x5 h)) {x0 : Nat} {x1 : Int32} {x2 : Int32} {x3 : Int32} {x4 : Int32} {x5 : Int32} {h : sv_H} (hs : sv_same h0 h) : sv_fr sv_same h0 (fn_X16_bestOf_143 k9 x0 x1 x2 x3 x4 x5 h) := by
  unfold fn_X16_bestOf_143
  exact hk9 hs
theorem fr_X16_bestOf_126 {h0 : sv_H} {k9 : Nat → Int32 → Int32 → Int32 → Int32 → Int32 → sv_H → Option (Int32 × sv_H)} (hk9 : ∀ {x0 : Nat} {x1 : Int32} {x2 : Int32} {x3 : Int32} {x4 : Int32} {x5 : Int32} {h : sv_H}, sv_same h0 h → sv_fr sv_same h0 (k9 x0 x1 x2 x3 x4 x5 h)) {x0 : Nat} {x1 : Int32} {x2 : Int32} {x3 : Int32} {x4 : Int32} {x5 : Int32} {x6 : Int32} {s0 : Int32} {s1 : Int32} {h : sv_H} (hs : sv_same h0 h) : sv_fr sv_same h0 (fn_X16_bestOf_126 k9 x0 x1 x2 x3 x4 x5 x6 s0 s1 h) := by
  unfold fn_X16_bestOf_126
  refine fr_if ?_ ?_
  · exact fr_X16_bestOf_143 hk9 hs
  · exact fr_X16_bestOf_143 hk9 hs
theorem fr_X16_bestOf_100 {h0 : sv_H} {k9 : Nat → Int32 → Int32 → Int32 → Int32 → Int32 → sv_H → Option (Int32 × sv_H)} (hk9 : ∀ {x0 : Nat} {x1 : Int32} {x2 : Int32} {x3 : Int32} {x4 : Int32} {x5 : Int32} {h : sv_H}, sv_same h0 h → sv_fr sv_same h0 (k9 x0 x1 x2 x3 x4 x5 h)) {k47 : Nat → Int32 → Int32 → Int32 → Int32 → Int32 → Int32 → Int32 → Int32 → Int32 → sv_H → Option (Int32 × sv_H)} (hk47 : ∀ {x0 : Nat} {x1 : Int32} {x2 : Int32} {x3 : Int32} {x4 : Int32} {x5 : Int32} {x6 : Int32} {x7 : Int32} {x8 : Int32} {x9 : Int32} {h : sv_H}, sv_same h0 h → sv_fr sv_same h0 (k47 x0 x1 x2 x3 x4 x5 x6 x7 x8 x9 h)) {x0 : Nat} {x1 : Int32} {x2 : Int32} {x3 : Int32} {x4 : Int32} {x5 : Int32} {x6 : Int32} {x7 : Int32} {x9 : Int32} {s0 : Int32} {s1 : Int32} {h : sv_H} (hs : sv_same h0 h) : sv_fr sv_same h0 (fn_X16_bestOf_100 k9 k47 x0 x1 x2 x3 x4 x5 x6 x7 x9 s0 s1 h) := by
  unfold fn_X16_bestOf_100
  exact hk47 hs
theorem fr_X16_bestOf_83 {h0 : sv_H} {k9 : Nat → Int32 → Int32 → Int32 → Int32 → Int32 → sv_H → Option (Int32 × sv_H)} (hk9 : ∀ {x0 : Nat} {x1 : Int32} {x2 : Int32} {x3 : Int32} {x4 : Int32} {x5 : Int32} {h : sv_H}, sv_same h0 h → sv_fr sv_same h0 (k9 x0 x1 x2 x3 x4 x5 h)) {k47 : Nat → Int32 → Int32 → Int32 → Int32 → Int32 → Int32 → Int32 → Int32 → Int32 → sv_H → Option (Int32 × sv_H)} (hk47 : ∀ {x0 : Nat} {x1 : Int32} {x2 : Int32} {x3 : Int32} {x4 : Int32} {x5 : Int32} {x6 : Int32} {x7 : Int32} {x8 : Int32} {x9 : Int32} {h : sv_H}, sv_same h0 h → sv_fr sv_same h0 (k47 x0 x1 x2 x3 x4 x5 x6 x7 x8 x9 h)) {x0 : Nat} {x1 : Int32} {x2 : Int32} {x3 : Int32} {x4 : Int32} {x5 : Int32} {x6 : Int32} {x8 : Int32} {x9 : Int32} {x10 : Int32} {s0 : Int32} {s1 : Int32} {h : sv_H} (hs : sv_same h0 h) : sv_fr sv_same h0 (fn_X16_bestOf_83 k9 k47 x0 x1 x2 x3 x4 x5 x6 x8 x9 x10 s0 s1 h) := by
  unfold fn_X16_bestOf_83
  refine fr_if ?_ ?_
  · exact fr_X16_bestOf_100 hk9 hk47 hs
  · exact fr_X16_bestOf_100 hk9 hk47 hs
theorem fr_X16_bestOf_47b {h0 : sv_H} {k9 : Nat → Int32 → Int32 → Int32 → Int32 → Int32 → sv_H → Option (Int32 × sv_H)} (hk9 : ∀ {x0 : Nat} {x1 : Int32} {x2 : Int32} {x3 : Int32} {x4 : Int32} {x5 : Int32} {h : sv_H}, sv_same h0 h → sv_fr sv_same h0 (k9 x0 x1 x2 x3 x4 x5 h)) {k47 : Nat → Int32 → Int32 → Int32 → Int32 → Int32 → Int32 → Int32 → Int32 → Int32 → sv_H → Option (Int32 × sv_H)} (hk47 : ∀ {x0 : Nat} {x1 : Int32} {x2 : Int32} {x3 : Int32} {x4 : Int32} {x5 : Int32} {x6 : Int32} {x7 : Int32} {x8 : Int32} {x9 : Int32} {h : sv_H}, sv_same h0 h → sv_fr sv_same h0 (k47 x0 x1 x2 x3 x4 x5 x6 x7 x8 x9 h)) {x0 : Nat} {x1 : Int32} {x2 : Int32} {x3 : Int32} {x4 : Int32} {x5 : Int32} {x6 : Int32} {x7 : Int32} {x8 : Int32} {x9 : Int32} {h : sv_H} (hs : sv_same h0 h) : sv_fr sv_same h0 (fn_X16_bestOf_47b k9 k47 x0 x1 x2 x3 x4 x5 x6 x7 x8 x9 h) := by
  unfold fn_X16_bestOf_47b
  refine fr_if ?_ ?_
  · refine fr_if ?_ ?_
    · exact fr_X16_bestOf_126 hk9 hs
    · exact fr_X16_bestOf_126 hk9 hs
  · refine fr_bd (fun _ => ?_)
    refine fr_bd (fun _ => ?_)
    refine fr_cl (fun _ _ e => hs.trans (fr_X16_lieOf e)) (fun _ h hs => ?_)
    refine fr_if ?_ ?_
    · exact fr_X16_bestOf_83 hk9 hk47 hs
    · exact fr_X16_bestOf_83 hk9 hk47 hs
theorem fr_X16_bestOf_47 {h0 : sv_H} {k9 : Nat → Int32 → Int32 → Int32 → Int32 → Int32 → sv_H → Option (Int32 × sv_H)} (hk9 : ∀ {x0 : Nat} {x1 : Int32} {x2 : Int32} {x3 : Int32} {x4 : Int32} {x5 : Int32} {h : sv_H}, sv_same h0 h → sv_fr sv_same h0 (k9 x0 x1 x2 x3 x4 x5 h)) : ∀ (n : Nat) {x0 : Nat} {x1 : Int32} {x2 : Int32} {x3 : Int32} {x4 : Int32} {x5 : Int32} {x6 : Int32} {x7 : Int32} {x8 : Int32} {x9 : Int32} {h : sv_H}, sv_same h0 h → sv_fr sv_same h0 (fn_X16_bestOf_47 k9 n x0 x1 x2 x3 x4 x5 x6 x7 x8 x9 h) := by
  intro n
  induction n with
  | zero => intro x0 x1 x2 x3 x4 x5 x6 x7 x8 x9 h hs r hE e; cases (show (none : Option (Int32 × sv_H)) = some (r, hE) from e)
  | succ n ih => intro x0 x1 x2 x3 x4 x5 x6 x7 x8 x9 h hs; exact fr_X16_bestOf_47b hk9 (fun hs => ih hs) hs
theorem fr_X16_bestOf_9b {h0 : sv_H} {k9 : Nat → Int32 → Int32 → Int32 → Int32 → Int32 → sv_H → Option (Int32 × sv_H)} (hk9 : ∀ {x0 : Nat} {x1 : Int32} {x2 : Int32} {x3 : Int32} {x4 : Int32} {x5 : Int32} {h : sv_H}, sv_same h0 h → sv_fr sv_same h0 (k9 x0 x1 x2 x3 x4 x5 h)) {x0 : Nat} {x1 : Int32} {x2 : Int32} {x3 : Int32} {x4 : Int32} {x5 : Int32} {h : sv_H} (hs : sv_same h0 h) : sv_fr sv_same h0 (fn_X16_bestOf_9b k9 x0 x1 x2 x3 x4 x5 h) := by
  unfold fn_X16_bestOf_9b
  refine fr_if ?_ ?_
  · exact fr_X16_bestOf_149 hs
  · refine fr_if ?_ ?_
    · exact fr_X16_bestOf_149 hs
    · refine fr_bd (fun _ => ?_)
      refine fr_bd (fun _ => ?_)
      refine fr_bd (fun _ => ?_)
      refine fr_bd (fun _ => ?_)
      exact fr_X16_bestOf_47 hk9 sv_fuel hs
theorem fr_X16_bestOf_9 {h0 : sv_H} : ∀ (n : Nat) {x0 : Nat} {x1 : Int32} {x2 : Int32} {x3 : Int32} {x4 : Int32} {x5 : Int32} {h : sv_H}, sv_same h0 h → sv_fr sv_same h0 (fn_X16_bestOf_9 n x0 x1 x2 x3 x4 x5 h) := by
  intro n
  induction n with
  | zero => intro x0 x1 x2 x3 x4 x5 h hs r hE e; cases (show (none : Option (Int32 × sv_H)) = some (r, hE) from e)
  | succ n ih => intro x0 x1 x2 x3 x4 x5 h hs; exact fr_X16_bestOf_9b (fun hs => ih hs) hs
theorem fr_X16_bestOf_0 {h0 : sv_H} {x0 : Nat} {x1 : Int32} {x2 : Int32} {h : sv_H} (hs : sv_same h0 h) : sv_fr sv_same h0 (fn_X16_bestOf x0 x1 x2 h) := by
  unfold fn_X16_bestOf
  refine fr_if ?_ fr_no
  exact fr_X16_bestOf_9 sv_fuel hs
theorem fr_X16_bestOf {x0 : Nat} {x1 : Int32} {x2 : Int32} {h : sv_H} {r : Int32} {hE : sv_H} (hw : fn_X16_bestOf x0 x1 x2 h = some (r, hE)) : sv_same h hE := fr_X16_bestOf_0 (sv_same.refl h) r hE hw

theorem fr_X16_part_156 {h0 : sv_H} {s0 : Int32} {h : sv_H} (hs : sv_same h0 h) : sv_fr sv_same h0 (fn_X16_part_156 s0 h) := by
  unfold fn_X16_part_156
  exact fr_rt hs
theorem fr_X16_part_102 {h0 : sv_H} {x0 : Nat} {x1 : Int32} {x4 : Int32} {x5 : Int64} {x7 : Int64} {s0 : Int32} {h : sv_H} (hs : sv_same h0 h) : sv_fr sv_same h0 (fn_X16_part_102 x0 x1 x4 x5 x7 s0 h) := by
  unfold fn_X16_part_102
  refine fr_if ?_ ?_
  · refine fr_bd (fun _ => ?_)
    refine fr_bd (fun _ => ?_)
    refine fr_bd (fun _ => ?_)
    refine fr_bd (fun _ => ?_)
    refine fr_cl (fun _ _ e => hs.trans (fr_X16_piece e)) (fun _ h hs => ?_)
    exact fr_X16_part_156 hs
  · refine fr_bd (fun _ => ?_)
    refine fr_bd (fun _ => ?_)
    refine fr_bd (fun _ => ?_)
    refine fr_bd (fun _ => ?_)
    refine fr_cl (fun _ _ e => hs.trans (fr_X16_piece e)) (fun _ h hs => ?_)
    exact fr_X16_part_156 hs
theorem fr_X16_part_74 {h0 : sv_H} {x0 : Nat} {x1 : Int32} {x2 : Int32} {x3 : Int32} {x4 : Int32} {x5 : Int64} {x7 : Int64} {h : sv_H} (hs : sv_same h0 h) : sv_fr sv_same h0 (fn_X16_part_74 x0 x1 x2 x3 x4 x5 x7 h) := by
  unfold fn_X16_part_74
  refine fr_bd (fun _ => ?_)
  refine fr_bd (fun _ => ?_)
  refine fr_bd (fun _ => ?_)
  refine fr_bd (fun _ => ?_)
  refine fr_cl (fun _ _ e => hs.trans (fr_X16_sideAt e)) (fun _ h hs => ?_)
  refine fr_if ?_ ?_
  · exact fr_X16_part_102 hs
  · exact fr_X16_part_102 hs
theorem fr_X16_part_0 {h0 : sv_H} {x0 : Nat} {x1 : Int32} {x2 : Int32} {x3 : Int32} {h : sv_H} (hs : sv_same h0 h) : sv_fr sv_same h0 (fn_X16_part x0 x1 x2 x3 h) := by
  unfold fn_X16_part
  refine fr_if ?_ fr_no
  refine fr_bd (fun _ => ?_)
  refine fr_bd (fun _ => ?_)
  refine fr_bd (fun _ => ?_)
  refine fr_bd (fun _ => ?_)
  refine fr_bd (fun _ => ?_)
  refine fr_bd (fun _ => ?_)
  refine fr_cl (fun _ _ e => hs.trans (fr_X16_sideOf e)) (fun _ h hs => ?_)
  refine fr_bd (fun _ => ?_)
  refine fr_bd (fun _ => ?_)
  refine fr_bd (fun _ => ?_)
  refine fr_bd (fun _ => ?_)
  refine fr_cl (fun _ _ e => hs.trans (fr_X16_sideOf e)) (fun _ h hs => ?_)
  refine fr_if ?_ ?_
  · exact fr_X16_part_74 hs
  · exact fr_X16_part_74 hs
theorem fr_X16_part {x0 : Nat} {x1 : Int32} {x2 : Int32} {x3 : Int32} {h : sv_H} {r : Int32} {hE : sv_H} (hw : fn_X16_part x0 x1 x2 x3 h = some (r, hE)) : sv_same h hE := fr_X16_part_0 (sv_same.refl h) r hE hw

theorem fr_X16_collect_78 {h0 : sv_H} {k6 : Nat → Int32 → Int32 → Int32 → Int32 → Int32 → Int32 → Int32 → sv_H → Option (Int32 × sv_H)} (hk6 : ∀ {x0 : Nat} {x1 : Int32} {x2 : Int32} {x3 : Int32} {x4 : Int32} {x5 : Int32} {x6 : Int32} {x7 : Int32} {h : sv_H}, sv_same h0 h → sv_fr sv_same h0 (k6 x0 x1 x2 x3 x4 x5 x6 x7 h)) {x0 : Nat} {x1 : Int32} {x2 : Int32} {x3 : Int32} {x4 : Int32} {x5 : Int32} {x6 : Int32} {x7 : Int32} {h : sv_H} (hs : sv_same h0 h) : sv_fr sv_same h0 (fn_X16_collect_78 k6 x0 x1 x2 x3 x4 x5 x6 x7 h) := by
  unfold fn_X16_collect_78
  exact hk6 hs
theorem fr_X16_collect_74 {h0 : sv_H} {k6 : Nat → Int32 → Int32 → Int32 → Int32 → Int32 → Int32 → Int32 → sv_H → Option (Int32 × sv_H)} (hk6 : ∀ {x0 : Nat} {x1 : Int32} {x2 : Int32} {x3 : Int32} {x4 : Int32} {x5 : Int32} {x6 : Int32} {x7 : Int32} {h : sv_H}, sv_same h0 h → sv_fr sv_same h0 (k6 x0 x1 x2 x3 x4 x5 x6 x7 h)) {x0 : Nat} {x1 : Int32} {x2 : Int32} {x3 : Int32} {x4 : Int32} {x5 : Int32} {x6 : Int32} {x7 : Int32} {s0 : Nat} {s1 : Int32} {s2 : Int32} {h : sv_H} (hs : sv_same h0 h) : sv_fr sv_same h0 (fn_X16_collect_74 k6 x0 x1 x2 x3 x4 x5 x6 x7 s0 s1 s2 h) := by
  unfold fn_X16_collect_74
  refine fr_st (fun _ e => hs.trans (st_sI e)) (fun h hs => ?_)
  exact fr_X16_collect_78 hk6 hs
theorem fr_X16_collect_45 {h0 : sv_H} {k6 : Nat → Int32 → Int32 → Int32 → Int32 → Int32 → Int32 → Int32 → sv_H → Option (Int32 × sv_H)} (hk6 : ∀ {x0 : Nat} {x1 : Int32} {x2 : Int32} {x3 : Int32} {x4 : Int32} {x5 : Int32} {x6 : Int32} {x7 : Int32} {h : sv_H}, sv_same h0 h → sv_fr sv_same h0 (k6 x0 x1 x2 x3 x4 x5 x6 x7 h)) {x0 : Nat} {x1 : Int32} {x2 : Int32} {x3 : Int32} {x4 : Int32} {x5 : Int32} {x6 : Int32} {x7 : Int32} {x8 : Int32} {x9 : Int32} {h : sv_H} (hs : sv_same h0 h) : sv_fr sv_same h0 (fn_X16_collect_45 k6 x0 x1 x2 x3 x4 x5 x6 x7 x8 x9 h) := by
  unfold fn_X16_collect_45
  refine fr_bd (fun _ => ?_)
  refine fr_if ?_ ?_
  · refine fr_cl (fun _ _ e => hs.trans (fr_X16_part e)) (fun _ h hs => ?_)
    exact fr_X16_collect_74 hk6 hs
  · exact fr_X16_collect_74 hk6 hs
theorem fr_X16_collect_6b {h0 : sv_H} {k6 : Nat → Int32 → Int32 → Int32 → Int32 → Int32 → Int32 → Int32 → sv_H → Option (Int32 × sv_H)} (hk6 : ∀ {x0 : Nat} {x1 : Int32} {x2 : Int32} {x3 : Int32} {x4 : Int32} {x5 : Int32} {x6 : Int32} {x7 : Int32} {h : sv_H}, sv_same h0 h → sv_fr sv_same h0 (k6 x0 x1 x2 x3 x4 x5 x6 x7 h)) {x0 : Nat} {x1 : Int32} {x2 : Int32} {x3 : Int32} {x4 : Int32} {x5 : Int32} {x6 : Int32} {x7 : Int32} {h : sv_H} (hs : sv_same h0 h) : sv_fr sv_same h0 (fn_X16_collect_6b k6 x0 x1 x2 x3 x4 x5 x6 x7 h) := by
  unfold fn_X16_collect_6b
  refine fr_if ?_ ?_
  · exact fr_rt hs
  · refine fr_bd (fun _ => ?_)
    refine fr_bd (fun _ => ?_)
    refine fr_cl (fun _ _ e => hs.trans (fr_X16_lieOf e)) (fun _ h hs => ?_)
    refine fr_if ?_ ?_
    · exact fr_X16_collect_45 hk6 hs
    · refine fr_if ?_ ?_
      · exact fr_X16_collect_45 hk6 hs
      · exact fr_X16_collect_78 hk6 hs
theorem fr_X16_collect_6 {h0 : sv_H} : ∀ (n : Nat) {x0 : Nat} {x1 : Int32} {x2 : Int32} {x3 : Int32} {x4 : Int32} {x5 : Int32} {x6 : Int32} {x7 : Int32} {h : sv_H}, sv_same h0 h → sv_fr sv_same h0 (fn_X16_collect_6 n x0 x1 x2 x3 x4 x5 x6 x7 h) := by
  intro n
  induction n with
  | zero => intro x0 x1 x2 x3 x4 x5 x6 x7 h hs r hE e; cases (show (none : Option (Int32 × sv_H)) = some (r, hE) from e)
  | succ n ih => intro x0 x1 x2 x3 x4 x5 x6 x7 h hs; exact fr_X16_collect_6b (fun hs => ih hs) hs
theorem fr_X16_collect_0 {h0 : sv_H} {x0 : Nat} {x1 : Int32} {x2 : Int32} {x3 : Int32} {x4 : Int32} {x5 : Int32} {h : sv_H} (hs : sv_same h0 h) : sv_fr sv_same h0 (fn_X16_collect x0 x1 x2 x3 x4 x5 h) := by
  unfold fn_X16_collect
  refine fr_if ?_ fr_no
  exact fr_X16_collect_6 sv_fuel hs
theorem fr_X16_collect {x0 : Nat} {x1 : Int32} {x2 : Int32} {x3 : Int32} {x4 : Int32} {x5 : Int32} {h : sv_H} {r : Int32} {hE : sv_H} (hw : fn_X16_collect x0 x1 x2 x3 x4 x5 h = some (r, hE)) : sv_same h hE := fr_X16_collect_0 (sv_same.refl h) r hE hw

theorem fr_X16_divide_188 {h0 : sv_H} {k136 : Nat → Int32 → Int32 → Int32 → Int32 → Int32 → sv_H → Option (Unit × sv_H)} (hk136 : ∀ {x0 : Nat} {x1 : Int32} {x2 : Int32} {x6 : Int32} {x7 : Int32} {x8 : Int32} {h : sv_H}, sv_same h0 h → sv_fr sv_same h0 (k136 x0 x1 x2 x6 x7 x8 h)) {x0 : Nat} {x1 : Int32} {x2 : Int32} {x6 : Int32} {x7 : Int32} {x8 : Int32} {h : sv_H} (hs : sv_same h0 h) : sv_fr sv_same h0 (fn_X16_divide_188 k136 x0 x1 x2 x6 x7 x8 h) := by
  unfold fn_X16_divide_188
  exact hk136 hs
theorem fr_X16_divide_136b {h0 : sv_H} {k136 : Nat → Int32 → Int32 → Int32 → Int32 → Int32 → sv_H → Option (Unit × sv_H)} (hk136 : ∀ {x0 : Nat} {x1 : Int32} {x2 : Int32} {x6 : Int32} {x7 : Int32} {x8 : Int32} {h : sv_H}, sv_same h0 h → sv_fr sv_same h0 (k136 x0 x1 x2 x6 x7 x8 h)) {x0 : Nat} {x1 : Int32} {x2 : Int32} {x6 : Int32} {x7 : Int32} {x8 : Int32} {h : sv_H} (hs : sv_same h0 h) : sv_fr sv_same h0 (fn_X16_divide_136b k136 x0 x1 x2 x6 x7 x8 h) := by
  unfold fn_X16_divide_136b
  refine fr_if ?_ ?_
  · refine fr_bd (fun _ => ?_)
    refine fr_bd (fun _ => ?_)
    refine fr_bd (fun _ => ?_)
    refine fr_bd (fun _ => ?_)
    refine fr_st (fun _ e => hs.trans (st_sI e)) (fun h hs => ?_)
    refine fr_cl (fun _ _ e => hs.trans (fr_X16_collect e)) (fun _ h hs => ?_)
    refine fr_cl (fun _ _ e => hs.trans (fr_X16_collect e)) (fun _ h hs => ?_)
    refine fr_cl (fun _ _ e => hs.trans (fr_X16_push e)) (fun _ h hs => ?_)
    refine fr_cl (fun _ _ e => hs.trans (fr_X16_push e)) (fun _ h hs => ?_)
    exact fr_rt hs
  · refine fr_bd (fun _ => ?_)
    refine fr_bd (fun _ => ?_)
    refine fr_cl (fun _ _ e => hs.trans (fr_X16_lieOf e)) (fun _ h hs => ?_)
    refine fr_if ?_ ?_
    · refine fr_bd (fun _ => ?_)
      refine fr_bd (fun _ => ?_)
      refine fr_bd (fun _ => ?_)
      refine fr_bd (fun _ => ?_)
      refine fr_st (fun _ e => hs.trans (st_sI e)) (fun h hs => ?_)
      refine fr_bd (fun _ => ?_)
      refine fr_st (fun _ e => hs.trans (st_pI e)) (fun h hs => ?_)
      exact fr_X16_divide_188 hk136 hs
    · exact fr_X16_divide_188 hk136 hs
theorem fr_X16_divide_136 {h0 : sv_H} : ∀ (n : Nat) {x0 : Nat} {x1 : Int32} {x2 : Int32} {x6 : Int32} {x7 : Int32} {x8 : Int32} {h : sv_H}, sv_same h0 h → sv_fr sv_same h0 (fn_X16_divide_136 n x0 x1 x2 x6 x7 x8 h) := by
  intro n
  induction n with
  | zero => intro x0 x1 x2 x6 x7 x8 h hs r hE e; cases (show (none : Option (Unit × sv_H)) = some (r, hE) from e)
  | succ n ih => intro x0 x1 x2 x6 x7 x8 h hs; exact fr_X16_divide_136b (fun hs => ih hs) hs
theorem fr_X16_divide_121 {h0 : sv_H} {x0 : Nat} {x1 : Int32} {x2 : Int32} {x6 : Int32} {x7 : Int32} {s0 : Nat} {s1 : Int32} {s2 : Int32} {h : sv_H} (hs : sv_same h0 h) : sv_fr sv_same h0 (fn_X16_divide_121 x0 x1 x2 x6 x7 s0 s1 s2 h) := by
  unfold fn_X16_divide_121
  refine fr_st (fun _ e => hs.trans (st_sI e)) (fun h hs => ?_)
  refine fr_bd (fun _ => ?_)
  refine fr_bd (fun _ => ?_)
  refine fr_st (fun _ e => hs.trans (st_sI e)) (fun h hs => ?_)
  exact fr_X16_divide_136 sv_fuel hs
theorem fr_X16_divide_51 {h0 : sv_H} {x0 : Nat} {x1 : Int32} {x2 : Int32} {x3 : Int32} {h : sv_H} (hs : sv_same h0 h) : sv_fr sv_same h0 (fn_X16_divide_51 x0 x1 x2 x3 h) := by
  unfold fn_X16_divide_51
  refine fr_if ?_ ?_
  · refine fr_bd (fun _ => ?_)
    refine fr_st (fun _ e => hs.trans (st_pI e)) (fun h hs => ?_)
    exact fr_rt hs
  · refine fr_bd (fun _ => ?_)
    refine fr_bd (fun _ => ?_)
    refine fr_st (fun _ e => hs.trans (st_pI e)) (fun h hs => ?_)
    refine fr_cl (fun _ _ e => hs.trans (fr_X16_bestOf e)) (fun _ h hs => ?_)
    refine fr_bd (fun _ => ?_)
    refine fr_st (fun _ e => hs.trans (st_sI e)) (fun h hs => ?_)
    refine fr_bd (fun _ => ?_)
    refine fr_if ?_ ?_
    · refine fr_bd (fun _ => ?_)
      refine fr_bd (fun _ => ?_)
      exact fr_X16_divide_121 hs
    · exact fr_X16_divide_121 hs
theorem fr_X16_divide_39 {h0 : sv_H} {x0 : Nat} {x1 : Int32} {x2 : Int32} {x3 : Int32} {x5 : Int32} {h : sv_H} (hs : sv_same h0 h) : sv_fr sv_same h0 (fn_X16_divide_39 x0 x1 x2 x3 x5 h) := by
  unfold fn_X16_divide_39
  refine fr_if ?_ ?_
  · exact fr_X16_divide_51 hs
  · refine fr_bd (fun _ => ?_)
    refine fr_st (fun _ e => hs.trans (st_sI e)) (fun h hs => ?_)
    exact fr_X16_divide_51 hs
theorem fr_X16_divide_17 {h0 : sv_H} {x0 : Nat} {x1 : Int32} {x2 : Int32} {x3 : Int32} {x4 : Int32} {s0 : Int32} {h : sv_H} (hs : sv_same h0 h) : sv_fr sv_same h0 (fn_X16_divide_17 x0 x1 x2 x3 x4 s0 h) := by
  unfold fn_X16_divide_17
  refine fr_if ?_ ?_
  · exact fr_X16_divide_39 hs
  · refine fr_if ?_ ?_
    · refine fr_bd (fun _ => ?_)
      refine fr_st (fun _ e => hs.trans (st_sI e)) (fun h hs => ?_)
      exact fr_X16_divide_51 hs
    · exact fr_X16_divide_39 hs
theorem fr_X16_divide_0 {h0 : sv_H} {x0 : Nat} {x1 : Int32} {x2 : Int32} {x3 : Int32} {x4 : Int32} {h : sv_H} (hs : sv_same h0 h) : sv_fr sv_same h0 (fn_X16_divide x0 x1 x2 x3 x4 h) := by
  unfold fn_X16_divide
  refine fr_if ?_ fr_no
  refine fr_if ?_ ?_
  · refine fr_bd (fun _ => ?_)
    exact fr_X16_divide_17 hs
  · refine fr_bd (fun _ => ?_)
    exact fr_X16_divide_17 hs
theorem fr_X16_divide {x0 : Nat} {x1 : Int32} {x2 : Int32} {x3 : Int32} {x4 : Int32} {h : sv_H} {r : Unit} {hE : sv_H} (hw : fn_X16_divide x0 x1 x2 x3 x4 h = some (r, hE)) : sv_same h hE := fr_X16_divide_0 (sv_same.refl h) r hE hw

theorem fr_X16_make_77b {h0 : sv_H} {k77 : Nat → sv_H → Option (Unit × sv_H)} (hk77 : ∀ {x0 : Nat} {h : sv_H}, sv_same h0 h → sv_fr sv_same h0 (k77 x0 h)) {x0 : Nat} {h : sv_H} (hs : sv_same h0 h) : sv_fr sv_same h0 (fn_X16_make_77b k77 x0 h) := by
  unfold fn_X16_make_77b
  refine fr_bd (fun _ => ?_)
  refine fr_if ?_ ?_
  · exact fr_rt hs
  · refine fr_bd (fun _ => ?_)
    refine fr_st (fun _ e => hs.trans (st_pI e)) (fun h hs => ?_)
    refine fr_bd (fun _ => ?_)
    refine fr_bd (fun _ => ?_)
    refine fr_bd (fun _ => ?_)
    refine fr_bd (fun _ => ?_)
    refine fr_bd (fun _ => ?_)
    refine fr_bd (fun _ => ?_)
    refine fr_bd (fun _ => ?_)
    refine fr_bd (fun _ => ?_)
    refine fr_bd (fun _ => ?_)
    refine fr_bd (fun _ => ?_)
    refine fr_bd (fun _ => ?_)
    refine fr_bd (fun _ => ?_)
    refine fr_cl (fun _ _ e => hs.trans (fr_X16_divide e)) (fun _ h hs => ?_)
    exact hk77 hs
theorem fr_X16_make_77 {h0 : sv_H} : ∀ (n : Nat) {x0 : Nat} {h : sv_H}, sv_same h0 h → sv_fr sv_same h0 (fn_X16_make_77 n x0 h) := by
  intro n
  induction n with
  | zero => intro x0 h hs r hE e; cases (show (none : Option (Unit × sv_H)) = some (r, hE) from e)
  | succ n ih => intro x0 h hs; exact fr_X16_make_77b (fun hs => ih hs) hs
theorem fr_X16_make_63 {h0 : sv_H} {k29 : Nat → Int32 → Int32 → sv_H → Option (Unit × sv_H)} (hk29 : ∀ {x0 : Nat} {x1 : Int32} {x2 : Int32} {h : sv_H}, sv_same h0 h → sv_fr sv_same h0 (k29 x0 x1 x2 h)) {x0 : Nat} {x1 : Int32} {x2 : Int32} {h : sv_H} (hs : sv_same h0 h) : sv_fr sv_same h0 (fn_X16_make_63 k29 x0 x1 x2 h) := by
  unfold fn_X16_make_63
  exact hk29 hs
theorem fr_X16_make_29b {h0 : sv_H} {k29 : Nat → Int32 → Int32 → sv_H → Option (Unit × sv_H)} (hk29 : ∀ {x0 : Nat} {x1 : Int32} {x2 : Int32} {h : sv_H}, sv_same h0 h → sv_fr sv_same h0 (k29 x0 x1 x2 h)) {x0 : Nat} {x1 : Int32} {x2 : Int32} {h : sv_H} (hs : sv_same h0 h) : sv_fr sv_same h0 (fn_X16_make_29b k29 x0 x1 x2 h) := by
  unfold fn_X16_make_29b
  refine fr_if ?_ ?_
  · refine fr_cl (fun _ _ e => hs.trans (fr_X16_push e)) (fun _ h hs => ?_)
    exact fr_X16_make_77 sv_fuel hs
  · refine fr_bd (fun _ => ?_)
    refine fr_bd (fun _ => ?_)
    refine fr_if ?_ ?_
    · exact fr_X16_make_63 hk29 hs
    · refine fr_bd (fun _ => ?_)
      refine fr_cl (fun _ _ e => hs.trans (fr_X16_piece e)) (fun _ h hs => ?_)
      refine fr_st (fun _ e => hs.trans (st_sI e)) (fun h hs => ?_)
      exact fr_X16_make_63 hk29 hs
theorem fr_X16_make_29 {h0 : sv_H} : ∀ (n : Nat) {x0 : Nat} {x1 : Int32} {x2 : Int32} {h : sv_H}, sv_same h0 h → sv_fr sv_same h0 (fn_X16_make_29 n x0 x1 x2 h) := by
  intro n
  induction n with
  | zero => intro x0 x1 x2 h hs r hE e; cases (show (none : Option (Unit × sv_H)) = some (r, hE) from e)
  | succ n ih => intro x0 x1 x2 h hs; exact fr_X16_make_29b (fun hs => ih hs) hs
theorem fr_X16_make_0 {h0 : sv_H} {x0 : Nat} {h : sv_H} (hs : sv_same h0 h) : sv_fr sv_same h0 (fn_X16_make x0 h) := by
  unfold fn_X16_make
  refine fr_if ?_ fr_no
  refine fr_st (fun _ e => hs.trans (st_pI e)) (fun h hs => ?_)
  refine fr_st (fun _ e => hs.trans (st_pI e)) (fun h hs => ?_)
  refine fr_st (fun _ e => hs.trans (st_pI e)) (fun h hs => ?_)
  refine fr_st (fun _ e => hs.trans (st_pI e)) (fun h hs => ?_)
  refine fr_st (fun _ e => hs.trans (st_pI e)) (fun h hs => ?_)
  exact fr_X16_make_29 sv_fuel hs
theorem fr_X16_make {x0 : Nat} {h : sv_H} {r : Unit} {hE : sv_H} (hw : fn_X16_make x0 h = some (r, hE)) : sv_same h hE := fr_X16_make_0 (sv_same.refl h) r hE hw

theorem fr_X16_know_16 {h0 : sv_H} {h : sv_H} (hs : sv_same h0 h) : sv_fr sv_same h0 (fn_X16_know_16 h) := by
  unfold fn_X16_know_16
  exact fr_rt hs
theorem fr_X16_know_0 {h0 : sv_H} {x0 : Nat} {h : sv_H} (hs : sv_same h0 h) : sv_fr sv_same h0 (fn_X16_know x0 h) := by
  unfold fn_X16_know
  refine fr_if ?_ fr_no
  refine fr_bd (fun _ => ?_)
  refine fr_if ?_ ?_
  · refine fr_cl (fun _ _ e => hs.trans (fr_X16_make e)) (fun _ h hs => ?_)
    refine fr_st (fun _ e => hs.trans (st_pZ e)) (fun h hs => ?_)
    exact fr_X16_know_16 hs
  · exact fr_X16_know_16 hs
theorem fr_X16_know {x0 : Nat} {h : sv_H} {r : Unit} {hE : sv_H} (hw : fn_X16_know x0 h = some (r, hE)) : sv_same h hE := fr_X16_know_0 (sv_same.refl h) r hE hw

theorem fr_X16_isNode_21 {h0 : sv_H} {s0 : Int32} {h : sv_H} (hs : sv_same h0 h) : sv_fr sv_same h0 (fn_X16_isNode_21 s0 h) := by
  unfold fn_X16_isNode_21
  exact fr_rz hs
theorem fr_X16_isNode_20 {h0 : sv_H} {h : sv_H} (hs : sv_same h0 h) : sv_fr sv_same h0 (fn_X16_isNode_20 h) := by
  unfold fn_X16_isNode_20
  exact fr_X16_isNode_21 hs
theorem fr_X16_isNode_0 {h0 : sv_H} {x0 : Nat} {x1 : Int32} {h : sv_H} (hs : sv_same h0 h) : sv_fr sv_same h0 (fn_X16_isNode x0 x1 h) := by
  unfold fn_X16_isNode
  refine fr_if ?_ fr_no
  refine fr_cl (fun _ _ e => hs.trans (fr_X16_know e)) (fun _ h hs => ?_)
  refine fr_if ?_ ?_
  · exact fr_X16_isNode_20 hs
  · refine fr_bd (fun _ => ?_)
    refine fr_if ?_ ?_
    · exact fr_X16_isNode_20 hs
    · exact fr_X16_isNode_21 hs
theorem fr_X16_isNode {x0 : Nat} {x1 : Int32} {h : sv_H} {r : Int32} {hE : sv_H} (hw : fn_X16_isNode x0 x1 h = some (r, hE)) : sv_same h hE := fr_X16_isNode_0 (sv_same.refl h) r hE hw

theorem fr_X16_within_33 {h0 : sv_H} {x1 : Int32} {x2 : Int32} {h : sv_H} (hs : sv_same h0 h) : sv_fr sv_same h0 (fn_X16_within_33 x1 x2 h) := by
  unfold fn_X16_within_33
  exact fr_rt hs
theorem fr_X16_within_4b {h0 : sv_H} {k4 : Nat → Int32 → Int32 → sv_H → Option (Int32 × sv_H)} (hk4 : ∀ {x0 : Nat} {x1 : Int32} {x2 : Int32} {h : sv_H}, sv_same h0 h → sv_fr sv_same h0 (k4 x0 x1 x2 h)) {x0 : Nat} {x1 : Int32} {x2 : Int32} {h : sv_H} (hs : sv_same h0 h) : sv_fr sv_same h0 (fn_X16_within_4b k4 x0 x1 x2 h) := by
  unfold fn_X16_within_4b
  refine fr_bd (fun _ => ?_)
  refine fr_if ?_ ?_
  · exact fr_X16_within_33 hs
  · refine fr_bd (fun _ => ?_)
    refine fr_bd (fun _ => ?_)
    refine fr_bd (fun _ => ?_)
    refine fr_bd (fun _ => ?_)
    refine fr_if ?_ ?_
    · exact fr_X16_within_33 hs
    · exact hk4 hs
theorem fr_X16_within_4 {h0 : sv_H} : ∀ (n : Nat) {x0 : Nat} {x1 : Int32} {x2 : Int32} {h : sv_H}, sv_same h0 h → sv_fr sv_same h0 (fn_X16_within_4 n x0 x1 x2 h) := by
  intro n
  induction n with
  | zero => intro x0 x1 x2 h hs r hE e; cases (show (none : Option (Int32 × sv_H)) = some (r, hE) from e)
  | succ n ih => intro x0 x1 x2 h hs; exact fr_X16_within_4b (fun hs => ih hs) hs
theorem fr_X16_within_0 {h0 : sv_H} {x0 : Nat} {x1 : Int32} {h : sv_H} (hs : sv_same h0 h) : sv_fr sv_same h0 (fn_X16_within x0 x1 h) := by
  unfold fn_X16_within
  refine fr_if ?_ fr_no
  exact fr_X16_within_4 sv_fuel hs
theorem fr_X16_within {x0 : Nat} {x1 : Int32} {h : sv_H} {r : Int32} {hE : sv_H} (hw : fn_X16_within x0 x1 h = some (r, hE)) : sv_same h hE := fr_X16_within_0 (sv_same.refl h) r hE hw

theorem fr_X16_node_74 {h0 : sv_H} {s0 : Int32} {h : sv_H} (hs : sv_same h0 h) : sv_fr sv_same h0 (fn_X16_node_74 s0 h) := by
  unfold fn_X16_node_74
  exact fr_rt hs
theorem fr_X16_node_94 {h0 : sv_H} {s0 : Int32} {h : sv_H} (hs : sv_same h0 h) : sv_fr sv_same h0 (fn_X16_node_94 s0 h) := by
  unfold fn_X16_node_94
  exact fr_rt hs
theorem fr_X16_node_0 {h0 : sv_H} {x0 : Nat} {x1 : Int32} {x2 : Int32} {h : sv_H} (hs : sv_same h0 h) : sv_fr sv_same h0 (fn_X16_node x0 x1 x2 h) := by
  unfold fn_X16_node
  refine fr_if ?_ fr_no
  refine fr_cl (fun _ _ e => hs.trans (fr_X16_isNode e)) (fun _ h hs => ?_)
  refine fr_if ?_ ?_
  · exact fr_rt hs
  · refine fr_if ?_ ?_
    · refine fr_bd (fun _ => ?_)
      refine fr_bd (fun _ => ?_)
      exact fr_rt hs
    refine fr_if ?_ ?_
    · refine fr_bd (fun _ => ?_)
      refine fr_bd (fun _ => ?_)
      refine fr_if ?_ ?_
      · refine fr_bd (fun _ => ?_)
        refine fr_bd (fun _ => ?_)
        exact fr_X16_node_74 hs
      · exact fr_X16_node_74 hs
    refine fr_if ?_ ?_
    · refine fr_bd (fun _ => ?_)
      refine fr_bd (fun _ => ?_)
      refine fr_if ?_ ?_
      · refine fr_bd (fun _ => ?_)
        refine fr_bd (fun _ => ?_)
        exact fr_X16_node_94 hs
      · exact fr_X16_node_94 hs
    refine fr_if ?_ ?_
    · refine fr_bd (fun _ => ?_)
      refine fr_bd (fun _ => ?_)
      exact fr_rt hs
    refine fr_if ?_ ?_
    · refine fr_cl (fun _ _ e => hs.trans (fr_X16_within e)) (fun _ h hs => ?_)
      exact fr_rt hs
    refine fr_if ?_ ?_
    · refine fr_bd (fun _ => ?_)
      refine fr_bd (fun _ => ?_)
      exact fr_rt hs
    exact fr_rt hs
theorem fr_X16_node {x0 : Nat} {x1 : Int32} {x2 : Int32} {h : sv_H} {r : Int32} {hE : sv_H} (hw : fn_X16_node x0 x1 x2 h = some (r, hE)) : sv_same h hE := fr_X16_node_0 (sv_same.refl h) r hE hw

theorem fr_X17_nodeOf_25 {h0 : sv_H} {s0 : Int32} {h : sv_H} (hs : sv_same h0 h) : sv_fr sv_same h0 (fn_X17_nodeOf_25 s0 h) := by
  unfold fn_X17_nodeOf_25
  exact fr_rt hs
theorem fr_X17_nodeOf_0 {h0 : sv_H} {x0 : Nat} {x1 : Int32} {x2 : Int32} {h : sv_H} (hs : sv_same h0 h) : sv_fr sv_same h0 (fn_X17_nodeOf x0 x1 x2 h) := by
  unfold fn_X17_nodeOf
  refine fr_if ?_ fr_no
  refine fr_st (fun _ e => hs.trans (st_pI e)) (fun h hs => ?_)
  refine fr_bd (fun _ => ?_)
  refine fr_if ?_ ?_
  · exact fr_X17_nodeOf_25 hs
  · refine fr_bd (fun _ => ?_)
    refine fr_cl (fun _ _ e => hs.trans (fr_X16_node e)) (fun _ h hs => ?_)
    exact fr_X17_nodeOf_25 hs
theorem fr_X17_nodeOf {x0 : Nat} {x1 : Int32} {x2 : Int32} {h : sv_H} {r : Int32} {hE : sv_H} (hw : fn_X17_nodeOf x0 x1 x2 h = some (r, hE)) : sv_same h hE := fr_X17_nodeOf_0 (sv_same.refl h) r hE hw

theorem fr_X8_leafAround_90 {h0 : sv_H} {x4 : Int32} {h : sv_H} (hs : sv_same h0 h) : sv_fr sv_same h0 (fn_X8_leafAround_90 x4 h) := by
  unfold fn_X8_leafAround_90
  exact fr_rt hs
theorem fr_X8_leafAround_82 {h0 : sv_H} {k17 : Nat → Nat → Int32 → Int32 → Int32 → Int32 → sv_H → Option (Int32 × sv_H)} (hk17 : ∀ {x0 : Nat} {x1 : Nat} {x2 : Int32} {x3 : Int32} {x4 : Int32} {x5 : Int32} {h : sv_H}, sv_same h0 h → sv_fr sv_same h0 (k17 x0 x1 x2 x3 x4 x5 h)) {x0 : Nat} {x1 : Nat} {x2 : Int32} {x3 : Int32} {x5 : Int32} {s0 : Int32} {h : sv_H} (hs : sv_same h0 h) : sv_fr sv_same h0 (fn_X8_leafAround_82 k17 x0 x1 x2 x3 x5 s0 h) := by
  unfold fn_X8_leafAround_82
  exact hk17 hs
theorem fr_X8_leafAround_58 {h0 : sv_H} {k17 : Nat → Nat → Int32 → Int32 → Int32 → Int32 → sv_H → Option (Int32 × sv_H)} (hk17 : ∀ {x0 : Nat} {x1 : Nat} {x2 : Int32} {x3 : Int32} {x4 : Int32} {x5 : Int32} {h : sv_H}, sv_same h0 h → sv_fr sv_same h0 (k17 x0 x1 x2 x3 x4 x5 h)) {x0 : Nat} {x1 : Nat} {x2 : Int32} {x3 : Int32} {x4 : Int32} {x5 : Int32} {s0 : Int32} {h : sv_H} (hs : sv_same h0 h) : sv_fr sv_same h0 (fn_X8_leafAround_58 k17 x0 x1 x2 x3 x4 x5 s0 h) := by
  unfold fn_X8_leafAround_58
  refine fr_if ?_ ?_
  · refine fr_bd (fun _ => ?_)
    refine fr_bd (fun _ => ?_)
    exact fr_X8_leafAround_82 hk17 hs
  · refine fr_bd (fun _ => ?_)
    refine fr_bd (fun _ => ?_)
    exact fr_X8_leafAround_82 hk17 hs
theorem fr_X8_leafAround_17b {h0 : sv_H} {k17 : Nat → Nat → Int32 → Int32 → Int32 → Int32 → sv_H → Option (Int32 × sv_H)} (hk17 : ∀ {x0 : Nat} {x1 : Nat} {x2 : Int32} {x3 : Int32} {x4 : Int32} {x5 : Int32} {h : sv_H}, sv_same h0 h → sv_fr sv_same h0 (k17 x0 x1 x2 x3 x4 x5 h)) {x0 : Nat} {x1 : Nat} {x2 : Int32} {x3 : Int32} {x4 : Int32} {x5 : Int32} {h : sv_H} (hs : sv_same h0 h) : sv_fr sv_same h0 (fn_X8_leafAround_17b k17 x0 x1 x2 x3 x4 x5 h) := by
  unfold fn_X8_leafAround_17b
  refine fr_bd (fun _ => ?_)
  refine fr_if ?_ ?_
  · exact fr_X8_leafAround_90 hs
  · refine fr_if ?_ ?_
    · exact fr_X8_leafAround_90 hs
    · refine fr_bd (fun _ => ?_)
      refine fr_bd (fun _ => ?_)
      refine fr_bd (fun _ => ?_)
      refine fr_bd (fun _ => ?_)
      refine fr_cl (fun _ _ e => hs.trans (fr_X11_sideOf e)) (fun _ h hs => ?_)
      refine fr_if ?_ ?_
      · exact fr_X8_leafAround_58 hk17 hs
      · exact fr_X8_leafAround_58 hk17 hs
theorem fr_X8_leafAround_17 {h0 : sv_H} : ∀ (n : Nat) {x0 : Nat} {x1 : Nat} {x2 : Int32} {x3 : Int32} {x4 : Int32} {x5 : Int32} {h : sv_H}, sv_same h0 h → sv_fr sv_same h0 (fn_X8_leafAround_17 n x0 x1 x2 x3 x4 x5 h) := by
  intro n
  induction n with
  | zero => intro x0 x1 x2 x3 x4 x5 h hs r hE e; cases (show (none : Option (Int32 × sv_H)) = some (r, hE) from e)
  | succ n ih => intro x0 x1 x2 x3 x4 x5 h hs; exact fr_X8_leafAround_17b (fun hs => ih hs) hs
theorem fr_X8_leafAround_12 {h0 : sv_H} {x0 : Nat} {x1 : Nat} {x2 : Int32} {x3 : Int32} {s0 : Int32} {h : sv_H} (hs : sv_same h0 h) : sv_fr sv_same h0 (fn_X8_leafAround_12 x0 x1 x2 x3 s0 h) := by
  unfold fn_X8_leafAround_12
  exact fr_X8_leafAround_17 sv_fuel hs
theorem fr_X8_leafAround_0 {h0 : sv_H} {x0 : Nat} {x1 : Nat} {x2 : Int32} {x3 : Int32} {h : sv_H} (hs : sv_same h0 h) : sv_fr sv_same h0 (fn_X8_leafAround x0 x1 x2 x3 h) := by
  unfold fn_X8_leafAround
  refine fr_if ?_ fr_no
  refine fr_bd (fun _ => ?_)
  refine fr_if ?_ ?_
  · exact fr_X8_leafAround_12 hs
  · exact fr_X8_leafAround_12 hs
theorem fr_X8_leafAround {x0 : Nat} {x1 : Nat} {x2 : Int32} {x3 : Int32} {h : sv_H} {r : Int32} {hE : sv_H} (hw : fn_X8_leafAround x0 x1 x2 x3 h = some (r, hE)) : sv_same h hE := fr_X8_leafAround_0 (sv_same.refl h) r hE hw

theorem fr_X12_leafOf_15 {h0 : sv_H} {h : sv_H} (hs : sv_same h0 h) : sv_fr sv_same h0 (fn_X12_leafOf_15 h) := by
  unfold fn_X12_leafOf_15
  exact fr_rt hs
theorem fr_X12_leafOf_0 {h0 : sv_H} {x0 : Nat} {x1 : Int32} {x2 : Int32} {h : sv_H} (hs : sv_same h0 h) : sv_fr sv_same h0 (fn_X12_leafOf x0 x1 x2 h) := by
  unfold fn_X12_leafOf
  refine fr_if ?_ fr_no
  refine fr_cl (fun _ _ e => hs.trans (fr_X12_hasMap e)) (fun _ h hs => ?_)
  refine fr_if ?_ ?_
  · exact fr_X12_leafOf_15 hs
  · refine fr_cl (fun _ _ e => hs.trans (fr_X12_isPlace e)) (fun _ h hs => ?_)
    refine fr_if ?_ ?_
    · exact fr_X12_leafOf_15 hs
    · refine fr_bd (fun _ => ?_)
      refine fr_bd (fun _ => ?_)
      refine fr_cl (fun _ _ e => hs.trans (fr_X8_leafAround e)) (fun _ h hs => ?_)
      exact fr_rt hs
theorem fr_X12_leafOf {x0 : Nat} {x1 : Int32} {x2 : Int32} {h : sv_H} {r : Int32} {hE : sv_H} (hw : fn_X12_leafOf x0 x1 x2 h = some (r, hE)) : sv_same h hE := fr_X12_leafOf_0 (sv_same.refl h) r hE hw

theorem fr_X16_isPlace_19 {h0 : sv_H} {s0 : Int32} {h : sv_H} (hs : sv_same h0 h) : sv_fr sv_same h0 (fn_X16_isPlace_19 s0 h) := by
  unfold fn_X16_isPlace_19
  exact fr_rz hs
theorem fr_X16_isPlace_18 {h0 : sv_H} {h : sv_H} (hs : sv_same h0 h) : sv_fr sv_same h0 (fn_X16_isPlace_18 h) := by
  unfold fn_X16_isPlace_18
  exact fr_X16_isPlace_19 hs
theorem fr_X16_isPlace_0 {h0 : sv_H} {x0 : Int32} {h : sv_H} (hs : sv_same h0 h) : sv_fr sv_same h0 (fn_X16_isPlace x0 h) := by
  unfold fn_X16_isPlace
  refine fr_if ?_ ?_
  · exact fr_X16_isPlace_18 hs
  · refine fr_if ?_ ?_
    · exact fr_X16_isPlace_18 hs
    · exact fr_X16_isPlace_19 hs
theorem fr_X16_isPlace {x0 : Int32} {h : sv_H} {r : Int32} {hE : sv_H} (hw : fn_X16_isPlace x0 h = some (r, hE)) : sv_same h hE := fr_X16_isPlace_0 (sv_same.refl h) r hE hw

theorem fr_X16_isLeft_24 {h0 : sv_H} {s0 : Int32} {h : sv_H} (hs : sv_same h0 h) : sv_fr sv_same h0 (fn_X16_isLeft_24 s0 h) := by
  unfold fn_X16_isLeft_24
  exact fr_rz hs
theorem fr_X16_isLeft_0 {h0 : sv_H} {x0 : Nat} {x1 : Int32} {x2 : Int32} {x3 : Int32} {h : sv_H} (hs : sv_same h0 h) : sv_fr sv_same h0 (fn_X16_isLeft x0 x1 x2 x3 h) := by
  unfold fn_X16_isLeft
  refine fr_if ?_ fr_no
  refine fr_bd (fun _ => ?_)
  refine fr_bd (fun _ => ?_)
  refine fr_cl (fun _ _ e => hs.trans (fr_X16_sideOf e)) (fun _ h hs => ?_)
  refine fr_if ?_ ?_
  · exact fr_X16_isLeft_24 hs
  · exact fr_X16_isLeft_24 hs
theorem fr_X16_isLeft {x0 : Nat} {x1 : Int32} {x2 : Int32} {x3 : Int32} {h : sv_H} {r : Int32} {hE : sv_H} (hw : fn_X16_isLeft x0 x1 x2 x3 h = some (r, hE)) : sv_same h hE := fr_X16_isLeft_0 (sv_same.refl h) r hE hw

theorem fr_X16_leaf_14 {h0 : sv_H} {h : sv_H} (hs : sv_same h0 h) : sv_fr sv_same h0 (fn_X16_leaf_14 h) := by
  unfold fn_X16_leaf_14
  exact fr_rt hs
theorem fr_X16_leaf_62 {h0 : sv_H} {k33 : Nat → Int32 → Int32 → Int32 → sv_H → Option (Int32 × sv_H)} (hk33 : ∀ {x0 : Nat} {x1 : Int32} {x2 : Int32} {x3 : Int32} {h : sv_H}, sv_same h0 h → sv_fr sv_same h0 (k33 x0 x1 x2 x3 h)) {x0 : Nat} {x1 : Int32} {x2 : Int32} {s0 : Int32} {h : sv_H} (hs : sv_same h0 h) : sv_fr sv_same h0 (fn_X16_leaf_62 k33 x0 x1 x2 s0 h) := by
  unfold fn_X16_leaf_62
  exact hk33 hs
theorem fr_X16_leaf_33b {h0 : sv_H} {k33 : Nat → Int32 → Int32 → Int32 → sv_H → Option (Int32 × sv_H)} (hk33 : ∀ {x0 : Nat} {x1 : Int32} {x2 : Int32} {x3 : Int32} {h : sv_H}, sv_same h0 h → sv_fr sv_same h0 (k33 x0 x1 x2 x3 h)) {x0 : Nat} {x1 : Int32} {x2 : Int32} {x3 : Int32} {h : sv_H} (hs : sv_same h0 h) : sv_fr sv_same h0 (fn_X16_leaf_33b k33 x0 x1 x2 x3 h) := by
  unfold fn_X16_leaf_33b
  refine fr_if ?_ ?_
  · exact fr_rt hs
  · refine fr_cl (fun _ _ e => hs.trans (fr_X16_isLeft e)) (fun _ h hs => ?_)
    refine fr_if ?_ ?_
    · refine fr_bd (fun _ => ?_)
      refine fr_bd (fun _ => ?_)
      exact fr_X16_leaf_62 hk33 hs
    · refine fr_bd (fun _ => ?_)
      refine fr_bd (fun _ => ?_)
      exact fr_X16_leaf_62 hk33 hs
theorem fr_X16_leaf_33 {h0 : sv_H} : ∀ (n : Nat) {x0 : Nat} {x1 : Int32} {x2 : Int32} {x3 : Int32} {h : sv_H}, sv_same h0 h → sv_fr sv_same h0 (fn_X16_leaf_33 n x0 x1 x2 x3 h) := by
  intro n
  induction n with
  | zero => intro x0 x1 x2 x3 h hs r hE e; cases (show (none : Option (Int32 × sv_H)) = some (r, hE) from e)
  | succ n ih => intro x0 x1 x2 x3 h hs; exact fr_X16_leaf_33b (fun hs => ih hs) hs
theorem fr_X16_leaf_32 {h0 : sv_H} {x0 : Nat} {x1 : Int32} {x2 : Int32} {s0 : Int32} {h : sv_H} (hs : sv_same h0 h) : sv_fr sv_same h0 (fn_X16_leaf_32 x0 x1 x2 s0 h) := by
  unfold fn_X16_leaf_32
  exact fr_X16_leaf_33 sv_fuel hs
theorem fr_X16_leaf_0 {h0 : sv_H} {x0 : Nat} {x1 : Int32} {x2 : Int32} {h : sv_H} (hs : sv_same h0 h) : sv_fr sv_same h0 (fn_X16_leaf x0 x1 x2 h) := by
  unfold fn_X16_leaf
  refine fr_if ?_ fr_no
  refine fr_cl (fun _ _ e => hs.trans (fr_X16_isPlace e)) (fun _ h hs => ?_)
  refine fr_if ?_ ?_
  · exact fr_X16_leaf_14 hs
  · refine fr_cl (fun _ _ e => hs.trans (fr_X16_isPlace e)) (fun _ h hs => ?_)
    refine fr_if ?_ ?_
    · exact fr_X16_leaf_14 hs
    · refine fr_cl (fun _ _ e => hs.trans (fr_X16_know e)) (fun _ h hs => ?_)
      refine fr_bd (fun _ => ?_)
      refine fr_if ?_ ?_
      · exact fr_X16_leaf_32 hs
      · exact fr_X16_leaf_32 hs
theorem fr_X16_leaf {x0 : Nat} {x1 : Int32} {x2 : Int32} {h : sv_H} {r : Int32} {hE : sv_H} (hw : fn_X16_leaf x0 x1 x2 h = some (r, hE)) : sv_same h hE := fr_X16_leaf_0 (sv_same.refl h) r hE hw

theorem fr_X17_leafOf_25 {h0 : sv_H} {s0 : Int32} {h : sv_H} (hs : sv_same h0 h) : sv_fr sv_same h0 (fn_X17_leafOf_25 s0 h) := by
  unfold fn_X17_leafOf_25
  exact fr_rt hs
theorem fr_X17_leafOf_0 {h0 : sv_H} {x0 : Nat} {x1 : Int32} {x2 : Int32} {h : sv_H} (hs : sv_same h0 h) : sv_fr sv_same h0 (fn_X17_leafOf x0 x1 x2 h) := by
  unfold fn_X17_leafOf
  refine fr_if ?_ fr_no
  refine fr_st (fun _ e => hs.trans (st_pI e)) (fun h hs => ?_)
  refine fr_bd (fun _ => ?_)
  refine fr_if ?_ ?_
  · exact fr_X17_leafOf_25 hs
  · refine fr_bd (fun _ => ?_)
    refine fr_cl (fun _ _ e => hs.trans (fr_X16_leaf e)) (fun _ h hs => ?_)
    exact fr_X17_leafOf_25 hs
theorem fr_X17_leafOf {x0 : Nat} {x1 : Int32} {x2 : Int32} {h : sv_H} {r : Int32} {hE : sv_H} (hw : fn_X17_leafOf x0 x1 x2 h = some (r, hE)) : sv_same h hE := fr_X17_leafOf_0 (sv_same.refl h) r hE hw

theorem fr_X12_byteOf_38 {h0 : sv_H} {s0 : Int32} {h : sv_H} (hs : sv_same h0 h) : sv_fr sv_same h0 (fn_X12_byteOf_38 s0 h) := by
  unfold fn_X12_byteOf_38
  exact fr_rt hs
theorem fr_X12_byteOf_37 {h0 : sv_H} {h : sv_H} (hs : sv_same h0 h) : sv_fr sv_same h0 (fn_X12_byteOf_37 h) := by
  unfold fn_X12_byteOf_37
  exact fr_X12_byteOf_38 hs
theorem fr_X12_byteOf_15 {h0 : sv_H} {x1 : Int32} {s0 : Nat} {h : sv_H} (hs : sv_same h0 h) : sv_fr sv_same h0 (fn_X12_byteOf_15 x1 s0 h) := by
  unfold fn_X12_byteOf_15
  refine fr_if ?_ ?_
  · exact fr_X12_byteOf_37 hs
  · refine fr_bd (fun _ => ?_)
    refine fr_if ?_ ?_
    · exact fr_X12_byteOf_37 hs
    · refine fr_bd (fun _ => ?_)
      refine fr_bd (fun _ => ?_)
      exact fr_X12_byteOf_38 hs
theorem fr_X12_byteOf_0 {h0 : sv_H} {x0 : Nat} {x1 : Int32} {x2 : Int32} {h : sv_H} (hs : sv_same h0 h) : sv_fr sv_same h0 (fn_X12_byteOf x0 x1 x2 h) := by
  unfold fn_X12_byteOf
  refine fr_if ?_ fr_no
  refine fr_if ?_ ?_
  · refine fr_bd (fun _ => ?_)
    exact fr_X12_byteOf_15 hs
  · refine fr_bd (fun _ => ?_)
    exact fr_X12_byteOf_15 hs
theorem fr_X12_byteOf {x0 : Nat} {x1 : Int32} {x2 : Int32} {h : sv_H} {r : Int32} {hE : sv_H} (hw : fn_X12_byteOf x0 x1 x2 h = some (r, hE)) : sv_same h hE := fr_X12_byteOf_0 (sv_same.refl h) r hE hw

theorem fr_X17_byteOf_31 {h0 : sv_H} {h : sv_H} (hs : sv_same h0 h) : sv_fr sv_same h0 (fn_X17_byteOf_31 h) := by
  unfold fn_X17_byteOf_31
  exact fr_rt hs
theorem fr_X17_byteOf_59 {h0 : sv_H} {s0 : Int32} {h : sv_H} (hs : sv_same h0 h) : sv_fr sv_same h0 (fn_X17_byteOf_59 s0 h) := by
  unfold fn_X17_byteOf_59
  exact fr_rt hs
theorem fr_X17_byteOf_28 {h0 : sv_H} {x0 : Nat} {x1 : Int32} {x2 : Int32} {s0 : Int32} {s1 : Int32} {h : sv_H} (hs : sv_same h0 h) : sv_fr sv_same h0 (fn_X17_byteOf_28 x0 x1 x2 s0 s1 h) := by
  unfold fn_X17_byteOf_28
  refine fr_if ?_ ?_
  · refine fr_if ?_ ?_
    · refine fr_bd (fun _ => ?_)
      refine fr_bd (fun _ => ?_)
      exact fr_X17_byteOf_59 hs
    · refine fr_bd (fun _ => ?_)
      refine fr_bd (fun _ => ?_)
      refine fr_bd (fun _ => ?_)
      exact fr_X17_byteOf_59 hs
  · exact fr_X17_byteOf_31 hs
theorem fr_X17_byteOf_0 {h0 : sv_H} {x0 : Nat} {x1 : Int32} {x2 : Int32} {h : sv_H} (hs : sv_same h0 h) : sv_fr sv_same h0 (fn_X17_byteOf x0 x1 x2 h) := by
  unfold fn_X17_byteOf
  refine fr_if ?_ fr_no
  refine fr_st (fun _ e => hs.trans (st_pI e)) (fun h hs => ?_)
  refine fr_if ?_ ?_
  · exact fr_X17_byteOf_31 hs
  · refine fr_if ?_ ?_
    · refine fr_bd (fun _ => ?_)
      exact fr_X17_byteOf_28 hs
    · refine fr_bd (fun _ => ?_)
      refine fr_bd (fun _ => ?_)
      exact fr_X17_byteOf_28 hs
theorem fr_X17_byteOf {x0 : Nat} {x1 : Int32} {x2 : Int32} {h : sv_H} {r : Int32} {hE : sv_H} (hw : fn_X17_byteOf x0 x1 x2 h = some (r, hE)) : sv_same h hE := fr_X17_byteOf_0 (sv_same.refl h) r hE hw

theorem fr_X12_lookAt_86 {h0 : sv_H} {s0 : Int32} {h : sv_H} (hs : sv_same h0 h) : sv_fr sv_same h0 (fn_X12_lookAt_86 s0 h) := by
  unfold fn_X12_lookAt_86
  exact fr_rt hs
theorem fr_X12_lookAt_105 {h0 : sv_H} {s0 : Int32} {h : sv_H} (hs : sv_same h0 h) : sv_fr sv_same h0 (fn_X12_lookAt_105 s0 h) := by
  unfold fn_X12_lookAt_105
  exact fr_rt hs
theorem fr_X12_lookAt_124 {h0 : sv_H} {s0 : Int32} {h : sv_H} (hs : sv_same h0 h) : sv_fr sv_same h0 (fn_X12_lookAt_124 s0 h) := by
  unfold fn_X12_lookAt_124
  exact fr_rt hs
theorem fr_X12_lookAt_143 {h0 : sv_H} {s0 : Int32} {h : sv_H} (hs : sv_same h0 h) : sv_fr sv_same h0 (fn_X12_lookAt_143 s0 h) := by
  unfold fn_X12_lookAt_143
  exact fr_rt hs
theorem fr_X12_lookAt_202 {h0 : sv_H} {s0 : Int32} {h : sv_H} (hs : sv_same h0 h) : sv_fr sv_same h0 (fn_X12_lookAt_202 s0 h) := by
  unfold fn_X12_lookAt_202
  exact fr_rt hs
theorem fr_X12_lookAt_221 {h0 : sv_H} {s0 : Int32} {h : sv_H} (hs : sv_same h0 h) : sv_fr sv_same h0 (fn_X12_lookAt_221 s0 h) := by
  unfold fn_X12_lookAt_221
  exact fr_rt hs
theorem fr_X12_lookAt_240 {h0 : sv_H} {s0 : Int32} {h : sv_H} (hs : sv_same h0 h) : sv_fr sv_same h0 (fn_X12_lookAt_240 s0 h) := by
  unfold fn_X12_lookAt_240
  exact fr_rt hs
theorem fr_X12_lookAt_0 {h0 : sv_H} {x0 : Nat} {x1 : Int32} {h : sv_H} (hs : sv_same h0 h) : sv_fr sv_same h0 (fn_X12_lookAt x0 x1 h) := by
  unfold fn_X12_lookAt
  refine fr_if ?_ fr_no
  refine fr_if ?_ ?_
  · refine fr_cl (fun _ _ e => hs.trans (fr_X12_hasMap e)) (fun _ h hs => ?_)
    refine fr_if ?_ ?_
    · exact fr_X12_lookAt_86 hs
    · refine fr_bd (fun _ => ?_)
      refine fr_bd (fun _ => ?_)
      exact fr_X12_lookAt_86 hs
  refine fr_if ?_ ?_
  · refine fr_cl (fun _ _ e => hs.trans (fr_X12_hasMap e)) (fun _ h hs => ?_)
    refine fr_if ?_ ?_
    · exact fr_X12_lookAt_105 hs
    · refine fr_bd (fun _ => ?_)
      refine fr_bd (fun _ => ?_)
      exact fr_X12_lookAt_105 hs
  refine fr_if ?_ ?_
  · refine fr_cl (fun _ _ e => hs.trans (fr_X12_hasMap e)) (fun _ h hs => ?_)
    refine fr_if ?_ ?_
    · exact fr_X12_lookAt_124 hs
    · refine fr_bd (fun _ => ?_)
      refine fr_bd (fun _ => ?_)
      exact fr_X12_lookAt_124 hs
  refine fr_if ?_ ?_
  · refine fr_cl (fun _ _ e => hs.trans (fr_X12_hasMap e)) (fun _ h hs => ?_)
    refine fr_if ?_ ?_
    · exact fr_X12_lookAt_143 hs
    · refine fr_bd (fun _ => ?_)
      refine fr_bd (fun _ => ?_)
      exact fr_X12_lookAt_143 hs
  refine fr_if ?_ ?_
  · refine fr_bd (fun _ => ?_)
    refine fr_bd (fun _ => ?_)
    exact fr_rt hs
  refine fr_if ?_ ?_
  · refine fr_bd (fun _ => ?_)
    refine fr_bd (fun _ => ?_)
    exact fr_rt hs
  refine fr_if ?_ ?_
  · refine fr_bd (fun _ => ?_)
    refine fr_bd (fun _ => ?_)
    exact fr_rt hs
  refine fr_if ?_ ?_
  · refine fr_bd (fun _ => ?_)
    refine fr_bd (fun _ => ?_)
    exact fr_rt hs
  refine fr_if ?_ ?_
  · refine fr_bd (fun _ => ?_)
    refine fr_bd (fun _ => ?_)
    exact fr_rt hs
  refine fr_if ?_ ?_
  · refine fr_cl (fun _ _ e => hs.trans (fr_X12_hasMap e)) (fun _ h hs => ?_)
    refine fr_if ?_ ?_
    · exact fr_X12_lookAt_202 hs
    · refine fr_bd (fun _ => ?_)
      refine fr_bd (fun _ => ?_)
      exact fr_X12_lookAt_202 hs
  refine fr_if ?_ ?_
  · refine fr_cl (fun _ _ e => hs.trans (fr_X12_hasMap e)) (fun _ h hs => ?_)
    refine fr_if ?_ ?_
    · exact fr_X12_lookAt_221 hs
    · refine fr_bd (fun _ => ?_)
      refine fr_bd (fun _ => ?_)
      exact fr_X12_lookAt_221 hs
  refine fr_if ?_ ?_
  · refine fr_cl (fun _ _ e => hs.trans (fr_X12_hasMap e)) (fun _ h hs => ?_)
    refine fr_if ?_ ?_
    · exact fr_X12_lookAt_240 hs
    · refine fr_bd (fun _ => ?_)
      refine fr_cl (fun _ _ e => hs.trans (fr_X2_moverCount e)) (fun _ h hs => ?_)
      exact fr_X12_lookAt_240 hs
  refine fr_if ?_ ?_
  · refine fr_bd (fun _ => ?_)
    exact fr_rt hs
  exact fr_rt hs
theorem fr_X12_lookAt {x0 : Nat} {x1 : Int32} {h : sv_H} {r : Int32} {hE : sv_H} (hw : fn_X12_lookAt x0 x1 h = some (r, hE)) : sv_same h hE := fr_X12_lookAt_0 (sv_same.refl h) r hE hw

theorem fr_X17_lookAt_93 {h0 : sv_H} {s0 : Int32} {h : sv_H} (hs : sv_same h0 h) : sv_fr sv_same h0 (fn_X17_lookAt_93 s0 h) := by
  unfold fn_X17_lookAt_93
  exact fr_rt hs
theorem fr_X17_lookAt_72 {h0 : sv_H} {x0 : Nat} {x1 : Int32} {h : sv_H} (hs : sv_same h0 h) : sv_fr sv_same h0 (fn_X17_lookAt_72 x0 x1 h) := by
  unfold fn_X17_lookAt_72
  refine fr_bd (fun _ => ?_)
  refine fr_if ?_ ?_
  · exact fr_X17_lookAt_93 hs
  · refine fr_bd (fun _ => ?_)
    refine fr_cl (fun _ _ e => hs.trans (fr_X14_many e)) (fun _ h hs => ?_)
    exact fr_X17_lookAt_93 hs
theorem fr_X17_lookAt_150 {h0 : sv_H} {s0 : Int32} {h : sv_H} (hs : sv_same h0 h) : sv_fr sv_same h0 (fn_X17_lookAt_150 s0 h) := by
  unfold fn_X17_lookAt_150
  exact fr_rt hs
theorem fr_X17_lookAt_176 {h0 : sv_H} {s0 : Int32} {h : sv_H} (hs : sv_same h0 h) : sv_fr sv_same h0 (fn_X17_lookAt_176 s0 h) := by
  unfold fn_X17_lookAt_176
  exact fr_rt hs
theorem fr_X17_lookAt_0 {h0 : sv_H} {x0 : Nat} {x1 : Int32} {h : sv_H} (hs : sv_same h0 h) : sv_fr sv_same h0 (fn_X17_lookAt x0 x1 h) := by
  unfold fn_X17_lookAt
  refine fr_if ?_ fr_no
  refine fr_st (fun _ e => hs.trans (st_pI e)) (fun h hs => ?_)
  refine fr_if ?_ ?_
  · exact fr_X17_lookAt_72 hs
  refine fr_if ?_ ?_
  · exact fr_X17_lookAt_72 hs
  refine fr_if ?_ ?_
  · exact fr_X17_lookAt_72 hs
  refine fr_if ?_ ?_
  · exact fr_X17_lookAt_72 hs
  refine fr_if ?_ ?_
  · refine fr_bd (fun _ => ?_)
    refine fr_bd (fun _ => ?_)
    exact fr_rt hs
  refine fr_if ?_ ?_
  · refine fr_bd (fun _ => ?_)
    refine fr_bd (fun _ => ?_)
    exact fr_rt hs
  refine fr_if ?_ ?_
  · refine fr_bd (fun _ => ?_)
    exact fr_rt hs
  refine fr_if ?_ ?_
  · refine fr_bd (fun _ => ?_)
    exact fr_rt hs
  refine fr_if ?_ ?_
  · refine fr_bd (fun _ => ?_)
    exact fr_rt hs
  refine fr_if ?_ ?_
  · refine fr_bd (fun _ => ?_)
    refine fr_cl (fun _ _ e => hs.trans (fr_X16_know e)) (fun _ h hs => ?_)
    refine fr_bd (fun _ => ?_)
    refine fr_if ?_ ?_
    · exact fr_X17_lookAt_150 hs
    · refine fr_bd (fun _ => ?_)
      refine fr_bd (fun _ => ?_)
      exact fr_X17_lookAt_150 hs
  refine fr_if ?_ ?_
  · refine fr_bd (fun _ => ?_)
    refine fr_cl (fun _ _ e => hs.trans (fr_X16_know e)) (fun _ h hs => ?_)
    refine fr_bd (fun _ => ?_)
    refine fr_if ?_ ?_
    · exact fr_X17_lookAt_176 hs
    · refine fr_bd (fun _ => ?_)
      refine fr_bd (fun _ => ?_)
      exact fr_X17_lookAt_176 hs
  refine fr_if ?_ ?_
  · refine fr_bd (fun _ => ?_)
    refine fr_cl (fun _ _ e => hs.trans (fr_X13_many e)) (fun _ h hs => ?_)
    exact fr_rt hs
  refine fr_if ?_ ?_
  · refine fr_bd (fun _ => ?_)
    exact fr_rt hs
  exact fr_rt hs
theorem fr_X17_lookAt {x0 : Nat} {x1 : Int32} {h : sv_H} {r : Int32} {hE : sv_H} (hw : fn_X17_lookAt x0 x1 h = some (r, hE)) : sv_same h hE := fr_X17_lookAt_0 (sv_same.refl h) r hE hw

