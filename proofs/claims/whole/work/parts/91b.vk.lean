theorem vk_X13_reset_2b {O : Nat → Prop} {z0 : vt_S} {k2 : Nat → Int32 → vt_S → Option (Unit × vt_S)} (hk2 : ∀ {x0 : Nat} {x1 : Int32} {h : vt_S}, O x0 → vw [1415, 1416, 1417] [1408, 1409, 1410, 1411, 1412, 1413] [] O z0 h → vfr (vw [1415, 1416, 1417] [1408, 1409, 1410, 1411, 1412, 1413] [] O) z0 (k2 x0 x1 h)) {x0 : Nat} {x1 : Int32} {h : vt_S} (ox0 : O x0) (hs : vw [1415, 1416, 1417] [1408, 1409, 1410, 1411, 1412, 1413] [] O z0 h) : vfr (vw [1415, 1416, 1417] [1408, 1409, 1410, 1411, 1412, 1413] [] O) z0 (ab_X13_reset_2b k2 x0 x1 h) := by
  unfold ab_X13_reset_2b
  refine vr_let (fun _ => ?_)
  refine vr_if ?_ ?_
  · refine vr_I hs (by decide) ox0 (fun h hs => ?_)
    refine vr_I hs (by decide) ox0 (fun h hs => ?_)
    refine vr_I hs (by decide) ox0 (fun h hs => ?_)
    exact vr_rt hs
  · refine vr_bd (fun _ => ?_)
    refine vr_sI hs (by decide) ox0 (fun h hs => ?_)
    refine vr_bd (fun _ => ?_)
    refine vr_sI hs (by decide) ox0 (fun h hs => ?_)
    refine vr_sI hs (by decide) ox0 (fun h hs => ?_)
    refine vr_sI hs (by decide) ox0 (fun h hs => ?_)
    refine vr_sI hs (by decide) ox0 (fun h hs => ?_)
    refine vr_sI hs (by decide) ox0 (fun h hs => ?_)
    exact hk2 ox0 hs
theorem vk_X13_reset_2 {O : Nat → Prop} {z0 : vt_S} : ∀ (n : Nat) {x0 : Nat} {x1 : Int32} {h : vt_S}, O x0 → vw [1415, 1416, 1417] [1408, 1409, 1410, 1411, 1412, 1413] [] O z0 h → vfr (vw [1415, 1416, 1417] [1408, 1409, 1410, 1411, 1412, 1413] [] O) z0 (ab_X13_reset_2 n x0 x1 h) := by
  intro n
  induction n with
  | zero => intro x0 x1 h ox0 hs; exact vr_no
  | succ n ih => intro x0 x1 h ox0 hs; exact vk_X13_reset_2b (fun ox0 hs => ih ox0 hs) ox0 hs
theorem vk_X13_reset_0 {O : Nat → Prop} {z0 : vt_S} {x0 : Nat} {h : vt_S} (ox0 : O x0) (hs : vw [1415, 1416, 1417] [1408, 1409, 1410, 1411, 1412, 1413] [] O z0 h) : vfr (vw [1415, 1416, 1417] [1408, 1409, 1410, 1411, 1412, 1413] [] O) z0 (ab_X13_reset x0 h) := by
  unfold ab_X13_reset
  exact vk_X13_reset_2 sv_fuel ox0 hs
theorem vk_X13_reset {O : Nat → Prop} {x0 : Nat} {h : vt_S} {r : Unit} {s : vt_S} (c : vcl O h) (ox0 : O x0) (e : ab_X13_reset x0 h = some (r, s)) : vw [1415, 1416, 1417] [1408, 1409, 1410, 1411, 1412, 1413] [] O h s := vk_X13_reset_0 ox0 ⟨vk.refl h, c⟩ r s e

theorem vk_X13_clear_12b {O : Nat → Prop} {z0 : vt_S} {k12 : Nat → Int32 → vt_S → Option (Unit × vt_S)} (hk12 : ∀ {x0 : Nat} {x1 : Int32} {h : vt_S}, O x0 → vw [1400, 1407, 1415, 1416, 1417] [1406, 1408, 1409, 1410, 1411, 1412, 1413] [] O z0 h → vfr (vw [1400, 1407, 1415, 1416, 1417] [1406, 1408, 1409, 1410, 1411, 1412, 1413] [] O) z0 (k12 x0 x1 h)) {x0 : Nat} {x1 : Int32} {h : vt_S} (ox0 : O x0) (hs : vw [1400, 1407, 1415, 1416, 1417] [1406, 1408, 1409, 1410, 1411, 1412, 1413] [] O z0 h) : vfr (vw [1400, 1407, 1415, 1416, 1417] [1406, 1408, 1409, 1410, 1411, 1412, 1413] [] O) z0 (ab_X13_clear_12b k12 x0 x1 h) := by
  unfold ab_X13_clear_12b
  refine vr_if ?_ ?_
  · refine vr_cl (fun _ _ e => (let q := vk_X13_reset hs.2 ox0 e; ⟨hs.1.trans (q.1.weak (by decide) (by decide) (by decide)), q.2⟩)) (fun _ h hs => ?_)
    exact vr_rt hs
  · refine vr_sI hs (by decide) ox0 (fun h hs => ?_)
    exact hk12 ox0 hs
theorem vk_X13_clear_12 {O : Nat → Prop} {z0 : vt_S} : ∀ (n : Nat) {x0 : Nat} {x1 : Int32} {h : vt_S}, O x0 → vw [1400, 1407, 1415, 1416, 1417] [1406, 1408, 1409, 1410, 1411, 1412, 1413] [] O z0 h → vfr (vw [1400, 1407, 1415, 1416, 1417] [1406, 1408, 1409, 1410, 1411, 1412, 1413] [] O) z0 (ab_X13_clear_12 n x0 x1 h) := by
  intro n
  induction n with
  | zero => intro x0 x1 h ox0 hs; exact vr_no
  | succ n ih => intro x0 x1 h ox0 hs; exact vk_X13_clear_12b (fun ox0 hs => ih ox0 hs) ox0 hs
theorem vk_X13_clear_0 {O : Nat → Prop} {z0 : vt_S} {x0 : Nat} {h : vt_S} (ox0 : O x0) (hs : vw [1400, 1407, 1415, 1416, 1417] [1406, 1408, 1409, 1410, 1411, 1412, 1413] [] O z0 h) : vfr (vw [1400, 1407, 1415, 1416, 1417] [1406, 1408, 1409, 1410, 1411, 1412, 1413] [] O) z0 (ab_X13_clear x0 h) := by
  unfold ab_X13_clear
  refine vr_I hs (by decide) ox0 (fun h hs => ?_)
  refine vr_I hs (by decide) ox0 (fun h hs => ?_)
  exact vk_X13_clear_12 sv_fuel ox0 hs
theorem vk_X13_clear {O : Nat → Prop} {x0 : Nat} {h : vt_S} {r : Unit} {s : vt_S} (c : vcl O h) (ox0 : O x0) (e : ab_X13_clear x0 h = some (r, s)) : vw [1400, 1407, 1415, 1416, 1417] [1406, 1408, 1409, 1410, 1411, 1412, 1413] [] O h s := vk_X13_clear_0 ox0 ⟨vk.refl h, c⟩ r s e

theorem ve_X14_many_21 {z0 : vt_S} {s0 : Int32} {h : vt_S} (hs : veq z0 h) : vfr veq z0 (ab_X14_many_21 s0 h) := by
  unfold ab_X14_many_21
  exact vr_rt hs
theorem ve_X14_many_0 {z0 : vt_S} {x0 : Nat} {x1 : Int32} {h : vt_S} (hs : veq z0 h) : vfr veq z0 (ab_X14_many x0 x1 h) := by
  unfold ab_X14_many
  refine vr_let (fun _ => ?_)
  refine vr_if ?_ ?_
  · exact ve_X14_many_21 hs
  · refine vr_bd (fun _ => ?_)
    exact ve_X14_many_21 hs
theorem ve_X14_many {x0 : Nat} {x1 : Int32} {h : vt_S} {r : Int32} {s : vt_S} (e : ab_X14_many x0 x1 h = some (r, s)) : s = h := ve_X14_many_0 rfl r s e

theorem ve_X17_sectors_19 {z0 : vt_S} {s0 : Int32} {h : vt_S} (hs : veq z0 h) : vfr veq z0 (ab_X17_sectors_19 s0 h) := by
  unfold ab_X17_sectors_19
  exact vr_rt hs
theorem ve_X17_sectors_0 {z0 : vt_S} {x0 : Nat} {h : vt_S} (hs : veq z0 h) : vfr veq z0 (ab_X17_sectors x0 h) := by
  unfold ab_X17_sectors
  refine vr_let (fun _ => ?_)
  refine vr_if ?_ ?_
  · exact ve_X17_sectors_19 hs
  · refine vr_let (fun _ => ?_)
    refine vr_cl (fun _ _ e => ((ve_X14_many e).trans hs)) (fun _ h hs => ?_)
    exact ve_X17_sectors_19 hs
theorem ve_X17_sectors {x0 : Nat} {h : vt_S} {r : Int32} {s : vt_S} (e : ab_X17_sectors x0 h = some (r, s)) : s = h := ve_X17_sectors_0 rfl r s e

theorem ve_X14_has_18 {z0 : vt_S} {s0 : Int32} {h : vt_S} (hs : veq z0 h) : vfr veq z0 (ab_X14_has_18 s0 h) := by
  unfold ab_X14_has_18
  exact vr_rz hs
theorem ve_X14_has_17 {z0 : vt_S} {h : vt_S} (hs : veq z0 h) : vfr veq z0 (ab_X14_has_17 h) := by
  unfold ab_X14_has_17
  exact ve_X14_has_18 hs
theorem ve_X14_has_0 {z0 : vt_S} {x0 : Nat} {x1 : Int32} {x2 : Int32} {h : vt_S} (hs : veq z0 h) : vfr veq z0 (ab_X14_has x0 x1 x2 h) := by
  unfold ab_X14_has
  refine vr_if ?_ ?_
  · exact ve_X14_has_17 hs
  · refine vr_cl (fun _ _ e => ((ve_X14_many e).trans hs)) (fun _ h hs => ?_)
    refine vr_if ?_ ?_
    · exact ve_X14_has_17 hs
    · exact ve_X14_has_18 hs
theorem ve_X14_has {x0 : Nat} {x1 : Int32} {x2 : Int32} {h : vt_S} {r : Int32} {s : vt_S} (e : ab_X14_has x0 x1 x2 h = some (r, s)) : s = h := ve_X14_has_0 rfl r s e

theorem ve_X14_textureAt_13b {z0 : vt_S} {k13 : Nat → Int32 → Int32 → Int32 → vt_S → Option (Int32 × vt_S)} (hk13 : ∀ {x0 : Nat} {x1 : Int32} {x2 : Int32} {x3 : Int32} {h : vt_S}, veq z0 h → vfr veq z0 (k13 x0 x1 x2 x3 h)) {x0 : Nat} {x1 : Int32} {x2 : Int32} {x3 : Int32} {h : vt_S} (hs : veq z0 h) : vfr veq z0 (ab_X14_textureAt_13b k13 x0 x1 x2 x3 h) := by
  unfold ab_X14_textureAt_13b
  refine vr_if ?_ ?_
  · exact vr_rt hs
  · refine vr_bd (fun _ => ?_)
    refine vr_bd (fun _ => ?_)
    exact hk13 hs
theorem ve_X14_textureAt_13 {z0 : vt_S} : ∀ (n : Nat) {x0 : Nat} {x1 : Int32} {x2 : Int32} {x3 : Int32} {h : vt_S}, veq z0 h → vfr veq z0 (ab_X14_textureAt_13 n x0 x1 x2 x3 h) := by
  intro n
  induction n with
  | zero => intro x0 x1 x2 x3 h hs; exact vr_no
  | succ n ih => intro x0 x1 x2 x3 h hs; exact ve_X14_textureAt_13b (fun hs => ih hs) hs
theorem ve_X14_textureAt_0 {z0 : vt_S} {x0 : Nat} {x1 : Int32} {h : vt_S} (hs : veq z0 h) : vfr veq z0 (ab_X14_textureAt x0 x1 h) := by
  unfold ab_X14_textureAt
  refine vr_cl (fun _ _ e => ((ve_X14_many e).trans hs)) (fun _ h hs => ?_)
  exact ve_X14_textureAt_13 sv_fuel hs
theorem ve_X14_textureAt {x0 : Nat} {x1 : Int32} {h : vt_S} {r : Int32} {s : vt_S} (e : ab_X14_textureAt x0 x1 h = some (r, s)) : s = h := ve_X14_textureAt_0 rfl r s e

theorem ve_X14_sectorAt_0 {z0 : vt_S} {x0 : Nat} {x1 : Int32} {h : vt_S} (hs : veq z0 h) : vfr veq z0 (ab_X14_sectorAt x0 x1 h) := by
  unfold ab_X14_sectorAt
  refine vr_cl (fun _ _ e => ((ve_X14_many e).trans hs)) (fun _ h hs => ?_)
  refine vr_cl (fun _ _ e => ((ve_X14_textureAt e).trans hs)) (fun _ h hs => ?_)
  exact vr_rt hs
theorem ve_X14_sectorAt {x0 : Nat} {x1 : Int32} {h : vt_S} {r : Int32} {s : vt_S} (e : ab_X14_sectorAt x0 x1 h = some (r, s)) : s = h := ve_X14_sectorAt_0 rfl r s e

theorem ve_X14_sector_19 {z0 : vt_S} {h : vt_S} (hs : veq z0 h) : vfr veq z0 (ab_X14_sector_19 h) := by
  unfold ab_X14_sector_19
  exact vr_rt hs
theorem ve_X14_sector_62 {z0 : vt_S} {s0 : Int32} {h : vt_S} (hs : veq z0 h) : vfr veq z0 (ab_X14_sector_62 s0 h) := by
  unfold ab_X14_sector_62
  exact vr_rt hs
theorem ve_X14_sector_0 {z0 : vt_S} {x0 : Nat} {x1 : Int32} {x2 : Int32} {h : vt_S} (hs : veq z0 h) : vfr veq z0 (ab_X14_sector x0 x1 x2 h) := by
  unfold ab_X14_sector
  refine vr_cl (fun _ _ e => ((ve_X14_has e).trans hs)) (fun _ h hs => ?_)
  refine vr_if ?_ ?_
  · exact ve_X14_sector_19 hs
  · refine vr_if ?_ ?_
    · exact ve_X14_sector_19 hs
    · refine vr_if ?_ ?_
      · refine vr_cl (fun _ _ e => ((ve_X14_sectorAt e).trans hs)) (fun _ h hs => ?_)
        refine vr_if ?_ ?_
        · refine vr_bd (fun _ => ?_)
          exact ve_X14_sector_62 hs
        · refine vr_cl (fun _ _ e => ((ve_X14_pair e).trans hs)) (fun _ h hs => ?_)
          exact ve_X14_sector_62 hs
      · exact ve_X14_sector_19 hs
theorem ve_X14_sector {x0 : Nat} {x1 : Int32} {x2 : Int32} {h : vt_S} {r : Int32} {s : vt_S} (e : ab_X14_sector x0 x1 x2 h = some (r, s)) : s = h := ve_X14_sector_0 rfl r s e

theorem vk_X13_sector_67 {O : Nat → Prop} {z0 : vt_S} {x0 : Nat} {x1 : Int32} {x2 : Int32} {x3 : Int32} {x4 : Int32} {x5 : Int32} {s0 : Int32} {h : vt_S} (ox0 : O x0) (hs : vw [1400, 1415, 1416, 1417] [1401, 1402, 1403, 1404, 1405, 1408, 1409, 1410, 1411, 1412, 1413] [] O z0 h) : vfr (vw [1400, 1415, 1416, 1417] [1401, 1402, 1403, 1404, 1405, 1408, 1409, 1410, 1411, 1412, 1413] [] O) z0 (ab_X13_sector_67 x0 x1 x2 x3 x4 x5 s0 h) := by
  unfold ab_X13_sector_67
  refine vr_if ?_ ?_
  · exact vr_rt hs
  · refine vr_let (fun _ => ?_)
    refine vr_sI hs (by decide) ox0 (fun h hs => ?_)
    refine vr_let (fun _ => ?_)
    refine vr_sI hs (by decide) ox0 (fun h hs => ?_)
    refine vr_let (fun _ => ?_)
    refine vr_sI hs (by decide) ox0 (fun h hs => ?_)
    refine vr_let (fun _ => ?_)
    refine vr_sI hs (by decide) ox0 (fun h hs => ?_)
    refine vr_let (fun _ => ?_)
    refine vr_sI hs (by decide) ox0 (fun h hs => ?_)
    refine vr_let (fun _ => ?_)
    refine vr_I hs (by decide) ox0 (fun h hs => ?_)
    refine vr_cl (fun _ _ e => (let q := vk_X13_reset hs.2 ox0 e; ⟨hs.1.trans (q.1.weak (by decide) (by decide) (by decide)), q.2⟩)) (fun _ h hs => ?_)
    refine vr_let (fun _ => ?_)
    exact vr_rt hs
theorem vk_X13_sector_66 {O : Nat → Prop} {z0 : vt_S} {x0 : Nat} {x1 : Int32} {x2 : Int32} {x3 : Int32} {x4 : Int32} {x5 : Int32} {h : vt_S} (ox0 : O x0) (hs : vw [1400, 1415, 1416, 1417] [1401, 1402, 1403, 1404, 1405, 1408, 1409, 1410, 1411, 1412, 1413] [] O z0 h) : vfr (vw [1400, 1415, 1416, 1417] [1401, 1402, 1403, 1404, 1405, 1408, 1409, 1410, 1411, 1412, 1413] [] O) z0 (ab_X13_sector_66 x0 x1 x2 x3 x4 x5 h) := by
  unfold ab_X13_sector_66
  exact vk_X13_sector_67 ox0 hs
theorem vk_X13_sector_0 {O : Nat → Prop} {z0 : vt_S} {x0 : Nat} {x1 : Int32} {x2 : Int32} {x3 : Int32} {x4 : Int32} {x5 : Int32} {h : vt_S} (ox0 : O x0) (hs : vw [1400, 1415, 1416, 1417] [1401, 1402, 1403, 1404, 1405, 1408, 1409, 1410, 1411, 1412, 1413] [] O z0 h) : vfr (vw [1400, 1415, 1416, 1417] [1401, 1402, 1403, 1404, 1405, 1408, 1409, 1410, 1411, 1412, 1413] [] O) z0 (ab_X13_sector x0 x1 x2 x3 x4 x5 h) := by
  unfold ab_X13_sector
  refine vr_if ?_ ?_
  · exact vk_X13_sector_66 ox0 hs
  · refine vr_if ?_ ?_
    · exact vk_X13_sector_66 ox0 hs
    · refine vr_if ?_ ?_
      · exact vk_X13_sector_66 ox0 hs
      · refine vr_if ?_ ?_
        · exact vk_X13_sector_66 ox0 hs
        · refine vr_if ?_ ?_
          · exact vk_X13_sector_66 ox0 hs
          · refine vr_if ?_ ?_
            · exact vk_X13_sector_66 ox0 hs
            · refine vr_if ?_ ?_
              · exact vk_X13_sector_66 ox0 hs
              · refine vr_if ?_ ?_
                · exact vk_X13_sector_66 ox0 hs
                · refine vr_if ?_ ?_
                  · exact vk_X13_sector_66 ox0 hs
                  · refine vr_let (fun _ => ?_)
                    refine vr_if ?_ ?_
                    · exact vk_X13_sector_66 ox0 hs
                    · exact vk_X13_sector_67 ox0 hs
theorem vk_X13_sector {O : Nat → Prop} {x0 : Nat} {x1 : Int32} {x2 : Int32} {x3 : Int32} {x4 : Int32} {x5 : Int32} {h : vt_S} {r : Int32} {s : vt_S} (c : vcl O h) (ox0 : O x0) (e : ab_X13_sector x0 x1 x2 x3 x4 x5 h = some (r, s)) : vw [1400, 1415, 1416, 1417] [1401, 1402, 1403, 1404, 1405, 1408, 1409, 1410, 1411, 1412, 1413] [] O h s := vk_X13_sector_0 ox0 ⟨vk.refl h, c⟩ r s e

theorem ve_X17_walls_0 {z0 : vt_S} {x0 : Nat} {h : vt_S} (hs : veq z0 h) : vfr veq z0 (ab_X17_walls x0 h) := by
  unfold ab_X17_walls
  refine vr_let (fun _ => ?_)
  refine vr_cl (fun _ _ e => ((ve_X14_many e).trans hs)) (fun _ h hs => ?_)
  exact vr_rt hs
theorem ve_X17_walls {x0 : Nat} {h : vt_S} {r : Int32} {s : vt_S} (e : ab_X17_walls x0 h = some (r, s)) : s = h := ve_X17_walls_0 rfl r s e

theorem ve_X14_wallAt_0 {z0 : vt_S} {x0 : Nat} {x1 : Int32} {h : vt_S} (hs : veq z0 h) : vfr veq z0 (ab_X14_wallAt x0 x1 h) := by
  unfold ab_X14_wallAt
  refine vr_cl (fun _ _ e => ((ve_X14_many e).trans hs)) (fun _ h hs => ?_)
  refine vr_cl (fun _ _ e => ((ve_X14_sectorAt e).trans hs)) (fun _ h hs => ?_)
  exact vr_rt hs
theorem ve_X14_wallAt {x0 : Nat} {x1 : Int32} {h : vt_S} {r : Int32} {s : vt_S} (e : ab_X14_wallAt x0 x1 h = some (r, s)) : s = h := ve_X14_wallAt_0 rfl r s e

theorem ve_X14_wall_20 {z0 : vt_S} {h : vt_S} (hs : veq z0 h) : vfr veq z0 (ab_X14_wall_20 h) := by
  unfold ab_X14_wall_20
  exact vr_rt hs
theorem ve_X14_wall_81 {z0 : vt_S} {s0 : Int32} {h : vt_S} (hs : veq z0 h) : vfr veq z0 (ab_X14_wall_81 s0 h) := by
  unfold ab_X14_wall_81
  exact vr_rt hs
theorem ve_X14_wall_40 {z0 : vt_S} {x0 : Nat} {x2 : Int32} {x3 : Int32} {h : vt_S} (hs : veq z0 h) : vfr veq z0 (ab_X14_wall_40 x0 x2 x3 h) := by
  unfold ab_X14_wall_40
  refine vr_if ?_ ?_
  · refine vr_bd (fun _ => ?_)
    exact ve_X14_wall_81 hs
  · refine vr_bd (fun _ => ?_)
    exact ve_X14_wall_81 hs
theorem ve_X14_wall_100 {z0 : vt_S} {s0 : Nat} {s1 : Int32} {s2 : Int32} {h : vt_S} (hs : veq z0 h) : vfr veq z0 (ab_X14_wall_100 s0 s1 s2 h) := by
  unfold ab_X14_wall_100
  refine vr_bd (fun _ => ?_)
  exact vr_rt hs
theorem ve_X14_wall_0 {z0 : vt_S} {x0 : Nat} {x1 : Int32} {x2 : Int32} {h : vt_S} (hs : veq z0 h) : vfr veq z0 (ab_X14_wall x0 x1 x2 h) := by
  unfold ab_X14_wall
  refine vr_cl (fun _ _ e => ((ve_X14_has e).trans hs)) (fun _ h hs => ?_)
  refine vr_if ?_ ?_
  · exact ve_X14_wall_20 hs
  · refine vr_if ?_ ?_
    · exact ve_X14_wall_20 hs
    · refine vr_if ?_ ?_
      · refine vr_cl (fun _ _ e => ((ve_X14_wallAt e).trans hs)) (fun _ h hs => ?_)
        refine vr_if ?_ ?_
        · exact ve_X14_wall_40 hs
        · refine vr_if ?_ ?_
          · exact ve_X14_wall_40 hs
          · refine vr_if ?_ ?_
            · exact ve_X14_wall_100 hs
            · exact ve_X14_wall_100 hs
      · exact ve_X14_wall_20 hs
theorem ve_X14_wall {x0 : Nat} {x1 : Int32} {x2 : Int32} {h : vt_S} {r : Int32} {s : vt_S} (e : ab_X14_wall x0 x1 x2 h = some (r, s)) : s = h := ve_X14_wall_0 rfl r s e

theorem ve_X13_isSector_17 {z0 : vt_S} {s0 : Int32} {h : vt_S} (hs : veq z0 h) : vfr veq z0 (ab_X13_isSector_17 s0 h) := by
  unfold ab_X13_isSector_17
  exact vr_rz hs
theorem ve_X13_isSector_16 {z0 : vt_S} {h : vt_S} (hs : veq z0 h) : vfr veq z0 (ab_X13_isSector_16 h) := by
  unfold ab_X13_isSector_16
  exact ve_X13_isSector_17 hs
theorem ve_X13_isSector_0 {z0 : vt_S} {x0 : Nat} {x1 : Int32} {h : vt_S} (hs : veq z0 h) : vfr veq z0 (ab_X13_isSector x0 x1 h) := by
  unfold ab_X13_isSector
  refine vr_if ?_ ?_
  · exact ve_X13_isSector_16 hs
  · refine vr_let (fun _ => ?_)
    refine vr_if ?_ ?_
    · exact ve_X13_isSector_16 hs
    · exact ve_X13_isSector_17 hs
theorem ve_X13_isSector {x0 : Nat} {x1 : Int32} {h : vt_S} {r : Int32} {s : vt_S} (e : ab_X13_isSector x0 x1 h = some (r, s)) : s = h := ve_X13_isSector_0 rfl r s e

theorem vk_X13_join_35 {O : Nat → Prop} {z0 : vt_S} {h : vt_S} (hs : vw [1407] [1406] [] O z0 h) : vfr (vw [1407] [1406] [] O) z0 (ab_X13_join_35 h) := by
  unfold ab_X13_join_35
  exact vr_rt hs
theorem vk_X13_join_0 {O : Nat → Prop} {z0 : vt_S} {x0 : Nat} {x1 : Int32} {x2 : Int32} {h : vt_S} (ox0 : O x0) (hs : vw [1407] [1406] [] O z0 h) : vfr (vw [1407] [1406] [] O) z0 (ab_X13_join x0 x1 x2 h) := by
  unfold ab_X13_join
  refine vr_cl (fun _ _ e => (by rw [ve_X13_isSector e]; exact hs)) (fun _ h hs => ?_)
  refine vr_if ?_ ?_
  · exact vk_X13_join_35 hs
  · refine vr_cl (fun _ _ e => (by rw [ve_X13_isSector e]; exact hs)) (fun _ h hs => ?_)
    refine vr_if ?_ ?_
    · exact vk_X13_join_35 hs
    · refine vr_if ?_ ?_
      · exact vk_X13_join_35 hs
      · refine vr_bd (fun _ => ?_)
        refine vr_if ?_ ?_
        · refine vr_sI hs (by decide) ox0 (fun h hs => ?_)
          refine vr_sI hs (by decide) ox0 (fun h hs => ?_)
          refine vr_let (fun _ => ?_)
          refine vr_I hs (by decide) ox0 (fun h hs => ?_)
          exact vr_rt hs
        · exact vk_X13_join_35 hs
theorem vk_X13_join {O : Nat → Prop} {x0 : Nat} {x1 : Int32} {x2 : Int32} {h : vt_S} {r : Int32} {s : vt_S} (c : vcl O h) (ox0 : O x0) (e : ab_X13_join x0 x1 x2 h = some (r, s)) : vw [1407] [1406] [] O h s := vk_X13_join_0 ox0 ⟨vk.refl h, c⟩ r s e

theorem ve_X14_vertex_36 {z0 : vt_S} {s0 : Int32} {h : vt_S} (hs : veq z0 h) : vfr veq z0 (ab_X14_vertex_36 s0 h) := by
  unfold ab_X14_vertex_36
  exact vr_rt hs
theorem ve_X14_vertex_24 {z0 : vt_S} {x1 : Int32} {s0 : Nat} {s1 : Int32} {h : vt_S} (hs : veq z0 h) : vfr veq z0 (ab_X14_vertex_24 x1 s0 s1 h) := by
  unfold ab_X14_vertex_24
  refine vr_cl (fun _ _ e => ((ve_X14_pair e).trans hs)) (fun _ h hs => ?_)
  exact ve_X14_vertex_36 hs
theorem ve_X14_vertex_0 {z0 : vt_S} {x0 : Nat} {x1 : Int32} {x2 : Int32} {h : vt_S} (hs : veq z0 h) : vfr veq z0 (ab_X14_vertex x0 x1 x2 h) := by
  unfold ab_X14_vertex
  refine vr_cl (fun _ _ e => ((ve_X14_has e).trans hs)) (fun _ h hs => ?_)
  refine vr_if ?_ ?_
  · exact ve_X14_vertex_36 hs
  · refine vr_if ?_ ?_
    · exact ve_X14_vertex_24 hs
    · exact ve_X14_vertex_24 hs
theorem ve_X14_vertex {x0 : Nat} {x1 : Int32} {x2 : Int32} {h : vt_S} {r : Int32} {s : vt_S} (e : ab_X14_vertex x0 x1 x2 h = some (r, s)) : s = h := ve_X14_vertex_0 rfl r s e

theorem vk_X17_furnish_172 {O : Nat → Prop} {z0 : vt_S} {k116 : Nat → Int32 → vt_S → Option (Unit × vt_S)} (hk116 : ∀ {x0 : Nat} {x1 : Int32} {h : vt_S}, O x0 → vw [1400, 1407, 1415, 1416, 1417, 1705] [1401, 1402, 1403, 1404, 1405, 1406, 1408, 1409, 1410, 1411, 1412, 1413, 1700, 1701, 1702, 1703, 1704] [] O z0 h → vfr (vw [1400, 1407, 1415, 1416, 1417, 1705] [1401, 1402, 1403, 1404, 1405, 1406, 1408, 1409, 1410, 1411, 1412, 1413, 1700, 1701, 1702, 1703, 1704] [] O) z0 (k116 x0 x1 h)) {x0 : Nat} {x1 : Int32} {s0 : Int32} {h : vt_S} (ox0 : O x0) (hs : vw [1400, 1407, 1415, 1416, 1417, 1705] [1401, 1402, 1403, 1404, 1405, 1406, 1408, 1409, 1410, 1411, 1412, 1413, 1700, 1701, 1702, 1703, 1704] [] O z0 h) : vfr (vw [1400, 1407, 1415, 1416, 1417, 1705] [1401, 1402, 1403, 1404, 1405, 1406, 1408, 1409, 1410, 1411, 1412, 1413, 1700, 1701, 1702, 1703, 1704] [] O) z0 (ab_X17_furnish_172 k116 x0 x1 s0 h) := by
  unfold ab_X17_furnish_172
  refine vr_gP hs ox0 (fun v1 ov1 => ?_)
  refine vr_gP hs ox0 (fun v3 ov3 => ?_)
  refine vr_gP hs ox0 (fun v4 ov4 => ?_)
  refine vr_cl (fun _ _ e => (by rw [ve_X14_wall e]; exact hs)) (fun _ h hs => ?_)
  refine vr_cl (fun _ _ e => (by rw [ve_X14_vertex e]; exact hs)) (fun _ h hs => ?_)
  refine vr_sI hs (by decide) ov1 (fun h hs => ?_)
  refine vr_gP hs ox0 (fun v10 ov10 => ?_)
  refine vr_gP hs ox0 (fun v12 ov12 => ?_)
  refine vr_gP hs ox0 (fun v13 ov13 => ?_)
  refine vr_cl (fun _ _ e => (by rw [ve_X14_wall e]; exact hs)) (fun _ h hs => ?_)
  refine vr_cl (fun _ _ e => (by rw [ve_X14_vertex e]; exact hs)) (fun _ h hs => ?_)
  refine vr_sI hs (by decide) ov10 (fun h hs => ?_)
  refine vr_gP hs ox0 (fun v19 ov19 => ?_)
  refine vr_gP hs ox0 (fun v21 ov21 => ?_)
  refine vr_gP hs ox0 (fun v22 ov22 => ?_)
  refine vr_cl (fun _ _ e => (by rw [ve_X14_wall e]; exact hs)) (fun _ h hs => ?_)
  refine vr_cl (fun _ _ e => (by rw [ve_X14_vertex e]; exact hs)) (fun _ h hs => ?_)
  refine vr_sI hs (by decide) ov19 (fun h hs => ?_)
  refine vr_gP hs ox0 (fun v28 ov28 => ?_)
  refine vr_gP hs ox0 (fun v30 ov30 => ?_)
  refine vr_gP hs ox0 (fun v31 ov31 => ?_)
  refine vr_cl (fun _ _ e => (by rw [ve_X14_wall e]; exact hs)) (fun _ h hs => ?_)
  refine vr_cl (fun _ _ e => (by rw [ve_X14_vertex e]; exact hs)) (fun _ h hs => ?_)
  refine vr_sI hs (by decide) ov28 (fun h hs => ?_)
  exact hk116 ox0 hs
theorem vk_X17_furnish_171 {O : Nat → Prop} {z0 : vt_S} {k116 : Nat → Int32 → vt_S → Option (Unit × vt_S)} (hk116 : ∀ {x0 : Nat} {x1 : Int32} {h : vt_S}, O x0 → vw [1400, 1407, 1415, 1416, 1417, 1705] [1401, 1402, 1403, 1404, 1405, 1406, 1408, 1409, 1410, 1411, 1412, 1413, 1700, 1701, 1702, 1703, 1704] [] O z0 h → vfr (vw [1400, 1407, 1415, 1416, 1417, 1705] [1401, 1402, 1403, 1404, 1405, 1406, 1408, 1409, 1410, 1411, 1412, 1413, 1700, 1701, 1702, 1703, 1704] [] O) z0 (k116 x0 x1 h)) {x0 : Nat} {x1 : Int32} {h : vt_S} (ox0 : O x0) (hs : vw [1400, 1407, 1415, 1416, 1417, 1705] [1401, 1402, 1403, 1404, 1405, 1406, 1408, 1409, 1410, 1411, 1412, 1413, 1700, 1701, 1702, 1703, 1704] [] O z0 h) : vfr (vw [1400, 1407, 1415, 1416, 1417, 1705] [1401, 1402, 1403, 1404, 1405, 1406, 1408, 1409, 1410, 1411, 1412, 1413, 1700, 1701, 1702, 1703, 1704] [] O) z0 (ab_X17_furnish_171 k116 x0 x1 h) := by
  unfold ab_X17_furnish_171
  exact vk_X17_furnish_172 hk116 ox0 hs
theorem vk_X17_furnish_116b {O : Nat → Prop} {z0 : vt_S} {k116 : Nat → Int32 → vt_S → Option (Unit × vt_S)} (hk116 : ∀ {x0 : Nat} {x1 : Int32} {h : vt_S}, O x0 → vw [1400, 1407, 1415, 1416, 1417, 1705] [1401, 1402, 1403, 1404, 1405, 1406, 1408, 1409, 1410, 1411, 1412, 1413, 1700, 1701, 1702, 1703, 1704] [] O z0 h → vfr (vw [1400, 1407, 1415, 1416, 1417, 1705] [1401, 1402, 1403, 1404, 1405, 1406, 1408, 1409, 1410, 1411, 1412, 1413, 1700, 1701, 1702, 1703, 1704] [] O) z0 (k116 x0 x1 h)) {x0 : Nat} {x1 : Int32} {h : vt_S} (ox0 : O x0) (hs : vw [1400, 1407, 1415, 1416, 1417, 1705] [1401, 1402, 1403, 1404, 1405, 1406, 1408, 1409, 1410, 1411, 1412, 1413, 1700, 1701, 1702, 1703, 1704] [] O z0 h) : vfr (vw [1400, 1407, 1415, 1416, 1417, 1705] [1401, 1402, 1403, 1404, 1405, 1406, 1408, 1409, 1410, 1411, 1412, 1413, 1700, 1701, 1702, 1703, 1704] [] O) z0 (ab_X17_furnish_116b k116 x0 x1 h) := by
  unfold ab_X17_furnish_116b
  refine vr_cl (fun _ _ e => (by rw [ve_X17_walls e]; exact hs)) (fun _ h hs => ?_)
  refine vr_if ?_ ?_
  · refine vr_gP hs ox0 (fun v3 ov3 => ?_)
    refine vr_Z hs (by decide) ov3 (fun h hs => ?_)
    exact vr_rt hs
  · refine vr_gP hs ox0 (fun v5 ov5 => ?_)
    refine vr_cl (fun _ _ e => (by rw [ve_X14_wall e]; exact hs)) (fun _ h hs => ?_)
    refine vr_if ?_ ?_
    · exact vk_X17_furnish_171 hk116 ox0 hs
    · refine vr_gP hs ox0 (fun v8 ov8 => ?_)
      refine vr_gP hs ox0 (fun v9 ov9 => ?_)
      refine vr_cl (fun _ _ e => (by rw [ve_X14_wall e]; exact hs)) (fun _ h hs => ?_)
      refine vr_gP hs ox0 (fun v12 ov12 => ?_)
      refine vr_cl (fun _ _ e => (by rw [ve_X14_wall e]; exact hs)) (fun _ h hs => ?_)
      refine vr_cl (fun _ _ e => (let q := vk_X13_join hs.2 ov8 e; ⟨hs.1.trans (q.1.weak (by decide) (by decide) (by decide)), q.2⟩)) (fun _ h hs => ?_)
      refine vr_if ?_ ?_
      · exact vk_X17_furnish_171 hk116 ox0 hs
      · exact vk_X17_furnish_172 hk116 ox0 hs
theorem vk_X17_furnish_116 {O : Nat → Prop} {z0 : vt_S} : ∀ (n : Nat) {x0 : Nat} {x1 : Int32} {h : vt_S}, O x0 → vw [1400, 1407, 1415, 1416, 1417, 1705] [1401, 1402, 1403, 1404, 1405, 1406, 1408, 1409, 1410, 1411, 1412, 1413, 1700, 1701, 1702, 1703, 1704] [] O z0 h → vfr (vw [1400, 1407, 1415, 1416, 1417, 1705] [1401, 1402, 1403, 1404, 1405, 1406, 1408, 1409, 1410, 1411, 1412, 1413, 1700, 1701, 1702, 1703, 1704] [] O) z0 (ab_X17_furnish_116 n x0 x1 h) := by
  intro n
  induction n with
  | zero => intro x0 x1 h ox0 hs; exact vr_no
  | succ n ih => intro x0 x1 h ox0 hs; exact vk_X17_furnish_116b (fun ox0 hs => ih ox0 hs) ox0 hs
theorem vk_X17_furnish_107 {O : Nat → Prop} {z0 : vt_S} {k79 : Nat → Int32 → vt_S → Option (Unit × vt_S)} (hk79 : ∀ {x0 : Nat} {x1 : Int32} {h : vt_S}, O x0 → vw [1400, 1407, 1415, 1416, 1417, 1705] [1401, 1402, 1403, 1404, 1405, 1406, 1408, 1409, 1410, 1411, 1412, 1413, 1700, 1701, 1702, 1703, 1704] [] O z0 h → vfr (vw [1400, 1407, 1415, 1416, 1417, 1705] [1401, 1402, 1403, 1404, 1405, 1406, 1408, 1409, 1410, 1411, 1412, 1413, 1700, 1701, 1702, 1703, 1704] [] O) z0 (k79 x0 x1 h)) {x0 : Nat} {x1 : Int32} {s0 : Nat} {s1 : Int32} {s2 : Int32} {h : vt_S} (ox0 : O x0) (os0 : O s0) (hs : vw [1400, 1407, 1415, 1416, 1417, 1705] [1401, 1402, 1403, 1404, 1405, 1406, 1408, 1409, 1410, 1411, 1412, 1413, 1700, 1701, 1702, 1703, 1704] [] O z0 h) : vfr (vw [1400, 1407, 1415, 1416, 1417, 1705] [1401, 1402, 1403, 1404, 1405, 1406, 1408, 1409, 1410, 1411, 1412, 1413, 1700, 1701, 1702, 1703, 1704] [] O) z0 (ab_X17_furnish_107 k79 x0 x1 s0 s1 s2 h) := by
  unfold ab_X17_furnish_107
  refine vr_sI hs (by decide) os0 (fun h hs => ?_)
  exact hk79 ox0 hs
theorem vk_X17_furnish_79b {O : Nat → Prop} {z0 : vt_S} {k79 : Nat → Int32 → vt_S → Option (Unit × vt_S)} (hk79 : ∀ {x0 : Nat} {x1 : Int32} {h : vt_S}, O x0 → vw [1400, 1407, 1415, 1416, 1417, 1705] [1401, 1402, 1403, 1404, 1405, 1406, 1408, 1409, 1410, 1411, 1412, 1413, 1700, 1701, 1702, 1703, 1704] [] O z0 h → vfr (vw [1400, 1407, 1415, 1416, 1417, 1705] [1401, 1402, 1403, 1404, 1405, 1406, 1408, 1409, 1410, 1411, 1412, 1413, 1700, 1701, 1702, 1703, 1704] [] O) z0 (k79 x0 x1 h)) {x0 : Nat} {x1 : Int32} {h : vt_S} (ox0 : O x0) (hs : vw [1400, 1407, 1415, 1416, 1417, 1705] [1401, 1402, 1403, 1404, 1405, 1406, 1408, 1409, 1410, 1411, 1412, 1413, 1700, 1701, 1702, 1703, 1704] [] O z0 h) : vfr (vw [1400, 1407, 1415, 1416, 1417, 1705] [1401, 1402, 1403, 1404, 1405, 1406, 1408, 1409, 1410, 1411, 1412, 1413, 1700, 1701, 1702, 1703, 1704] [] O) z0 (ab_X17_furnish_79b k79 x0 x1 h) := by
  unfold ab_X17_furnish_79b
  refine vr_if ?_ ?_
  · exact vk_X17_furnish_116 sv_fuel ox0 hs
  · refine vr_gP hs ox0 (fun v1 ov1 => ?_)
    refine vr_cl (fun _ _ e => (by rw [ve_X17_walls e]; exact hs)) (fun _ h hs => ?_)
    refine vr_if ?_ ?_
    · exact vk_X17_furnish_107 hk79 ox0 ov1 hs
    · exact vk_X17_furnish_107 hk79 ox0 ov1 hs
theorem vk_X17_furnish_79 {O : Nat → Prop} {z0 : vt_S} : ∀ (n : Nat) {x0 : Nat} {x1 : Int32} {h : vt_S}, O x0 → vw [1400, 1407, 1415, 1416, 1417, 1705] [1401, 1402, 1403, 1404, 1405, 1406, 1408, 1409, 1410, 1411, 1412, 1413, 1700, 1701, 1702, 1703, 1704] [] O z0 h → vfr (vw [1400, 1407, 1415, 1416, 1417, 1705] [1401, 1402, 1403, 1404, 1405, 1406, 1408, 1409, 1410, 1411, 1412, 1413, 1700, 1701, 1702, 1703, 1704] [] O) z0 (ab_X17_furnish_79 n x0 x1 h) := by
  intro n
  induction n with
  | zero => intro x0 x1 h ox0 hs; exact vr_no
  | succ n ih => intro x0 x1 h ox0 hs; exact vk_X17_furnish_79b (fun ox0 hs => ih ox0 hs) ox0 hs
theorem vk_X17_furnish_9b {O : Nat → Prop} {z0 : vt_S} {k9 : Nat → Int32 → vt_S → Option (Unit × vt_S)} (hk9 : ∀ {x0 : Nat} {x1 : Int32} {h : vt_S}, O x0 → vw [1400, 1407, 1415, 1416, 1417, 1705] [1401, 1402, 1403, 1404, 1405, 1406, 1408, 1409, 1410, 1411, 1412, 1413, 1700, 1701, 1702, 1703, 1704] [] O z0 h → vfr (vw [1400, 1407, 1415, 1416, 1417, 1705] [1401, 1402, 1403, 1404, 1405, 1406, 1408, 1409, 1410, 1411, 1412, 1413, 1700, 1701, 1702, 1703, 1704] [] O) z0 (k9 x0 x1 h)) {x0 : Nat} {x1 : Int32} {h : vt_S} (ox0 : O x0) (hs : vw [1400, 1407, 1415, 1416, 1417, 1705] [1401, 1402, 1403, 1404, 1405, 1406, 1408, 1409, 1410, 1411, 1412, 1413, 1700, 1701, 1702, 1703, 1704] [] O z0 h) : vfr (vw [1400, 1407, 1415, 1416, 1417, 1705] [1401, 1402, 1403, 1404, 1405, 1406, 1408, 1409, 1410, 1411, 1412, 1413, 1700, 1701, 1702, 1703, 1704] [] O) z0 (ab_X17_furnish_9b k9 x0 x1 h) := by
  unfold ab_X17_furnish_9b
  refine vr_cl (fun _ _ e => (by rw [ve_X17_sectors e]; exact hs)) (fun _ h hs => ?_)
  refine vr_if ?_ ?_
  · exact vk_X17_furnish_79 sv_fuel ox0 hs
  · refine vr_gP hs ox0 (fun v3 ov3 => ?_)
    refine vr_gP hs ox0 (fun v4 ov4 => ?_)
    refine vr_cl (fun _ _ e => (by rw [ve_X14_sector e]; exact hs)) (fun _ h hs => ?_)
    refine vr_gP hs ox0 (fun v7 ov7 => ?_)
    refine vr_cl (fun _ _ e => (by rw [ve_X14_sector e]; exact hs)) (fun _ h hs => ?_)
    refine vr_gP hs ox0 (fun v10 ov10 => ?_)
    refine vr_cl (fun _ _ e => (by rw [ve_X14_sector e]; exact hs)) (fun _ h hs => ?_)
    refine vr_gP hs ox0 (fun v13 ov13 => ?_)
    refine vr_cl (fun _ _ e => (by rw [ve_X14_sector e]; exact hs)) (fun _ h hs => ?_)
    refine vr_gP hs ox0 (fun v16 ov16 => ?_)
    refine vr_cl (fun _ _ e => (by rw [ve_X14_sector e]; exact hs)) (fun _ h hs => ?_)
    refine vr_cl (fun _ _ e => (let q := vk_X13_sector hs.2 ov3 e; ⟨hs.1.trans (q.1.weak (by decide) (by decide) (by decide)), q.2⟩)) (fun _ h hs => ?_)
    exact hk9 ox0 hs
theorem vk_X17_furnish_9 {O : Nat → Prop} {z0 : vt_S} : ∀ (n : Nat) {x0 : Nat} {x1 : Int32} {h : vt_S}, O x0 → vw [1400, 1407, 1415, 1416, 1417, 1705] [1401, 1402, 1403, 1404, 1405, 1406, 1408, 1409, 1410, 1411, 1412, 1413, 1700, 1701, 1702, 1703, 1704] [] O z0 h → vfr (vw [1400, 1407, 1415, 1416, 1417, 1705] [1401, 1402, 1403, 1404, 1405, 1406, 1408, 1409, 1410, 1411, 1412, 1413, 1700, 1701, 1702, 1703, 1704] [] O) z0 (ab_X17_furnish_9 n x0 x1 h) := by
  intro n
  induction n with
  | zero => intro x0 x1 h ox0 hs; exact vr_no
  | succ n ih => intro x0 x1 h ox0 hs; exact vk_X17_furnish_9b (fun ox0 hs => ih ox0 hs) ox0 hs
theorem vk_X17_furnish_0 {O : Nat → Prop} {z0 : vt_S} {x0 : Nat} {h : vt_S} (ox0 : O x0) (hs : vw [1400, 1407, 1415, 1416, 1417, 1705] [1401, 1402, 1403, 1404, 1405, 1406, 1408, 1409, 1410, 1411, 1412, 1413, 1700, 1701, 1702, 1703, 1704] [] O z0 h) : vfr (vw [1400, 1407, 1415, 1416, 1417, 1705] [1401, 1402, 1403, 1404, 1405, 1406, 1408, 1409, 1410, 1411, 1412, 1413, 1700, 1701, 1702, 1703, 1704] [] O) z0 (ab_X17_furnish x0 h) := by
  unfold ab_X17_furnish
  refine vr_gP hs ox0 (fun v1 ov1 => ?_)
  refine vr_cl (fun _ _ e => (let q := vk_X13_clear hs.2 ov1 e; ⟨hs.1.trans (q.1.weak (by decide) (by decide) (by decide)), q.2⟩)) (fun _ h hs => ?_)
  exact vk_X17_furnish_9 sv_fuel ox0 hs
theorem vk_X17_furnish {O : Nat → Prop} {x0 : Nat} {h : vt_S} {r : Unit} {s : vt_S} (c : vcl O h) (ox0 : O x0) (e : ab_X17_furnish x0 h = some (r, s)) : vw [1400, 1407, 1415, 1416, 1417, 1705] [1401, 1402, 1403, 1404, 1405, 1406, 1408, 1409, 1410, 1411, 1412, 1413, 1700, 1701, 1702, 1703, 1704] [] O h s := vk_X17_furnish_0 ox0 ⟨vk.refl h, c⟩ r s e

theorem ve_X14_start_16 {z0 : vt_S} {h : vt_S} (hs : veq z0 h) : vfr veq z0 (ab_X14_start_16 h) := by
  unfold ab_X14_start_16
  exact vr_rt hs
theorem ve_X14_start_64 {z0 : vt_S} {s0 : Int32} {h : vt_S} (hs : veq z0 h) : vfr veq z0 (ab_X14_start_64 s0 h) := by
  unfold ab_X14_start_64
  exact vr_rt hs
theorem ve_X14_start_0 {z0 : vt_S} {x0 : Nat} {x1 : Int32} {h : vt_S} (hs : veq z0 h) : vfr veq z0 (ab_X14_start x0 x1 h) := by
  unfold ab_X14_start
  refine vr_let (fun _ => ?_)
  refine vr_if ?_ ?_
  · exact ve_X14_start_16 hs
  · refine vr_if ?_ ?_
    · exact ve_X14_start_16 hs
    · refine vr_if ?_ ?_
      · refine vr_cl (fun _ _ e => ((ve_X14_many e).trans hs)) (fun _ h hs => ?_)
        refine vr_cl (fun _ _ e => ((ve_X14_wallAt e).trans hs)) (fun _ h hs => ?_)
        refine vr_if ?_ ?_
        · refine vr_bd (fun _ => ?_)
          exact ve_X14_start_64 hs
        · refine vr_cl (fun _ _ e => ((ve_X14_pair e).trans hs)) (fun _ h hs => ?_)
          exact ve_X14_start_64 hs
      · exact ve_X14_start_16 hs
theorem ve_X14_start {x0 : Nat} {x1 : Int32} {h : vt_S} {r : Int32} {s : vt_S} (e : ab_X14_start x0 x1 h = some (r, s)) : s = h := ve_X14_start_0 rfl r s e

theorem vk_X17_begin_0 {O : Nat → Prop} {z0 : vt_S} {x0 : Nat} {h : vt_S} (ox0 : O x0) (hs : vw [1415, 1416, 1417, 1811, 1812, 1813, 1814] [1408, 1409, 1410, 1411, 1412, 1413] [] O z0 h) : vfr (vw [1415, 1416, 1417, 1811, 1812, 1813, 1814] [1408, 1409, 1410, 1411, 1412, 1413] [] O) z0 (ab_X17_begin x0 h) := by
  unfold ab_X17_begin
  refine vr_gP hs ox0 (fun v1 ov1 => ?_)
  refine vr_bd (fun _ => ?_)
  refine vr_I hs (by decide) ox0 (fun h hs => ?_)
  refine vr_gP hs ox0 (fun v5 ov5 => ?_)
  refine vr_bd (fun _ => ?_)
  refine vr_I hs (by decide) ox0 (fun h hs => ?_)
  refine vr_gP hs ox0 (fun v9 ov9 => ?_)
  refine vr_bd (fun _ => ?_)
  refine vr_I hs (by decide) ox0 (fun h hs => ?_)
  refine vr_gP hs ox0 (fun v13 ov13 => ?_)
  refine vr_bd (fun _ => ?_)
  refine vr_I hs (by decide) ox0 (fun h hs => ?_)
  refine vr_gP hs ox0 (fun v17 ov17 => ?_)
  refine vr_cl (fun _ _ e => (let q := vk_X13_reset hs.2 ov17 e; ⟨hs.1.trans (q.1.weak (by decide) (by decide) (by decide)), q.2⟩)) (fun _ h hs => ?_)
  exact vr_rt hs
theorem vk_X17_begin {O : Nat → Prop} {x0 : Nat} {h : vt_S} {r : Unit} {s : vt_S} (c : vcl O h) (ox0 : O x0) (e : ab_X17_begin x0 h = some (r, s)) : vw [1415, 1416, 1417, 1811, 1812, 1813, 1814] [1408, 1409, 1410, 1411, 1412, 1413] [] O h s := vk_X17_begin_0 ox0 ⟨vk.refl h, c⟩ r s e

theorem vk_X17_loadMap_68b {O : Nat → Prop} {z0 : vt_S} {k68 : Nat → Int32 → vt_S → Option (Int32 × vt_S)} (hk68 : ∀ {x0 : Nat} {x1 : Int32} {h : vt_S}, O x0 → vw [1400, 1407, 1415, 1416, 1417, 1503, 1504, 1505, 1506, 1507, 1508, 1509, 1605, 1705, 1800, 1807, 1808, 1809, 1810, 1811, 1812, 1813, 1814] [1401, 1402, 1403, 1404, 1405, 1406, 1408, 1409, 1410, 1411, 1412, 1413, 1502, 1600, 1700, 1701, 1702, 1703, 1704] [] O z0 h → vfr (vw [1400, 1407, 1415, 1416, 1417, 1503, 1504, 1505, 1506, 1507, 1508, 1509, 1605, 1705, 1800, 1807, 1808, 1809, 1810, 1811, 1812, 1813, 1814] [1401, 1402, 1403, 1404, 1405, 1406, 1408, 1409, 1410, 1411, 1412, 1413, 1502, 1600, 1700, 1701, 1702, 1703, 1704] [] O) z0 (k68 x0 x1 h)) {x0 : Nat} {x1 : Int32} {h : vt_S} (ox0 : O x0) (hs : vw [1400, 1407, 1415, 1416, 1417, 1503, 1504, 1505, 1506, 1507, 1508, 1509, 1605, 1705, 1800, 1807, 1808, 1809, 1810, 1811, 1812, 1813, 1814] [1401, 1402, 1403, 1404, 1405, 1406, 1408, 1409, 1410, 1411, 1412, 1413, 1502, 1600, 1700, 1701, 1702, 1703, 1704] [] O z0 h) : vfr (vw [1400, 1407, 1415, 1416, 1417, 1503, 1504, 1505, 1506, 1507, 1508, 1509, 1605, 1705, 1800, 1807, 1808, 1809, 1810, 1811, 1812, 1813, 1814] [1401, 1402, 1403, 1404, 1405, 1406, 1408, 1409, 1410, 1411, 1412, 1413, 1502, 1600, 1700, 1701, 1702, 1703, 1704] [] O) z0 (ab_X17_loadMap_68b k68 x0 x1 h) := by
  unfold ab_X17_loadMap_68b
  refine vr_if ?_ ?_
  · refine vr_cl (fun _ _ e => (let q := vk_X17_begin hs.2 ox0 e; ⟨hs.1.trans (q.1.weak (by decide) (by decide) (by decide)), q.2⟩)) (fun _ h hs => ?_)
    exact vr_rt hs
  · refine vr_gP hs ox0 (fun v2 ov2 => ?_)
    refine vr_gP hs ox0 (fun v4 ov4 => ?_)
    refine vr_cl (fun _ _ e => (by rw [ve_X14_start e]; exact hs)) (fun _ h hs => ?_)
    refine vr_sI hs (by decide) ov2 (fun h hs => ?_)
    exact hk68 ox0 hs
theorem vk_X17_loadMap_68 {O : Nat → Prop} {z0 : vt_S} : ∀ (n : Nat) {x0 : Nat} {x1 : Int32} {h : vt_S}, O x0 → vw [1400, 1407, 1415, 1416, 1417, 1503, 1504, 1505, 1506, 1507, 1508, 1509, 1605, 1705, 1800, 1807, 1808, 1809, 1810, 1811, 1812, 1813, 1814] [1401, 1402, 1403, 1404, 1405, 1406, 1408, 1409, 1410, 1411, 1412, 1413, 1502, 1600, 1700, 1701, 1702, 1703, 1704] [] O z0 h → vfr (vw [1400, 1407, 1415, 1416, 1417, 1503, 1504, 1505, 1506, 1507, 1508, 1509, 1605, 1705, 1800, 1807, 1808, 1809, 1810, 1811, 1812, 1813, 1814] [1401, 1402, 1403, 1404, 1405, 1406, 1408, 1409, 1410, 1411, 1412, 1413, 1502, 1600, 1700, 1701, 1702, 1703, 1704] [] O) z0 (ab_X17_loadMap_68 n x0 x1 h) := by
  intro n
  induction n with
  | zero => intro x0 x1 h ox0 hs; exact vr_no
  | succ n ih => intro x0 x1 h ox0 hs; exact vk_X17_loadMap_68b (fun ox0 hs => ih ox0 hs) ox0 hs
theorem vk_X17_loadMap_0 {O : Nat → Prop} {z0 : vt_S} {x0 : Nat} {h : vt_S} (ox0 : O x0) (hs : vw [1400, 1407, 1415, 1416, 1417, 1503, 1504, 1505, 1506, 1507, 1508, 1509, 1605, 1705, 1800, 1807, 1808, 1809, 1810, 1811, 1812, 1813, 1814] [1401, 1402, 1403, 1404, 1405, 1406, 1408, 1409, 1410, 1411, 1412, 1413, 1502, 1600, 1700, 1701, 1702, 1703, 1704] [] O z0 h) : vfr (vw [1400, 1407, 1415, 1416, 1417, 1503, 1504, 1505, 1506, 1507, 1508, 1509, 1605, 1705, 1800, 1807, 1808, 1809, 1810, 1811, 1812, 1813, 1814] [1401, 1402, 1403, 1404, 1405, 1406, 1408, 1409, 1410, 1411, 1412, 1413, 1502, 1600, 1700, 1701, 1702, 1703, 1704] [] O) z0 (ab_X17_loadMap x0 h) := by
  unfold ab_X17_loadMap
  refine vr_I hs (by decide) ox0 (fun h hs => ?_)
  refine vr_gP hs ox0 (fun v2 ov2 => ?_)
  refine vr_cl (fun _ _ e => (let q := vk_X14_read hs.2 ov2 e; ⟨hs.1.trans (q.1.weak (by decide) (by decide) (by decide)), q.2⟩)) (fun _ h hs => ?_)
  refine vr_I hs (by decide) ox0 (fun h hs => ?_)
  refine vr_gP hs ox0 (fun v6 ov6 => ?_)
  refine vr_let (fun _ => ?_)
  refine vr_I hs (by decide) ox0 (fun h hs => ?_)
  refine vr_let (fun _ => ?_)
  refine vr_if ?_ ?_
  · refine vr_Z hs (by decide) ox0 (fun h hs => ?_)
    refine vr_let (fun _ => ?_)
    refine vr_I hs (by decide) ox0 (fun h hs => ?_)
    refine vr_cl (fun _ _ e => (let q := vk_X17_furnish hs.2 ox0 e; ⟨hs.1.trans (q.1.weak (by decide) (by decide) (by decide)), q.2⟩)) (fun _ h hs => ?_)
    refine vr_gP hs ox0 (fun v14 ov14 => ?_)
    refine vr_I hs (by decide) ov14 (fun h hs => ?_)
    exact vk_X17_loadMap_68 sv_fuel ox0 hs
  · refine vr_let (fun _ => ?_)
    exact vr_rt hs
theorem vk_X17_loadMap {O : Nat → Prop} {x0 : Nat} {h : vt_S} {r : Int32} {s : vt_S} (c : vcl O h) (ox0 : O x0) (e : ab_X17_loadMap x0 h = some (r, s)) : vw [1400, 1407, 1415, 1416, 1417, 1503, 1504, 1505, 1506, 1507, 1508, 1509, 1605, 1705, 1800, 1807, 1808, 1809, 1810, 1811, 1812, 1813, 1814] [1401, 1402, 1403, 1404, 1405, 1406, 1408, 1409, 1410, 1411, 1412, 1413, 1502, 1600, 1700, 1701, 1702, 1703, 1704] [] O h s := vk_X17_loadMap_0 ox0 ⟨vk.refl h, c⟩ r s e

theorem ve_X5_inputOf_9 {z0 : vt_S} {x0 : Int32} {x1 : Int32} {x2 : Int32} {s0 : Int32} {h : vt_S} (hs : veq z0 h) : vfr veq z0 (ab_X5_inputOf_9 x0 x1 x2 s0 h) := by
  unfold ab_X5_inputOf_9
  exact vr_rt hs
theorem ve_X5_inputOf_0 {z0 : vt_S} {x0 : Int32} {x1 : Int32} {x2 : Int32} {x3 : Int32} {h : vt_S} (hs : veq z0 h) : vfr veq z0 (ab_X5_inputOf x0 x1 x2 x3 h) := by
  unfold ab_X5_inputOf
  refine vr_if ?_ ?_
  · exact ve_X5_inputOf_9 hs
  · exact ve_X5_inputOf_9 hs
theorem ve_X5_inputOf {x0 : Int32} {x1 : Int32} {x2 : Int32} {x3 : Int32} {h : vt_S} {r : Int32} {s : vt_S} (e : ab_X5_inputOf x0 x1 x2 x3 h = some (r, s)) : s = h := ve_X5_inputOf_0 rfl r s e

theorem vk_X5_readInput_71 {O : Nat → Prop} {z0 : vt_S} {x2 : Int32} {x4 : Int32} {x5 : Int32} {x6 : Int32} {h : vt_S} (hs : vw [501, 502, 503] [] [] O z0 h) : vfr (vw [501, 502, 503] [] [] O) z0 (ab_X5_readInput_71 x2 x4 x5 x6 h) := by
  unfold ab_X5_readInput_71
  refine vr_cl (fun _ _ e => (by rw [ve_X5_inputOf e]; exact hs)) (fun _ h hs => ?_)
  exact vr_rt hs
theorem vk_X5_readInput_0 {O : Nat → Prop} {z0 : vt_S} {x0 : Nat} {x1 : Nat} {x2 : Int32} {x3 : Int32} {h : vt_S} (ox0 : O x0) (ox1 : O x1) (hs : vw [501, 502, 503] [] [] O z0 h) : vfr (vw [501, 502, 503] [] [] O) z0 (ab_X5_readInput x0 x1 x2 x3 h) := by
  unfold ab_X5_readInput
  refine vr_cl (fun _ _ e => (let q := vk_X4_within hs.2 ox1 e; ⟨hs.1.trans (q.1.weak (by decide) (by decide) (by decide)), q.2⟩)) (fun _ h hs => ?_)
  refine vr_if ?_ ?_
  · exact vk_X5_readInput_71 hs
  · refine vr_cl (fun _ _ e => (let q := vk_X4_within hs.2 ox1 e; ⟨hs.1.trans (q.1.weak (by decide) (by decide) (by decide)), q.2⟩)) (fun _ h hs => ?_)
    refine vr_let (fun _ => ?_)
    refine vr_cl (fun _ _ e => (let q := vk_X4_within hs.2 ox1 e; ⟨hs.1.trans (q.1.weak (by decide) (by decide) (by decide)), q.2⟩)) (fun _ h hs => ?_)
    refine vr_if ?_ ?_
    · refine vr_if ?_ ?_
      · refine vr_cl (fun _ _ e => (let q := vk_X4_blame hs.2 ox1 e; ⟨hs.1.trans (q.1.weak (by decide) (by decide) (by decide)), q.2⟩)) (fun _ h hs => ?_)
        exact vk_X5_readInput_71 hs
      · exact vk_X5_readInput_71 hs
    · exact vk_X5_readInput_71 hs
theorem vk_X5_readInput {O : Nat → Prop} {x0 : Nat} {x1 : Nat} {x2 : Int32} {x3 : Int32} {h : vt_S} {r : Int32} {s : vt_S} (c : vcl O h) (ox0 : O x0) (ox1 : O x1) (e : ab_X5_readInput x0 x1 x2 x3 h = some (r, s)) : vw [501, 502, 503] [] [] O h s := vk_X5_readInput_0 ox0 ox1 ⟨vk.refl h, c⟩ r s e

theorem vk_X5_add_40 {O : Nat → Prop} {z0 : vt_S} {x0 : Nat} {x1 : Int32} {h : vt_S} (ox0 : O x0) (hs : vw [602] [601] [601] O z0 h) : vfr (vw [602] [601] [601] O) z0 (ab_X5_add_40 x0 x1 h) := by
  unfold ab_X5_add_40
  refine vr_let (fun _ => ?_)
  refine vr_sI hs (by decide) ox0 (fun h hs => ?_)
  refine vr_let (fun _ => ?_)
  refine vr_I hs (by decide) ox0 (fun h hs => ?_)
  exact vr_rt hs
theorem vk_X5_add_0 {O : Nat → Prop} {z0 : vt_S} {x0 : Nat} {x1 : Int32} {h : vt_S} (ox0 : O x0) (hs : vw [602] [601] [601] O z0 h) : vfr (vw [602] [601] [601] O) z0 (ab_X5_add x0 x1 h) := by
  unfold ab_X5_add
  refine vr_let (fun _ => ?_)
  refine vr_if ?_ ?_
  · refine vr_let (fun _ => ?_)
    refine vr_let (fun _ => ?_)
    refine vr_if ?_ ?_
    · refine vr_let (fun _ => ?_)
      refine vr_gI hs (by decide) (by decide) ox0 (fun h hs => ?_)
      exact vk_X5_add_40 ox0 hs
    · exact vk_X5_add_40 ox0 hs
  · exact vr_rt hs
theorem vk_X5_add {O : Nat → Prop} {x0 : Nat} {x1 : Int32} {h : vt_S} {r : Unit} {s : vt_S} (c : vcl O h) (ox0 : O x0) (e : ab_X5_add x0 x1 h = some (r, s)) : vw [602] [601] [601] O h s := vk_X5_add_0 ox0 ⟨vk.refl h, c⟩ r s e

theorem vk_X5_readGroup_166 {O : Nat → Prop} {z0 : vt_S} {s0 : Int32} {h : vt_S} (hs : vw [501, 502, 503, 602] [601] [601] O z0 h) : vfr (vw [501, 502, 503, 602] [601] [601] O) z0 (ab_X5_readGroup_166 s0 h) := by
  unfold ab_X5_readGroup_166
  exact vr_rt hs
theorem vk_X5_readGroup_153 {O : Nat → Prop} {z0 : vt_S} {x1 : Nat} {x5 : Int32} {h : vt_S} (ox1 : O x1) (hs : vw [501, 502, 503, 602] [601] [601] O z0 h) : vfr (vw [501, 502, 503, 602] [601] [601] O) z0 (ab_X5_readGroup_153 x1 x5 h) := by
  unfold ab_X5_readGroup_153
  refine vr_cl (fun _ _ e => (by rw [ve_X4_well e]; exact hs)) (fun _ h hs => ?_)
  refine vr_if ?_ ?_
  · exact vk_X5_readGroup_166 hs
  · exact vk_X5_readGroup_166 hs
theorem vk_X5_readGroup_127b {O : Nat → Prop} {z0 : vt_S} {k127 : Nat → Nat → Int32 → Int32 → Int32 → vt_S → Option (Int32 × vt_S)} (hk127 : ∀ {x0 : Nat} {x1 : Nat} {x5 : Int32} {x6 : Int32} {x7 : Int32} {h : vt_S}, O x0 → O x1 → vw [501, 502, 503, 602] [601] [601] O z0 h → vfr (vw [501, 502, 503, 602] [601] [601] O) z0 (k127 x0 x1 x5 x6 x7 h)) {x0 : Nat} {x1 : Nat} {x5 : Int32} {x6 : Int32} {x7 : Int32} {h : vt_S} (ox0 : O x0) (ox1 : O x1) (hs : vw [501, 502, 503, 602] [601] [601] O z0 h) : vfr (vw [501, 502, 503, 602] [601] [601] O) z0 (ab_X5_readGroup_127b k127 x0 x1 x5 x6 x7 h) := by
  unfold ab_X5_readGroup_127b
  refine vr_if ?_ ?_
  · exact vk_X5_readGroup_153 ox1 hs
  · refine vr_cl (fun _ _ e => (by rw [ve_X4_well e]; exact hs)) (fun _ h hs => ?_)
    refine vr_if ?_ ?_
    · exact vk_X5_readGroup_153 ox1 hs
    · refine vr_cl (fun _ _ e => (let q := vk_X5_add hs.2 ox0 e; ⟨hs.1.trans (q.1.weak (by decide) (by decide) (by decide)), q.2⟩)) (fun _ h hs => ?_)
      exact hk127 ox0 ox1 hs
theorem vk_X5_readGroup_127 {O : Nat → Prop} {z0 : vt_S} : ∀ (n : Nat) {x0 : Nat} {x1 : Nat} {x5 : Int32} {x6 : Int32} {x7 : Int32} {h : vt_S}, O x0 → O x1 → vw [501, 502, 503, 602] [601] [601] O z0 h → vfr (vw [501, 502, 503, 602] [601] [601] O) z0 (ab_X5_readGroup_127 n x0 x1 x5 x6 x7 h) := by
  intro n
  induction n with
  | zero => intro x0 x1 x5 x6 x7 h ox0 ox1 hs; exact vr_no
  | succ n ih => intro x0 x1 x5 x6 x7 h ox0 ox1 hs; exact vk_X5_readGroup_127b (fun ox0 ox1 hs => ih ox0 ox1 hs) ox0 ox1 hs
theorem vk_X5_readGroup_124 {O : Nat → Prop} {z0 : vt_S} {x0 : Nat} {x1 : Nat} {x5 : Int32} {x6 : Int32} {h : vt_S} (ox0 : O x0) (ox1 : O x1) (hs : vw [501, 502, 503, 602] [601] [601] O z0 h) : vfr (vw [501, 502, 503, 602] [601] [601] O) z0 (ab_X5_readGroup_124 x0 x1 x5 x6 h) := by
  unfold ab_X5_readGroup_124
  exact vk_X5_readGroup_127 sv_fuel ox0 ox1 hs
theorem vk_X5_readGroup_84 {O : Nat → Prop} {z0 : vt_S} {x0 : Nat} {x1 : Nat} {x2 : Int32} {x3 : Int32} {x5 : Int32} {s0 : Nat} {s1 : Nat} {s2 : Int32} {s3 : Int32} {h : vt_S} (ox0 : O x0) (ox1 : O x1) (os0 : O s0) (os1 : O s1) (hs : vw [501, 502, 503, 602] [601] [601] O z0 h) : vfr (vw [501, 502, 503, 602] [601] [601] O) z0 (ab_X5_readGroup_84 x0 x1 x2 x3 x5 s0 s1 s2 s3 h) := by
  unfold ab_X5_readGroup_84
  refine vr_cl (fun _ _ e => (let q := vk_X5_readInput hs.2 os0 os1 e; ⟨hs.1.trans (q.1.weak (by decide) (by decide) (by decide)), q.2⟩)) (fun _ h hs => ?_)
  refine vr_let (fun _ => ?_)
  refine vr_if ?_ ?_
  · exact vk_X5_readGroup_124 ox0 ox1 hs
  · refine vr_let (fun _ => ?_)
    refine vr_bd (fun _ => ?_)
    refine vr_if ?_ ?_
    · refine vr_if ?_ ?_
      · exact vk_X5_readGroup_124 ox0 ox1 hs
      · refine vr_cl (fun _ _ e => (let q := vk_X4_blame hs.2 ox1 e; ⟨hs.1.trans (q.1.weak (by decide) (by decide) (by decide)), q.2⟩)) (fun _ h hs => ?_)
        exact vk_X5_readGroup_124 ox0 ox1 hs
    · exact vk_X5_readGroup_124 ox0 ox1 hs
theorem vk_X5_readGroup_70 {O : Nat → Prop} {z0 : vt_S} {x0 : Nat} {x1 : Nat} {x2 : Int32} {x3 : Int32} {x4 : Int32} {x5 : Int32} {s0 : Nat} {s1 : Nat} {s2 : Int32} {h : vt_S} (ox0 : O x0) (ox1 : O x1) (os0 : O s0) (os1 : O s1) (hs : vw [501, 502, 503, 602] [601] [601] O z0 h) : vfr (vw [501, 502, 503, 602] [601] [601] O) z0 (ab_X5_readGroup_70 x0 x1 x2 x3 x4 x5 s0 s1 s2 h) := by
  unfold ab_X5_readGroup_70
  refine vr_if ?_ ?_
  · exact vk_X5_readGroup_84 ox0 ox1 os0 os1 hs
  · exact vk_X5_readGroup_84 ox0 ox1 os0 os1 hs
theorem vk_X5_readGroup_55 {O : Nat → Prop} {z0 : vt_S} {x0 : Nat} {x1 : Nat} {x2 : Int32} {x3 : Int32} {x4 : Int32} {x5 : Int32} {h : vt_S} (ox0 : O x0) (ox1 : O x1) (hs : vw [501, 502, 503, 602] [601] [601] O z0 h) : vfr (vw [501, 502, 503, 602] [601] [601] O) z0 (ab_X5_readGroup_55 x0 x1 x2 x3 x4 x5 h) := by
  unfold ab_X5_readGroup_55
  refine vr_if ?_ ?_
  · exact vk_X5_readGroup_70 ox0 ox1 ox0 ox1 hs
  · exact vk_X5_readGroup_70 ox0 ox1 ox0 ox1 hs
theorem vk_X5_readGroup_36 {O : Nat → Prop} {z0 : vt_S} {x0 : Nat} {x1 : Nat} {x2 : Int32} {x3 : Int32} {x4 : Int32} {x5 : Int32} {h : vt_S} (ox0 : O x0) (ox1 : O x1) (hs : vw [501, 502, 503, 602] [601] [601] O z0 h) : vfr (vw [501, 502, 503, 602] [601] [601] O) z0 (ab_X5_readGroup_36 x0 x1 x2 x3 x4 x5 h) := by
  unfold ab_X5_readGroup_36
  refine vr_let (fun _ => ?_)
  refine vr_if ?_ ?_
  · exact vk_X5_readGroup_55 ox0 ox1 hs
  · refine vr_cl (fun _ _ e => (let q := vk_X4_blame hs.2 ox1 e; ⟨hs.1.trans (q.1.weak (by decide) (by decide) (by decide)), q.2⟩)) (fun _ h hs => ?_)
    exact vk_X5_readGroup_55 ox0 ox1 hs
theorem vk_X5_readGroup_0 {O : Nat → Prop} {z0 : vt_S} {x0 : Nat} {x1 : Nat} {x2 : Int32} {h : vt_S} (ox0 : O x0) (ox1 : O x1) (hs : vw [501, 502, 503, 602] [601] [601] O z0 h) : vfr (vw [501, 502, 503, 602] [601] [601] O) z0 (ab_X5_readGroup x0 x1 x2 h) := by
  unfold ab_X5_readGroup
  refine vr_let (fun _ => ?_)
  refine vr_cl (fun _ _ e => (let q := vk_X4_one hs.2 ox1 e; ⟨hs.1.trans (q.1.weak (by decide) (by decide) (by decide)), q.2⟩)) (fun _ h hs => ?_)
  refine vr_if ?_ ?_
  · exact vr_rt hs
  · refine vr_if ?_ ?_
    · refine vr_cl (fun _ _ e => (let q := vk_X4_blame hs.2 ox1 e; ⟨hs.1.trans (q.1.weak (by decide) (by decide) (by decide)), q.2⟩)) (fun _ h hs => ?_)
      exact vk_X5_readGroup_36 ox0 ox1 hs
    · exact vk_X5_readGroup_36 ox0 ox1 hs
theorem vk_X5_readGroup {O : Nat → Prop} {x0 : Nat} {x1 : Nat} {x2 : Int32} {h : vt_S} {r : Int32} {s : vt_S} (c : vcl O h) (ox0 : O x0) (ox1 : O x1) (e : ab_X5_readGroup x0 x1 x2 h = some (r, s)) : vw [501, 502, 503, 602] [601] [601] O h s := vk_X5_readGroup_0 ox0 ox1 ⟨vk.refl h, c⟩ r s e

theorem ve_X5_checkOf_8b {z0 : vt_S} {k8 : Nat → Int32 → Int64 → Int64 → Int32 → vt_S → Option (Int64 × vt_S)} (hk8 : ∀ {x0 : Nat} {x1 : Int32} {x2 : Int64} {x4 : Int64} {x6 : Int32} {h : vt_S}, veq z0 h → vfr veq z0 (k8 x0 x1 x2 x4 x6 h)) {x0 : Nat} {x1 : Int32} {x2 : Int64} {x4 : Int64} {x6 : Int32} {h : vt_S} (hs : veq z0 h) : vfr veq z0 (ab_X5_checkOf_8b k8 x0 x1 x2 x4 x6 h) := by
  unfold ab_X5_checkOf_8b
  refine vr_if ?_ ?_
  · exact vr_rt hs
  · refine vr_bd (fun _ => ?_)
    exact hk8 hs
theorem ve_X5_checkOf_8 {z0 : vt_S} : ∀ (n : Nat) {x0 : Nat} {x1 : Int32} {x2 : Int64} {x4 : Int64} {x6 : Int32} {h : vt_S}, veq z0 h → vfr veq z0 (ab_X5_checkOf_8 n x0 x1 x2 x4 x6 h) := by
  intro n
  induction n with
  | zero => intro x0 x1 x2 x4 x6 h hs; exact vr_no
  | succ n ih => intro x0 x1 x2 x4 x6 h hs; exact ve_X5_checkOf_8b (fun hs => ih hs) hs
theorem ve_X5_checkOf_0 {z0 : vt_S} {x0 : Nat} {x1 : Int32} {h : vt_S} (hs : veq z0 h) : vfr veq z0 (ab_X5_checkOf x0 x1 h) := by
  unfold ab_X5_checkOf
  exact ve_X5_checkOf_8 sv_fuel hs
theorem ve_X5_checkOf {x0 : Nat} {x1 : Int32} {h : vt_S} {r : Int64} {s : vt_S} (e : ab_X5_checkOf x0 x1 h = some (r, s)) : s = h := ve_X5_checkOf_0 rfl r s e

theorem vk_X5_readCheck_24b {O : Nat → Prop} {z0 : vt_S} {k24 : Nat → Int64 → Int32 → vt_S → Option (Unit × vt_S)} (hk24 : ∀ {x1 : Nat} {x2 : Int64} {x4 : Int32} {h : vt_S}, O x1 → vw [501, 502, 503] [] [] O z0 h → vfr (vw [501, 502, 503] [] [] O) z0 (k24 x1 x2 x4 h)) {x1 : Nat} {x2 : Int64} {x4 : Int32} {h : vt_S} (ox1 : O x1) (hs : vw [501, 502, 503] [] [] O z0 h) : vfr (vw [501, 502, 503] [] [] O) z0 (ab_X5_readCheck_24b k24 x1 x2 x4 h) := by
  unfold ab_X5_readCheck_24b
  refine vr_if ?_ ?_
  · exact vr_rt hs
  · refine vr_cl (fun _ _ e => (let q := vk_X4_expect hs.2 ox1 e; ⟨hs.1.trans (q.1.weak (by decide) (by decide) (by decide)), q.2⟩)) (fun _ h hs => ?_)
    exact hk24 ox1 hs
theorem vk_X5_readCheck_24 {O : Nat → Prop} {z0 : vt_S} : ∀ (n : Nat) {x1 : Nat} {x2 : Int64} {x4 : Int32} {h : vt_S}, O x1 → vw [501, 502, 503] [] [] O z0 h → vfr (vw [501, 502, 503] [] [] O) z0 (ab_X5_readCheck_24 n x1 x2 x4 h) := by
  intro n
  induction n with
  | zero => intro x1 x2 x4 h ox1 hs; exact vr_no
  | succ n ih => intro x1 x2 x4 h ox1 hs; exact vk_X5_readCheck_24b (fun ox1 hs => ih ox1 hs) ox1 hs
theorem vk_X5_readCheck_0 {O : Nat → Prop} {z0 : vt_S} {x0 : Nat} {x1 : Nat} {h : vt_S} (ox0 : O x0) (ox1 : O x1) (hs : vw [501, 502, 503] [] [] O z0 h) : vfr (vw [501, 502, 503] [] [] O) z0 (ab_X5_readCheck x0 x1 h) := by
  unfold ab_X5_readCheck
  refine vr_cl (fun _ _ e => (by rw [ve_X4_well e]; exact hs)) (fun _ h hs => ?_)
  refine vr_if ?_ ?_
  · exact vr_rt hs
  · refine vr_gP hs ox1 (fun v3 ov3 => ?_)
    refine vr_let (fun _ => ?_)
    refine vr_cl (fun _ _ e => (by rw [ve_X5_checkOf e]; exact hs)) (fun _ h hs => ?_)
    exact vk_X5_readCheck_24 sv_fuel ox1 hs
theorem vk_X5_readCheck {O : Nat → Prop} {x0 : Nat} {x1 : Nat} {h : vt_S} {r : Unit} {s : vt_S} (c : vcl O h) (ox0 : O x0) (ox1 : O x1) (e : ab_X5_readCheck x0 x1 h = some (r, s)) : vw [501, 502, 503] [] [] O h s := vk_X5_readCheck_0 ox0 ox1 ⟨vk.refl h, c⟩ r s e

theorem vk_X5_read_65 {O : Nat → Prop} {z0 : vt_S} {x0 : Nat} {x1 : Nat} {h : vt_S} (ox0 : O x0) (ox1 : O x1) (hs : vw [501, 502, 503, 602, 800, 801, 802, 803] [601] [601] O z0 h) : vfr (vw [501, 502, 503, 602, 800, 801, 802, 803] [601] [601] O) z0 (ab_X5_read_65 x0 x1 h) := by
  unfold ab_X5_read_65
  refine vr_cl (fun _ _ e => (let q := vk_X5_readCheck hs.2 ox0 ox1 e; ⟨hs.1.trans (q.1.weak (by decide) (by decide) (by decide)), q.2⟩)) (fun _ h hs => ?_)
  refine vr_cl (fun _ _ e => (let q := vk_X4_expectEnd hs.2 ox1 e; ⟨hs.1.trans (q.1.weak (by decide) (by decide) (by decide)), q.2⟩)) (fun _ h hs => ?_)
  exact vr_rt hs
theorem vk_X5_read_41b {O : Nat → Prop} {z0 : vt_S} {k41 : Nat → Nat → Int32 → Int32 → vt_S → Option (Unit × vt_S)} (hk41 : ∀ {x0 : Nat} {x1 : Nat} {x2 : Int32} {x3 : Int32} {h : vt_S}, O x0 → O x1 → vw [501, 502, 503, 602, 800, 801, 802, 803] [601] [601] O z0 h → vfr (vw [501, 502, 503, 602, 800, 801, 802, 803] [601] [601] O) z0 (k41 x0 x1 x2 x3 h)) {x0 : Nat} {x1 : Nat} {x2 : Int32} {x3 : Int32} {h : vt_S} (ox0 : O x0) (ox1 : O x1) (hs : vw [501, 502, 503, 602, 800, 801, 802, 803] [601] [601] O z0 h) : vfr (vw [501, 502, 503, 602, 800, 801, 802, 803] [601] [601] O) z0 (ab_X5_read_41b k41 x0 x1 x2 x3 h) := by
  unfold ab_X5_read_41b
  refine vr_if ?_ ?_
  · exact vk_X5_read_65 ox0 ox1 hs
  · refine vr_if ?_ ?_
    · exact vk_X5_read_65 ox0 ox1 hs
    · refine vr_cl (fun _ _ e => (let q := vk_X5_readGroup hs.2 ox0 ox1 e; ⟨hs.1.trans (q.1.weak (by decide) (by decide) (by decide)), q.2⟩)) (fun _ h hs => ?_)
      exact hk41 ox0 ox1 hs
theorem vk_X5_read_41 {O : Nat → Prop} {z0 : vt_S} : ∀ (n : Nat) {x0 : Nat} {x1 : Nat} {x2 : Int32} {x3 : Int32} {h : vt_S}, O x0 → O x1 → vw [501, 502, 503, 602, 800, 801, 802, 803] [601] [601] O z0 h → vfr (vw [501, 502, 503, 602, 800, 801, 802, 803] [601] [601] O) z0 (ab_X5_read_41 n x0 x1 x2 x3 h) := by
  intro n
  induction n with
  | zero => intro x0 x1 x2 x3 h ox0 ox1 hs; exact vr_no
  | succ n ih => intro x0 x1 x2 x3 h ox0 ox1 hs; exact vk_X5_read_41b (fun ox0 ox1 hs => ih ox0 ox1 hs) ox0 ox1 hs
theorem vk_X5_read_0 {O : Nat → Prop} {z0 : vt_S} {x0 : Nat} {x1 : Nat} {h : vt_S} (ox0 : O x0) (ox1 : O x1) (hs : vw [501, 502, 503, 602, 800, 801, 802, 803] [601] [601] O z0 h) : vfr (vw [501, 502, 503, 602, 800, 801, 802, 803] [601] [601] O) z0 (ab_X5_read x0 x1 h) := by
  unfold ab_X5_read
  refine vr_cl (fun _ _ e => (let q := vk_X4_expect hs.2 ox1 e; ⟨hs.1.trans (q.1.weak (by decide) (by decide) (by decide)), q.2⟩)) (fun _ h hs => ?_)
  refine vr_cl (fun _ _ e => (let q := vk_X4_expect hs.2 ox1 e; ⟨hs.1.trans (q.1.weak (by decide) (by decide) (by decide)), q.2⟩)) (fun _ h hs => ?_)
  refine vr_cl (fun _ _ e => (let q := vk_X4_expect hs.2 ox1 e; ⟨hs.1.trans (q.1.weak (by decide) (by decide) (by decide)), q.2⟩)) (fun _ h hs => ?_)
  refine vr_gP hs ox0 (fun v4 ov4 => ?_)
  refine vr_cl (fun _ _ e => (let q := vk_X4_readStart hs.2 ox1 ov4 e; ⟨hs.1.trans (q.1.weak (by decide) (by decide) (by decide)), q.2⟩)) (fun _ h hs => ?_)
  refine vr_I hs (by decide) ox0 (fun h hs => ?_)
  exact vk_X5_read_41 sv_fuel ox0 ox1 hs
theorem vk_X5_read {O : Nat → Prop} {x0 : Nat} {x1 : Nat} {h : vt_S} {r : Unit} {s : vt_S} (c : vcl O h) (ox0 : O x0) (ox1 : O x1) (e : ab_X5_read x0 x1 h = some (r, s)) : vw [501, 502, 503, 602, 800, 801, 802, 803] [601] [601] O h s := vk_X5_read_0 ox0 ox1 ⟨vk.refl h, c⟩ r s e

theorem ve_X12_hasMap_12 {z0 : vt_S} {s0 : Int32} {h : vt_S} (hs : veq z0 h) : vfr veq z0 (ab_X12_hasMap_12 s0 h) := by
  unfold ab_X12_hasMap_12
  exact vr_rz hs
theorem ve_X12_hasMap_0 {z0 : vt_S} {x0 : Nat} {h : vt_S} (hs : veq z0 h) : vfr veq z0 (ab_X12_hasMap x0 h) := by
  unfold ab_X12_hasMap
  refine vr_let (fun _ => ?_)
  refine vr_if ?_ ?_
  · exact ve_X12_hasMap_12 hs
  · exact ve_X12_hasMap_12 hs
theorem ve_X12_hasMap {x0 : Nat} {h : vt_S} {r : Int32} {s : vt_S} (e : ab_X12_hasMap x0 h = some (r, s)) : s = h := ve_X12_hasMap_0 rfl r s e

theorem vk_X12_swapRuns_0 {O : Nat → Prop} {z0 : vt_S} {x0 : Nat} {h : vt_S} (ox0 : O x0) (hs : vw [1308, 1309] [] [] O z0 h) : vfr (vw [1308, 1309] [] [] O) z0 (ab_X12_swapRuns x0 h) := by
  unfold ab_X12_swapRuns
  refine vr_gP hs ox0 (fun v1 ov1 => ?_)
  refine vr_gP hs ox0 (fun v2 ov2 => ?_)
  refine vr_P hs (by decide) ox0 ov2 (fun h hs => ?_)
  refine vr_P hs (by decide) ox0 ov1 (fun h hs => ?_)
  exact vr_rt hs
theorem vk_X12_swapRuns {O : Nat → Prop} {x0 : Nat} {h : vt_S} {r : Unit} {s : vt_S} (c : vcl O h) (ox0 : O x0) (e : ab_X12_swapRuns x0 h = some (r, s)) : vw [1308, 1309] [] [] O h s := vk_X12_swapRuns_0 ox0 ⟨vk.refl h, c⟩ r s e

theorem vk_X12_loadDemo_88 {O : Nat → Prop} {z0 : vt_S} {x0 : Nat} {h : vt_S} (ox0 : O x0) (hs : vw [501, 502, 503, 602, 707, 708, 709, 710, 711, 800, 801, 802, 803, 1101, 1102, 1103, 1104, 1105, 1106, 1308, 1309] [601] [601] O z0 h) : vfr (vw [501, 502, 503, 602, 707, 708, 709, 710, 711, 800, 801, 802, 803, 1101, 1102, 1103, 1104, 1105, 1106, 1308, 1309] [601] [601] O) z0 (ab_X12_loadDemo_88 x0 h) := by
  unfold ab_X12_loadDemo_88
  refine vr_gP hs ox0 (fun v1 ov1 => ?_)
  refine vr_let (fun _ => ?_)
  exact vr_rt hs
theorem vk_X12_loadDemo_56 {O : Nat → Prop} {z0 : vt_S} {x0 : Nat} {h : vt_S} (ox0 : O x0) (hs : vw [501, 502, 503, 602, 707, 708, 709, 710, 711, 800, 801, 802, 803, 1101, 1102, 1103, 1104, 1105, 1106, 1308, 1309] [601] [601] O z0 h) : vfr (vw [501, 502, 503, 602, 707, 708, 709, 710, 711, 800, 801, 802, 803, 1101, 1102, 1103, 1104, 1105, 1106, 1308, 1309] [601] [601] O) z0 (ab_X12_loadDemo_56 x0 h) := by
  unfold ab_X12_loadDemo_56
  refine vr_gP hs ox0 (fun v1 ov1 => ?_)
  refine vr_cl (fun _ _ e => (by rw [ve_X4_well e]; exact hs)) (fun _ h hs => ?_)
  refine vr_if ?_ ?_
  · exact vk_X12_loadDemo_88 ox0 hs
  · refine vr_cl (fun _ _ e => (let q := vk_X12_swapRuns hs.2 ox0 e; ⟨hs.1.trans (q.1.weak (by decide) (by decide) (by decide)), q.2⟩)) (fun _ h hs => ?_)
    refine vr_gP hs ox0 (fun v5 ov5 => ?_)
    refine vr_gP hs ox0 (fun v6 ov6 => ?_)
    refine vr_gP hs ox0 (fun v7 ov7 => ?_)
    refine vr_gP hs ov7 (fun v8 ov8 => ?_)
    refine vr_cl (fun _ _ e => (let q := vk_X10_begin hs.2 ov5 ov6 ov8 e; ⟨hs.1.trans (q.1.weak (by decide) (by decide) (by decide)), q.2⟩)) (fun _ h hs => ?_)
    exact vk_X12_loadDemo_88 ox0 hs
theorem vk_X12_loadDemo_45 {O : Nat → Prop} {z0 : vt_S} {x0 : Nat} {h : vt_S} (ox0 : O x0) (hs : vw [501, 502, 503, 602, 707, 708, 709, 710, 711, 800, 801, 802, 803, 1101, 1102, 1103, 1104, 1105, 1106, 1308, 1309] [601] [601] O z0 h) : vfr (vw [501, 502, 503, 602, 707, 708, 709, 710, 711, 800, 801, 802, 803, 1101, 1102, 1103, 1104, 1105, 1106, 1308, 1309] [601] [601] O) z0 (ab_X12_loadDemo_45 x0 h) := by
  unfold ab_X12_loadDemo_45
  refine vr_gP hs ox0 (fun v1 ov1 => ?_)
  refine vr_cl (fun _ _ e => (let q := vk_X4_blame hs.2 ov1 e; ⟨hs.1.trans (q.1.weak (by decide) (by decide) (by decide)), q.2⟩)) (fun _ h hs => ?_)
  exact vk_X12_loadDemo_56 ox0 hs
theorem vk_X12_loadDemo_0 {O : Nat → Prop} {z0 : vt_S} {x0 : Nat} {h : vt_S} (ox0 : O x0) (hs : vw [501, 502, 503, 602, 707, 708, 709, 710, 711, 800, 801, 802, 803, 1101, 1102, 1103, 1104, 1105, 1106, 1308, 1309] [601] [601] O z0 h) : vfr (vw [501, 502, 503, 602, 707, 708, 709, 710, 711, 800, 801, 802, 803, 1101, 1102, 1103, 1104, 1105, 1106, 1308, 1309] [601] [601] O) z0 (ab_X12_loadDemo x0 h) := by
  unfold ab_X12_loadDemo
  refine vr_gP hs ox0 (fun v1 ov1 => ?_)
  refine vr_cl (fun _ _ e => (let q := vk_X4_begin hs.2 ov1 e; ⟨hs.1.trans (q.1.weak (by decide) (by decide) (by decide)), q.2⟩)) (fun _ h hs => ?_)
  refine vr_gP hs ox0 (fun v3 ov3 => ?_)
  refine vr_gP hs ox0 (fun v4 ov4 => ?_)
  refine vr_cl (fun _ _ e => (let q := vk_X5_read hs.2 ov3 ov4 e; ⟨hs.1.trans (q.1.weak (by decide) (by decide) (by decide)), q.2⟩)) (fun _ h hs => ?_)
  refine vr_cl (fun _ _ e => (by rw [ve_X12_hasMap e]; exact hs)) (fun _ h hs => ?_)
  refine vr_if ?_ ?_
  · exact vk_X12_loadDemo_45 ox0 hs
  · refine vr_gP hs ox0 (fun v8 ov8 => ?_)
    refine vr_gP hs ov8 (fun v9 ov9 => ?_)
    refine vr_let (fun _ => ?_)
    refine vr_gP hs ox0 (fun v11 ov11 => ?_)
    refine vr_let (fun _ => ?_)
    refine vr_if ?_ ?_
    · exact vk_X12_loadDemo_56 ox0 hs
    · exact vk_X12_loadDemo_45 ox0 hs
theorem vk_X12_loadDemo {O : Nat → Prop} {x0 : Nat} {h : vt_S} {r : Int32} {s : vt_S} (c : vcl O h) (ox0 : O x0) (e : ab_X12_loadDemo x0 h = some (r, s)) : vw [501, 502, 503, 602, 707, 708, 709, 710, 711, 800, 801, 802, 803, 1101, 1102, 1103, 1104, 1105, 1106, 1308, 1309] [601] [601] O h s := vk_X12_loadDemo_0 ox0 ⟨vk.refl h, c⟩ r s e

theorem vk_X15_wrong_17 {O : Nat → Prop} {z0 : vt_S} {h : vt_S} (hs : vw [1617, 1618] [] [] O z0 h) : vfr (vw [1617, 1618] [] [] O) z0 (ab_X15_wrong_17 h) := by
  unfold ab_X15_wrong_17
  exact vr_rt hs
theorem vk_X15_wrong_0 {O : Nat → Prop} {z0 : vt_S} {x0 : Nat} {x1 : Int32} {x2 : Int32} {h : vt_S} (ox0 : O x0) (hs : vw [1617, 1618] [] [] O z0 h) : vfr (vw [1617, 1618] [] [] O) z0 (ab_X15_wrong x0 x1 x2 h) := by
  unfold ab_X15_wrong
  refine vr_let (fun _ => ?_)
  refine vr_if ?_ ?_
  · refine vr_I hs (by decide) ox0 (fun h hs => ?_)
    refine vr_I hs (by decide) ox0 (fun h hs => ?_)
    exact vk_X15_wrong_17 hs
  · exact vk_X15_wrong_17 hs
theorem vk_X15_wrong {O : Nat → Prop} {x0 : Nat} {x1 : Int32} {x2 : Int32} {h : vt_S} {r : Unit} {s : vt_S} (c : vcl O h) (ox0 : O x0) (e : ab_X15_wrong x0 x1 x2 h = some (r, s)) : vw [1617, 1618] [] [] O h s := vk_X15_wrong_0 ox0 ⟨vk.refl h, c⟩ r s e

theorem vk_X15_sum_0 {O : Nat → Prop} {z0 : vt_S} {x0 : Nat} {x1 : Int32} {h : vt_S} (ox0 : O x0) (hs : vw [1619, 1620] [] [] O z0 h) : vfr (vw [1619, 1620] [] [] O) z0 (ab_X15_sum x0 x1 h) := by
  unfold ab_X15_sum
  refine vr_let (fun _ => ?_)
  refine vr_I hs (by decide) ox0 (fun h hs => ?_)
  refine vr_let (fun _ => ?_)
  refine vr_let (fun _ => ?_)
  refine vr_I hs (by decide) ox0 (fun h hs => ?_)
  exact vr_rt hs
theorem vk_X15_sum {O : Nat → Prop} {x0 : Nat} {x1 : Int32} {h : vt_S} {r : Unit} {s : vt_S} (c : vcl O h) (ox0 : O x0) (e : ab_X15_sum x0 x1 h = some (r, s)) : vw [1619, 1620] [] [] O h s := vk_X15_sum_0 ox0 ⟨vk.refl h, c⟩ r s e

theorem vk_X15_next_27 {O : Nat → Prop} {z0 : vt_S} {x0 : Nat} {h : vt_S} (ox0 : O x0) (hs : vw [1616, 1617, 1618, 1619, 1620] [] [] O z0 h) : vfr (vw [1616, 1617, 1618, 1619, 1620] [] [] O) z0 (ab_X15_next_27 x0 h) := by
  unfold ab_X15_next_27
  refine vr_let (fun _ => ?_)
  refine vr_if ?_ ?_
  · refine vr_let (fun _ => ?_)
    refine vr_bd (fun _ => ?_)
    refine vr_let (fun _ => ?_)
    refine vr_I hs (by decide) ox0 (fun h hs => ?_)
    refine vr_cl (fun _ _ e => (let q := vk_X15_sum hs.2 ox0 e; ⟨hs.1.trans (q.1.weak (by decide) (by decide) (by decide)), q.2⟩)) (fun _ h hs => ?_)
    exact vr_rt hs
  · exact vr_rt hs
theorem vk_X15_next_0 {O : Nat → Prop} {z0 : vt_S} {x0 : Nat} {h : vt_S} (ox0 : O x0) (hs : vw [1616, 1617, 1618, 1619, 1620] [] [] O z0 h) : vfr (vw [1616, 1617, 1618, 1619, 1620] [] [] O) z0 (ab_X15_next x0 h) := by
  unfold ab_X15_next
  refine vr_let (fun _ => ?_)
  refine vr_if ?_ ?_
  · refine vr_let (fun _ => ?_)
    refine vr_let (fun _ => ?_)
    refine vr_if ?_ ?_
    · refine vr_let (fun _ => ?_)
      refine vr_cl (fun _ _ e => (let q := vk_X15_wrong hs.2 ox0 e; ⟨hs.1.trans (q.1.weak (by decide) (by decide) (by decide)), q.2⟩)) (fun _ h hs => ?_)
      exact vk_X15_next_27 ox0 hs
    · exact vk_X15_next_27 ox0 hs
  · exact vk_X15_next_27 ox0 hs
theorem vk_X15_next {O : Nat → Prop} {x0 : Nat} {h : vt_S} {r : Int32} {s : vt_S} (c : vcl O h) (ox0 : O x0) (e : ab_X15_next x0 h = some (r, s)) : vw [1616, 1617, 1618, 1619, 1620] [] [] O h s := vk_X15_next_0 ox0 ⟨vk.refl h, c⟩ r s e

theorem vk_X15_nextTwo_31 {O : Nat → Prop} {z0 : vt_S} {s0 : Int32} {h : vt_S} (hs : vw [1616, 1617, 1618, 1619, 1620] [] [] O z0 h) : vfr (vw [1616, 1617, 1618, 1619, 1620] [] [] O) z0 (ab_X15_nextTwo_31 s0 h) := by
  unfold ab_X15_nextTwo_31
  exact vr_rt hs
theorem vk_X15_nextTwo_0 {O : Nat → Prop} {z0 : vt_S} {x0 : Nat} {h : vt_S} (ox0 : O x0) (hs : vw [1616, 1617, 1618, 1619, 1620] [] [] O z0 h) : vfr (vw [1616, 1617, 1618, 1619, 1620] [] [] O) z0 (ab_X15_nextTwo x0 h) := by
  unfold ab_X15_nextTwo
  refine vr_cl (fun _ _ e => (let q := vk_X15_next hs.2 ox0 e; ⟨hs.1.trans (q.1.weak (by decide) (by decide) (by decide)), q.2⟩)) (fun _ h hs => ?_)
  refine vr_cl (fun _ _ e => (let q := vk_X15_next hs.2 ox0 e; ⟨hs.1.trans (q.1.weak (by decide) (by decide) (by decide)), q.2⟩)) (fun _ h hs => ?_)
  refine vr_if ?_ ?_
  · exact vk_X15_nextTwo_31 hs
  · exact vk_X15_nextTwo_31 hs
theorem vk_X15_nextTwo {O : Nat → Prop} {x0 : Nat} {h : vt_S} {r : Int32} {s : vt_S} (c : vcl O h) (ox0 : O x0) (e : ab_X15_nextTwo x0 h = some (r, s)) : vw [1616, 1617, 1618, 1619, 1620] [] [] O h s := vk_X15_nextTwo_0 ox0 ⟨vk.refl h, c⟩ r s e

theorem vk_X15_nextUpTo_28 {O : Nat → Prop} {z0 : vt_S} {x2 : Int32} {x3 : Int32} {h : vt_S} (hs : vw [1616, 1617, 1618, 1619, 1620] [] [] O z0 h) : vfr (vw [1616, 1617, 1618, 1619, 1620] [] [] O) z0 (ab_X15_nextUpTo_28 x2 x3 h) := by
  unfold ab_X15_nextUpTo_28
  exact vr_rt hs
theorem vk_X15_nextUpTo_0 {O : Nat → Prop} {z0 : vt_S} {x0 : Nat} {x1 : Int32} {x2 : Int32} {h : vt_S} (ox0 : O x0) (hs : vw [1616, 1617, 1618, 1619, 1620] [] [] O z0 h) : vfr (vw [1616, 1617, 1618, 1619, 1620] [] [] O) z0 (ab_X15_nextUpTo x0 x1 x2 h) := by
  unfold ab_X15_nextUpTo
  refine vr_cl (fun _ _ e => (let q := vk_X15_next hs.2 ox0 e; ⟨hs.1.trans (q.1.weak (by decide) (by decide) (by decide)), q.2⟩)) (fun _ h hs => ?_)
  refine vr_let (fun _ => ?_)
  refine vr_if ?_ ?_
  · refine vr_if ?_ ?_
    · exact vk_X15_nextUpTo_28 hs
    · refine vr_let (fun _ => ?_)
      refine vr_cl (fun _ _ e => (let q := vk_X15_wrong hs.2 ox0 e; ⟨hs.1.trans (q.1.weak (by decide) (by decide) (by decide)), q.2⟩)) (fun _ h hs => ?_)
      exact vk_X15_nextUpTo_28 hs
  · exact vk_X15_nextUpTo_28 hs
theorem vk_X15_nextUpTo {O : Nat → Prop} {x0 : Nat} {x1 : Int32} {x2 : Int32} {h : vt_S} {r : Int32} {s : vt_S} (c : vcl O h) (ox0 : O x0) (e : ab_X15_nextUpTo x0 x1 x2 h = some (r, s)) : vw [1616, 1617, 1618, 1619, 1620] [] [] O h s := vk_X15_nextUpTo_0 ox0 ⟨vk.refl h, c⟩ r s e

theorem vk_X15_readGroup_303 {O : Nat → Prop} {z0 : vt_S} {h : vt_S} (hs : vw [1615, 1616, 1617, 1618, 1619, 1620] [1611, 1612, 1613, 1614] [] O z0 h) : vfr (vw [1615, 1616, 1617, 1618, 1619, 1620] [1611, 1612, 1613, 1614] [] O) z0 (ab_X15_readGroup_303 h) := by
  unfold ab_X15_readGroup_303
  exact vr_rt hs
theorem vk_X15_readGroup_229b {O : Nat → Prop} {z0 : vt_S} {k229 : Nat → Int32 → Int32 → Int32 → Int32 → Int32 → Int32 → vt_S → Option (Unit × vt_S)} (hk229 : ∀ {x0 : Nat} {x4 : Int32} {x5 : Int32} {x6 : Int32} {x7 : Int32} {x8 : Int32} {x11 : Int32} {h : vt_S}, O x0 → vw [1615, 1616, 1617, 1618, 1619, 1620] [1611, 1612, 1613, 1614] [] O z0 h → vfr (vw [1615, 1616, 1617, 1618, 1619, 1620] [1611, 1612, 1613, 1614] [] O) z0 (k229 x0 x4 x5 x6 x7 x8 x11 h)) {x0 : Nat} {x4 : Int32} {x5 : Int32} {x6 : Int32} {x7 : Int32} {x8 : Int32} {x11 : Int32} {h : vt_S} (ox0 : O x0) (hs : vw [1615, 1616, 1617, 1618, 1619, 1620] [1611, 1612, 1613, 1614] [] O z0 h) : vfr (vw [1615, 1616, 1617, 1618, 1619, 1620] [1611, 1612, 1613, 1614] [] O) z0 (ab_X15_readGroup_229b k229 x0 x4 x5 x6 x7 x8 x11 h) := by
  unfold ab_X15_readGroup_229b
  refine vr_if ?_ ?_
  · exact vk_X15_readGroup_303 hs
  · refine vr_let (fun _ => ?_)
    refine vr_if ?_ ?_
    · refine vr_let (fun _ => ?_)
      refine vr_sI hs (by decide) ox0 (fun h hs => ?_)
      refine vr_let (fun _ => ?_)
      refine vr_sI hs (by decide) ox0 (fun h hs => ?_)
      refine vr_let (fun _ => ?_)
      refine vr_sI hs (by decide) ox0 (fun h hs => ?_)
      refine vr_let (fun _ => ?_)
      refine vr_sI hs (by decide) ox0 (fun h hs => ?_)
      refine vr_let (fun _ => ?_)
      refine vr_I hs (by decide) ox0 (fun h hs => ?_)
      exact hk229 ox0 hs
    · exact vk_X15_readGroup_303 hs
theorem vk_X15_readGroup_229 {O : Nat → Prop} {z0 : vt_S} : ∀ (n : Nat) {x0 : Nat} {x4 : Int32} {x5 : Int32} {x6 : Int32} {x7 : Int32} {x8 : Int32} {x11 : Int32} {h : vt_S}, O x0 → vw [1615, 1616, 1617, 1618, 1619, 1620] [1611, 1612, 1613, 1614] [] O z0 h → vfr (vw [1615, 1616, 1617, 1618, 1619, 1620] [1611, 1612, 1613, 1614] [] O) z0 (ab_X15_readGroup_229 n x0 x4 x5 x6 x7 x8 x11 h) := by
  intro n
  induction n with
  | zero => intro x0 x4 x5 x6 x7 x8 x11 h ox0 hs; exact vr_no
  | succ n ih => intro x0 x4 x5 x6 x7 x8 x11 h ox0 hs; exact vk_X15_readGroup_229b (fun ox0 hs => ih ox0 hs) ox0 hs
theorem vk_X15_readGroup_226 {O : Nat → Prop} {z0 : vt_S} {x0 : Nat} {x4 : Int32} {x5 : Int32} {x6 : Int32} {x7 : Int32} {x8 : Int32} {h : vt_S} (ox0 : O x0) (hs : vw [1615, 1616, 1617, 1618, 1619, 1620] [1611, 1612, 1613, 1614] [] O z0 h) : vfr (vw [1615, 1616, 1617, 1618, 1619, 1620] [1611, 1612, 1613, 1614] [] O) z0 (ab_X15_readGroup_226 x0 x4 x5 x6 x7 x8 h) := by
  unfold ab_X15_readGroup_226
  exact vk_X15_readGroup_229 sv_fuel ox0 hs
theorem vk_X15_readGroup_213 {O : Nat → Prop} {z0 : vt_S} {x0 : Nat} {x3 : Int32} {x4 : Int32} {x5 : Int32} {x6 : Int32} {x7 : Int32} {x8 : Int32} {s0 : Int32} {h : vt_S} (ox0 : O x0) (hs : vw [1615, 1616, 1617, 1618, 1619, 1620] [1611, 1612, 1613, 1614] [] O z0 h) : vfr (vw [1615, 1616, 1617, 1618, 1619, 1620] [1611, 1612, 1613, 1614] [] O) z0 (ab_X15_readGroup_213 x0 x3 x4 x5 x6 x7 x8 s0 h) := by
  unfold ab_X15_readGroup_213
  refine vr_if ?_ ?_
  · exact vk_X15_readGroup_226 ox0 hs
  · refine vr_cl (fun _ _ e => (let q := vk_X15_wrong hs.2 ox0 e; ⟨hs.1.trans (q.1.weak (by decide) (by decide) (by decide)), q.2⟩)) (fun _ h hs => ?_)
    exact vk_X15_readGroup_226 ox0 hs
theorem vk_X15_readGroup_212 {O : Nat → Prop} {z0 : vt_S} {x0 : Nat} {x3 : Int32} {x4 : Int32} {x5 : Int32} {x6 : Int32} {x7 : Int32} {x8 : Int32} {h : vt_S} (ox0 : O x0) (hs : vw [1615, 1616, 1617, 1618, 1619, 1620] [1611, 1612, 1613, 1614] [] O z0 h) : vfr (vw [1615, 1616, 1617, 1618, 1619, 1620] [1611, 1612, 1613, 1614] [] O) z0 (ab_X15_readGroup_212 x0 x3 x4 x5 x6 x7 x8 h) := by
  unfold ab_X15_readGroup_212
  exact vk_X15_readGroup_213 ox0 hs
theorem vk_X15_readGroup_133 {O : Nat → Prop} {z0 : vt_S} {x0 : Nat} {x2 : Int32} {x3 : Int32} {x4 : Int32} {x5 : Int32} {x6 : Int32} {x7 : Int32} {s0 : Int32} {h : vt_S} (ox0 : O x0) (hs : vw [1615, 1616, 1617, 1618, 1619, 1620] [1611, 1612, 1613, 1614] [] O z0 h) : vfr (vw [1615, 1616, 1617, 1618, 1619, 1620] [1611, 1612, 1613, 1614] [] O) z0 (ab_X15_readGroup_133 x0 x2 x3 x4 x5 x6 x7 s0 h) := by
  unfold ab_X15_readGroup_133
  refine vr_let (fun _ => ?_)
  refine vr_let (fun _ => ?_)
  refine vr_if ?_ ?_
  · refine vr_if ?_ ?_
    · exact vk_X15_readGroup_212 ox0 hs
    · refine vr_if ?_ ?_
      · exact vk_X15_readGroup_212 ox0 hs
      · refine vr_bd (fun _ => ?_)
        refine vr_if ?_ ?_
        · refine vr_bd (fun _ => ?_)
          refine vr_if ?_ ?_
          · refine vr_bd (fun _ => ?_)
            refine vr_if ?_ ?_
            · refine vr_bd (fun _ => ?_)
              refine vr_if ?_ ?_
              · exact vk_X15_readGroup_213 ox0 hs
              · exact vk_X15_readGroup_212 ox0 hs
            · exact vk_X15_readGroup_212 ox0 hs
          · exact vk_X15_readGroup_212 ox0 hs
        · exact vk_X15_readGroup_212 ox0 hs
  · exact vk_X15_readGroup_212 ox0 hs
theorem vk_X15_readGroup_118 {O : Nat → Prop} {z0 : vt_S} {x0 : Nat} {x1 : Int32} {x2 : Int32} {x3 : Int32} {x4 : Int32} {x5 : Int32} {x6 : Int32} {x7 : Int32} {h : vt_S} (ox0 : O x0) (hs : vw [1615, 1616, 1617, 1618, 1619, 1620] [1611, 1612, 1613, 1614] [] O z0 h) : vfr (vw [1615, 1616, 1617, 1618, 1619, 1620] [1611, 1612, 1613, 1614] [] O) z0 (ab_X15_readGroup_118 x0 x1 x2 x3 x4 x5 x6 x7 h) := by
  unfold ab_X15_readGroup_118
  refine vr_if ?_ ?_
  · exact vk_X15_readGroup_133 ox0 hs
  · exact vk_X15_readGroup_133 ox0 hs
theorem vk_X15_readGroup_46 {O : Nat → Prop} {z0 : vt_S} {x0 : Nat} {x1 : Int32} {x2 : Int32} {x3 : Int32} {x4 : Int32} {h : vt_S} (ox0 : O x0) (hs : vw [1615, 1616, 1617, 1618, 1619, 1620] [1611, 1612, 1613, 1614] [] O z0 h) : vfr (vw [1615, 1616, 1617, 1618, 1619, 1620] [1611, 1612, 1613, 1614] [] O) z0 (ab_X15_readGroup_46 x0 x1 x2 x3 x4 h) := by
  unfold ab_X15_readGroup_46
  refine vr_cl (fun _ _ e => (let q := vk_X15_nextUpTo hs.2 ox0 e; ⟨hs.1.trans (q.1.weak (by decide) (by decide) (by decide)), q.2⟩)) (fun _ h hs => ?_)
  refine vr_if ?_ ?_
  · exact vk_X15_readGroup_118 ox0 hs
  · refine vr_cl (fun _ _ e => (let q := vk_X15_nextUpTo hs.2 ox0 e; ⟨hs.1.trans (q.1.weak (by decide) (by decide) (by decide)), q.2⟩)) (fun _ h hs => ?_)
    refine vr_cl (fun _ _ e => (let q := vk_X15_nextUpTo hs.2 ox0 e; ⟨hs.1.trans (q.1.weak (by decide) (by decide) (by decide)), q.2⟩)) (fun _ h hs => ?_)
    refine vr_let (fun _ => ?_)
    refine vr_if ?_ ?_
    · refine vr_if ?_ ?_
      · refine vr_if ?_ ?_
        · refine vr_let (fun _ => ?_)
          refine vr_cl (fun _ _ e => (let q := vk_X15_wrong hs.2 ox0 e; ⟨hs.1.trans (q.1.weak (by decide) (by decide) (by decide)), q.2⟩)) (fun _ h hs => ?_)
          exact vk_X15_readGroup_118 ox0 hs
        · exact vk_X15_readGroup_118 ox0 hs
      · exact vk_X15_readGroup_118 ox0 hs
    · exact vk_X15_readGroup_118 ox0 hs
theorem vk_X15_readGroup_0 {O : Nat → Prop} {z0 : vt_S} {x0 : Nat} {x1 : Int32} {x2 : Int32} {h : vt_S} (ox0 : O x0) (hs : vw [1615, 1616, 1617, 1618, 1619, 1620] [1611, 1612, 1613, 1614] [] O z0 h) : vfr (vw [1615, 1616, 1617, 1618, 1619, 1620] [1611, 1612, 1613, 1614] [] O) z0 (ab_X15_readGroup x0 x1 x2 h) := by
  unfold ab_X15_readGroup
  refine vr_let (fun _ => ?_)
  refine vr_if ?_ ?_
  · refine vr_cl (fun _ _ e => (let q := vk_X15_wrong hs.2 ox0 e; ⟨hs.1.trans (q.1.weak (by decide) (by decide) (by decide)), q.2⟩)) (fun _ h hs => ?_)
    exact vk_X15_readGroup_46 ox0 hs
  · refine vr_let (fun _ => ?_)
    refine vr_if ?_ ?_
    · exact vk_X15_readGroup_46 ox0 hs
    · refine vr_cl (fun _ _ e => (let q := vk_X15_wrong hs.2 ox0 e; ⟨hs.1.trans (q.1.weak (by decide) (by decide) (by decide)), q.2⟩)) (fun _ h hs => ?_)
      exact vk_X15_readGroup_46 ox0 hs
theorem vk_X15_readGroup {O : Nat → Prop} {x0 : Nat} {x1 : Int32} {x2 : Int32} {h : vt_S} {r : Unit} {s : vt_S} (c : vcl O h) (ox0 : O x0) (e : ab_X15_readGroup x0 x1 x2 h = some (r, s)) : vw [1615, 1616, 1617, 1618, 1619, 1620] [1611, 1612, 1613, 1614] [] O h s := vk_X15_readGroup_0 ox0 ⟨vk.refl h, c⟩ r s e

theorem vk_X15_readAll_264 {O : Nat → Prop} {z0 : vt_S} {h : vt_S} (hs : vw [1615, 1616, 1617, 1618, 1619, 1620] [1610, 1611, 1612, 1613, 1614] [] O z0 h) : vfr (vw [1615, 1616, 1617, 1618, 1619, 1620] [1610, 1611, 1612, 1613, 1614] [] O) z0 (ab_X15_readAll_264 h) := by
  unfold ab_X15_readAll_264
  exact vr_rt hs
theorem vk_X15_readAll_230 {O : Nat → Prop} {z0 : vt_S} {k154 : Nat → Int32 → Int32 → Int32 → vt_S → Option (Unit × vt_S)} (hk154 : ∀ {x0 : Nat} {x3 : Int32} {x4 : Int32} {x5 : Int32} {h : vt_S}, O x0 → vw [1615, 1616, 1617, 1618, 1619, 1620] [1610, 1611, 1612, 1613, 1614] [] O z0 h → vfr (vw [1615, 1616, 1617, 1618, 1619, 1620] [1610, 1611, 1612, 1613, 1614] [] O) z0 (k154 x0 x3 x4 x5 h)) {x0 : Nat} {x3 : Int32} {x4 : Int32} {x5 : Int32} {h : vt_S} (ox0 : O x0) (hs : vw [1615, 1616, 1617, 1618, 1619, 1620] [1610, 1611, 1612, 1613, 1614] [] O z0 h) : vfr (vw [1615, 1616, 1617, 1618, 1619, 1620] [1610, 1611, 1612, 1613, 1614] [] O) z0 (ab_X15_readAll_230 k154 x0 x3 x4 x5 h) := by
  unfold ab_X15_readAll_230
  exact hk154 ox0 hs
theorem vk_X15_readAll_196 {O : Nat → Prop} {z0 : vt_S} {k154 : Nat → Int32 → Int32 → Int32 → vt_S → Option (Unit × vt_S)} (hk154 : ∀ {x0 : Nat} {x3 : Int32} {x4 : Int32} {x5 : Int32} {h : vt_S}, O x0 → vw [1615, 1616, 1617, 1618, 1619, 1620] [1610, 1611, 1612, 1613, 1614] [] O z0 h → vfr (vw [1615, 1616, 1617, 1618, 1619, 1620] [1610, 1611, 1612, 1613, 1614] [] O) z0 (k154 x0 x3 x4 x5 h)) {x0 : Nat} {x3 : Int32} {x4 : Int32} {x5 : Int32} {s0 : Int32} {h : vt_S} (ox0 : O x0) (hs : vw [1615, 1616, 1617, 1618, 1619, 1620] [1610, 1611, 1612, 1613, 1614] [] O z0 h) : vfr (vw [1615, 1616, 1617, 1618, 1619, 1620] [1610, 1611, 1612, 1613, 1614] [] O) z0 (ab_X15_readAll_196 k154 x0 x3 x4 x5 s0 h) := by
  unfold ab_X15_readAll_196
  refine vr_cl (fun _ _ e => (let q := vk_X15_next hs.2 ox0 e; ⟨hs.1.trans (q.1.weak (by decide) (by decide) (by decide)), q.2⟩)) (fun _ h hs => ?_)
  refine vr_let (fun _ => ?_)
  refine vr_if ?_ ?_
  · refine vr_if ?_ ?_
    · exact vk_X15_readAll_230 hk154 ox0 hs
    · refine vr_let (fun _ => ?_)
      refine vr_cl (fun _ _ e => (let q := vk_X15_wrong hs.2 ox0 e; ⟨hs.1.trans (q.1.weak (by decide) (by decide) (by decide)), q.2⟩)) (fun _ h hs => ?_)
      exact vk_X15_readAll_230 hk154 ox0 hs
  · exact vk_X15_readAll_230 hk154 ox0 hs
theorem vk_X15_readAll_172 {O : Nat → Prop} {z0 : vt_S} {k154 : Nat → Int32 → Int32 → Int32 → vt_S → Option (Unit × vt_S)} (hk154 : ∀ {x0 : Nat} {x3 : Int32} {x4 : Int32} {x5 : Int32} {h : vt_S}, O x0 → vw [1615, 1616, 1617, 1618, 1619, 1620] [1610, 1611, 1612, 1613, 1614] [] O z0 h → vfr (vw [1615, 1616, 1617, 1618, 1619, 1620] [1610, 1611, 1612, 1613, 1614] [] O) z0 (k154 x0 x3 x4 x5 h)) {x0 : Nat} {x3 : Int32} {x4 : Int32} {x5 : Int32} {s0 : Int32} {h : vt_S} (ox0 : O x0) (hs : vw [1615, 1616, 1617, 1618, 1619, 1620] [1610, 1611, 1612, 1613, 1614] [] O z0 h) : vfr (vw [1615, 1616, 1617, 1618, 1619, 1620] [1610, 1611, 1612, 1613, 1614] [] O) z0 (ab_X15_readAll_172 k154 x0 x3 x4 x5 s0 h) := by
  unfold ab_X15_readAll_172
  refine vr_if ?_ ?_
  · exact vk_X15_readAll_196 hk154 ox0 hs
  · exact vk_X15_readAll_196 hk154 ox0 hs
theorem vk_X15_readAll_154b {O : Nat → Prop} {z0 : vt_S} {k154 : Nat → Int32 → Int32 → Int32 → vt_S → Option (Unit × vt_S)} (hk154 : ∀ {x0 : Nat} {x3 : Int32} {x4 : Int32} {x5 : Int32} {h : vt_S}, O x0 → vw [1615, 1616, 1617, 1618, 1619, 1620] [1610, 1611, 1612, 1613, 1614] [] O z0 h → vfr (vw [1615, 1616, 1617, 1618, 1619, 1620] [1610, 1611, 1612, 1613, 1614] [] O) z0 (k154 x0 x3 x4 x5 h)) {x0 : Nat} {x3 : Int32} {x4 : Int32} {x5 : Int32} {h : vt_S} (ox0 : O x0) (hs : vw [1615, 1616, 1617, 1618, 1619, 1620] [1610, 1611, 1612, 1613, 1614] [] O z0 h) : vfr (vw [1615, 1616, 1617, 1618, 1619, 1620] [1610, 1611, 1612, 1613, 1614] [] O) z0 (ab_X15_readAll_154b k154 x0 x3 x4 x5 h) := by
  unfold ab_X15_readAll_154b
  refine vr_if ?_ ?_
  · refine vr_let (fun _ => ?_)
    refine vr_if ?_ ?_
    · refine vr_let (fun _ => ?_)
      refine vr_let (fun _ => ?_)
      refine vr_if ?_ ?_
      · exact vk_X15_readAll_264 hs
      · refine vr_let (fun _ => ?_)
        refine vr_cl (fun _ _ e => (let q := vk_X15_wrong hs.2 ox0 e; ⟨hs.1.trans (q.1.weak (by decide) (by decide) (by decide)), q.2⟩)) (fun _ h hs => ?_)
        exact vk_X15_readAll_264 hs
    · exact vk_X15_readAll_264 hs
  · refine vr_if ?_ ?_
    · exact vk_X15_readAll_172 hk154 ox0 hs
    · exact vk_X15_readAll_172 hk154 ox0 hs
theorem vk_X15_readAll_154 {O : Nat → Prop} {z0 : vt_S} : ∀ (n : Nat) {x0 : Nat} {x3 : Int32} {x4 : Int32} {x5 : Int32} {h : vt_S}, O x0 → vw [1615, 1616, 1617, 1618, 1619, 1620] [1610, 1611, 1612, 1613, 1614] [] O z0 h → vfr (vw [1615, 1616, 1617, 1618, 1619, 1620] [1610, 1611, 1612, 1613, 1614] [] O) z0 (ab_X15_readAll_154 n x0 x3 x4 x5 h) := by
  intro n
  induction n with
  | zero => intro x0 x3 x4 x5 h ox0 hs; exact vr_no
  | succ n ih => intro x0 x3 x4 x5 h ox0 hs; exact vk_X15_readAll_154b (fun ox0 hs => ih ox0 hs) ox0 hs
theorem vk_X15_readAll_140 {O : Nat → Prop} {z0 : vt_S} {x0 : Nat} {h : vt_S} (ox0 : O x0) (hs : vw [1615, 1616, 1617, 1618, 1619, 1620] [1610, 1611, 1612, 1613, 1614] [] O z0 h) : vfr (vw [1615, 1616, 1617, 1618, 1619, 1620] [1610, 1611, 1612, 1613, 1614] [] O) z0 (ab_X15_readAll_140 x0 h) := by
  unfold ab_X15_readAll_140
  refine vr_let (fun _ => ?_)
  refine vr_let (fun _ => ?_)
  exact vk_X15_readAll_154 sv_fuel ox0 hs
theorem vk_X15_readAll_110b {O : Nat → Prop} {z0 : vt_S} {k110 : Nat → Int32 → Int32 → vt_S → Option (Unit × vt_S)} (hk110 : ∀ {x0 : Nat} {x1 : Int32} {x2 : Int32} {h : vt_S}, O x0 → vw [1615, 1616, 1617, 1618, 1619, 1620] [1610, 1611, 1612, 1613, 1614] [] O z0 h → vfr (vw [1615, 1616, 1617, 1618, 1619, 1620] [1610, 1611, 1612, 1613, 1614] [] O) z0 (k110 x0 x1 x2 h)) {x0 : Nat} {x1 : Int32} {x2 : Int32} {h : vt_S} (ox0 : O x0) (hs : vw [1615, 1616, 1617, 1618, 1619, 1620] [1610, 1611, 1612, 1613, 1614] [] O z0 h) : vfr (vw [1615, 1616, 1617, 1618, 1619, 1620] [1610, 1611, 1612, 1613, 1614] [] O) z0 (ab_X15_readAll_110b k110 x0 x1 x2 h) := by
  unfold ab_X15_readAll_110b
  refine vr_if ?_ ?_
  · exact vk_X15_readAll_140 ox0 hs
  · refine vr_let (fun _ => ?_)
    refine vr_if ?_ ?_
    · refine vr_cl (fun _ _ e => (let q := vk_X15_readGroup hs.2 ox0 e; ⟨hs.1.trans (q.1.weak (by decide) (by decide) (by decide)), q.2⟩)) (fun _ h hs => ?_)
      refine vr_cl (fun _ _ e => (let q := vk_X15_next hs.2 ox0 e; ⟨hs.1.trans (q.1.weak (by decide) (by decide) (by decide)), q.2⟩)) (fun _ h hs => ?_)
      exact hk110 ox0 hs
    · exact vk_X15_readAll_140 ox0 hs
theorem vk_X15_readAll_110 {O : Nat → Prop} {z0 : vt_S} : ∀ (n : Nat) {x0 : Nat} {x1 : Int32} {x2 : Int32} {h : vt_S}, O x0 → vw [1615, 1616, 1617, 1618, 1619, 1620] [1610, 1611, 1612, 1613, 1614] [] O z0 h → vfr (vw [1615, 1616, 1617, 1618, 1619, 1620] [1610, 1611, 1612, 1613, 1614] [] O) z0 (ab_X15_readAll_110 n x0 x1 x2 h) := by
  intro n
  induction n with
  | zero => intro x0 x1 x2 h ox0 hs; exact vr_no
  | succ n ih => intro x0 x1 x2 h ox0 hs; exact vk_X15_readAll_110b (fun ox0 hs => ih ox0 hs) ox0 hs
theorem vk_X15_readAll_49 {O : Nat → Prop} {z0 : vt_S} {k2 : Nat → Int32 → vt_S → Option (Unit × vt_S)} (hk2 : ∀ {x0 : Nat} {x1 : Int32} {h : vt_S}, O x0 → vw [1615, 1616, 1617, 1618, 1619, 1620] [1610, 1611, 1612, 1613, 1614] [] O z0 h → vfr (vw [1615, 1616, 1617, 1618, 1619, 1620] [1610, 1611, 1612, 1613, 1614] [] O) z0 (k2 x0 x1 h)) {x0 : Nat} {x1 : Int32} {h : vt_S} (ox0 : O x0) (hs : vw [1615, 1616, 1617, 1618, 1619, 1620] [1610, 1611, 1612, 1613, 1614] [] O z0 h) : vfr (vw [1615, 1616, 1617, 1618, 1619, 1620] [1610, 1611, 1612, 1613, 1614] [] O) z0 (ab_X15_readAll_49 k2 x0 x1 h) := by
  unfold ab_X15_readAll_49
  exact hk2 ox0 hs
theorem vk_X15_readAll_40 {O : Nat → Prop} {z0 : vt_S} {k2 : Nat → Int32 → vt_S → Option (Unit × vt_S)} (hk2 : ∀ {x0 : Nat} {x1 : Int32} {h : vt_S}, O x0 → vw [1615, 1616, 1617, 1618, 1619, 1620] [1610, 1611, 1612, 1613, 1614] [] O z0 h → vfr (vw [1615, 1616, 1617, 1618, 1619, 1620] [1610, 1611, 1612, 1613, 1614] [] O) z0 (k2 x0 x1 h)) {x0 : Nat} {x1 : Int32} {s0 : Int32} {s1 : Int32} {h : vt_S} (ox0 : O x0) (hs : vw [1615, 1616, 1617, 1618, 1619, 1620] [1610, 1611, 1612, 1613, 1614] [] O z0 h) : vfr (vw [1615, 1616, 1617, 1618, 1619, 1620] [1610, 1611, 1612, 1613, 1614] [] O) z0 (ab_X15_readAll_40 k2 x0 x1 s0 s1 h) := by
  unfold ab_X15_readAll_40
  refine vr_if ?_ ?_
  · exact vk_X15_readAll_49 hk2 ox0 hs
  · refine vr_cl (fun _ _ e => (let q := vk_X15_wrong hs.2 ox0 e; ⟨hs.1.trans (q.1.weak (by decide) (by decide) (by decide)), q.2⟩)) (fun _ h hs => ?_)
    exact vk_X15_readAll_49 hk2 ox0 hs
theorem vk_X15_readAll_2b {O : Nat → Prop} {z0 : vt_S} {k2 : Nat → Int32 → vt_S → Option (Unit × vt_S)} (hk2 : ∀ {x0 : Nat} {x1 : Int32} {h : vt_S}, O x0 → vw [1615, 1616, 1617, 1618, 1619, 1620] [1610, 1611, 1612, 1613, 1614] [] O z0 h → vfr (vw [1615, 1616, 1617, 1618, 1619, 1620] [1610, 1611, 1612, 1613, 1614] [] O) z0 (k2 x0 x1 h)) {x0 : Nat} {x1 : Int32} {h : vt_S} (ox0 : O x0) (hs : vw [1615, 1616, 1617, 1618, 1619, 1620] [1610, 1611, 1612, 1613, 1614] [] O z0 h) : vfr (vw [1615, 1616, 1617, 1618, 1619, 1620] [1610, 1611, 1612, 1613, 1614] [] O) z0 (ab_X15_readAll_2b k2 x0 x1 h) := by
  unfold ab_X15_readAll_2b
  refine vr_if ?_ ?_
  · refine vr_cl (fun _ _ e => (let q := vk_X15_nextTwo hs.2 ox0 e; ⟨hs.1.trans (q.1.weak (by decide) (by decide) (by decide)), q.2⟩)) (fun _ h hs => ?_)
    refine vr_sI hs (by decide) ox0 (fun h hs => ?_)
    refine vr_cl (fun _ _ e => (let q := vk_X15_nextTwo hs.2 ox0 e; ⟨hs.1.trans (q.1.weak (by decide) (by decide) (by decide)), q.2⟩)) (fun _ h hs => ?_)
    refine vr_sI hs (by decide) ox0 (fun h hs => ?_)
    refine vr_cl (fun _ _ e => (let q := vk_X15_nextUpTo hs.2 ox0 e; ⟨hs.1.trans (q.1.weak (by decide) (by decide) (by decide)), q.2⟩)) (fun _ h hs => ?_)
    refine vr_sI hs (by decide) ox0 (fun h hs => ?_)
    refine vr_cl (fun _ _ e => (let q := vk_X15_next hs.2 ox0 e; ⟨hs.1.trans (q.1.weak (by decide) (by decide) (by decide)), q.2⟩)) (fun _ h hs => ?_)
    refine vr_sI hs (by decide) ox0 (fun h hs => ?_)
    refine vr_I hs (by decide) ox0 (fun h hs => ?_)
    refine vr_cl (fun _ _ e => (let q := vk_X15_next hs.2 ox0 e; ⟨hs.1.trans (q.1.weak (by decide) (by decide) (by decide)), q.2⟩)) (fun _ h hs => ?_)
    exact vk_X15_readAll_110 sv_fuel ox0 hs
  · refine vr_cl (fun _ _ e => (let q := vk_X15_next hs.2 ox0 e; ⟨hs.1.trans (q.1.weak (by decide) (by decide) (by decide)), q.2⟩)) (fun _ h hs => ?_)
    refine vr_let (fun _ => ?_)
    refine vr_if ?_ ?_
    · refine vr_if ?_ ?_
      · exact vk_X15_readAll_40 hk2 ox0 hs
      · refine vr_if ?_ ?_
        · exact vk_X15_readAll_40 hk2 ox0 hs
        · exact vk_X15_readAll_40 hk2 ox0 hs
    · exact vk_X15_readAll_49 hk2 ox0 hs
theorem vk_X15_readAll_2 {O : Nat → Prop} {z0 : vt_S} : ∀ (n : Nat) {x0 : Nat} {x1 : Int32} {h : vt_S}, O x0 → vw [1615, 1616, 1617, 1618, 1619, 1620] [1610, 1611, 1612, 1613, 1614] [] O z0 h → vfr (vw [1615, 1616, 1617, 1618, 1619, 1620] [1610, 1611, 1612, 1613, 1614] [] O) z0 (ab_X15_readAll_2 n x0 x1 h) := by
  intro n
  induction n with
  | zero => intro x0 x1 h ox0 hs; exact vr_no
  | succ n ih => intro x0 x1 h ox0 hs; exact vk_X15_readAll_2b (fun ox0 hs => ih ox0 hs) ox0 hs
theorem vk_X15_readAll_0 {O : Nat → Prop} {z0 : vt_S} {x0 : Nat} {h : vt_S} (ox0 : O x0) (hs : vw [1615, 1616, 1617, 1618, 1619, 1620] [1610, 1611, 1612, 1613, 1614] [] O z0 h) : vfr (vw [1615, 1616, 1617, 1618, 1619, 1620] [1610, 1611, 1612, 1613, 1614] [] O) z0 (ab_X15_readAll x0 h) := by
  unfold ab_X15_readAll
  exact vk_X15_readAll_2 sv_fuel ox0 hs
theorem vk_X15_readAll {O : Nat → Prop} {x0 : Nat} {h : vt_S} {r : Unit} {s : vt_S} (c : vcl O h) (ox0 : O x0) (e : ab_X15_readAll x0 h = some (r, s)) : vw [1615, 1616, 1617, 1618, 1619, 1620] [1610, 1611, 1612, 1613, 1614] [] O h s := vk_X15_readAll_0 ox0 ⟨vk.refl h, c⟩ r s e

theorem vk_X15_read_101b {O : Nat → Prop} {z0 : vt_S} {k101 : Nat → Int32 → vt_S → Option (Int32 × vt_S)} (hk101 : ∀ {x0 : Nat} {x2 : Int32} {h : vt_S}, O x0 → vw [1605, 1615, 1616, 1617, 1618, 1619, 1620] [1600, 1601, 1602, 1603, 1604, 1610, 1611, 1612, 1613, 1614] [] O z0 h → vfr (vw [1605, 1615, 1616, 1617, 1618, 1619, 1620] [1600, 1601, 1602, 1603, 1604, 1610, 1611, 1612, 1613, 1614] [] O) z0 (k101 x0 x2 h)) {x0 : Nat} {x2 : Int32} {h : vt_S} (ox0 : O x0) (hs : vw [1605, 1615, 1616, 1617, 1618, 1619, 1620] [1600, 1601, 1602, 1603, 1604, 1610, 1611, 1612, 1613, 1614] [] O z0 h) : vfr (vw [1605, 1615, 1616, 1617, 1618, 1619, 1620] [1600, 1601, 1602, 1603, 1604, 1610, 1611, 1612, 1613, 1614] [] O) z0 (ab_X15_read_101b k101 x0 x2 h) := by
  unfold ab_X15_read_101b
  refine vr_let (fun _ => ?_)
  refine vr_if ?_ ?_
  · exact vr_rt hs
  · refine vr_bd (fun _ => ?_)
    refine vr_sI hs (by decide) ox0 (fun h hs => ?_)
    refine vr_bd (fun _ => ?_)
    refine vr_sI hs (by decide) ox0 (fun h hs => ?_)
    refine vr_bd (fun _ => ?_)
    refine vr_sI hs (by decide) ox0 (fun h hs => ?_)
    refine vr_bd (fun _ => ?_)
    refine vr_sI hs (by decide) ox0 (fun h hs => ?_)
    exact hk101 ox0 hs
theorem vk_X15_read_101 {O : Nat → Prop} {z0 : vt_S} : ∀ (n : Nat) {x0 : Nat} {x2 : Int32} {h : vt_S}, O x0 → vw [1605, 1615, 1616, 1617, 1618, 1619, 1620] [1600, 1601, 1602, 1603, 1604, 1610, 1611, 1612, 1613, 1614] [] O z0 h → vfr (vw [1605, 1615, 1616, 1617, 1618, 1619, 1620] [1600, 1601, 1602, 1603, 1604, 1610, 1611, 1612, 1613, 1614] [] O) z0 (ab_X15_read_101 n x0 x2 h) := by
  intro n
  induction n with
  | zero => intro x0 x2 h ox0 hs; exact vr_no
  | succ n ih => intro x0 x2 h ox0 hs; exact vk_X15_read_101b (fun ox0 hs => ih ox0 hs) ox0 hs
theorem vk_X15_read_68b {O : Nat → Prop} {z0 : vt_S} {k68 : Nat → Int32 → vt_S → Option (Int32 × vt_S)} (hk68 : ∀ {x0 : Nat} {x2 : Int32} {h : vt_S}, O x0 → vw [1605, 1615, 1616, 1617, 1618, 1619, 1620] [1600, 1601, 1602, 1603, 1604, 1610, 1611, 1612, 1613, 1614] [] O z0 h → vfr (vw [1605, 1615, 1616, 1617, 1618, 1619, 1620] [1600, 1601, 1602, 1603, 1604, 1610, 1611, 1612, 1613, 1614] [] O) z0 (k68 x0 x2 h)) {x0 : Nat} {x2 : Int32} {h : vt_S} (ox0 : O x0) (hs : vw [1605, 1615, 1616, 1617, 1618, 1619, 1620] [1600, 1601, 1602, 1603, 1604, 1610, 1611, 1612, 1613, 1614] [] O z0 h) : vfr (vw [1605, 1615, 1616, 1617, 1618, 1619, 1620] [1600, 1601, 1602, 1603, 1604, 1610, 1611, 1612, 1613, 1614] [] O) z0 (ab_X15_read_68b k68 x0 x2 h) := by
  unfold ab_X15_read_68b
  refine vr_if ?_ ?_
  · refine vr_let (fun _ => ?_)
    refine vr_I hs (by decide) ox0 (fun h hs => ?_)
    exact vk_X15_read_101 sv_fuel ox0 hs
  · refine vr_bd (fun _ => ?_)
    refine vr_sI hs (by decide) ox0 (fun h hs => ?_)
    exact hk68 ox0 hs
theorem vk_X15_read_68 {O : Nat → Prop} {z0 : vt_S} : ∀ (n : Nat) {x0 : Nat} {x2 : Int32} {h : vt_S}, O x0 → vw [1605, 1615, 1616, 1617, 1618, 1619, 1620] [1600, 1601, 1602, 1603, 1604, 1610, 1611, 1612, 1613, 1614] [] O z0 h → vfr (vw [1605, 1615, 1616, 1617, 1618, 1619, 1620] [1600, 1601, 1602, 1603, 1604, 1610, 1611, 1612, 1613, 1614] [] O) z0 (ab_X15_read_68 n x0 x2 h) := by
  intro n
  induction n with
  | zero => intro x0 x2 h ox0 hs; exact vr_no
  | succ n ih => intro x0 x2 h ox0 hs; exact vk_X15_read_68b (fun ox0 hs => ih ox0 hs) ox0 hs
theorem vk_X15_read_54 {O : Nat → Prop} {z0 : vt_S} {x0 : Nat} {h : vt_S} (ox0 : O x0) (hs : vw [1605, 1615, 1616, 1617, 1618, 1619, 1620] [1600, 1601, 1602, 1603, 1604, 1610, 1611, 1612, 1613, 1614] [] O z0 h) : vfr (vw [1605, 1615, 1616, 1617, 1618, 1619, 1620] [1600, 1601, 1602, 1603, 1604, 1610, 1611, 1612, 1613, 1614] [] O) z0 (ab_X15_read_54 x0 h) := by
  unfold ab_X15_read_54
  refine vr_let (fun _ => ?_)
  refine vr_if ?_ ?_
  · exact vk_X15_read_68 sv_fuel ox0 hs
  · refine vr_let (fun _ => ?_)
    exact vr_rt hs
theorem vk_X15_read_0 {O : Nat → Prop} {z0 : vt_S} {x0 : Nat} {x1 : Int32} {h : vt_S} (ox0 : O x0) (hs : vw [1605, 1615, 1616, 1617, 1618, 1619, 1620] [1600, 1601, 1602, 1603, 1604, 1610, 1611, 1612, 1613, 1614] [] O z0 h) : vfr (vw [1605, 1615, 1616, 1617, 1618, 1619, 1620] [1600, 1601, 1602, 1603, 1604, 1610, 1611, 1612, 1613, 1614] [] O) z0 (ab_X15_read x0 x1 h) := by
  unfold ab_X15_read
  refine vr_I hs (by decide) ox0 (fun h hs => ?_)
  refine vr_I hs (by decide) ox0 (fun h hs => ?_)
  refine vr_I hs (by decide) ox0 (fun h hs => ?_)
  refine vr_I hs (by decide) ox0 (fun h hs => ?_)
  refine vr_I hs (by decide) ox0 (fun h hs => ?_)
  refine vr_cl (fun _ _ e => (let q := vk_X15_readAll hs.2 ox0 e; ⟨hs.1.trans (q.1.weak (by decide) (by decide) (by decide)), q.2⟩)) (fun _ h hs => ?_)
  refine vr_let (fun _ => ?_)
  refine vr_if ?_ ?_
  · refine vr_bd (fun _ => ?_)
    refine vr_if ?_ ?_
    · exact vk_X15_read_54 ox0 hs
    · refine vr_cl (fun _ _ e => (let q := vk_X15_wrong hs.2 ox0 e; ⟨hs.1.trans (q.1.weak (by decide) (by decide) (by decide)), q.2⟩)) (fun _ h hs => ?_)
      exact vk_X15_read_54 ox0 hs
  · exact vk_X15_read_54 ox0 hs
theorem vk_X15_read {O : Nat → Prop} {x0 : Nat} {x1 : Int32} {h : vt_S} {r : Int32} {s : vt_S} (c : vcl O h) (ox0 : O x0) (e : ab_X15_read x0 x1 h = some (r, s)) : vw [1605, 1615, 1616, 1617, 1618, 1619, 1620] [1600, 1601, 1602, 1603, 1604, 1610, 1611, 1612, 1613, 1614] [] O h s := vk_X15_read_0 ox0 ⟨vk.refl h, c⟩ r s e

theorem vk_X17_loadDemo_97 {O : Nat → Prop} {z0 : vt_S} {x0 : Nat} {h : vt_S} (ox0 : O x0) (hs : vw [1415, 1416, 1417, 1605, 1609, 1615, 1616, 1617, 1618, 1619, 1620, 1800, 1807, 1808, 1811, 1812, 1813, 1814] [1408, 1409, 1410, 1411, 1412, 1413, 1600, 1601, 1602, 1603, 1604, 1608, 1610, 1611, 1612, 1613, 1614] [] O z0 h) : vfr (vw [1415, 1416, 1417, 1605, 1609, 1615, 1616, 1617, 1618, 1619, 1620, 1800, 1807, 1808, 1811, 1812, 1813, 1814] [1408, 1409, 1410, 1411, 1412, 1413, 1600, 1601, 1602, 1603, 1604, 1608, 1610, 1611, 1612, 1613, 1614] [] O) z0 (ab_X17_loadDemo_97 x0 h) := by
  unfold ab_X17_loadDemo_97
  refine vr_let (fun _ => ?_)
  exact vr_rt hs
theorem vk_X17_loadDemo_7b {O : Nat → Prop} {z0 : vt_S} {k7 : Nat → Int32 → vt_S → Option (Int32 × vt_S)} (hk7 : ∀ {x0 : Nat} {x1 : Int32} {h : vt_S}, O x0 → vw [1415, 1416, 1417, 1605, 1609, 1615, 1616, 1617, 1618, 1619, 1620, 1800, 1807, 1808, 1811, 1812, 1813, 1814] [1408, 1409, 1410, 1411, 1412, 1413, 1600, 1601, 1602, 1603, 1604, 1608, 1610, 1611, 1612, 1613, 1614] [] O z0 h → vfr (vw [1415, 1416, 1417, 1605, 1609, 1615, 1616, 1617, 1618, 1619, 1620, 1800, 1807, 1808, 1811, 1812, 1813, 1814] [1408, 1409, 1410, 1411, 1412, 1413, 1600, 1601, 1602, 1603, 1604, 1608, 1610, 1611, 1612, 1613, 1614] [] O) z0 (k7 x0 x1 h)) {x0 : Nat} {x1 : Int32} {h : vt_S} (ox0 : O x0) (hs : vw [1415, 1416, 1417, 1605, 1609, 1615, 1616, 1617, 1618, 1619, 1620, 1800, 1807, 1808, 1811, 1812, 1813, 1814] [1408, 1409, 1410, 1411, 1412, 1413, 1600, 1601, 1602, 1603, 1604, 1608, 1610, 1611, 1612, 1613, 1614] [] O z0 h) : vfr (vw [1415, 1416, 1417, 1605, 1609, 1615, 1616, 1617, 1618, 1619, 1620, 1800, 1807, 1808, 1811, 1812, 1813, 1814] [1408, 1409, 1410, 1411, 1412, 1413, 1600, 1601, 1602, 1603, 1604, 1608, 1610, 1611, 1612, 1613, 1614] [] O) z0 (ab_X17_loadDemo_7b k7 x0 x1 h) := by
  unfold ab_X17_loadDemo_7b
  refine vr_gP hs ox0 (fun v1 ov1 => ?_)
  refine vr_let (fun _ => ?_)
  refine vr_if ?_ ?_
  · refine vr_gP hs ox0 (fun v3 ov3 => ?_)
    refine vr_gP hs ox0 (fun v4 ov4 => ?_)
    refine vr_let (fun _ => ?_)
    refine vr_I hs (by decide) ov3 (fun h hs => ?_)
    refine vr_gP hs ox0 (fun v7 ov7 => ?_)
    refine vr_cl (fun _ _ e => (by rw [ve_X17_sectors e]; exact hs)) (fun _ h hs => ?_)
    refine vr_cl (fun _ _ e => (let q := vk_X15_read hs.2 ov7 e; ⟨hs.1.trans (q.1.weak (by decide) (by decide) (by decide)), q.2⟩)) (fun _ h hs => ?_)
    refine vr_I hs (by decide) ox0 (fun h hs => ?_)
    refine vr_gP hs ox0 (fun v13 ov13 => ?_)
    refine vr_let (fun _ => ?_)
    refine vr_I hs (by decide) ox0 (fun h hs => ?_)
    refine vr_let (fun _ => ?_)
    refine vr_if ?_ ?_
    · refine vr_cl (fun _ _ e => (let q := vk_X17_begin hs.2 ox0 e; ⟨hs.1.trans (q.1.weak (by decide) (by decide) (by decide)), q.2⟩)) (fun _ h hs => ?_)
      exact vk_X17_loadDemo_97 ox0 hs
    · exact vk_X17_loadDemo_97 ox0 hs
  · refine vr_gP hs ox0 (fun v18 ov18 => ?_)
    refine vr_gP hs ox0 (fun v20 ov20 => ?_)
    refine vr_bd (fun _ => ?_)
    refine vr_sI hs (by decide) ov18 (fun h hs => ?_)
    exact hk7 ox0 hs
theorem vk_X17_loadDemo_7 {O : Nat → Prop} {z0 : vt_S} : ∀ (n : Nat) {x0 : Nat} {x1 : Int32} {h : vt_S}, O x0 → vw [1415, 1416, 1417, 1605, 1609, 1615, 1616, 1617, 1618, 1619, 1620, 1800, 1807, 1808, 1811, 1812, 1813, 1814] [1408, 1409, 1410, 1411, 1412, 1413, 1600, 1601, 1602, 1603, 1604, 1608, 1610, 1611, 1612, 1613, 1614] [] O z0 h → vfr (vw [1415, 1416, 1417, 1605, 1609, 1615, 1616, 1617, 1618, 1619, 1620, 1800, 1807, 1808, 1811, 1812, 1813, 1814] [1408, 1409, 1410, 1411, 1412, 1413, 1600, 1601, 1602, 1603, 1604, 1608, 1610, 1611, 1612, 1613, 1614] [] O) z0 (ab_X17_loadDemo_7 n x0 x1 h) := by
  intro n
  induction n with
  | zero => intro x0 x1 h ox0 hs; exact vr_no
  | succ n ih => intro x0 x1 h ox0 hs; exact vk_X17_loadDemo_7b (fun ox0 hs => ih ox0 hs) ox0 hs
theorem vk_X17_loadDemo_0 {O : Nat → Prop} {z0 : vt_S} {x0 : Nat} {h : vt_S} (ox0 : O x0) (hs : vw [1415, 1416, 1417, 1605, 1609, 1615, 1616, 1617, 1618, 1619, 1620, 1800, 1807, 1808, 1811, 1812, 1813, 1814] [1408, 1409, 1410, 1411, 1412, 1413, 1600, 1601, 1602, 1603, 1604, 1608, 1610, 1611, 1612, 1613, 1614] [] O z0 h) : vfr (vw [1415, 1416, 1417, 1605, 1609, 1615, 1616, 1617, 1618, 1619, 1620, 1800, 1807, 1808, 1811, 1812, 1813, 1814] [1408, 1409, 1410, 1411, 1412, 1413, 1600, 1601, 1602, 1603, 1604, 1608, 1610, 1611, 1612, 1613, 1614] [] O) z0 (ab_X17_loadDemo x0 h) := by
  unfold ab_X17_loadDemo
  refine vr_I hs (by decide) ox0 (fun h hs => ?_)
  exact vk_X17_loadDemo_7 sv_fuel ox0 hs
theorem vk_X17_loadDemo {O : Nat → Prop} {x0 : Nat} {h : vt_S} {r : Int32} {s : vt_S} (c : vcl O h) (ox0 : O x0) (e : ab_X17_loadDemo x0 h = some (r, s)) : vw [1415, 1416, 1417, 1605, 1609, 1615, 1616, 1617, 1618, 1619, 1620, 1800, 1807, 1808, 1811, 1812, 1813, 1814] [1408, 1409, 1410, 1411, 1412, 1413, 1600, 1601, 1602, 1603, 1604, 1608, 1610, 1611, 1612, 1613, 1614] [] O h s := vk_X17_loadDemo_0 ox0 ⟨vk.refl h, c⟩ r s e

theorem vk_X12_saveMap_0 {O : Nat → Prop} {z0 : vt_S} {x0 : Nat} {h : vt_S} (ox0 : O x0) (hs : vw [101] [100] [100] O z0 h) : vfr (vw [101] [100] [100] O) z0 (ab_X12_saveMap x0 h) := by
  unfold ab_X12_saveMap
  refine vr_cl (fun _ _ e => (by rw [ve_X12_hasMap e]; exact hs)) (fun _ h hs => ?_)
  refine vr_if ?_ ?_
  · exact vr_rt hs
  · refine vr_gP hs ox0 (fun v3 ov3 => ?_)
    refine vr_gP hs ox0 (fun v4 ov4 => ?_)
    refine vr_gP hs ov4 (fun v5 ov5 => ?_)
    refine vr_cl (fun _ _ e => (let q := vk_X0_become hs.2 ov3 ov5 e; ⟨hs.1.trans (q.1.weak (by decide) (by decide) (by decide)), q.2⟩)) (fun _ h hs => ?_)
    refine vr_gP hs ox0 (fun v7 ov7 => ?_)
    refine vr_let (fun _ => ?_)
    exact vr_rt hs
theorem vk_X12_saveMap {O : Nat → Prop} {x0 : Nat} {h : vt_S} {r : Int32} {s : vt_S} (c : vcl O h) (ox0 : O x0) (e : ab_X12_saveMap x0 h = some (r, s)) : vw [101] [100] [100] O h s := vk_X12_saveMap_0 ox0 ⟨vk.refl h, c⟩ r s e

theorem vk_X17_saveMap_27b {O : Nat → Prop} {z0 : vt_S} {k27 : Nat → Int32 → vt_S → Option (Int32 × vt_S)} (hk27 : ∀ {x0 : Nat} {x1 : Int32} {h : vt_S}, O x0 → vw [1800, 1806] [1805] [] O z0 h → vfr (vw [1800, 1806] [1805] [] O) z0 (k27 x0 x1 h)) {x0 : Nat} {x1 : Int32} {h : vt_S} (ox0 : O x0) (hs : vw [1800, 1806] [1805] [] O z0 h) : vfr (vw [1800, 1806] [1805] [] O) z0 (ab_X17_saveMap_27b k27 x0 x1 h) := by
  unfold ab_X17_saveMap_27b
  refine vr_let (fun _ => ?_)
  refine vr_if ?_ ?_
  · refine vr_let (fun _ => ?_)
    exact vr_rt hs
  · refine vr_gP hs ox0 (fun v4 ov4 => ?_)
    refine vr_bd (fun _ => ?_)
    refine vr_sI hs (by decide) ox0 (fun h hs => ?_)
    exact hk27 ox0 hs
theorem vk_X17_saveMap_27 {O : Nat → Prop} {z0 : vt_S} : ∀ (n : Nat) {x0 : Nat} {x1 : Int32} {h : vt_S}, O x0 → vw [1800, 1806] [1805] [] O z0 h → vfr (vw [1800, 1806] [1805] [] O) z0 (ab_X17_saveMap_27 n x0 x1 h) := by
  intro n
  induction n with
  | zero => intro x0 x1 h ox0 hs; exact vr_no
  | succ n ih => intro x0 x1 h ox0 hs; exact vk_X17_saveMap_27b (fun ox0 hs => ih ox0 hs) ox0 hs
theorem vk_X17_saveMap_0 {O : Nat → Prop} {z0 : vt_S} {x0 : Nat} {h : vt_S} (ox0 : O x0) (hs : vw [1800, 1806] [1805] [] O z0 h) : vfr (vw [1800, 1806] [1805] [] O) z0 (ab_X17_saveMap x0 h) := by
  unfold ab_X17_saveMap
  refine vr_I hs (by decide) ox0 (fun h hs => ?_)
  refine vr_let (fun _ => ?_)
  refine vr_if ?_ ?_
  · exact vr_rt hs
  · refine vr_gP hs ox0 (fun v3 ov3 => ?_)
    refine vr_let (fun _ => ?_)
    refine vr_I hs (by decide) ox0 (fun h hs => ?_)
    exact vk_X17_saveMap_27 sv_fuel ox0 hs
theorem vk_X17_saveMap {O : Nat → Prop} {x0 : Nat} {h : vt_S} {r : Int32} {s : vt_S} (c : vcl O h) (ox0 : O x0) (e : ab_X17_saveMap x0 h = some (r, s)) : vw [1800, 1806] [1805] [] O h s := vk_X17_saveMap_0 ox0 ⟨vk.refl h, c⟩ r s e

theorem vk_X0_putPair_0 {O : Nat → Prop} {z0 : vt_S} {x0 : Nat} {x1 : Int32} {h : vt_S} (ox0 : O x0) (hs : vw [101] [100] [100] O z0 h) : vfr (vw [101] [100] [100] O) z0 (ab_X0_putPair x0 x1 h) := by
  unfold ab_X0_putPair
  refine vr_cl (fun _ _ e => (let q := vk_X0_put hs.2 ox0 e; ⟨hs.1.trans (q.1.weak (by decide) (by decide) (by decide)), q.2⟩)) (fun _ h hs => ?_)
  refine vr_cl (fun _ _ e => (let q := vk_X0_put hs.2 ox0 e; ⟨hs.1.trans (q.1.weak (by decide) (by decide) (by decide)), q.2⟩)) (fun _ h hs => ?_)
  exact vr_rt hs
theorem vk_X0_putPair {O : Nat → Prop} {x0 : Nat} {x1 : Int32} {h : vt_S} {r : Unit} {s : vt_S} (c : vcl O h) (ox0 : O x0) (e : ab_X0_putPair x0 x1 h = some (r, s)) : vw [101] [100] [100] O h s := vk_X0_putPair_0 ox0 ⟨vk.refl h, c⟩ r s e

theorem ve_X5_asideOf_0 {z0 : vt_S} {x0 : Int32} {h : vt_S} (hs : veq z0 h) : vfr veq z0 (ab_X5_asideOf x0 h) := by
  unfold ab_X5_asideOf
  exact vr_rt hs
theorem ve_X5_asideOf {x0 : Int32} {h : vt_S} {r : Int32} {s : vt_S} (e : ab_X5_asideOf x0 h = some (r, s)) : s = h := ve_X5_asideOf_0 rfl r s e

theorem ve_X5_turnOf_0 {z0 : vt_S} {x0 : Int32} {h : vt_S} (hs : veq z0 h) : vfr veq z0 (ab_X5_turnOf x0 h) := by
  unfold ab_X5_turnOf
  exact vr_rt hs
theorem ve_X5_turnOf {x0 : Int32} {h : vt_S} {r : Int32} {s : vt_S} (e : ab_X5_turnOf x0 h = some (r, s)) : s = h := ve_X5_turnOf_0 rfl r s e

theorem ve_X5_usesOf_12 {z0 : vt_S} {s0 : Int32} {h : vt_S} (hs : veq z0 h) : vfr veq z0 (ab_X5_usesOf_12 s0 h) := by
  unfold ab_X5_usesOf_12
  exact vr_rz hs
theorem ve_X5_usesOf_0 {z0 : vt_S} {x0 : Int32} {h : vt_S} (hs : veq z0 h) : vfr veq z0 (ab_X5_usesOf x0 h) := by
  unfold ab_X5_usesOf
  refine vr_if ?_ ?_
  · exact ve_X5_usesOf_12 hs
  · exact ve_X5_usesOf_12 hs
theorem ve_X5_usesOf {x0 : Int32} {h : vt_S} {r : Int32} {s : vt_S} (e : ab_X5_usesOf x0 h = some (r, s)) : s = h := ve_X5_usesOf_0 rfl r s e

theorem ve_X5_aheadOf_0 {z0 : vt_S} {x0 : Int32} {h : vt_S} (hs : veq z0 h) : vfr veq z0 (ab_X5_aheadOf x0 h) := by
  unfold ab_X5_aheadOf
  exact vr_rt hs
theorem ve_X5_aheadOf {x0 : Int32} {h : vt_S} {r : Int32} {s : vt_S} (e : ab_X5_aheadOf x0 h = some (r, s)) : s = h := ve_X5_aheadOf_0 rfl r s e

theorem vk_X5_writeGroup_88 {O : Nat → Prop} {z0 : vt_S} {h : vt_S} (hs : vw [101] [100] [100] O z0 h) : vfr (vw [101] [100] [100] O) z0 (ab_X5_writeGroup_88 h) := by
  unfold ab_X5_writeGroup_88
  exact vr_rt hs
theorem vk_X5_writeGroup_47 {O : Nat → Prop} {z0 : vt_S} {x0 : Nat} {x1 : Int32} {x3 : Int32} {s0 : Nat} {s1 : Int32} {s2 : Int32} {h : vt_S} (ox0 : O x0) (os0 : O s0) (hs : vw [101] [100] [100] O z0 h) : vfr (vw [101] [100] [100] O) z0 (ab_X5_writeGroup_47 x0 x1 x3 s0 s1 s2 h) := by
  unfold ab_X5_writeGroup_47
  refine vr_cl (fun _ _ e => (let q := vk_X0_put hs.2 os0 e; ⟨hs.1.trans (q.1.weak (by decide) (by decide) (by decide)), q.2⟩)) (fun _ h hs => ?_)
  refine vr_cl (fun _ _ e => (by rw [ve_X5_aheadOf e]; exact hs)) (fun _ h hs => ?_)
  refine vr_cl (fun _ _ e => (let q := vk_X0_put hs.2 ox0 e; ⟨hs.1.trans (q.1.weak (by decide) (by decide) (by decide)), q.2⟩)) (fun _ h hs => ?_)
  refine vr_if ?_ ?_
  · exact vk_X5_writeGroup_88 hs
  · refine vr_cl (fun _ _ e => (by rw [ve_X5_asideOf e]; exact hs)) (fun _ h hs => ?_)
    refine vr_cl (fun _ _ e => (let q := vk_X0_put hs.2 ox0 e; ⟨hs.1.trans (q.1.weak (by decide) (by decide) (by decide)), q.2⟩)) (fun _ h hs => ?_)
    refine vr_cl (fun _ _ e => (by rw [ve_X5_turnOf e]; exact hs)) (fun _ h hs => ?_)
    refine vr_cl (fun _ _ e => (let q := vk_X0_put hs.2 ox0 e; ⟨hs.1.trans (q.1.weak (by decide) (by decide) (by decide)), q.2⟩)) (fun _ h hs => ?_)
    exact vk_X5_writeGroup_88 hs
theorem vk_X5_writeGroup_35 {O : Nat → Prop} {z0 : vt_S} {x0 : Nat} {x1 : Int32} {x3 : Int32} {s0 : Nat} {s1 : Int32} {s2 : Int32} {h : vt_S} (ox0 : O x0) (os0 : O s0) (hs : vw [101] [100] [100] O z0 h) : vfr (vw [101] [100] [100] O) z0 (ab_X5_writeGroup_35 x0 x1 x3 s0 s1 s2 h) := by
  unfold ab_X5_writeGroup_35
  refine vr_if ?_ ?_
  · exact vk_X5_writeGroup_47 ox0 os0 hs
  · exact vk_X5_writeGroup_47 ox0 os0 hs
theorem vk_X5_writeGroup_19 {O : Nat → Prop} {z0 : vt_S} {x0 : Nat} {x1 : Int32} {x2 : Int32} {s0 : Int32} {h : vt_S} (ox0 : O x0) (hs : vw [101] [100] [100] O z0 h) : vfr (vw [101] [100] [100] O) z0 (ab_X5_writeGroup_19 x0 x1 x2 s0 h) := by
  unfold ab_X5_writeGroup_19
  refine vr_cl (fun _ _ e => (by rw [ve_X5_usesOf e]; exact hs)) (fun _ h hs => ?_)
  refine vr_if ?_ ?_
  · exact vk_X5_writeGroup_35 ox0 ox0 hs
  · exact vk_X5_writeGroup_35 ox0 ox0 hs
theorem vk_X5_writeGroup_14 {O : Nat → Prop} {z0 : vt_S} {x0 : Nat} {x1 : Int32} {x2 : Int32} {h : vt_S} (ox0 : O x0) (hs : vw [101] [100] [100] O z0 h) : vfr (vw [101] [100] [100] O) z0 (ab_X5_writeGroup_14 x0 x1 x2 h) := by
  unfold ab_X5_writeGroup_14
  exact vk_X5_writeGroup_19 ox0 hs
theorem vk_X5_writeGroup_0 {O : Nat → Prop} {z0 : vt_S} {x0 : Nat} {x1 : Int32} {x2 : Int32} {h : vt_S} (ox0 : O x0) (hs : vw [101] [100] [100] O z0 h) : vfr (vw [101] [100] [100] O) z0 (ab_X5_writeGroup x0 x1 x2 h) := by
  unfold ab_X5_writeGroup
  refine vr_cl (fun _ _ e => (by rw [ve_X5_asideOf e]; exact hs)) (fun _ h hs => ?_)
  refine vr_if ?_ ?_
  · refine vr_cl (fun _ _ e => (by rw [ve_X5_turnOf e]; exact hs)) (fun _ h hs => ?_)
    refine vr_if ?_ ?_
    · exact vk_X5_writeGroup_19 ox0 hs
    · exact vk_X5_writeGroup_14 ox0 hs
  · exact vk_X5_writeGroup_14 ox0 hs
theorem vk_X5_writeGroup {O : Nat → Prop} {x0 : Nat} {x1 : Int32} {x2 : Int32} {h : vt_S} {r : Unit} {s : vt_S} (c : vcl O h) (ox0 : O x0) (e : ab_X5_writeGroup x0 x1 x2 h = some (r, s)) : vw [101] [100] [100] O h s := vk_X5_writeGroup_0 ox0 ⟨vk.refl h, c⟩ r s e

theorem vk_X5_write_151b {O : Nat → Prop} {z0 : vt_S} {k151 : Nat → Int64 → Int32 → vt_S → Option (Unit × vt_S)} (hk151 : ∀ {x1 : Nat} {x3 : Int64} {x5 : Int32} {h : vt_S}, O x1 → vw [101] [100] [100] O z0 h → vfr (vw [101] [100] [100] O) z0 (k151 x1 x3 x5 h)) {x1 : Nat} {x3 : Int64} {x5 : Int32} {h : vt_S} (ox1 : O x1) (hs : vw [101] [100] [100] O z0 h) : vfr (vw [101] [100] [100] O) z0 (ab_X5_write_151b k151 x1 x3 x5 h) := by
  unfold ab_X5_write_151b
  refine vr_if ?_ ?_
  · exact vr_rt hs
  · refine vr_cl (fun _ _ e => (let q := vk_X0_put hs.2 ox1 e; ⟨hs.1.trans (q.1.weak (by decide) (by decide) (by decide)), q.2⟩)) (fun _ h hs => ?_)
    exact hk151 ox1 hs
theorem vk_X5_write_151 {O : Nat → Prop} {z0 : vt_S} : ∀ (n : Nat) {x1 : Nat} {x3 : Int64} {x5 : Int32} {h : vt_S}, O x1 → vw [101] [100] [100] O z0 h → vfr (vw [101] [100] [100] O) z0 (ab_X5_write_151 n x1 x3 x5 h) := by
  intro n
  induction n with
  | zero => intro x1 x3 x5 h ox1 hs; exact vr_no
  | succ n ih => intro x1 x3 x5 h ox1 hs; exact vk_X5_write_151b (fun ox1 hs => ih ox1 hs) ox1 hs
theorem vk_X5_write_127 {O : Nat → Prop} {z0 : vt_S} {k70 : Nat → Nat → Int32 → Int32 → vt_S → Option (Unit × vt_S)} (hk70 : ∀ {x0 : Nat} {x1 : Nat} {x2 : Int32} {x3 : Int32} {h : vt_S}, O x0 → O x1 → vw [101] [100] [100] O z0 h → vfr (vw [101] [100] [100] O) z0 (k70 x0 x1 x2 x3 h)) {x0 : Nat} {x1 : Nat} {x2 : Int32} {x3 : Int32} {h : vt_S} (ox0 : O x0) (ox1 : O x1) (hs : vw [101] [100] [100] O z0 h) : vfr (vw [101] [100] [100] O) z0 (ab_X5_write_127 k70 x0 x1 x2 x3 h) := by
  unfold ab_X5_write_127
  exact hk70 ox0 ox1 hs
theorem vk_X5_write_114 {O : Nat → Prop} {z0 : vt_S} {k70 : Nat → Nat → Int32 → Int32 → vt_S → Option (Unit × vt_S)} (hk70 : ∀ {x0 : Nat} {x1 : Nat} {x2 : Int32} {x3 : Int32} {h : vt_S}, O x0 → O x1 → vw [101] [100] [100] O z0 h → vfr (vw [101] [100] [100] O) z0 (k70 x0 x1 x2 x3 h)) {x0 : Nat} {x1 : Nat} {x2 : Int32} {x3 : Int32} {h : vt_S} (ox0 : O x0) (ox1 : O x1) (hs : vw [101] [100] [100] O z0 h) : vfr (vw [101] [100] [100] O) z0 (ab_X5_write_114 k70 x0 x1 x2 x3 h) := by
  unfold ab_X5_write_114
  refine vr_bd (fun _ => ?_)
  refine vr_cl (fun _ _ e => (let q := vk_X5_writeGroup hs.2 ox1 e; ⟨hs.1.trans (q.1.weak (by decide) (by decide) (by decide)), q.2⟩)) (fun _ h hs => ?_)
  exact vk_X5_write_127 hk70 ox0 ox1 hs
theorem vk_X5_write_70b {O : Nat → Prop} {z0 : vt_S} {k70 : Nat → Nat → Int32 → Int32 → vt_S → Option (Unit × vt_S)} (hk70 : ∀ {x0 : Nat} {x1 : Nat} {x2 : Int32} {x3 : Int32} {h : vt_S}, O x0 → O x1 → vw [101] [100] [100] O z0 h → vfr (vw [101] [100] [100] O) z0 (k70 x0 x1 x2 x3 h)) {x0 : Nat} {x1 : Nat} {x2 : Int32} {x3 : Int32} {h : vt_S} (ox0 : O x0) (ox1 : O x1) (hs : vw [101] [100] [100] O z0 h) : vfr (vw [101] [100] [100] O) z0 (ab_X5_write_70b k70 x0 x1 x2 x3 h) := by
  unfold ab_X5_write_70b
  refine vr_let (fun _ => ?_)
  refine vr_if ?_ ?_
  · refine vr_cl (fun _ _ e => (let q := vk_X0_put hs.2 ox1 e; ⟨hs.1.trans (q.1.weak (by decide) (by decide) (by decide)), q.2⟩)) (fun _ h hs => ?_)
    refine vr_let (fun _ => ?_)
    refine vr_cl (fun _ _ e => (by rw [ve_X5_checkOf e]; exact hs)) (fun _ h hs => ?_)
    exact vk_X5_write_151 sv_fuel ox1 hs
  · refine vr_if ?_ ?_
    · exact vk_X5_write_114 hk70 ox0 ox1 hs
    · refine vr_let (fun _ => ?_)
      refine vr_if ?_ ?_
      · exact vk_X5_write_114 hk70 ox0 ox1 hs
      · refine vr_bd (fun _ => ?_)
        refine vr_bd (fun _ => ?_)
        refine vr_if ?_ ?_
        · exact vk_X5_write_127 hk70 ox0 ox1 hs
        · exact vk_X5_write_114 hk70 ox0 ox1 hs
theorem vk_X5_write_70 {O : Nat → Prop} {z0 : vt_S} : ∀ (n : Nat) {x0 : Nat} {x1 : Nat} {x2 : Int32} {x3 : Int32} {h : vt_S}, O x0 → O x1 → vw [101] [100] [100] O z0 h → vfr (vw [101] [100] [100] O) z0 (ab_X5_write_70 n x0 x1 x2 x3 h) := by
  intro n
  induction n with
  | zero => intro x0 x1 x2 x3 h ox0 ox1 hs; exact vr_no
  | succ n ih => intro x0 x1 x2 x3 h ox0 ox1 hs; exact vk_X5_write_70b (fun ox0 ox1 hs => ih ox0 ox1 hs) ox0 ox1 hs
theorem vk_X5_write_0 {O : Nat → Prop} {z0 : vt_S} {x0 : Nat} {x1 : Nat} {h : vt_S} (ox0 : O x0) (ox1 : O x1) (hs : vw [101] [100] [100] O z0 h) : vfr (vw [101] [100] [100] O) z0 (ab_X5_write x0 x1 h) := by
  unfold ab_X5_write
  refine vr_I hs (by decide) ox1 (fun h hs => ?_)
  refine vr_cl (fun _ _ e => (let q := vk_X0_put hs.2 ox1 e; ⟨hs.1.trans (q.1.weak (by decide) (by decide) (by decide)), q.2⟩)) (fun _ h hs => ?_)
  refine vr_cl (fun _ _ e => (let q := vk_X0_put hs.2 ox1 e; ⟨hs.1.trans (q.1.weak (by decide) (by decide) (by decide)), q.2⟩)) (fun _ h hs => ?_)
  refine vr_cl (fun _ _ e => (let q := vk_X0_put hs.2 ox1 e; ⟨hs.1.trans (q.1.weak (by decide) (by decide) (by decide)), q.2⟩)) (fun _ h hs => ?_)
  refine vr_gP hs ox0 (fun v5 ov5 => ?_)
  refine vr_let (fun _ => ?_)
  refine vr_cl (fun _ _ e => (let q := vk_X0_putPair hs.2 ox1 e; ⟨hs.1.trans (q.1.weak (by decide) (by decide) (by decide)), q.2⟩)) (fun _ h hs => ?_)
  refine vr_gP hs ox0 (fun v8 ov8 => ?_)
  refine vr_let (fun _ => ?_)
  refine vr_cl (fun _ _ e => (let q := vk_X0_putPair hs.2 ox1 e; ⟨hs.1.trans (q.1.weak (by decide) (by decide) (by decide)), q.2⟩)) (fun _ h hs => ?_)
  refine vr_gP hs ox0 (fun v11 ov11 => ?_)
  refine vr_let (fun _ => ?_)
  refine vr_cl (fun _ _ e => (let q := vk_X0_put hs.2 ox1 e; ⟨hs.1.trans (q.1.weak (by decide) (by decide) (by decide)), q.2⟩)) (fun _ h hs => ?_)
  refine vr_gP hs ox0 (fun v14 ov14 => ?_)
  refine vr_let (fun _ => ?_)
  refine vr_cl (fun _ _ e => (let q := vk_X0_put hs.2 ox1 e; ⟨hs.1.trans (q.1.weak (by decide) (by decide) (by decide)), q.2⟩)) (fun _ h hs => ?_)
  exact vk_X5_write_70 sv_fuel ox0 ox1 hs
theorem vk_X5_write {O : Nat → Prop} {x0 : Nat} {x1 : Nat} {h : vt_S} {r : Unit} {s : vt_S} (c : vcl O h) (ox0 : O x0) (ox1 : O x1) (e : ab_X5_write x0 x1 h = some (r, s)) : vw [101] [100] [100] O h s := vk_X5_write_0 ox0 ox1 ⟨vk.refl h, c⟩ r s e

theorem vk_X12_saveDemo_0 {O : Nat → Prop} {z0 : vt_S} {x0 : Nat} {h : vt_S} (ox0 : O x0) (hs : vw [101] [100] [100] O z0 h) : vfr (vw [101] [100] [100] O) z0 (ab_X12_saveDemo x0 h) := by
  unfold ab_X12_saveDemo
  refine vr_cl (fun _ _ e => (by rw [ve_X12_hasMap e]; exact hs)) (fun _ h hs => ?_)
  refine vr_if ?_ ?_
  · exact vr_rt hs
  · refine vr_gP hs ox0 (fun v3 ov3 => ?_)
    refine vr_gP hs ox0 (fun v4 ov4 => ?_)
    refine vr_cl (fun _ _ e => (let q := vk_X5_write hs.2 ov3 ov4 e; ⟨hs.1.trans (q.1.weak (by decide) (by decide) (by decide)), q.2⟩)) (fun _ h hs => ?_)
    refine vr_gP hs ox0 (fun v6 ov6 => ?_)
    refine vr_let (fun _ => ?_)
    exact vr_rt hs
theorem vk_X12_saveDemo {O : Nat → Prop} {x0 : Nat} {h : vt_S} {r : Int32} {s : vt_S} (c : vcl O h) (ox0 : O x0) (e : ab_X12_saveDemo x0 h = some (r, s)) : vw [101] [100] [100] O h s := vk_X12_saveDemo_0 ox0 ⟨vk.refl h, c⟩ r s e

theorem vk_X15_put_0 {O : Nat → Prop} {z0 : vt_S} {x0 : Nat} {x1 : Int32} {h : vt_S} (ox0 : O x0) (hs : vw [1607] [1606] [] O z0 h) : vfr (vw [1607] [1606] [] O) z0 (ab_X15_put x0 x1 h) := by
  unfold ab_X15_put
  refine vr_let (fun _ => ?_)
  refine vr_sI hs (by decide) ox0 (fun h hs => ?_)
  refine vr_let (fun _ => ?_)
  refine vr_I hs (by decide) ox0 (fun h hs => ?_)
  exact vr_rt hs
theorem vk_X15_put {O : Nat → Prop} {x0 : Nat} {x1 : Int32} {h : vt_S} {r : Unit} {s : vt_S} (c : vcl O h) (ox0 : O x0) (e : ab_X15_put x0 x1 h = some (r, s)) : vw [1607] [1606] [] O h s := vk_X15_put_0 ox0 ⟨vk.refl h, c⟩ r s e

theorem ve_X15_run_92 {z0 : vt_S} {x2 : Int32} {h : vt_S} (hs : veq z0 h) : vfr veq z0 (ab_X15_run_92 x2 h) := by
  unfold ab_X15_run_92
  exact vr_rt hs
theorem ve_X15_run_2b {z0 : vt_S} {k2 : Nat → Int32 → Int32 → vt_S → Option (Int32 × vt_S)} (hk2 : ∀ {x0 : Nat} {x1 : Int32} {x2 : Int32} {h : vt_S}, veq z0 h → vfr veq z0 (k2 x0 x1 x2 h)) {x0 : Nat} {x1 : Int32} {x2 : Int32} {h : vt_S} (hs : veq z0 h) : vfr veq z0 (ab_X15_run_2b k2 x0 x1 x2 h) := by
  unfold ab_X15_run_2b
  refine vr_if ?_ ?_
  · exact ve_X15_run_92 hs
  · refine vr_let (fun _ => ?_)
    refine vr_if ?_ ?_
    · exact ve_X15_run_92 hs
    · refine vr_bd (fun _ => ?_)
      refine vr_bd (fun _ => ?_)
      refine vr_if ?_ ?_
      · refine vr_bd (fun _ => ?_)
        refine vr_bd (fun _ => ?_)
        refine vr_if ?_ ?_
        · refine vr_bd (fun _ => ?_)
          refine vr_bd (fun _ => ?_)
          refine vr_if ?_ ?_
          · refine vr_bd (fun _ => ?_)
            refine vr_bd (fun _ => ?_)
            refine vr_if ?_ ?_
            · exact hk2 hs
            · exact ve_X15_run_92 hs
          · exact ve_X15_run_92 hs
        · exact ve_X15_run_92 hs
      · exact ve_X15_run_92 hs
theorem ve_X15_run_2 {z0 : vt_S} : ∀ (n : Nat) {x0 : Nat} {x1 : Int32} {x2 : Int32} {h : vt_S}, veq z0 h → vfr veq z0 (ab_X15_run_2 n x0 x1 x2 h) := by
  intro n
  induction n with
  | zero => intro x0 x1 x2 h hs; exact vr_no
  | succ n ih => intro x0 x1 x2 h hs; exact ve_X15_run_2b (fun hs => ih hs) hs
theorem ve_X15_run_0 {z0 : vt_S} {x0 : Nat} {x1 : Int32} {h : vt_S} (hs : veq z0 h) : vfr veq z0 (ab_X15_run x0 x1 h) := by
  unfold ab_X15_run
  exact ve_X15_run_2 sv_fuel hs
theorem ve_X15_run {x0 : Nat} {x1 : Int32} {h : vt_S} {r : Int32} {s : vt_S} (e : ab_X15_run x0 x1 h = some (r, s)) : s = h := ve_X15_run_0 rfl r s e

theorem ve_X15_checkByte_36 {z0 : vt_S} {s0 : Int32} {h : vt_S} (hs : veq z0 h) : vfr veq z0 (ab_X15_checkByte_36 s0 h) := by
  unfold ab_X15_checkByte_36
  exact vr_rt hs
theorem ve_X15_checkByte_16 {z0 : vt_S} {x1 : Int32} {s0 : Int32} {h : vt_S} (hs : veq z0 h) : vfr veq z0 (ab_X15_checkByte_16 x1 s0 h) := by
  unfold ab_X15_checkByte_16
  refine vr_if ?_ ?_
  · exact ve_X15_checkByte_36 hs
  · exact ve_X15_checkByte_36 hs
theorem ve_X15_checkByte_0 {z0 : vt_S} {x0 : Nat} {x1 : Int32} {h : vt_S} (hs : veq z0 h) : vfr veq z0 (ab_X15_checkByte x0 x1 h) := by
  unfold ab_X15_checkByte
  refine vr_if ?_ ?_
  · refine vr_let (fun _ => ?_)
    exact ve_X15_checkByte_16 hs
  · refine vr_let (fun _ => ?_)
    exact ve_X15_checkByte_16 hs
theorem ve_X15_checkByte {x0 : Nat} {x1 : Int32} {h : vt_S} {r : Int32} {s : vt_S} (e : ab_X15_checkByte x0 x1 h = some (r, s)) : s = h := ve_X15_checkByte_0 rfl r s e

theorem vk_X15_write_244b {O : Nat → Prop} {z0 : vt_S} {k244 : Nat → Int32 → vt_S → Option (Int32 × vt_S)} (hk244 : ∀ {x0 : Nat} {x2 : Int32} {h : vt_S}, O x0 → vw [1607, 1619, 1620] [1606] [] O z0 h → vfr (vw [1607, 1619, 1620] [1606] [] O) z0 (k244 x0 x2 h)) {x0 : Nat} {x2 : Int32} {h : vt_S} (ox0 : O x0) (hs : vw [1607, 1619, 1620] [1606] [] O z0 h) : vfr (vw [1607, 1619, 1620] [1606] [] O) z0 (ab_X15_write_244b k244 x0 x2 h) := by
  unfold ab_X15_write_244b
  refine vr_if ?_ ?_
  · refine vr_let (fun _ => ?_)
    exact vr_rt hs
  · refine vr_cl (fun _ _ e => (by rw [ve_X15_checkByte e]; exact hs)) (fun _ h hs => ?_)
    refine vr_cl (fun _ _ e => (let q := vk_X15_put hs.2 ox0 e; ⟨hs.1.trans (q.1.weak (by decide) (by decide) (by decide)), q.2⟩)) (fun _ h hs => ?_)
    exact hk244 ox0 hs
theorem vk_X15_write_244 {O : Nat → Prop} {z0 : vt_S} : ∀ (n : Nat) {x0 : Nat} {x2 : Int32} {h : vt_S}, O x0 → vw [1607, 1619, 1620] [1606] [] O z0 h → vfr (vw [1607, 1619, 1620] [1606] [] O) z0 (ab_X15_write_244 n x0 x2 h) := by
  intro n
  induction n with
  | zero => intro x0 x2 h ox0 hs; exact vr_no
  | succ n ih => intro x0 x2 h ox0 hs; exact vk_X15_write_244b (fun ox0 hs => ih ox0 hs) ox0 hs
theorem vk_X15_write_218b {O : Nat → Prop} {z0 : vt_S} {k218 : Nat → Int32 → vt_S → Option (Int32 × vt_S)} (hk218 : ∀ {x0 : Nat} {x2 : Int32} {h : vt_S}, O x0 → vw [1607, 1619, 1620] [1606] [] O z0 h → vfr (vw [1607, 1619, 1620] [1606] [] O) z0 (k218 x0 x2 h)) {x0 : Nat} {x2 : Int32} {h : vt_S} (ox0 : O x0) (hs : vw [1607, 1619, 1620] [1606] [] O z0 h) : vfr (vw [1607, 1619, 1620] [1606] [] O) z0 (ab_X15_write_218b k218 x0 x2 h) := by
  unfold ab_X15_write_218b
  refine vr_let (fun _ => ?_)
  refine vr_if ?_ ?_
  · exact vk_X15_write_244 sv_fuel ox0 hs
  · refine vr_bd (fun _ => ?_)
    refine vr_cl (fun _ _ e => (let q := vk_X15_sum hs.2 ox0 e; ⟨hs.1.trans (q.1.weak (by decide) (by decide) (by decide)), q.2⟩)) (fun _ h hs => ?_)
    exact hk218 ox0 hs
theorem vk_X15_write_218 {O : Nat → Prop} {z0 : vt_S} : ∀ (n : Nat) {x0 : Nat} {x2 : Int32} {h : vt_S}, O x0 → vw [1607, 1619, 1620] [1606] [] O z0 h → vfr (vw [1607, 1619, 1620] [1606] [] O) z0 (ab_X15_write_218 n x0 x2 h) := by
  intro n
  induction n with
  | zero => intro x0 x2 h ox0 hs; exact vr_no
  | succ n ih => intro x0 x2 h ox0 hs; exact vk_X15_write_218b (fun ox0 hs => ih ox0 hs) ox0 hs
theorem vk_X15_write_194 {O : Nat → Prop} {z0 : vt_S} {k80 : Nat → Int32 → vt_S → Option (Int32 × vt_S)} (hk80 : ∀ {x0 : Nat} {x1 : Int32} {h : vt_S}, O x0 → vw [1607, 1619, 1620] [1606] [] O z0 h → vfr (vw [1607, 1619, 1620] [1606] [] O) z0 (k80 x0 x1 h)) {x0 : Nat} {x1 : Int32} {x2 : Int32} {h : vt_S} (ox0 : O x0) (hs : vw [1607, 1619, 1620] [1606] [] O z0 h) : vfr (vw [1607, 1619, 1620] [1606] [] O) z0 (ab_X15_write_194 k80 x0 x1 x2 h) := by
  unfold ab_X15_write_194
  exact hk80 ox0 hs
theorem vk_X15_write_147 {O : Nat → Prop} {z0 : vt_S} {k80 : Nat → Int32 → vt_S → Option (Int32 × vt_S)} (hk80 : ∀ {x0 : Nat} {x1 : Int32} {h : vt_S}, O x0 → vw [1607, 1619, 1620] [1606] [] O z0 h → vfr (vw [1607, 1619, 1620] [1606] [] O) z0 (k80 x0 x1 h)) {x0 : Nat} {x1 : Int32} {x2 : Int32} {x3 : Int32} {s0 : Nat} {s1 : Int32} {s2 : Int32} {h : vt_S} (ox0 : O x0) (os0 : O s0) (hs : vw [1607, 1619, 1620] [1606] [] O z0 h) : vfr (vw [1607, 1619, 1620] [1606] [] O) z0 (ab_X15_write_147 k80 x0 x1 x2 x3 s0 s1 s2 h) := by
  unfold ab_X15_write_147
  refine vr_cl (fun _ _ e => (let q := vk_X15_put hs.2 os0 e; ⟨hs.1.trans (q.1.weak (by decide) (by decide) (by decide)), q.2⟩)) (fun _ h hs => ?_)
  refine vr_bd (fun _ => ?_)
  refine vr_cl (fun _ _ e => (let q := vk_X15_put hs.2 ox0 e; ⟨hs.1.trans (q.1.weak (by decide) (by decide) (by decide)), q.2⟩)) (fun _ h hs => ?_)
  refine vr_if ?_ ?_
  · exact vk_X15_write_194 hk80 ox0 hs
  · refine vr_bd (fun _ => ?_)
    refine vr_cl (fun _ _ e => (let q := vk_X15_put hs.2 ox0 e; ⟨hs.1.trans (q.1.weak (by decide) (by decide) (by decide)), q.2⟩)) (fun _ h hs => ?_)
    refine vr_bd (fun _ => ?_)
    refine vr_cl (fun _ _ e => (let q := vk_X15_put hs.2 ox0 e; ⟨hs.1.trans (q.1.weak (by decide) (by decide) (by decide)), q.2⟩)) (fun _ h hs => ?_)
    exact vk_X15_write_194 hk80 ox0 hs
theorem vk_X15_write_135 {O : Nat → Prop} {z0 : vt_S} {k80 : Nat → Int32 → vt_S → Option (Int32 × vt_S)} (hk80 : ∀ {x0 : Nat} {x1 : Int32} {h : vt_S}, O x0 → vw [1607, 1619, 1620] [1606] [] O z0 h → vfr (vw [1607, 1619, 1620] [1606] [] O) z0 (k80 x0 x1 h)) {x0 : Nat} {x1 : Int32} {x2 : Int32} {x3 : Int32} {s0 : Nat} {s1 : Int32} {s2 : Int32} {h : vt_S} (ox0 : O x0) (os0 : O s0) (hs : vw [1607, 1619, 1620] [1606] [] O z0 h) : vfr (vw [1607, 1619, 1620] [1606] [] O) z0 (ab_X15_write_135 k80 x0 x1 x2 x3 s0 s1 s2 h) := by
  unfold ab_X15_write_135
  refine vr_if ?_ ?_
  · exact vk_X15_write_147 hk80 ox0 os0 hs
  · exact vk_X15_write_147 hk80 ox0 os0 hs
theorem vk_X15_write_117 {O : Nat → Prop} {z0 : vt_S} {k80 : Nat → Int32 → vt_S → Option (Int32 × vt_S)} (hk80 : ∀ {x0 : Nat} {x1 : Int32} {h : vt_S}, O x0 → vw [1607, 1619, 1620] [1606] [] O z0 h → vfr (vw [1607, 1619, 1620] [1606] [] O) z0 (k80 x0 x1 h)) {x0 : Nat} {x1 : Int32} {x2 : Int32} {s0 : Int32} {h : vt_S} (ox0 : O x0) (hs : vw [1607, 1619, 1620] [1606] [] O z0 h) : vfr (vw [1607, 1619, 1620] [1606] [] O) z0 (ab_X15_write_117 k80 x0 x1 x2 s0 h) := by
  unfold ab_X15_write_117
  refine vr_bd (fun _ => ?_)
  refine vr_if ?_ ?_
  · exact vk_X15_write_135 hk80 ox0 ox0 hs
  · exact vk_X15_write_135 hk80 ox0 ox0 hs
theorem vk_X15_write_112 {O : Nat → Prop} {z0 : vt_S} {k80 : Nat → Int32 → vt_S → Option (Int32 × vt_S)} (hk80 : ∀ {x0 : Nat} {x1 : Int32} {h : vt_S}, O x0 → vw [1607, 1619, 1620] [1606] [] O z0 h → vfr (vw [1607, 1619, 1620] [1606] [] O) z0 (k80 x0 x1 h)) {x0 : Nat} {x1 : Int32} {x2 : Int32} {h : vt_S} (ox0 : O x0) (hs : vw [1607, 1619, 1620] [1606] [] O z0 h) : vfr (vw [1607, 1619, 1620] [1606] [] O) z0 (ab_X15_write_112 k80 x0 x1 x2 h) := by
  unfold ab_X15_write_112
  exact vk_X15_write_117 hk80 ox0 hs
theorem vk_X15_write_80b {O : Nat → Prop} {z0 : vt_S} {k80 : Nat → Int32 → vt_S → Option (Int32 × vt_S)} (hk80 : ∀ {x0 : Nat} {x1 : Int32} {h : vt_S}, O x0 → vw [1607, 1619, 1620] [1606] [] O z0 h → vfr (vw [1607, 1619, 1620] [1606] [] O) z0 (k80 x0 x1 h)) {x0 : Nat} {x1 : Int32} {h : vt_S} (ox0 : O x0) (hs : vw [1607, 1619, 1620] [1606] [] O z0 h) : vfr (vw [1607, 1619, 1620] [1606] [] O) z0 (ab_X15_write_80b k80 x0 x1 h) := by
  unfold ab_X15_write_80b
  refine vr_let (fun _ => ?_)
  refine vr_if ?_ ?_
  · refine vr_cl (fun _ _ e => (let q := vk_X15_put hs.2 ox0 e; ⟨hs.1.trans (q.1.weak (by decide) (by decide) (by decide)), q.2⟩)) (fun _ h hs => ?_)
    refine vr_I hs (by decide) ox0 (fun h hs => ?_)
    refine vr_I hs (by decide) ox0 (fun h hs => ?_)
    exact vk_X15_write_218 sv_fuel ox0 hs
  · refine vr_cl (fun _ _ e => (by rw [ve_X15_run e]; exact hs)) (fun _ h hs => ?_)
    refine vr_bd (fun _ => ?_)
    refine vr_if ?_ ?_
    · refine vr_bd (fun _ => ?_)
      refine vr_if ?_ ?_
      · exact vk_X15_write_117 hk80 ox0 hs
      · exact vk_X15_write_112 hk80 ox0 hs
    · exact vk_X15_write_112 hk80 ox0 hs
theorem vk_X15_write_80 {O : Nat → Prop} {z0 : vt_S} : ∀ (n : Nat) {x0 : Nat} {x1 : Int32} {h : vt_S}, O x0 → vw [1607, 1619, 1620] [1606] [] O z0 h → vfr (vw [1607, 1619, 1620] [1606] [] O) z0 (ab_X15_write_80 n x0 x1 h) := by
  intro n
  induction n with
  | zero => intro x0 x1 h ox0 hs; exact vr_no
  | succ n ih => intro x0 x1 h ox0 hs; exact vk_X15_write_80b (fun ox0 hs => ih ox0 hs) ox0 hs
theorem vk_X15_write_24b {O : Nat → Prop} {z0 : vt_S} {k24 : Nat → Int32 → vt_S → Option (Int32 × vt_S)} (hk24 : ∀ {x0 : Nat} {x1 : Int32} {h : vt_S}, O x0 → vw [1607, 1619, 1620] [1606] [] O z0 h → vfr (vw [1607, 1619, 1620] [1606] [] O) z0 (k24 x0 x1 h)) {x0 : Nat} {x1 : Int32} {h : vt_S} (ox0 : O x0) (hs : vw [1607, 1619, 1620] [1606] [] O z0 h) : vfr (vw [1607, 1619, 1620] [1606] [] O) z0 (ab_X15_write_24b k24 x0 x1 h) := by
  unfold ab_X15_write_24b
  refine vr_if ?_ ?_
  · refine vr_bd (fun _ => ?_)
    refine vr_cl (fun _ _ e => (let q := vk_X15_put hs.2 ox0 e; ⟨hs.1.trans (q.1.weak (by decide) (by decide) (by decide)), q.2⟩)) (fun _ h hs => ?_)
    refine vr_bd (fun _ => ?_)
    refine vr_cl (fun _ _ e => (let q := vk_X15_put hs.2 ox0 e; ⟨hs.1.trans (q.1.weak (by decide) (by decide) (by decide)), q.2⟩)) (fun _ h hs => ?_)
    exact vk_X15_write_80 sv_fuel ox0 hs
  · refine vr_bd (fun _ => ?_)
    refine vr_cl (fun _ _ e => (let q := vk_X15_put hs.2 ox0 e; ⟨hs.1.trans (q.1.weak (by decide) (by decide) (by decide)), q.2⟩)) (fun _ h hs => ?_)
    refine vr_bd (fun _ => ?_)
    refine vr_cl (fun _ _ e => (let q := vk_X15_put hs.2 ox0 e; ⟨hs.1.trans (q.1.weak (by decide) (by decide) (by decide)), q.2⟩)) (fun _ h hs => ?_)
    exact hk24 ox0 hs
theorem vk_X15_write_24 {O : Nat → Prop} {z0 : vt_S} : ∀ (n : Nat) {x0 : Nat} {x1 : Int32} {h : vt_S}, O x0 → vw [1607, 1619, 1620] [1606] [] O z0 h → vfr (vw [1607, 1619, 1620] [1606] [] O) z0 (ab_X15_write_24 n x0 x1 h) := by
  intro n
  induction n with
  | zero => intro x0 x1 h ox0 hs; exact vr_no
  | succ n ih => intro x0 x1 h ox0 hs; exact vk_X15_write_24b (fun ox0 hs => ih ox0 hs) ox0 hs
theorem vk_X15_write_0 {O : Nat → Prop} {z0 : vt_S} {x0 : Nat} {h : vt_S} (ox0 : O x0) (hs : vw [1607, 1619, 1620] [1606] [] O z0 h) : vfr (vw [1607, 1619, 1620] [1606] [] O) z0 (ab_X15_write x0 h) := by
  unfold ab_X15_write
  refine vr_I hs (by decide) ox0 (fun h hs => ?_)
  refine vr_cl (fun _ _ e => (let q := vk_X15_put hs.2 ox0 e; ⟨hs.1.trans (q.1.weak (by decide) (by decide) (by decide)), q.2⟩)) (fun _ h hs => ?_)
  refine vr_cl (fun _ _ e => (let q := vk_X15_put hs.2 ox0 e; ⟨hs.1.trans (q.1.weak (by decide) (by decide) (by decide)), q.2⟩)) (fun _ h hs => ?_)
  refine vr_cl (fun _ _ e => (let q := vk_X15_put hs.2 ox0 e; ⟨hs.1.trans (q.1.weak (by decide) (by decide) (by decide)), q.2⟩)) (fun _ h hs => ?_)
  exact vk_X15_write_24 sv_fuel ox0 hs
theorem vk_X15_write {O : Nat → Prop} {x0 : Nat} {h : vt_S} {r : Int32} {s : vt_S} (c : vcl O h) (ox0 : O x0) (e : ab_X15_write x0 h = some (r, s)) : vw [1607, 1619, 1620] [1606] [] O h s := vk_X15_write_0 ox0 ⟨vk.refl h, c⟩ r s e

theorem vk_X17_saveDemo_27b {O : Nat → Prop} {z0 : vt_S} {k27 : Nat → Int32 → vt_S → Option (Int32 × vt_S)} (hk27 : ∀ {x0 : Nat} {x1 : Int32} {h : vt_S}, O x0 → vw [1607, 1619, 1620, 1800, 1806] [1606, 1805] [] O z0 h → vfr (vw [1607, 1619, 1620, 1800, 1806] [1606, 1805] [] O) z0 (k27 x0 x1 h)) {x0 : Nat} {x1 : Int32} {h : vt_S} (ox0 : O x0) (hs : vw [1607, 1619, 1620, 1800, 1806] [1606, 1805] [] O z0 h) : vfr (vw [1607, 1619, 1620, 1800, 1806] [1606, 1805] [] O) z0 (ab_X17_saveDemo_27b k27 x0 x1 h) := by
  unfold ab_X17_saveDemo_27b
  refine vr_let (fun _ => ?_)
  refine vr_if ?_ ?_
  · refine vr_let (fun _ => ?_)
    exact vr_rt hs
  · refine vr_gP hs ox0 (fun v4 ov4 => ?_)
    refine vr_bd (fun _ => ?_)
    refine vr_sI hs (by decide) ox0 (fun h hs => ?_)
    exact hk27 ox0 hs
theorem vk_X17_saveDemo_27 {O : Nat → Prop} {z0 : vt_S} : ∀ (n : Nat) {x0 : Nat} {x1 : Int32} {h : vt_S}, O x0 → vw [1607, 1619, 1620, 1800, 1806] [1606, 1805] [] O z0 h → vfr (vw [1607, 1619, 1620, 1800, 1806] [1606, 1805] [] O) z0 (ab_X17_saveDemo_27 n x0 x1 h) := by
  intro n
  induction n with
  | zero => intro x0 x1 h ox0 hs; exact vr_no
  | succ n ih => intro x0 x1 h ox0 hs; exact vk_X17_saveDemo_27b (fun ox0 hs => ih ox0 hs) ox0 hs
theorem vk_X17_saveDemo_0 {O : Nat → Prop} {z0 : vt_S} {x0 : Nat} {h : vt_S} (ox0 : O x0) (hs : vw [1607, 1619, 1620, 1800, 1806] [1606, 1805] [] O z0 h) : vfr (vw [1607, 1619, 1620, 1800, 1806] [1606, 1805] [] O) z0 (ab_X17_saveDemo x0 h) := by
  unfold ab_X17_saveDemo
  refine vr_I hs (by decide) ox0 (fun h hs => ?_)
  refine vr_let (fun _ => ?_)
  refine vr_if ?_ ?_
  · exact vr_rt hs
  · refine vr_gP hs ox0 (fun v3 ov3 => ?_)
    refine vr_cl (fun _ _ e => (let q := vk_X15_write hs.2 ov3 e; ⟨hs.1.trans (q.1.weak (by decide) (by decide) (by decide)), q.2⟩)) (fun _ h hs => ?_)
    refine vr_I hs (by decide) ox0 (fun h hs => ?_)
    exact vk_X17_saveDemo_27 sv_fuel ox0 hs
theorem vk_X17_saveDemo {O : Nat → Prop} {x0 : Nat} {h : vt_S} {r : Int32} {s : vt_S} (c : vcl O h) (ox0 : O x0) (e : ab_X17_saveDemo x0 h = some (r, s)) : vw [1607, 1619, 1620, 1800, 1806] [1606, 1805] [] O h s := vk_X17_saveDemo_0 ox0 ⟨vk.refl h, c⟩ r s e

theorem vk_X12_turnBytes_0 {O : Nat → Prop} {z0 : vt_S} {x0 : Nat} {h : vt_S} (ox0 : O x0) (hs : vw [101] [100] [100] O z0 h) : vfr (vw [101] [100] [100] O) z0 (ab_X12_turnBytes x0 h) := by
  unfold ab_X12_turnBytes
  refine vr_gP hs ox0 (fun v1 ov1 => ?_)
  refine vr_gP hs ox0 (fun v2 ov2 => ?_)
  refine vr_cl (fun _ _ e => (let q := vk_X0_become hs.2 ov1 ov2 e; ⟨hs.1.trans (q.1.weak (by decide) (by decide) (by decide)), q.2⟩)) (fun _ h hs => ?_)
  exact vr_rt hs
theorem vk_X12_turnBytes {O : Nat → Prop} {x0 : Nat} {h : vt_S} {r : Unit} {s : vt_S} (c : vcl O h) (ox0 : O x0) (e : ab_X12_turnBytes x0 h = some (r, s)) : vw [101] [100] [100] O h s := vk_X12_turnBytes_0 ox0 ⟨vk.refl h, c⟩ r s e

theorem vk_X17_turnBytes_18b {O : Nat → Prop} {z0 : vt_S} {k18 : Nat → Int32 → vt_S → Option (Unit × vt_S)} (hk18 : ∀ {x0 : Nat} {x1 : Int32} {h : vt_S}, O x0 → vw [1501, 1800] [1500] [] O z0 h → vfr (vw [1501, 1800] [1500] [] O) z0 (k18 x0 x1 h)) {x0 : Nat} {x1 : Int32} {h : vt_S} (ox0 : O x0) (hs : vw [1501, 1800] [1500] [] O z0 h) : vfr (vw [1501, 1800] [1500] [] O) z0 (ab_X17_turnBytes_18b k18 x0 x1 h) := by
  unfold ab_X17_turnBytes_18b
  refine vr_let (fun _ => ?_)
  refine vr_if ?_ ?_
  · exact vr_rt hs
  · refine vr_gP hs ox0 (fun v2 ov2 => ?_)
    refine vr_bd (fun _ => ?_)
    refine vr_sI hs (by decide) ov2 (fun h hs => ?_)
    exact hk18 ox0 hs
theorem vk_X17_turnBytes_18 {O : Nat → Prop} {z0 : vt_S} : ∀ (n : Nat) {x0 : Nat} {x1 : Int32} {h : vt_S}, O x0 → vw [1501, 1800] [1500] [] O z0 h → vfr (vw [1501, 1800] [1500] [] O) z0 (ab_X17_turnBytes_18 n x0 x1 h) := by
  intro n
  induction n with
  | zero => intro x0 x1 h ox0 hs; exact vr_no
  | succ n ih => intro x0 x1 h ox0 hs; exact vk_X17_turnBytes_18b (fun ox0 hs => ih ox0 hs) ox0 hs
theorem vk_X17_turnBytes_0 {O : Nat → Prop} {z0 : vt_S} {x0 : Nat} {h : vt_S} (ox0 : O x0) (hs : vw [1501, 1800] [1500] [] O z0 h) : vfr (vw [1501, 1800] [1500] [] O) z0 (ab_X17_turnBytes x0 h) := by
  unfold ab_X17_turnBytes
  refine vr_I hs (by decide) ox0 (fun h hs => ?_)
  refine vr_gP hs ox0 (fun v2 ov2 => ?_)
  refine vr_let (fun _ => ?_)
  refine vr_I hs (by decide) ov2 (fun h hs => ?_)
  exact vk_X17_turnBytes_18 sv_fuel ox0 hs
theorem vk_X17_turnBytes {O : Nat → Prop} {x0 : Nat} {h : vt_S} {r : Unit} {s : vt_S} (c : vcl O h) (ox0 : O x0) (e : ab_X17_turnBytes x0 h = some (r, s)) : vw [1501, 1800] [1500] [] O h s := vk_X17_turnBytes_0 ox0 ⟨vk.refl h, c⟩ r s e

theorem ve_X12_isPlace_33 {z0 : vt_S} {s0 : Int32} {h : vt_S} (hs : veq z0 h) : vfr veq z0 (ab_X12_isPlace_33 s0 h) := by
  unfold ab_X12_isPlace_33
  exact vr_rz hs
theorem ve_X12_isPlace_32 {z0 : vt_S} {h : vt_S} (hs : veq z0 h) : vfr veq z0 (ab_X12_isPlace_32 h) := by
  unfold ab_X12_isPlace_32
  exact ve_X12_isPlace_33 hs
theorem ve_X12_isPlace_0 {z0 : vt_S} {x0 : Int32} {x1 : Int32} {h : vt_S} (hs : veq z0 h) : vfr veq z0 (ab_X12_isPlace x0 x1 h) := by
  unfold ab_X12_isPlace
  refine vr_if ?_ ?_
  · exact ve_X12_isPlace_32 hs
  · refine vr_if ?_ ?_
    · exact ve_X12_isPlace_32 hs
    · refine vr_if ?_ ?_
      · exact ve_X12_isPlace_32 hs
      · refine vr_if ?_ ?_
        · exact ve_X12_isPlace_32 hs
        · exact ve_X12_isPlace_33 hs
theorem ve_X12_isPlace {x0 : Int32} {x1 : Int32} {h : vt_S} {r : Int32} {s : vt_S} (e : ab_X12_isPlace x0 x1 h = some (r, s)) : s = h := ve_X12_isPlace_0 rfl r s e

theorem ve_X12_isSector_20 {z0 : vt_S} {s0 : Int32} {h : vt_S} (hs : veq z0 h) : vfr veq z0 (ab_X12_isSector_20 s0 h) := by
  unfold ab_X12_isSector_20
  exact vr_rz hs
theorem ve_X12_isSector_19 {z0 : vt_S} {h : vt_S} (hs : veq z0 h) : vfr veq z0 (ab_X12_isSector_19 h) := by
  unfold ab_X12_isSector_19
  exact ve_X12_isSector_20 hs
theorem ve_X12_isSector_0 {z0 : vt_S} {x0 : Nat} {x1 : Int32} {h : vt_S} (hs : veq z0 h) : vfr veq z0 (ab_X12_isSector x0 x1 h) := by
  unfold ab_X12_isSector
  refine vr_if ?_ ?_
  · exact ve_X12_isSector_19 hs
  · refine vr_let (fun _ => ?_)
    refine vr_let (fun _ => ?_)
    refine vr_if ?_ ?_
    · exact ve_X12_isSector_19 hs
    · exact ve_X12_isSector_20 hs
theorem ve_X12_isSector {x0 : Nat} {x1 : Int32} {h : vt_S} {r : Int32} {s : vt_S} (e : ab_X12_isSector x0 x1 h = some (r, s)) : s = h := ve_X12_isSector_0 rfl r s e

theorem vk_X12_startAt_34 {O : Nat → Prop} {z0 : vt_S} {h : vt_S} (hs : vw [707, 708, 709, 710, 711, 800, 801, 802, 803, 1101, 1102, 1103, 1104, 1105, 1106] [] [] O z0 h) : vfr (vw [707, 708, 709, 710, 711, 800, 801, 802, 803, 1101, 1102, 1103, 1104, 1105, 1106] [] [] O) z0 (ab_X12_startAt_34 h) := by
  unfold ab_X12_startAt_34
  exact vr_rt hs
theorem vk_X12_startAt_0 {O : Nat → Prop} {z0 : vt_S} {x0 : Nat} {x1 : Int32} {x2 : Int32} {x3 : Int32} {x4 : Int32} {h : vt_S} (ox0 : O x0) (hs : vw [707, 708, 709, 710, 711, 800, 801, 802, 803, 1101, 1102, 1103, 1104, 1105, 1106] [] [] O z0 h) : vfr (vw [707, 708, 709, 710, 711, 800, 801, 802, 803, 1101, 1102, 1103, 1104, 1105, 1106] [] [] O) z0 (ab_X12_startAt x0 x1 x2 x3 x4 h) := by
  unfold ab_X12_startAt
  refine vr_cl (fun _ _ e => (by rw [ve_X12_hasMap e]; exact hs)) (fun _ h hs => ?_)
  refine vr_if ?_ ?_
  · exact vk_X12_startAt_34 hs
  · refine vr_cl (fun _ _ e => (by rw [ve_X12_isPlace e]; exact hs)) (fun _ h hs => ?_)
    refine vr_if ?_ ?_
    · exact vk_X12_startAt_34 hs
    · refine vr_if ?_ ?_
      · exact vk_X12_startAt_34 hs
      · refine vr_if ?_ ?_
        · exact vk_X12_startAt_34 hs
        · refine vr_cl (fun _ _ e => (by rw [ve_X12_isSector e]; exact hs)) (fun _ h hs => ?_)
          refine vr_if ?_ ?_
          · exact vk_X12_startAt_34 hs
          · refine vr_gP hs ox0 (fun v7 ov7 => ?_)
            refine vr_gP hs ov7 (fun v8 ov8 => ?_)
            refine vr_cl (fun _ _ e => (let q := vk_X7_put hs.2 ov8 e; ⟨hs.1.trans (q.1.weak (by decide) (by decide) (by decide)), q.2⟩)) (fun _ h hs => ?_)
            refine vr_gP hs ox0 (fun v10 ov10 => ?_)
            refine vr_gP hs ox0 (fun v11 ov11 => ?_)
            refine vr_gP hs ox0 (fun v12 ov12 => ?_)
            refine vr_gP hs ov12 (fun v13 ov13 => ?_)
            refine vr_cl (fun _ _ e => (let q := vk_X10_begin hs.2 ov10 ov11 ov13 e; ⟨hs.1.trans (q.1.weak (by decide) (by decide) (by decide)), q.2⟩)) (fun _ h hs => ?_)
            exact vr_rt hs
theorem vk_X12_startAt {O : Nat → Prop} {x0 : Nat} {x1 : Int32} {x2 : Int32} {x3 : Int32} {x4 : Int32} {h : vt_S} {r : Int32} {s : vt_S} (c : vcl O h) (ox0 : O x0) (e : ab_X12_startAt x0 x1 x2 x3 x4 h = some (r, s)) : vw [707, 708, 709, 710, 711, 800, 801, 802, 803, 1101, 1102, 1103, 1104, 1105, 1106] [] [] O h s := vk_X12_startAt_0 ox0 ⟨vk.refl h, c⟩ r s e

theorem vk_X15_start_51 {O : Nat → Prop} {z0 : vt_S} {h : vt_S} (hs : vw [] [1600] [] O z0 h) : vfr (vw [] [1600] [] O) z0 (ab_X15_start_51 h) := by
  unfold ab_X15_start_51
  exact vr_rt hs
theorem vk_X15_start_0 {O : Nat → Prop} {z0 : vt_S} {x0 : Nat} {x1 : Int32} {x2 : Int32} {x3 : Int32} {x4 : Int32} {h : vt_S} (ox0 : O x0) (hs : vw [] [1600] [] O z0 h) : vfr (vw [] [1600] [] O) z0 (ab_X15_start x0 x1 x2 x3 x4 h) := by
  unfold ab_X15_start
  refine vr_if ?_ ?_
  · exact vk_X15_start_51 hs
  · refine vr_if ?_ ?_
    · exact vk_X15_start_51 hs
    · refine vr_if ?_ ?_
      · exact vk_X15_start_51 hs
      · refine vr_if ?_ ?_
        · exact vk_X15_start_51 hs
        · refine vr_if ?_ ?_
          · exact vk_X15_start_51 hs
          · refine vr_if ?_ ?_
            · exact vk_X15_start_51 hs
            · refine vr_if ?_ ?_
              · exact vk_X15_start_51 hs
              · refine vr_if ?_ ?_
                · refine vr_sI hs (by decide) ox0 (fun h hs => ?_)
                  refine vr_sI hs (by decide) ox0 (fun h hs => ?_)
                  refine vr_sI hs (by decide) ox0 (fun h hs => ?_)
                  refine vr_sI hs (by decide) ox0 (fun h hs => ?_)
                  exact vr_rt hs
                · exact vk_X15_start_51 hs
theorem vk_X15_start {O : Nat → Prop} {x0 : Nat} {x1 : Int32} {x2 : Int32} {x3 : Int32} {x4 : Int32} {h : vt_S} {r : Int32} {s : vt_S} (c : vcl O h) (ox0 : O x0) (e : ab_X15_start x0 x1 x2 x3 x4 h = some (r, s)) : vw [] [1600] [] O h s := vk_X15_start_0 ox0 ⟨vk.refl h, c⟩ r s e

theorem vk_X17_startAt_36 {O : Nat → Prop} {z0 : vt_S} {h : vt_S} (hs : vw [1415, 1416, 1417, 1800, 1811, 1812, 1813, 1814] [1408, 1409, 1410, 1411, 1412, 1413, 1600] [] O z0 h) : vfr (vw [1415, 1416, 1417, 1800, 1811, 1812, 1813, 1814] [1408, 1409, 1410, 1411, 1412, 1413, 1600] [] O) z0 (ab_X17_startAt_36 h) := by
  unfold ab_X17_startAt_36
  exact vr_rt hs
theorem vk_X17_startAt_0 {O : Nat → Prop} {z0 : vt_S} {x0 : Nat} {x1 : Int32} {x2 : Int32} {x3 : Int32} {x4 : Int32} {h : vt_S} (ox0 : O x0) (hs : vw [1415, 1416, 1417, 1800, 1811, 1812, 1813, 1814] [1408, 1409, 1410, 1411, 1412, 1413, 1600] [] O z0 h) : vfr (vw [1415, 1416, 1417, 1800, 1811, 1812, 1813, 1814] [1408, 1409, 1410, 1411, 1412, 1413, 1600] [] O) z0 (ab_X17_startAt x0 x1 x2 x3 x4 h) := by
  unfold ab_X17_startAt
  refine vr_I hs (by decide) ox0 (fun h hs => ?_)
  refine vr_let (fun _ => ?_)
  refine vr_if ?_ ?_
  · exact vk_X17_startAt_36 hs
  · refine vr_cl (fun _ _ e => (by rw [ve_X17_sectors e]; exact hs)) (fun _ h hs => ?_)
    refine vr_if ?_ ?_
    · exact vk_X17_startAt_36 hs
    · refine vr_gP hs ox0 (fun v5 ov5 => ?_)
      refine vr_cl (fun _ _ e => (let q := vk_X15_start hs.2 ov5 e; ⟨hs.1.trans (q.1.weak (by decide) (by decide) (by decide)), q.2⟩)) (fun _ h hs => ?_)
      refine vr_if ?_ ?_
      · exact vk_X17_startAt_36 hs
      · refine vr_cl (fun _ _ e => (let q := vk_X17_begin hs.2 ox0 e; ⟨hs.1.trans (q.1.weak (by decide) (by decide) (by decide)), q.2⟩)) (fun _ h hs => ?_)
        exact vr_rt hs
theorem vk_X17_startAt {O : Nat → Prop} {x0 : Nat} {x1 : Int32} {x2 : Int32} {x3 : Int32} {x4 : Int32} {h : vt_S} {r : Int32} {s : vt_S} (c : vcl O h) (ox0 : O x0) (e : ab_X17_startAt x0 x1 x2 x3 x4 h = some (r, s)) : vw [1415, 1416, 1417, 1800, 1811, 1812, 1813, 1814] [1408, 1409, 1410, 1411, 1412, 1413, 1600] [] O h s := vk_X17_startAt_0 ox0 ⟨vk.refl h, c⟩ r s e

theorem ve_X5_isInput_41 {z0 : vt_S} {s0 : Int32} {h : vt_S} (hs : veq z0 h) : vfr veq z0 (ab_X5_isInput_41 s0 h) := by
  unfold ab_X5_isInput_41
  exact vr_rz hs
theorem ve_X5_isInput_40 {z0 : vt_S} {h : vt_S} (hs : veq z0 h) : vfr veq z0 (ab_X5_isInput_40 h) := by
  unfold ab_X5_isInput_40
  exact ve_X5_isInput_41 hs
theorem ve_X5_isInput_0 {z0 : vt_S} {x0 : Int32} {x1 : Int32} {x2 : Int32} {h : vt_S} (hs : veq z0 h) : vfr veq z0 (ab_X5_isInput x0 x1 x2 h) := by
  unfold ab_X5_isInput
  refine vr_if ?_ ?_
  · exact ve_X5_isInput_40 hs
  · refine vr_if ?_ ?_
    · exact ve_X5_isInput_40 hs
    · refine vr_if ?_ ?_
      · exact ve_X5_isInput_40 hs
      · refine vr_if ?_ ?_
        · exact ve_X5_isInput_40 hs
        · refine vr_if ?_ ?_
          · exact ve_X5_isInput_40 hs
          · refine vr_if ?_ ?_
            · exact ve_X5_isInput_40 hs
            · exact ve_X5_isInput_41 hs
theorem ve_X5_isInput {x0 : Int32} {x1 : Int32} {x2 : Int32} {h : vt_S} {r : Int32} {s : vt_S} (e : ab_X5_isInput x0 x1 x2 h = some (r, s)) : s = h := ve_X5_isInput_0 rfl r s e

theorem vk_X12_addInput_29 {O : Nat → Prop} {z0 : vt_S} {h : vt_S} (hs : vw [602] [601] [601] O z0 h) : vfr (vw [602] [601] [601] O) z0 (ab_X12_addInput_29 h) := by
  unfold ab_X12_addInput_29
  exact vr_rt hs
theorem vk_X12_addInput_0 {O : Nat → Prop} {z0 : vt_S} {x0 : Nat} {x1 : Int32} {x2 : Int32} {x3 : Int32} {x4 : Int32} {h : vt_S} (ox0 : O x0) (hs : vw [602] [601] [601] O z0 h) : vfr (vw [602] [601] [601] O) z0 (ab_X12_addInput x0 x1 x2 x3 x4 h) := by
  unfold ab_X12_addInput
  refine vr_cl (fun _ _ e => (by rw [ve_X12_hasMap e]; exact hs)) (fun _ h hs => ?_)
  refine vr_if ?_ ?_
  · exact vk_X12_addInput_29 hs
  · refine vr_cl (fun _ _ e => (by rw [ve_X5_isInput e]; exact hs)) (fun _ h hs => ?_)
    refine vr_if ?_ ?_
    · exact vk_X12_addInput_29 hs
    · refine vr_gP hs ox0 (fun v5 ov5 => ?_)
      refine vr_let (fun _ => ?_)
      refine vr_if ?_ ?_
      · refine vr_gP hs ox0 (fun v7 ov7 => ?_)
        refine vr_cl (fun _ _ e => (by rw [ve_X5_inputOf e]; exact hs)) (fun _ h hs => ?_)
        refine vr_cl (fun _ _ e => (let q := vk_X5_add hs.2 ov7 e; ⟨hs.1.trans (q.1.weak (by decide) (by decide) (by decide)), q.2⟩)) (fun _ h hs => ?_)
        refine vr_gP hs ox0 (fun v11 ov11 => ?_)
        refine vr_let (fun _ => ?_)
        exact vr_rt hs
      · exact vk_X12_addInput_29 hs
theorem vk_X12_addInput {O : Nat → Prop} {x0 : Nat} {x1 : Int32} {x2 : Int32} {x3 : Int32} {x4 : Int32} {h : vt_S} {r : Int32} {s : vt_S} (c : vcl O h) (ox0 : O x0) (e : ab_X12_addInput x0 x1 x2 x3 x4 h = some (r, s)) : vw [602] [601] [601] O h s := vk_X12_addInput_0 ox0 ⟨vk.refl h, c⟩ r s e

theorem ve_X15_isIn_16 {z0 : vt_S} {s0 : Int32} {h : vt_S} (hs : veq z0 h) : vfr veq z0 (ab_X15_isIn_16 s0 h) := by
  unfold ab_X15_isIn_16
  exact vr_rz hs
theorem ve_X15_isIn_15 {z0 : vt_S} {h : vt_S} (hs : veq z0 h) : vfr veq z0 (ab_X15_isIn_15 h) := by
  unfold ab_X15_isIn_15
  exact ve_X15_isIn_16 hs
theorem ve_X15_isIn_0 {z0 : vt_S} {x0 : Int32} {x1 : Int32} {h : vt_S} (hs : veq z0 h) : vfr veq z0 (ab_X15_isIn x0 x1 h) := by
  unfold ab_X15_isIn
  refine vr_if ?_ ?_
  · exact ve_X15_isIn_15 hs
  · refine vr_if ?_ ?_
    · exact ve_X15_isIn_15 hs
    · exact ve_X15_isIn_16 hs
theorem ve_X15_isIn {x0 : Int32} {x1 : Int32} {h : vt_S} {r : Int32} {s : vt_S} (e : ab_X15_isIn x0 x1 h = some (r, s)) : s = h := ve_X15_isIn_0 rfl r s e

theorem vk_X15_record_54 {O : Nat → Prop} {z0 : vt_S} {h : vt_S} (hs : vw [1605] [1601, 1602, 1603, 1604] [] O z0 h) : vfr (vw [1605] [1601, 1602, 1603, 1604] [] O) z0 (ab_X15_record_54 h) := by
  unfold ab_X15_record_54
  exact vr_rt hs
theorem vk_X15_record_59b {O : Nat → Prop} {z0 : vt_S} {k59 : Nat → Int32 → Int32 → Int32 → Int32 → Int32 → Int32 → vt_S → Option (Int32 × vt_S)} (hk59 : ∀ {x0 : Nat} {x1 : Int32} {x2 : Int32} {x3 : Int32} {x4 : Int32} {x5 : Int32} {x6 : Int32} {h : vt_S}, O x0 → vw [1605] [1601, 1602, 1603, 1604] [] O z0 h → vfr (vw [1605] [1601, 1602, 1603, 1604] [] O) z0 (k59 x0 x1 x2 x3 x4 x5 x6 h)) {x0 : Nat} {x1 : Int32} {x2 : Int32} {x3 : Int32} {x4 : Int32} {x5 : Int32} {x6 : Int32} {h : vt_S} (ox0 : O x0) (hs : vw [1605] [1601, 1602, 1603, 1604] [] O z0 h) : vfr (vw [1605] [1601, 1602, 1603, 1604] [] O) z0 (ab_X15_record_59b k59 x0 x1 x2 x3 x4 x5 x6 h) := by
  unfold ab_X15_record_59b
  refine vr_if ?_ ?_
  · refine vr_let (fun _ => ?_)
    exact vr_rt hs
  · refine vr_let (fun _ => ?_)
    refine vr_sI hs (by decide) ox0 (fun h hs => ?_)
    refine vr_let (fun _ => ?_)
    refine vr_sI hs (by decide) ox0 (fun h hs => ?_)
    refine vr_let (fun _ => ?_)
    refine vr_sI hs (by decide) ox0 (fun h hs => ?_)
    refine vr_let (fun _ => ?_)
    refine vr_sI hs (by decide) ox0 (fun h hs => ?_)
    refine vr_let (fun _ => ?_)
    refine vr_I hs (by decide) ox0 (fun h hs => ?_)
    exact hk59 ox0 hs
theorem vk_X15_record_59 {O : Nat → Prop} {z0 : vt_S} : ∀ (n : Nat) {x0 : Nat} {x1 : Int32} {x2 : Int32} {x3 : Int32} {x4 : Int32} {x5 : Int32} {x6 : Int32} {h : vt_S}, O x0 → vw [1605] [1601, 1602, 1603, 1604] [] O z0 h → vfr (vw [1605] [1601, 1602, 1603, 1604] [] O) z0 (ab_X15_record_59 n x0 x1 x2 x3 x4 x5 x6 h) := by
  intro n
  induction n with
  | zero => intro x0 x1 x2 x3 x4 x5 x6 h ox0 hs; exact vr_no
  | succ n ih => intro x0 x1 x2 x3 x4 x5 x6 h ox0 hs; exact vk_X15_record_59b (fun ox0 hs => ih ox0 hs) ox0 hs
theorem vk_X15_record_0 {O : Nat → Prop} {z0 : vt_S} {x0 : Nat} {x1 : Int32} {x2 : Int32} {x3 : Int32} {x4 : Int32} {x5 : Int32} {h : vt_S} (ox0 : O x0) (hs : vw [1605] [1601, 1602, 1603, 1604] [] O z0 h) : vfr (vw [1605] [1601, 1602, 1603, 1604] [] O) z0 (ab_X15_record x0 x1 x2 x3 x4 x5 h) := by
  unfold ab_X15_record
  refine vr_cl (fun _ _ e => (by rw [ve_X15_isIn e]; exact hs)) (fun _ h hs => ?_)
  refine vr_if ?_ ?_
  · exact vk_X15_record_54 hs
  · refine vr_cl (fun _ _ e => (by rw [ve_X15_isIn e]; exact hs)) (fun _ h hs => ?_)
    refine vr_if ?_ ?_
    · exact vk_X15_record_54 hs
    · refine vr_cl (fun _ _ e => (by rw [ve_X15_isIn e]; exact hs)) (fun _ h hs => ?_)
      refine vr_if ?_ ?_
      · exact vk_X15_record_54 hs
      · refine vr_if ?_ ?_
        · exact vk_X15_record_54 hs
        · refine vr_if ?_ ?_
          · exact vk_X15_record_54 hs
          · refine vr_let (fun _ => ?_)
            refine vr_if ?_ ?_
            · exact vk_X15_record_59 sv_fuel ox0 hs
            · exact vk_X15_record_54 hs
theorem vk_X15_record {O : Nat → Prop} {x0 : Nat} {x1 : Int32} {x2 : Int32} {x3 : Int32} {x4 : Int32} {x5 : Int32} {h : vt_S} {r : Int32} {s : vt_S} (c : vcl O h) (ox0 : O x0) (e : ab_X15_record x0 x1 x2 x3 x4 x5 h = some (r, s)) : vw [1605] [1601, 1602, 1603, 1604] [] O h s := vk_X15_record_0 ox0 ⟨vk.refl h, c⟩ r s e

theorem vk_X17_addInput_29 {O : Nat → Prop} {z0 : vt_S} {s0 : Int32} {h : vt_S} (hs : vw [1605, 1800] [1601, 1602, 1603, 1604] [] O z0 h) : vfr (vw [1605, 1800] [1601, 1602, 1603, 1604] [] O) z0 (ab_X17_addInput_29 s0 h) := by
  unfold ab_X17_addInput_29
  exact vr_rt hs
theorem vk_X17_addInput_0 {O : Nat → Prop} {z0 : vt_S} {x0 : Nat} {x1 : Int32} {x2 : Int32} {x3 : Int32} {x4 : Int32} {h : vt_S} (ox0 : O x0) (hs : vw [1605, 1800] [1601, 1602, 1603, 1604] [] O z0 h) : vfr (vw [1605, 1800] [1601, 1602, 1603, 1604] [] O) z0 (ab_X17_addInput x0 x1 x2 x3 x4 h) := by
  unfold ab_X17_addInput
  refine vr_I hs (by decide) ox0 (fun h hs => ?_)
  refine vr_let (fun _ => ?_)
  refine vr_if ?_ ?_
  · exact vk_X17_addInput_29 hs
  · refine vr_gP hs ox0 (fun v3 ov3 => ?_)
    refine vr_cl (fun _ _ e => (let q := vk_X15_record hs.2 ov3 e; ⟨hs.1.trans (q.1.weak (by decide) (by decide) (by decide)), q.2⟩)) (fun _ h hs => ?_)
    exact vk_X17_addInput_29 hs
theorem vk_X17_addInput {O : Nat → Prop} {x0 : Nat} {x1 : Int32} {x2 : Int32} {x3 : Int32} {x4 : Int32} {h : vt_S} {r : Int32} {s : vt_S} (c : vcl O h) (ox0 : O x0) (e : ab_X17_addInput x0 x1 x2 x3 x4 h = some (r, s)) : vw [1605, 1800] [1601, 1602, 1603, 1604] [] O h s := vk_X17_addInput_0 ox0 ⟨vk.refl h, c⟩ r s e

theorem vk_X12_dropInputs_15 {O : Nat → Prop} {z0 : vt_S} {h : vt_S} (hs : vw [602] [] [] O z0 h) : vfr (vw [602] [] [] O) z0 (ab_X12_dropInputs_15 h) := by
  unfold ab_X12_dropInputs_15
  exact vr_rt hs
theorem vk_X12_dropInputs_0 {O : Nat → Prop} {z0 : vt_S} {x0 : Nat} {x1 : Int32} {h : vt_S} (ox0 : O x0) (hs : vw [602] [] [] O z0 h) : vfr (vw [602] [] [] O) z0 (ab_X12_dropInputs x0 x1 h) := by
  unfold ab_X12_dropInputs
  refine vr_if ?_ ?_
  · exact vk_X12_dropInputs_15 hs
  · refine vr_gP hs ox0 (fun v1 ov1 => ?_)
    refine vr_let (fun _ => ?_)
    refine vr_if ?_ ?_
    · refine vr_gP hs ox0 (fun v3 ov3 => ?_)
      refine vr_let (fun _ => ?_)
      refine vr_I hs (by decide) ov3 (fun h hs => ?_)
      exact vr_rt hs
    · exact vk_X12_dropInputs_15 hs
theorem vk_X12_dropInputs {O : Nat → Prop} {x0 : Nat} {x1 : Int32} {h : vt_S} {r : Int32} {s : vt_S} (c : vcl O h) (ox0 : O x0) (e : ab_X12_dropInputs x0 x1 h = some (r, s)) : vw [602] [] [] O h s := vk_X12_dropInputs_0 ox0 ⟨vk.refl h, c⟩ r s e

theorem vk_X15_undo_12 {O : Nat → Prop} {z0 : vt_S} {h : vt_S} (hs : vw [1605] [] [] O z0 h) : vfr (vw [1605] [] [] O) z0 (ab_X15_undo_12 h) := by
  unfold ab_X15_undo_12
  exact vr_rt hs
theorem vk_X15_undo_0 {O : Nat → Prop} {z0 : vt_S} {x0 : Nat} {x1 : Int32} {h : vt_S} (ox0 : O x0) (hs : vw [1605] [] [] O z0 h) : vfr (vw [1605] [] [] O) z0 (ab_X15_undo x0 x1 h) := by
  unfold ab_X15_undo
  refine vr_if ?_ ?_
  · exact vk_X15_undo_12 hs
  · refine vr_let (fun _ => ?_)
    refine vr_if ?_ ?_
    · refine vr_let (fun _ => ?_)
      refine vr_I hs (by decide) ox0 (fun h hs => ?_)
      exact vr_rt hs
    · exact vk_X15_undo_12 hs
theorem vk_X15_undo {O : Nat → Prop} {x0 : Nat} {x1 : Int32} {h : vt_S} {r : Int32} {s : vt_S} (c : vcl O h) (ox0 : O x0) (e : ab_X15_undo x0 x1 h = some (r, s)) : vw [1605] [] [] O h s := vk_X15_undo_0 ox0 ⟨vk.refl h, c⟩ r s e

theorem vk_X17_dropInputs_0 {O : Nat → Prop} {z0 : vt_S} {x0 : Nat} {x1 : Int32} {h : vt_S} (ox0 : O x0) (hs : vw [1605, 1800] [] [] O z0 h) : vfr (vw [1605, 1800] [] [] O) z0 (ab_X17_dropInputs x0 x1 h) := by
  unfold ab_X17_dropInputs
  refine vr_I hs (by decide) ox0 (fun h hs => ?_)
  refine vr_gP hs ox0 (fun v2 ov2 => ?_)
  refine vr_cl (fun _ _ e => (let q := vk_X15_undo hs.2 ov2 e; ⟨hs.1.trans (q.1.weak (by decide) (by decide) (by decide)), q.2⟩)) (fun _ h hs => ?_)
  exact vr_rz hs
theorem vk_X17_dropInputs {O : Nat → Prop} {x0 : Nat} {x1 : Int32} {h : vt_S} {r : Int32} {s : vt_S} (c : vcl O h) (ox0 : O x0) (e : ab_X17_dropInputs x0 x1 h = some (r, s)) : vw [1605, 1800] [] [] O h s := vk_X17_dropInputs_0 ox0 ⟨vk.refl h, c⟩ r s e

theorem ve_X12_cosine_0 {z0 : vt_S} {x0 : Int32} {h : vt_S} (hs : veq z0 h) : vfr veq z0 (ab_X12_cosine x0 h) := by
  unfold ab_X12_cosine
  refine vr_if ?_ ?_
  · refine vr_if ?_ ?_
    · refine vr_if ?_ ?_
      · refine vr_bd (fun _ => ?_)
        exact vr_rt hs
      · refine vr_bd (fun _ => ?_)
        exact vr_rt hs
    · refine vr_bd (fun _ => ?_)
      exact vr_rt hs
  · refine vr_bd (fun _ => ?_)
    exact vr_rt hs
theorem ve_X12_cosine {x0 : Int32} {h : vt_S} {r : Int32} {s : vt_S} (e : ab_X12_cosine x0 h = some (r, s)) : s = h := ve_X12_cosine_0 rfl r s e

theorem ve_X12_sine_0 {z0 : vt_S} {x0 : Int32} {h : vt_S} (hs : veq z0 h) : vfr veq z0 (ab_X12_sine x0 h) := by
  unfold ab_X12_sine
  refine vr_cl (fun _ _ e => ((ve_J9_floorMod_7cf53 e).trans hs)) (fun _ h hs => ?_)
  refine vr_cl (fun _ _ e => ((ve_X12_cosine e).trans hs)) (fun _ h hs => ?_)
  exact vr_rt hs
theorem ve_X12_sine {x0 : Int32} {h : vt_S} {r : Int32} {s : vt_S} (e : ab_X12_sine x0 h = some (r, s)) : s = h := ve_X12_sine_0 rfl r s e

theorem vk_X3_aim_0 {O : Nat → Prop} {z0 : vt_S} {x0 : Nat} {x1 : Int32} {x2 : Int32} {x3 : Int32} {x4 : Int32} {h : vt_S} (ox0 : O x0) (hs : vw [407, 408, 409, 410] [] [] O z0 h) : vfr (vw [407, 408, 409, 410] [] [] O) z0 (ab_X3_aim x0 x1 x2 x3 x4 h) := by
  unfold ab_X3_aim
  refine vr_I hs (by decide) ox0 (fun h hs => ?_)
  refine vr_I hs (by decide) ox0 (fun h hs => ?_)
  refine vr_I hs (by decide) ox0 (fun h hs => ?_)
  refine vr_I hs (by decide) ox0 (fun h hs => ?_)
  exact vr_rt hs
theorem vk_X3_aim {O : Nat → Prop} {x0 : Nat} {x1 : Int32} {x2 : Int32} {x3 : Int32} {x4 : Int32} {h : vt_S} {r : Unit} {s : vt_S} (c : vcl O h) (ox0 : O x0) (e : ab_X3_aim x0 x1 x2 x3 x4 h = some (r, s)) : vw [407, 408, 409, 410] [] [] O h s := vk_X3_aim_0 ox0 ⟨vk.refl h, c⟩ r s e

theorem vk_X3_makeGap_166 {O : Nat → Prop} {z0 : vt_S} {x5 : Int32} {h : vt_S} (hs : vw [406] [400, 401, 402, 403, 404, 405] [] O z0 h) : vfr (vw [406] [400, 401, 402, 403, 404, 405] [] O) z0 (ab_X3_makeGap_166 x5 h) := by
  unfold ab_X3_makeGap_166
  exact vr_rt hs
theorem vk_X3_makeGap_22b {O : Nat → Prop} {z0 : vt_S} {k22 : Nat → Int64 → Int64 → Int32 → Int32 → vt_S → Option (Int32 × vt_S)} (hk22 : ∀ {x0 : Nat} {x1 : Int64} {x3 : Int64} {x5 : Int32} {x6 : Int32} {h : vt_S}, O x0 → vw [406] [400, 401, 402, 403, 404, 405] [] O z0 h → vfr (vw [406] [400, 401, 402, 403, 404, 405] [] O) z0 (k22 x0 x1 x3 x5 x6 h)) {x0 : Nat} {x1 : Int64} {x3 : Int64} {x5 : Int32} {x6 : Int32} {h : vt_S} (ox0 : O x0) (hs : vw [406] [400, 401, 402, 403, 404, 405] [] O z0 h) : vfr (vw [406] [400, 401, 402, 403, 404, 405] [] O) z0 (ab_X3_makeGap_22b k22 x0 x1 x3 x5 x6 h) := by
  unfold ab_X3_makeGap_22b
  refine vr_if ?_ ?_
  · exact vk_X3_makeGap_166 hs
  · refine vr_if ?_ ?_
    · exact vk_X3_makeGap_166 hs
    · refine vr_bd (fun _ => ?_)
      refine vr_bd (fun _ => ?_)
      refine vr_cl (fun _ _ e => (by rw [ve_X12_compareQuotients e]; exact hs)) (fun _ h hs => ?_)
      refine vr_if ?_ ?_
      · refine vr_bd (fun _ => ?_)
        refine vr_sI hs (by decide) ox0 (fun h hs => ?_)
        refine vr_bd (fun _ => ?_)
        refine vr_sI hs (by decide) ox0 (fun h hs => ?_)
        refine vr_bd (fun _ => ?_)
        refine vr_sJ hs (by decide) ox0 (fun h hs => ?_)
        refine vr_bd (fun _ => ?_)
        refine vr_sJ hs (by decide) ox0 (fun h hs => ?_)
        refine vr_bd (fun _ => ?_)
        refine vr_sJ hs (by decide) ox0 (fun h hs => ?_)
        refine vr_bd (fun _ => ?_)
        refine vr_sJ hs (by decide) ox0 (fun h hs => ?_)
        exact hk22 ox0 hs
      · exact vr_rt hs
theorem vk_X3_makeGap_22 {O : Nat → Prop} {z0 : vt_S} : ∀ (n : Nat) {x0 : Nat} {x1 : Int64} {x3 : Int64} {x5 : Int32} {x6 : Int32} {h : vt_S}, O x0 → vw [406] [400, 401, 402, 403, 404, 405] [] O z0 h → vfr (vw [406] [400, 401, 402, 403, 404, 405] [] O) z0 (ab_X3_makeGap_22 n x0 x1 x3 x5 x6 h) := by
  intro n
  induction n with
  | zero => intro x0 x1 x3 x5 x6 h ox0 hs; exact vr_no
  | succ n ih => intro x0 x1 x3 x5 x6 h ox0 hs; exact vk_X3_makeGap_22b (fun ox0 hs => ih ox0 hs) ox0 hs
theorem vk_X3_makeGap_0 {O : Nat → Prop} {z0 : vt_S} {x0 : Nat} {x1 : Int64} {x3 : Int64} {h : vt_S} (ox0 : O x0) (hs : vw [406] [400, 401, 402, 403, 404, 405] [] O z0 h) : vfr (vw [406] [400, 401, 402, 403, 404, 405] [] O) z0 (ab_X3_makeGap x0 x1 x3 h) := by
  unfold ab_X3_makeGap
  refine vr_let (fun _ => ?_)
  refine vr_let (fun _ => ?_)
  refine vr_I hs (by decide) ox0 (fun h hs => ?_)
  refine vr_let (fun _ => ?_)
  exact vk_X3_makeGap_22 sv_fuel ox0 hs
theorem vk_X3_makeGap {O : Nat → Prop} {x0 : Nat} {x1 : Int64} {x3 : Int64} {h : vt_S} {r : Int32} {s : vt_S} (c : vcl O h) (ox0 : O x0) (e : ab_X3_makeGap x0 x1 x3 h = some (r, s)) : vw [406] [400, 401, 402, 403, 404, 405] [] O h s := vk_X3_makeGap_0 ox0 ⟨vk.refl h, c⟩ r s e

theorem vk_X3_meet_189 {O : Nat → Prop} {z0 : vt_S} {h : vt_S} (hs : vw [406] [400, 401, 402, 403, 404, 405] [] O z0 h) : vfr (vw [406] [400, 401, 402, 403, 404, 405] [] O) z0 (ab_X3_meet_189 h) := by
  unfold ab_X3_meet_189
  exact vr_rt hs
theorem vk_X3_meet_226 {O : Nat → Prop} {z0 : vt_S} {x0 : Nat} {x4 : Int64} {x6 : Int64} {x10 : Int64} {x12 : Int64} {x14 : Int32} {s0 : Nat} {s1 : Int32} {s2 : Int32} {h : vt_S} (ox0 : O x0) (os0 : O s0) (hs : vw [406] [400, 401, 402, 403, 404, 405] [] O z0 h) : vfr (vw [406] [400, 401, 402, 403, 404, 405] [] O) z0 (ab_X3_meet_226 x0 x4 x6 x10 x12 x14 s0 s1 s2 h) := by
  unfold ab_X3_meet_226
  refine vr_sI hs (by decide) os0 (fun h hs => ?_)
  refine vr_sJ hs (by decide) ox0 (fun h hs => ?_)
  refine vr_sJ hs (by decide) ox0 (fun h hs => ?_)
  refine vr_sJ hs (by decide) ox0 (fun h hs => ?_)
  refine vr_sJ hs (by decide) ox0 (fun h hs => ?_)
  exact vr_rt hs
theorem vk_X3_meet_159 {O : Nat → Prop} {z0 : vt_S} {x0 : Nat} {x2 : Int32} {x3 : Int32} {x4 : Int64} {x6 : Int64} {x8 : Int64} {s0 : Int64} {h : vt_S} (ox0 : O x0) (hs : vw [406] [400, 401, 402, 403, 404, 405] [] O z0 h) : vfr (vw [406] [400, 401, 402, 403, 404, 405] [] O) z0 (ab_X3_meet_159 x0 x2 x3 x4 x6 x8 s0 h) := by
  unfold ab_X3_meet_159
  refine vr_let (fun _ => ?_)
  refine vr_if ?_ ?_
  · exact vk_X3_meet_189 hs
  · refine vr_if ?_ ?_
    · refine vr_cl (fun _ _ e => (let q := vk_X3_makeGap hs.2 ox0 e; ⟨hs.1.trans (q.1.weak (by decide) (by decide) (by decide)), q.2⟩)) (fun _ h hs => ?_)
      refine vr_sI hs (by decide) ox0 (fun h hs => ?_)
      refine vr_if ?_ ?_
      · exact vk_X3_meet_226 ox0 ox0 hs
      · exact vk_X3_meet_226 ox0 ox0 hs
    · exact vk_X3_meet_189 hs
theorem vk_X3_meet_94 {O : Nat → Prop} {z0 : vt_S} {x0 : Nat} {x1 : Nat} {x2 : Int32} {x3 : Int32} {x4 : Int64} {x6 : Int64} {s0 : Int32} {s1 : Int32} {h : vt_S} (ox0 : O x0) (ox1 : O x1) (hs : vw [406] [400, 401, 402, 403, 404, 405] [] O z0 h) : vfr (vw [406] [400, 401, 402, 403, 404, 405] [] O) z0 (ab_X3_meet_94 x0 x1 x2 x3 x4 x6 s0 s1 h) := by
  unfold ab_X3_meet_94
  refine vr_if ?_ ?_
  · exact vr_rt hs
  · refine vr_let (fun _ => ?_)
    refine vr_let (fun _ => ?_)
    refine vr_let (fun _ => ?_)
    refine vr_let (fun _ => ?_)
    refine vr_let (fun _ => ?_)
    refine vr_let (fun _ => ?_)
    refine vr_let (fun _ => ?_)
    refine vr_let (fun _ => ?_)
    refine vr_cl (fun _ _ e => (by rw [ve_X12_cross e]; exact hs)) (fun _ h hs => ?_)
    refine vr_if ?_ ?_
    · exact vk_X3_meet_159 ox0 hs
    · exact vk_X3_meet_159 ox0 hs
theorem vk_X3_meet_82 {O : Nat → Prop} {z0 : vt_S} {x0 : Nat} {x1 : Nat} {x2 : Int32} {x3 : Int32} {x4 : Int64} {x6 : Int64} {s0 : Int32} {h : vt_S} (ox0 : O x0) (ox1 : O x1) (hs : vw [406] [400, 401, 402, 403, 404, 405] [] O z0 h) : vfr (vw [406] [400, 401, 402, 403, 404, 405] [] O) z0 (ab_X3_meet_82 x0 x1 x2 x3 x4 x6 s0 h) := by
  unfold ab_X3_meet_82
  refine vr_if ?_ ?_
  · exact vk_X3_meet_94 ox0 ox1 hs
  · exact vk_X3_meet_94 ox0 ox1 hs
theorem vk_X3_meet_0 {O : Nat → Prop} {z0 : vt_S} {x0 : Nat} {x1 : Nat} {x2 : Int32} {x3 : Int32} {h : vt_S} (ox0 : O x0) (ox1 : O x1) (hs : vw [406] [400, 401, 402, 403, 404, 405] [] O z0 h) : vfr (vw [406] [400, 401, 402, 403, 404, 405] [] O) z0 (ab_X3_meet x0 x1 x2 x3 h) := by
  unfold ab_X3_meet
  refine vr_let (fun _ => ?_)
  refine vr_let (fun _ => ?_)
  refine vr_let (fun _ => ?_)
  refine vr_let (fun _ => ?_)
  refine vr_let (fun _ => ?_)
  refine vr_let (fun _ => ?_)
  refine vr_cl (fun _ _ e => (by rw [ve_X12_cross e]; exact hs)) (fun _ h hs => ?_)
  refine vr_let (fun _ => ?_)
  refine vr_let (fun _ => ?_)
  refine vr_let (fun _ => ?_)
  refine vr_let (fun _ => ?_)
  refine vr_let (fun _ => ?_)
  refine vr_let (fun _ => ?_)
  refine vr_cl (fun _ _ e => (by rw [ve_X12_cross e]; exact hs)) (fun _ h hs => ?_)
  refine vr_if ?_ ?_
  · exact vk_X3_meet_82 ox0 ox1 hs
  · exact vk_X3_meet_82 ox0 ox1 hs
theorem vk_X3_meet {O : Nat → Prop} {x0 : Nat} {x1 : Nat} {x2 : Int32} {x3 : Int32} {h : vt_S} {r : Unit} {s : vt_S} (c : vcl O h) (ox0 : O x0) (ox1 : O x1) (e : ab_X3_meet x0 x1 x2 x3 h = some (r, s)) : vw [406] [400, 401, 402, 403, 404, 405] [] O h s := vk_X3_meet_0 ox0 ox1 ⟨vk.refl h, c⟩ r s e

theorem vk_X3_meetClose_89 {O : Nat → Prop} {z0 : vt_S} {k30 : Nat → Nat → Int32 → Int32 → Int32 → vt_S → Option (Unit × vt_S)} (hk30 : ∀ {x0 : Nat} {x1 : Nat} {x2 : Int32} {x3 : Int32} {x4 : Int32} {h : vt_S}, O x0 → O x1 → vw [406] [400, 401, 402, 403, 404, 405] [] O z0 h → vfr (vw [406] [400, 401, 402, 403, 404, 405] [] O) z0 (k30 x0 x1 x2 x3 x4 h)) {x0 : Nat} {x1 : Nat} {x2 : Int32} {x3 : Int32} {x4 : Int32} {h : vt_S} (ox0 : O x0) (ox1 : O x1) (hs : vw [406] [400, 401, 402, 403, 404, 405] [] O z0 h) : vfr (vw [406] [400, 401, 402, 403, 404, 405] [] O) z0 (ab_X3_meetClose_89 k30 x0 x1 x2 x3 x4 h) := by
  unfold ab_X3_meetClose_89
  exact hk30 ox0 ox1 hs
theorem vk_X3_meetClose_30b {O : Nat → Prop} {z0 : vt_S} {k30 : Nat → Nat → Int32 → Int32 → Int32 → vt_S → Option (Unit × vt_S)} (hk30 : ∀ {x0 : Nat} {x1 : Nat} {x2 : Int32} {x3 : Int32} {x4 : Int32} {h : vt_S}, O x0 → O x1 → vw [406] [400, 401, 402, 403, 404, 405] [] O z0 h → vfr (vw [406] [400, 401, 402, 403, 404, 405] [] O) z0 (k30 x0 x1 x2 x3 x4 h)) {x0 : Nat} {x1 : Nat} {x2 : Int32} {x3 : Int32} {x4 : Int32} {h : vt_S} (ox0 : O x0) (ox1 : O x1) (hs : vw [406] [400, 401, 402, 403, 404, 405] [] O z0 h) : vfr (vw [406] [400, 401, 402, 403, 404, 405] [] O) z0 (ab_X3_meetClose_30b k30 x0 x1 x2 x3 x4 h) := by
  unfold ab_X3_meetClose_30b
  refine vr_let (fun _ => ?_)
  refine vr_if ?_ ?_
  · exact vr_rt hs
  · refine vr_lP hs ox1 (fun v3 ov3 => ?_)
    refine vr_let (fun _ => ?_)
    refine vr_let (fun _ => ?_)
    refine vr_let (fun _ => ?_)
    refine vr_let (fun _ => ?_)
    refine vr_cl (fun _ _ e => (by rw [ve_X11_reachesBox e]; exact hs)) (fun _ h hs => ?_)
    refine vr_if ?_ ?_
    · exact vk_X3_meetClose_89 hk30 ox0 ox1 hs
    · refine vr_cl (fun _ _ e => (let q := vk_X3_meet hs.2 ox0 ov3 e; ⟨hs.1.trans (q.1.weak (by decide) (by decide) (by decide)), q.2⟩)) (fun _ h hs => ?_)
      exact vk_X3_meetClose_89 hk30 ox0 ox1 hs
theorem vk_X3_meetClose_30 {O : Nat → Prop} {z0 : vt_S} : ∀ (n : Nat) {x0 : Nat} {x1 : Nat} {x2 : Int32} {x3 : Int32} {x4 : Int32} {h : vt_S}, O x0 → O x1 → vw [406] [400, 401, 402, 403, 404, 405] [] O z0 h → vfr (vw [406] [400, 401, 402, 403, 404, 405] [] O) z0 (ab_X3_meetClose_30 n x0 x1 x2 x3 x4 h) := by
  intro n
  induction n with
  | zero => intro x0 x1 x2 x3 x4 h ox0 ox1 hs; exact vr_no
  | succ n ih => intro x0 x1 x2 x3 x4 h ox0 ox1 hs; exact vk_X3_meetClose_30b (fun ox0 ox1 hs => ih ox0 ox1 hs) ox0 ox1 hs
theorem vk_X3_meetClose_0 {O : Nat → Prop} {z0 : vt_S} {x0 : Nat} {x1 : Nat} {x2 : Int32} {h : vt_S} (ox0 : O x0) (ox1 : O x1) (hs : vw [406] [400, 401, 402, 403, 404, 405] [] O z0 h) : vfr (vw [406] [400, 401, 402, 403, 404, 405] [] O) z0 (ab_X3_meetClose x0 x1 x2 h) := by
  unfold ab_X3_meetClose
  refine vr_I hs (by decide) ox0 (fun h hs => ?_)
  refine vr_let (fun _ => ?_)
  refine vr_let (fun _ => ?_)
  refine vr_let (fun _ => ?_)
  refine vr_let (fun _ => ?_)
  refine vr_let (fun _ => ?_)
  refine vr_if vr_no ?_
  exact vk_X3_meetClose_30 sv_fuel ox0 ox1 hs
theorem vk_X3_meetClose {O : Nat → Prop} {x0 : Nat} {x1 : Nat} {x2 : Int32} {h : vt_S} {r : Unit} {s : vt_S} (c : vcl O h) (ox0 : O x0) (ox1 : O x1) (e : ab_X3_meetClose x0 x1 x2 h = some (r, s)) : vw [406] [400, 401, 402, 403, 404, 405] [] O h s := vk_X3_meetClose_0 ox0 ox1 ⟨vk.refl h, c⟩ r s e

theorem ve_X11_sectorOn_15 {z0 : vt_S} {s0 : Int32} {h : vt_S} (hs : veq z0 h) : vfr veq z0 (ab_X11_sectorOn_15 s0 h) := by
  unfold ab_X11_sectorOn_15
  exact vr_rt hs
theorem ve_X11_sectorOn_0 {z0 : vt_S} {x0 : Nat} {x1 : Int32} {h : vt_S} (hs : veq z0 h) : vfr veq z0 (ab_X11_sectorOn x0 x1 h) := by
  unfold ab_X11_sectorOn
  refine vr_if ?_ ?_
  · refine vr_let (fun _ => ?_)
    exact ve_X11_sectorOn_15 hs
  · refine vr_let (fun _ => ?_)
    exact ve_X11_sectorOn_15 hs
theorem ve_X11_sectorOn {x0 : Nat} {x1 : Int32} {h : vt_S} {r : Int32} {s : vt_S} (e : ab_X11_sectorOn x0 x1 h = some (r, s)) : s = h := ve_X11_sectorOn_0 rfl r s e

theorem ve_X10_stops_101 {z0 : vt_S} {s0 : Int32} {h : vt_S} (hs : veq z0 h) : vfr veq z0 (ab_X10_stops_101 s0 h) := by
  unfold ab_X10_stops_101
  exact vr_rz hs
theorem ve_X10_stops_96 {z0 : vt_S} {h : vt_S} (hs : veq z0 h) : vfr veq z0 (ab_X10_stops_96 h) := by
  unfold ab_X10_stops_96
  exact ve_X10_stops_101 hs
theorem ve_X10_stops_41 {z0 : vt_S} {x3 : Nat} {s0 : Nat} {s1 : Nat} {s2 : Int32} {h : vt_S} (hs : veq z0 h) : vfr veq z0 (ab_X10_stops_41 x3 s0 s1 s2 h) := by
  unfold ab_X10_stops_41
  refine vr_cl (fun _ _ e => ((ve_X11_sectorOn e).trans hs)) (fun _ h hs => ?_)
  refine vr_bd (fun _ => ?_)
  refine vr_let (fun _ => ?_)
  refine vr_let (fun _ => ?_)
  refine vr_let (fun _ => ?_)
  refine vr_let (fun _ => ?_)
  refine vr_let (fun _ => ?_)
  refine vr_let (fun _ => ?_)
  refine vr_let (fun _ => ?_)
  refine vr_let (fun _ => ?_)
  refine vr_if ?_ ?_
  · exact ve_X10_stops_96 hs
  · refine vr_if ?_ ?_
    · exact ve_X10_stops_101 hs
    · exact ve_X10_stops_96 hs
theorem ve_X10_stops_0 {z0 : vt_S} {x0 : Nat} {x1 : Nat} {x2 : Int32} {h : vt_S} (hs : veq z0 h) : vfr veq z0 (ab_X10_stops x0 x1 x2 h) := by
  unfold ab_X10_stops
  refine vr_let (fun _ => ?_)
  refine vr_if ?_ ?_
  · exact vr_rt hs
  · refine vr_let (fun _ => ?_)
    refine vr_cl (fun _ _ e => ((ve_X11_sectorOn e).trans hs)) (fun _ h hs => ?_)
    refine vr_bd (fun _ => ?_)
    refine vr_let (fun _ => ?_)
    refine vr_if ?_ ?_
    · exact ve_X10_stops_41 hs
    · exact ve_X10_stops_41 hs
theorem ve_X10_stops {x0 : Nat} {x1 : Nat} {x2 : Int32} {h : vt_S} {r : Int32} {s : vt_S} (e : ab_X10_stops x0 x1 x2 h = some (r, s)) : s = h := ve_X10_stops_0 rfl r s e

theorem ve_X10_moverByCrossing_38 {z0 : vt_S} {h : vt_S} (hs : veq z0 h) : vfr veq z0 (ab_X10_moverByCrossing_38 h) := by
  unfold ab_X10_moverByCrossing_38
  exact vr_rt hs
theorem ve_X10_moverByCrossing_0 {z0 : vt_S} {x0 : Int32} {h : vt_S} (hs : veq z0 h) : vfr veq z0 (ab_X10_moverByCrossing x0 h) := by
  unfold ab_X10_moverByCrossing
  refine vr_if ?_ ?_
  · exact vr_rt hs
  refine vr_if ?_ ?_
  · exact vr_rt hs
  refine vr_if ?_ ?_
  · exact ve_X10_moverByCrossing_38 hs
  refine vr_if ?_ ?_
  · exact vr_rt hs
  exact ve_X10_moverByCrossing_38 hs
theorem ve_X10_moverByCrossing {x0 : Int32} {h : vt_S} {r : Int32} {s : vt_S} (e : ab_X10_moverByCrossing x0 h = some (r, s)) : s = h := ve_X10_moverByCrossing_0 rfl r s e

theorem ve_X2_neighbourBy_19 {z0 : vt_S} {h : vt_S} (hs : veq z0 h) : vfr veq z0 (ab_X2_neighbourBy_19 h) := by
  unfold ab_X2_neighbourBy_19
  exact vr_rt hs
theorem ve_X2_neighbourBy_50 {z0 : vt_S} {s0 : Int32} {h : vt_S} (hs : veq z0 h) : vfr veq z0 (ab_X2_neighbourBy_50 s0 h) := by
  unfold ab_X2_neighbourBy_50
  exact vr_rt hs
theorem ve_X2_neighbourBy_0 {z0 : vt_S} {x0 : Nat} {x1 : Nat} {x2 : Int32} {h : vt_S} (hs : veq z0 h) : vfr veq z0 (ab_X2_neighbourBy x0 x1 x2 h) := by
  unfold ab_X2_neighbourBy
  refine vr_let (fun _ => ?_)
  refine vr_if ?_ ?_
  · exact ve_X2_neighbourBy_19 hs
  · refine vr_let (fun _ => ?_)
    refine vr_let (fun _ => ?_)
    refine vr_if ?_ ?_
    · exact ve_X2_neighbourBy_19 hs
    · refine vr_let (fun _ => ?_)
      refine vr_if ?_ ?_
      · refine vr_let (fun _ => ?_)
        exact vr_rt hs
      · refine vr_let (fun _ => ?_)
        refine vr_if ?_ ?_
        · refine vr_let (fun _ => ?_)
          exact ve_X2_neighbourBy_50 hs
        · exact ve_X2_neighbourBy_50 hs
theorem ve_X2_neighbourBy {x0 : Nat} {x1 : Nat} {x2 : Int32} {h : vt_S} {r : Int32} {s : vt_S} (e : ab_X2_neighbourBy x0 x1 x2 h = some (r, s)) : s = h := ve_X2_neighbourBy_0 rfl r s e

theorem ve_X2_lowCeiling_72 {z0 : vt_S} {s0 : Int32} {h : vt_S} (hs : veq z0 h) : vfr veq z0 (ab_X2_lowCeiling_72 s0 h) := by
  unfold ab_X2_lowCeiling_72
  exact vr_rt hs
theorem ve_X2_lowCeiling_47 {z0 : vt_S} {k5 : Nat → Int32 → Int32 → Int32 → vt_S → Option (Int32 × vt_S)} (hk5 : ∀ {x0 : Nat} {x1 : Int32} {x2 : Int32} {x3 : Int32} {h : vt_S}, veq z0 h → vfr veq z0 (k5 x0 x1 x2 x3 h)) {x0 : Nat} {x1 : Int32} {x2 : Int32} {x3 : Int32} {h : vt_S} (hs : veq z0 h) : vfr veq z0 (ab_X2_lowCeiling_47 k5 x0 x1 x2 x3 h) := by
  unfold ab_X2_lowCeiling_47
  exact hk5 hs
theorem ve_X2_lowCeiling_5b {z0 : vt_S} {k5 : Nat → Int32 → Int32 → Int32 → vt_S → Option (Int32 × vt_S)} (hk5 : ∀ {x0 : Nat} {x1 : Int32} {x2 : Int32} {x3 : Int32} {h : vt_S}, veq z0 h → vfr veq z0 (k5 x0 x1 x2 x3 h)) {x0 : Nat} {x1 : Int32} {x2 : Int32} {x3 : Int32} {h : vt_S} (hs : veq z0 h) : vfr veq z0 (ab_X2_lowCeiling_5b k5 x0 x1 x2 x3 h) := by
  unfold ab_X2_lowCeiling_5b
  refine vr_let (fun _ => ?_)
  refine vr_if ?_ ?_
  · refine vr_if ?_ ?_
    · refine vr_bd (fun _ => ?_)
      refine vr_let (fun _ => ?_)
      exact ve_X2_lowCeiling_72 hs
    · exact ve_X2_lowCeiling_72 hs
  · refine vr_bd (fun _ => ?_)
    refine vr_cl (fun _ _ e => ((ve_X2_neighbourBy e).trans hs)) (fun _ h hs => ?_)
    refine vr_if ?_ ?_
    · exact ve_X2_lowCeiling_47 hk5 hs
    · refine vr_bd (fun _ => ?_)
      refine vr_let (fun _ => ?_)
      refine vr_let (fun _ => ?_)
      exact ve_X2_lowCeiling_47 hk5 hs
theorem ve_X2_lowCeiling_5 {z0 : vt_S} : ∀ (n : Nat) {x0 : Nat} {x1 : Int32} {x2 : Int32} {x3 : Int32} {h : vt_S}, veq z0 h → vfr veq z0 (ab_X2_lowCeiling_5 n x0 x1 x2 x3 h) := by
  intro n
  induction n with
  | zero => intro x0 x1 x2 x3 h hs; exact vr_no
  | succ n ih => intro x0 x1 x2 x3 h hs; exact ve_X2_lowCeiling_5b (fun hs => ih hs) hs
theorem ve_X2_lowCeiling_0 {z0 : vt_S} {x0 : Nat} {x1 : Int32} {h : vt_S} (hs : veq z0 h) : vfr veq z0 (ab_X2_lowCeiling x0 x1 h) := by
  unfold ab_X2_lowCeiling
  exact ve_X2_lowCeiling_5 sv_fuel hs
theorem ve_X2_lowCeiling {x0 : Nat} {x1 : Int32} {h : vt_S} {r : Int32} {s : vt_S} (e : ab_X2_lowCeiling x0 x1 h = some (r, s)) : s = h := ve_X2_lowCeiling_0 rfl r s e

theorem vk_X6_startMover_0 {O : Nat → Prop} {z0 : vt_S} {x0 : Nat} {x1 : Int32} {x2 : Int32} {x3 : Int32} {h : vt_S} (ox0 : O x0) (hs : vw [709, 710, 711, 712, 713] [] [] O z0 h) : vfr (vw [709, 710, 711, 712, 713] [] [] O) z0 (ab_X6_startMover x0 x1 x2 x3 h) := by
  unfold ab_X6_startMover
  refine vr_I hs (by decide) ox0 (fun h hs => ?_)
  refine vr_I hs (by decide) ox0 (fun h hs => ?_)
  refine vr_I hs (by decide) ox0 (fun h hs => ?_)
  refine vr_let (fun _ => ?_)
  refine vr_I hs (by decide) ox0 (fun h hs => ?_)
  refine vr_I hs (by decide) ox0 (fun h hs => ?_)
  exact vr_rt hs
theorem vk_X6_startMover {O : Nat → Prop} {x0 : Nat} {x1 : Int32} {x2 : Int32} {x3 : Int32} {h : vt_S} {r : Unit} {s : vt_S} (c : vcl O h) (ox0 : O x0) (e : ab_X6_startMover x0 x1 x2 x3 h = some (r, s)) : vw [709, 710, 711, 712, 713] [] [] O h s := vk_X6_startMover_0 ox0 ⟨vk.refl h, c⟩ r s e

theorem ve_X2_lowFloor_54 {z0 : vt_S} {k12 : Nat → Int32 → Int32 → Int32 → vt_S → Option (Int32 × vt_S)} (hk12 : ∀ {x0 : Nat} {x1 : Int32} {x2 : Int32} {x3 : Int32} {h : vt_S}, veq z0 h → vfr veq z0 (k12 x0 x1 x2 x3 h)) {x0 : Nat} {x1 : Int32} {x2 : Int32} {x3 : Int32} {h : vt_S} (hs : veq z0 h) : vfr veq z0 (ab_X2_lowFloor_54 k12 x0 x1 x2 x3 h) := by
  unfold ab_X2_lowFloor_54
  exact hk12 hs
theorem ve_X2_lowFloor_12b {z0 : vt_S} {k12 : Nat → Int32 → Int32 → Int32 → vt_S → Option (Int32 × vt_S)} (hk12 : ∀ {x0 : Nat} {x1 : Int32} {x2 : Int32} {x3 : Int32} {h : vt_S}, veq z0 h → vfr veq z0 (k12 x0 x1 x2 x3 h)) {x0 : Nat} {x1 : Int32} {x2 : Int32} {x3 : Int32} {h : vt_S} (hs : veq z0 h) : vfr veq z0 (ab_X2_lowFloor_12b k12 x0 x1 x2 x3 h) := by
  unfold ab_X2_lowFloor_12b
  refine vr_let (fun _ => ?_)
  refine vr_if ?_ ?_
  · exact vr_rt hs
  · refine vr_bd (fun _ => ?_)
    refine vr_cl (fun _ _ e => ((ve_X2_neighbourBy e).trans hs)) (fun _ h hs => ?_)
    refine vr_if ?_ ?_
    · exact ve_X2_lowFloor_54 hk12 hs
    · refine vr_bd (fun _ => ?_)
      refine vr_let (fun _ => ?_)
      refine vr_let (fun _ => ?_)
      exact ve_X2_lowFloor_54 hk12 hs
theorem ve_X2_lowFloor_12 {z0 : vt_S} : ∀ (n : Nat) {x0 : Nat} {x1 : Int32} {x2 : Int32} {x3 : Int32} {h : vt_S}, veq z0 h → vfr veq z0 (ab_X2_lowFloor_12 n x0 x1 x2 x3 h) := by
  intro n
  induction n with
  | zero => intro x0 x1 x2 x3 h hs; exact vr_no
  | succ n ih => intro x0 x1 x2 x3 h hs; exact ve_X2_lowFloor_12b (fun hs => ih hs) hs
theorem ve_X2_lowFloor_0 {z0 : vt_S} {x0 : Nat} {x1 : Int32} {h : vt_S} (hs : veq z0 h) : vfr veq z0 (ab_X2_lowFloor x0 x1 h) := by
  unfold ab_X2_lowFloor
  refine vr_bd (fun _ => ?_)
  refine vr_let (fun _ => ?_)
  exact ve_X2_lowFloor_12 sv_fuel hs
theorem ve_X2_lowFloor {x0 : Nat} {x1 : Int32} {h : vt_S} {r : Int32} {s : vt_S} (e : ab_X2_lowFloor x0 x1 h = some (r, s)) : s = h := ve_X2_lowFloor_0 rfl r s e

theorem ve_X2_highFloor_54 {z0 : vt_S} {k12 : Nat → Int32 → Int32 → Int32 → vt_S → Option (Int32 × vt_S)} (hk12 : ∀ {x0 : Nat} {x1 : Int32} {x2 : Int32} {x3 : Int32} {h : vt_S}, veq z0 h → vfr veq z0 (k12 x0 x1 x2 x3 h)) {x0 : Nat} {x1 : Int32} {x2 : Int32} {x3 : Int32} {h : vt_S} (hs : veq z0 h) : vfr veq z0 (ab_X2_highFloor_54 k12 x0 x1 x2 x3 h) := by
  unfold ab_X2_highFloor_54
  exact hk12 hs
theorem ve_X2_highFloor_12b {z0 : vt_S} {k12 : Nat → Int32 → Int32 → Int32 → vt_S → Option (Int32 × vt_S)} (hk12 : ∀ {x0 : Nat} {x1 : Int32} {x2 : Int32} {x3 : Int32} {h : vt_S}, veq z0 h → vfr veq z0 (k12 x0 x1 x2 x3 h)) {x0 : Nat} {x1 : Int32} {x2 : Int32} {x3 : Int32} {h : vt_S} (hs : veq z0 h) : vfr veq z0 (ab_X2_highFloor_12b k12 x0 x1 x2 x3 h) := by
  unfold ab_X2_highFloor_12b
  refine vr_let (fun _ => ?_)
  refine vr_if ?_ ?_
  · exact vr_rt hs
  · refine vr_bd (fun _ => ?_)
    refine vr_cl (fun _ _ e => ((ve_X2_neighbourBy e).trans hs)) (fun _ h hs => ?_)
    refine vr_if ?_ ?_
    · exact ve_X2_highFloor_54 hk12 hs
    · refine vr_bd (fun _ => ?_)
      refine vr_let (fun _ => ?_)
      refine vr_let (fun _ => ?_)
      exact ve_X2_highFloor_54 hk12 hs
theorem ve_X2_highFloor_12 {z0 : vt_S} : ∀ (n : Nat) {x0 : Nat} {x1 : Int32} {x2 : Int32} {x3 : Int32} {h : vt_S}, veq z0 h → vfr veq z0 (ab_X2_highFloor_12 n x0 x1 x2 x3 h) := by
  intro n
  induction n with
  | zero => intro x0 x1 x2 x3 h hs; exact vr_no
  | succ n ih => intro x0 x1 x2 x3 h hs; exact ve_X2_highFloor_12b (fun hs => ih hs) hs
theorem ve_X2_highFloor_0 {z0 : vt_S} {x0 : Nat} {x1 : Int32} {h : vt_S} (hs : veq z0 h) : vfr veq z0 (ab_X2_highFloor x0 x1 h) := by
  unfold ab_X2_highFloor
  refine vr_bd (fun _ => ?_)
  refine vr_let (fun _ => ?_)
  exact ve_X2_highFloor_12 sv_fuel hs
theorem ve_X2_highFloor {x0 : Nat} {x1 : Int32} {h : vt_S} {r : Int32} {s : vt_S} (e : ab_X2_highFloor x0 x1 h = some (r, s)) : s = h := ve_X2_highFloor_0 rfl r s e

theorem vk_X2_startOne_103 {O : Nat → Prop} {z0 : vt_S} {h : vt_S} (hs : vw [709, 710, 711, 712, 713] [] [] O z0 h) : vfr (vw [709, 710, 711, 712, 713] [] [] O) z0 (ab_X2_startOne_103 h) := by
  unfold ab_X2_startOne_103
  exact vr_rt hs
theorem vk_X2_startOne_0 {O : Nat → Prop} {z0 : vt_S} {x0 : Nat} {x1 : Int32} {x2 : Int32} {h : vt_S} (ox0 : O x0) (hs : vw [709, 710, 711, 712, 713] [] [] O z0 h) : vfr (vw [709, 710, 711, 712, 713] [] [] O) z0 (ab_X2_startOne x0 x1 x2 h) := by
  unfold ab_X2_startOne
  refine vr_lP hs ox0 (fun v2 ov2 => ?_)
  refine vr_let (fun _ => ?_)
  refine vr_if ?_ ?_
  · refine vr_if ?_ ?_
    · refine vr_cl (fun _ _ e => (by rw [ve_X2_lowCeiling e]; exact hs)) (fun _ h hs => ?_)
      refine vr_let (fun _ => ?_)
      refine vr_let (fun _ => ?_)
      refine vr_cl (fun _ _ e => (let q := vk_X6_startMover hs.2 ov2 e; ⟨hs.1.trans (q.1.weak (by decide) (by decide) (by decide)), q.2⟩)) (fun _ h hs => ?_)
      exact vk_X2_startOne_103 hs
    · refine vr_if ?_ ?_
      · refine vr_cl (fun _ _ e => (by rw [ve_X2_lowFloor e]; exact hs)) (fun _ h hs => ?_)
        refine vr_cl (fun _ _ e => (let q := vk_X6_startMover hs.2 ov2 e; ⟨hs.1.trans (q.1.weak (by decide) (by decide) (by decide)), q.2⟩)) (fun _ h hs => ?_)
        exact vk_X2_startOne_103 hs
      · refine vr_if ?_ ?_
        · refine vr_cl (fun _ _ e => (by rw [ve_X2_highFloor e]; exact hs)) (fun _ h hs => ?_)
          refine vr_let (fun _ => ?_)
          refine vr_let (fun _ => ?_)
          refine vr_cl (fun _ _ e => (let q := vk_X6_startMover hs.2 ov2 e; ⟨hs.1.trans (q.1.weak (by decide) (by decide) (by decide)), q.2⟩)) (fun _ h hs => ?_)
          exact vk_X2_startOne_103 hs
        · exact vk_X2_startOne_103 hs
  · refine vr_if ?_ ?_
    · refine vr_let (fun _ => ?_)
      refine vr_if ?_ ?_
      · refine vr_I hs (by decide) ov2 (fun h hs => ?_)
        exact vk_X2_startOne_103 hs
      · exact vk_X2_startOne_103 hs
    · exact vk_X2_startOne_103 hs
theorem vk_X2_startOne {O : Nat → Prop} {x0 : Nat} {x1 : Int32} {x2 : Int32} {h : vt_S} {r : Unit} {s : vt_S} (c : vcl O h) (ox0 : O x0) (e : ab_X2_startOne x0 x1 x2 h = some (r, s)) : vw [709, 710, 711, 712, 713] [] [] O h s := vk_X2_startOne_0 ox0 ⟨vk.refl h, c⟩ r s e

theorem vk_X2_startAll_40 {O : Nat → Prop} {z0 : vt_S} {h : vt_S} (hs : vw [709, 710, 711, 712, 713] [] [] O z0 h) : vfr (vw [709, 710, 711, 712, 713] [] [] O) z0 (ab_X2_startAll_40 h) := by
  unfold ab_X2_startAll_40
  exact vr_rt hs
theorem vk_X2_startAll_34 {O : Nat → Prop} {z0 : vt_S} {k2 : Nat → Int32 → Int32 → Int32 → vt_S → Option (Unit × vt_S)} (hk2 : ∀ {x0 : Nat} {x1 : Int32} {x2 : Int32} {x3 : Int32} {h : vt_S}, O x0 → vw [709, 710, 711, 712, 713] [] [] O z0 h → vfr (vw [709, 710, 711, 712, 713] [] [] O) z0 (k2 x0 x1 x2 x3 h)) {x0 : Nat} {x1 : Int32} {x2 : Int32} {x3 : Int32} {h : vt_S} (ox0 : O x0) (hs : vw [709, 710, 711, 712, 713] [] [] O z0 h) : vfr (vw [709, 710, 711, 712, 713] [] [] O) z0 (ab_X2_startAll_34 k2 x0 x1 x2 x3 h) := by
  unfold ab_X2_startAll_34
  exact hk2 ox0 hs
theorem vk_X2_startAll_2b {O : Nat → Prop} {z0 : vt_S} {k2 : Nat → Int32 → Int32 → Int32 → vt_S → Option (Unit × vt_S)} (hk2 : ∀ {x0 : Nat} {x1 : Int32} {x2 : Int32} {x3 : Int32} {h : vt_S}, O x0 → vw [709, 710, 711, 712, 713] [] [] O z0 h → vfr (vw [709, 710, 711, 712, 713] [] [] O) z0 (k2 x0 x1 x2 x3 h)) {x0 : Nat} {x1 : Int32} {x2 : Int32} {x3 : Int32} {h : vt_S} (ox0 : O x0) (hs : vw [709, 710, 711, 712, 713] [] [] O z0 h) : vfr (vw [709, 710, 711, 712, 713] [] [] O) z0 (ab_X2_startAll_2b k2 x0 x1 x2 x3 h) := by
  unfold ab_X2_startAll_2b
  refine vr_let (fun _ => ?_)
  refine vr_if ?_ ?_
  · exact vk_X2_startAll_40 hs
  · refine vr_if ?_ ?_
    · exact vk_X2_startAll_40 hs
    · refine vr_lP hs ox0 (fun v3 ov3 => ?_)
      refine vr_let (fun _ => ?_)
      refine vr_if ?_ ?_
      · refine vr_cl (fun _ _ e => (let q := vk_X2_startOne hs.2 ox0 e; ⟨hs.1.trans (q.1.weak (by decide) (by decide) (by decide)), q.2⟩)) (fun _ h hs => ?_)
        exact vk_X2_startAll_34 hk2 ox0 hs
      · exact vk_X2_startAll_34 hk2 ox0 hs
theorem vk_X2_startAll_2 {O : Nat → Prop} {z0 : vt_S} : ∀ (n : Nat) {x0 : Nat} {x1 : Int32} {x2 : Int32} {x3 : Int32} {h : vt_S}, O x0 → vw [709, 710, 711, 712, 713] [] [] O z0 h → vfr (vw [709, 710, 711, 712, 713] [] [] O) z0 (ab_X2_startAll_2 n x0 x1 x2 x3 h) := by
  intro n
  induction n with
  | zero => intro x0 x1 x2 x3 h ox0 hs; exact vr_no
  | succ n ih => intro x0 x1 x2 x3 h ox0 hs; exact vk_X2_startAll_2b (fun ox0 hs => ih ox0 hs) ox0 hs
theorem vk_X2_startAll_0 {O : Nat → Prop} {z0 : vt_S} {x0 : Nat} {x1 : Int32} {x2 : Int32} {h : vt_S} (ox0 : O x0) (hs : vw [709, 710, 711, 712, 713] [] [] O z0 h) : vfr (vw [709, 710, 711, 712, 713] [] [] O) z0 (ab_X2_startAll x0 x1 x2 h) := by
  unfold ab_X2_startAll
  exact vk_X2_startAll_2 sv_fuel ox0 hs
theorem vk_X2_startAll {O : Nat → Prop} {x0 : Nat} {x1 : Int32} {x2 : Int32} {h : vt_S} {r : Unit} {s : vt_S} (c : vcl O h) (ox0 : O x0) (e : ab_X2_startAll x0 x1 x2 h = some (r, s)) : vw [709, 710, 711, 712, 713] [] [] O h s := vk_X2_startAll_0 ox0 ⟨vk.refl h, c⟩ r s e

theorem vk_X10_go_57 {O : Nat → Prop} {z0 : vt_S} {h : vt_S} (hs : vw [406, 407, 408, 409, 410, 709, 710, 711, 712, 713, 1102, 1103, 1105] [400, 401, 402, 403, 404, 405] [] O z0 h) : vfr (vw [406, 407, 408, 409, 410, 709, 710, 711, 712, 713, 1102, 1103, 1105] [400, 401, 402, 403, 404, 405] [] O) z0 (ab_X10_go_57 h) := by
  unfold ab_X10_go_57
  exact vr_rt hs
theorem vk_X10_go_185 {O : Nat → Prop} {z0 : vt_S} {k135 : Nat → Int32 → vt_S → Option (Int32 × vt_S)} (hk135 : ∀ {x0 : Nat} {x3 : Int32} {h : vt_S}, O x0 → vw [406, 407, 408, 409, 410, 709, 710, 711, 712, 713, 1102, 1103, 1105] [400, 401, 402, 403, 404, 405] [] O z0 h → vfr (vw [406, 407, 408, 409, 410, 709, 710, 711, 712, 713, 1102, 1103, 1105] [400, 401, 402, 403, 404, 405] [] O) z0 (k135 x0 x3 h)) {x0 : Nat} {x3 : Int32} {x4 : Nat} {s0 : Nat} {s1 : Nat} {s2 : Int32} {h : vt_S} (ox0 : O x0) (ox4 : O x4) (os0 : O s0) (os1 : O s1) (hs : vw [406, 407, 408, 409, 410, 709, 710, 711, 712, 713, 1102, 1103, 1105] [400, 401, 402, 403, 404, 405] [] O z0 h) : vfr (vw [406, 407, 408, 409, 410, 709, 710, 711, 712, 713, 1102, 1103, 1105] [400, 401, 402, 403, 404, 405] [] O) z0 (ab_X10_go_185 k135 x0 x3 x4 s0 s1 s2 h) := by
  unfold ab_X10_go_185
  refine vr_cl (fun _ _ e => (by rw [ve_X11_sectorOn e]; exact hs)) (fun _ h hs => ?_)
  refine vr_I hs (by decide) os0 (fun h hs => ?_)
  refine vr_gP hs ox0 (fun v4 ov4 => ?_)
  refine vr_let (fun _ => ?_)
  refine vr_cl (fun _ _ e => (by rw [ve_X10_moverByCrossing e]; exact hs)) (fun _ h hs => ?_)
  refine vr_let (fun _ => ?_)
  refine vr_cl (fun _ _ e => (let q := vk_X2_startAll hs.2 ov4 e; ⟨hs.1.trans (q.1.weak (by decide) (by decide) (by decide)), q.2⟩)) (fun _ h hs => ?_)
  exact hk135 ox0 hs
theorem vk_X10_go_135b {O : Nat → Prop} {z0 : vt_S} {k135 : Nat → Int32 → vt_S → Option (Int32 × vt_S)} (hk135 : ∀ {x0 : Nat} {x3 : Int32} {h : vt_S}, O x0 → vw [406, 407, 408, 409, 410, 709, 710, 711, 712, 713, 1102, 1103, 1105] [400, 401, 402, 403, 404, 405] [] O z0 h → vfr (vw [406, 407, 408, 409, 410, 709, 710, 711, 712, 713, 1102, 1103, 1105] [400, 401, 402, 403, 404, 405] [] O) z0 (k135 x0 x3 h)) {x0 : Nat} {x3 : Int32} {h : vt_S} (ox0 : O x0) (hs : vw [406, 407, 408, 409, 410, 709, 710, 711, 712, 713, 1102, 1103, 1105] [400, 401, 402, 403, 404, 405] [] O z0 h) : vfr (vw [406, 407, 408, 409, 410, 709, 710, 711, 712, 713, 1102, 1103, 1105] [400, 401, 402, 403, 404, 405] [] O) z0 (ab_X10_go_135b k135 x0 x3 h) := by
  unfold ab_X10_go_135b
  refine vr_gP hs ox0 (fun v1 ov1 => ?_)
  refine vr_let (fun _ => ?_)
  refine vr_if ?_ ?_
  · exact vr_rt hs
  · refine vr_gP hs ox0 (fun v3 ov3 => ?_)
    refine vr_gP hs ox0 (fun v5 ov5 => ?_)
    refine vr_bd (fun _ => ?_)
    refine vr_lP hs ov3 (fun v8 ov8 => ?_)
    refine vr_gP hs ox0 (fun v9 ov9 => ?_)
    refine vr_bd (fun _ => ?_)
    refine vr_if ?_ ?_
    · exact vk_X10_go_185 hk135 ox0 ov8 ox0 ov8 hs
    · exact vk_X10_go_185 hk135 ox0 ov8 ox0 ov8 hs
theorem vk_X10_go_135 {O : Nat → Prop} {z0 : vt_S} : ∀ (n : Nat) {x0 : Nat} {x3 : Int32} {h : vt_S}, O x0 → vw [406, 407, 408, 409, 410, 709, 710, 711, 712, 713, 1102, 1103, 1105] [400, 401, 402, 403, 404, 405] [] O z0 h → vfr (vw [406, 407, 408, 409, 410, 709, 710, 711, 712, 713, 1102, 1103, 1105] [400, 401, 402, 403, 404, 405] [] O) z0 (ab_X10_go_135 n x0 x3 h) := by
  intro n
  induction n with
  | zero => intro x0 x3 h ox0 hs; exact vr_no
  | succ n ih => intro x0 x3 h ox0 hs; exact vk_X10_go_135b (fun ox0 hs => ih ox0 hs) ox0 hs
theorem vk_X10_go_61b {O : Nat → Prop} {z0 : vt_S} {k61 : Nat → Int32 → Int32 → Int32 → vt_S → Option (Int32 × vt_S)} (hk61 : ∀ {x0 : Nat} {x1 : Int32} {x2 : Int32} {x3 : Int32} {h : vt_S}, O x0 → vw [406, 407, 408, 409, 410, 709, 710, 711, 712, 713, 1102, 1103, 1105] [400, 401, 402, 403, 404, 405] [] O z0 h → vfr (vw [406, 407, 408, 409, 410, 709, 710, 711, 712, 713, 1102, 1103, 1105] [400, 401, 402, 403, 404, 405] [] O) z0 (k61 x0 x1 x2 x3 h)) {x0 : Nat} {x1 : Int32} {x2 : Int32} {x3 : Int32} {h : vt_S} (ox0 : O x0) (hs : vw [406, 407, 408, 409, 410, 709, 710, 711, 712, 713, 1102, 1103, 1105] [400, 401, 402, 403, 404, 405] [] O z0 h) : vfr (vw [406, 407, 408, 409, 410, 709, 710, 711, 712, 713, 1102, 1103, 1105] [400, 401, 402, 403, 404, 405] [] O) z0 (ab_X10_go_61b k61 x0 x1 x2 x3 h) := by
  unfold ab_X10_go_61b
  refine vr_gP hs ox0 (fun v1 ov1 => ?_)
  refine vr_let (fun _ => ?_)
  refine vr_if ?_ ?_
  · refine vr_let (fun _ => ?_)
    refine vr_I hs (by decide) ox0 (fun h hs => ?_)
    refine vr_let (fun _ => ?_)
    refine vr_I hs (by decide) ox0 (fun h hs => ?_)
    exact vk_X10_go_135 sv_fuel ox0 hs
  · refine vr_gP hs ox0 (fun v7 ov7 => ?_)
    refine vr_gP hs ox0 (fun v9 ov9 => ?_)
    refine vr_bd (fun _ => ?_)
    refine vr_lP hs ov7 (fun v12 ov12 => ?_)
    refine vr_gP hs ox0 (fun v13 ov13 => ?_)
    refine vr_bd (fun _ => ?_)
    refine vr_cl (fun _ _ e => (by rw [ve_X10_stops e]; exact hs)) (fun _ h hs => ?_)
    refine vr_if ?_ ?_
    · exact hk61 ox0 hs
    · exact vr_rt hs
theorem vk_X10_go_61 {O : Nat → Prop} {z0 : vt_S} : ∀ (n : Nat) {x0 : Nat} {x1 : Int32} {x2 : Int32} {x3 : Int32} {h : vt_S}, O x0 → vw [406, 407, 408, 409, 410, 709, 710, 711, 712, 713, 1102, 1103, 1105] [400, 401, 402, 403, 404, 405] [] O z0 h → vfr (vw [406, 407, 408, 409, 410, 709, 710, 711, 712, 713, 1102, 1103, 1105] [400, 401, 402, 403, 404, 405] [] O) z0 (ab_X10_go_61 n x0 x1 x2 x3 h) := by
  intro n
  induction n with
  | zero => intro x0 x1 x2 x3 h ox0 hs; exact vr_no
  | succ n ih => intro x0 x1 x2 x3 h ox0 hs; exact vk_X10_go_61b (fun ox0 hs => ih ox0 hs) ox0 hs
theorem vk_X10_go_0 {O : Nat → Prop} {z0 : vt_S} {x0 : Nat} {x1 : Int32} {x2 : Int32} {h : vt_S} (ox0 : O x0) (hs : vw [406, 407, 408, 409, 410, 709, 710, 711, 712, 713, 1102, 1103, 1105] [400, 401, 402, 403, 404, 405] [] O z0 h) : vfr (vw [406, 407, 408, 409, 410, 709, 710, 711, 712, 713, 1102, 1103, 1105] [400, 401, 402, 403, 404, 405] [] O) z0 (ab_X10_go x0 x1 x2 h) := by
  unfold ab_X10_go
  refine vr_gP hs ox0 (fun v1 ov1 => ?_)
  refine vr_let (fun _ => ?_)
  refine vr_let (fun _ => ?_)
  refine vr_cl (fun _ _ e => (let q := vk_X3_aim hs.2 ov1 e; ⟨hs.1.trans (q.1.weak (by decide) (by decide) (by decide)), q.2⟩)) (fun _ h hs => ?_)
  refine vr_gP hs ox0 (fun v5 ov5 => ?_)
  refine vr_gP hs ox0 (fun v6 ov6 => ?_)
  refine vr_cl (fun _ _ e => (let q := vk_X3_meetClose hs.2 ov5 ov6 e; ⟨hs.1.trans (q.1.weak (by decide) (by decide) (by decide)), q.2⟩)) (fun _ h hs => ?_)
  refine vr_let (fun _ => ?_)
  refine vr_let (fun _ => ?_)
  refine vr_if ?_ ?_
  · exact vk_X10_go_57 hs
  · refine vr_let (fun _ => ?_)
    refine vr_let (fun _ => ?_)
    refine vr_if ?_ ?_
    · exact vk_X10_go_61 sv_fuel ox0 hs
    · exact vk_X10_go_57 hs
theorem vk_X10_go {O : Nat → Prop} {x0 : Nat} {x1 : Int32} {x2 : Int32} {h : vt_S} {r : Int32} {s : vt_S} (c : vcl O h) (ox0 : O x0) (e : ab_X10_go x0 x1 x2 h = some (r, s)) : vw [406, 407, 408, 409, 410, 709, 710, 711, 712, 713, 1102, 1103, 1105] [400, 401, 402, 403, 404, 405] [] O h s := vk_X10_go_0 ox0 ⟨vk.refl h, c⟩ r s e

