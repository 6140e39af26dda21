-- reading what was written
theorem sv_FI_uI (h : sv_H) (f a : Nat) (v : Int32) (g b : Nat) : sv_FI (sv_uI h f a v) g b = if g = f ∧ b = a then v else sv_FI h g b := rfl
theorem sv_FJ_uJ (h : sv_H) (f a : Nat) (v : Int64) (g b : Nat) : sv_FJ (sv_uJ h f a v) g b = if g = f ∧ b = a then v else sv_FJ h g b := rfl
theorem sv_FP_uP (h : sv_H) (f a v g b : Nat) : sv_FP (sv_uP h f a v) g b = if g = f ∧ b = a then v else sv_FP h g b := rfl
theorem sv_AI_wI (h : sv_H) (a j : Nat) (v : Int32) (b i : Nat) : sv_AI (sv_wI h a j v) b i = if b = a ∧ i = j then v else sv_AI h b i := rfl
theorem sv_AJ_wJ (h : sv_H) (a j : Nat) (v : Int64) (b i : Nat) : sv_AJ (sv_wJ h a j v) b i = if b = a ∧ i = j then v else sv_AJ h b i := rfl
theorem sv_AP_wP (h : sv_H) (a j v b i : Nat) : sv_AP (sv_wP h a j v) b i = if b = a ∧ i = j then v else sv_AP h b i := rfl
section PR
variable {h : sv_H} {c f a : Nat}
theorem ok_gI (hk : sv_K h a = c) : sv_gI h c f a = some (sv_FI h f a) := if_pos hk
theorem ok_gJ (hk : sv_K h a = c) : sv_gJ h c f a = some (sv_FJ h f a) := if_pos hk
theorem ok_gP (hk : sv_K h a = c) (hp : sv_FP h f a ≠ 0) : sv_gP h c f a = some (sv_FP h f a) := if_pos ⟨hk, hp⟩
theorem ok_pI {v : Int32} (hk : sv_K h a = c) : sv_pI h c f a v = some (sv_uI h f a v) := if_pos hk
theorem ok_pZ {v : Int32} (hk : sv_K h a = c) (hv : v = 0 ∨ v = 1) : sv_pZ h c f a v = some (sv_uI h f a v) := if_pos ⟨hk, hv⟩
theorem ok_pJ {v : Int64} (hk : sv_K h a = c) : sv_pJ h c f a v = some (sv_uJ h f a v) := if_pos hk
theorem ok_pP {v : Nat} (hk : sv_K h a = c) (hv : v ≠ 0) : sv_pP h c f a v = some (sv_uP h f a v) := if_pos ⟨hk, hv⟩
theorem ok_in {i n : Nat} (hi : i < n) (hn : n < 2 ^ 31) : ¬ (nI i < 0 ∨ n ≤ (nI i).toNatClampNeg) := vp_in_nI hi hn
theorem ok_lI {i : Nat} (hk : sv_K h a = 901) (hi : i < sv_N h a) (hn : sv_N h a < 2 ^ 31) : sv_lI h a (nI i) = some (sv_AI h a i) := by
  rw [sv_lI, if_pos ⟨hk, ok_in hi hn⟩, nI_clamp (by omega)]
theorem ok_lJ {i : Nat} (hk : sv_K h a = 902) (hi : i < sv_N h a) (hn : sv_N h a < 2 ^ 31) : sv_lJ h a (nI i) = some (sv_AJ h a i) := by
  rw [sv_lJ, if_pos ⟨hk, ok_in hi hn⟩, nI_clamp (by omega)]
theorem ok_lZ {i : Nat} (hk : sv_K h a = 903) (hi : i < sv_N h a) (hn : sv_N h a < 2 ^ 31) : sv_lZ h a (nI i) = some (sv_AI h a i) := by
  rw [sv_lZ, if_pos ⟨hk, ok_in hi hn⟩, nI_clamp (by omega)]
theorem ok_lB {i : Nat} (hk : sv_K h a = 904) (hi : i < sv_N h a) (hn : sv_N h a < 2 ^ 31) : sv_lB h a (nI i) = some (sv_AI h a i) := by
  rw [sv_lB, if_pos ⟨hk, ok_in hi hn⟩, nI_clamp (by omega)]
theorem ok_lP {i : Nat} (hk : sv_K h a = c) (hi : i < sv_N h a) (hn : sv_N h a < 2 ^ 31) (hp : sv_AP h a i ≠ 0) : sv_lP c h a (nI i) = some (sv_AP h a i) := by
  rw [sv_lP, if_pos ⟨hk, ok_in hi hn, by rw [nI_clamp (by omega)]; exact hp⟩, nI_clamp (by omega)]
theorem ok_sI {i : Nat} {v : Int32} (hk : sv_K h a = 901) (hi : i < sv_N h a) (hn : sv_N h a < 2 ^ 31) : sv_sI h a (nI i) v = some (sv_wI h a i v) := by
  rw [sv_sI, if_pos ⟨hk, ok_in hi hn⟩, nI_clamp (by omega)]
theorem ok_sJ {i : Nat} {v : Int64} (hk : sv_K h a = 902) (hi : i < sv_N h a) (hn : sv_N h a < 2 ^ 31) : sv_sJ h a (nI i) v = some (sv_wJ h a i v) := by
  rw [sv_sJ, if_pos ⟨hk, ok_in hi hn⟩, nI_clamp (by omega)]
theorem ok_sZ {i : Nat} {v : Int32} (hk : sv_K h a = 903) (hi : i < sv_N h a) (hn : sv_N h a < 2 ^ 31) : sv_sZ h a (nI i) v = some (sv_wI h a i (vp_nar .boolean v)) := by
  rw [sv_sZ, if_pos ⟨hk, ok_in hi hn⟩, nI_clamp (by omega)]
theorem ok_sB {i : Nat} {v : Int32} (hk : sv_K h a = 904) (hi : i < sv_N h a) (hn : sv_N h a < 2 ^ 31) : sv_sB h a (nI i) v = some (sv_wI h a i (vp_nar .byte v)) := by
  rw [sv_sB, if_pos ⟨hk, ok_in hi hn⟩, nI_clamp (by omega)]
theorem ok_sP {i v : Nat} (hk : sv_K h a = c) (hi : i < sv_N h a) (hn : sv_N h a < 2 ^ 31) (hv : sv_K h v + 910 = c) (h0 : v ≠ 0) : sv_sP c h a (nI i) v = some (sv_wP h a i v) := by
  rw [sv_sP, if_pos ⟨hk, ok_in hi hn, hv, h0⟩, nI_clamp (by omega)]
theorem ok_len (hk : sv_K h a = c) : sv_len h c a = some (nI (sv_N h a)) := if_pos hk
theorem ok_na {α : Type} {n : Nat} {k : Nat → sv_H → Option α} (hn : n ≤ 1048576) : sv_na h c (nI n) k = k (sv_sz h) (sv_ma h c n) := by
  have h1 : ¬ nI n < 0 := nI_pos (by omega)
  have h2 : nI n ≤ 1048576 := (nI_leI (b := 1048576) (by omega) (by omega)).mpr hn
  rw [sv_na, if_pos ⟨h1, h2⟩, nI_clamp (by omega)]
end PR
theorem sv_fuel_succ : ∃ n, sv_fuel = n + 1 := ⟨999999999, rfl⟩
