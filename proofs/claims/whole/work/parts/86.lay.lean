-- THE CONSTRUCTORS: the heap as finite lists, by offsets from B
/-- a cell's kind and length by its offset -/
def ly_c : List (Nat × Nat × Nat) → Nat → Nat × Nat
  | [], _ => (0, 0)
  | q :: C, o => if o = q.1 then q.2 else ly_c C o
/-- a reference by field and offset, or by array and place: one more than the offset, 0 without one -/
def ly_p : List (Nat × Nat × Nat) → Nat → Nat → Nat
  | [], _, _ => 0
  | q :: P, f, o => if f = q.1 ∧ o = q.2.1 then q.2.2 + 1 else ly_p P f o
def ly_i : List (Nat × Nat × Int32) → Nat → Nat → Int32
  | [], _, _ => 0
  | q :: P, f, o => if f = q.1 ∧ o = q.2.1 then q.2.2 else ly_i P f o
abbrev ly_S : Type := Nat × Nat × List (Nat × Nat × Nat) × List (Nat × Nat × Nat) × List (Nat × Nat × Int32) × List (Nat × Nat × Nat)
def ly_ad (B k : Nat) : Nat := if k = 0 then 0 else B + (k - 1)
def lay (B : Nat) (s : ly_S) : sv_H :=
  (B + s.1, s.2.1, fun a => if B ≤ a then (ly_c s.2.2.1 (a - B)).1 else 0, fun a => if B ≤ a then (ly_c s.2.2.1 (a - B)).2 else 0, fun f a => if B ≤ a then ly_i s.2.2.2.2.1 f (a - B) else 0, fun _ _ => 0, fun f a => if B ≤ a then ly_ad B (ly_p s.2.2.2.1 f (a - B)) else 0, fun _ _ => 0, fun _ _ => 0, fun a j => if B ≤ a then ly_ad B (ly_p s.2.2.2.2.2 (a - B) j) else 0)
def ly_K (s : ly_S) (o : Nat) : Nat := (ly_c s.2.2.1 o).1
def ly_N (s : ly_S) (o : Nat) : Nat := (ly_c s.2.2.1 o).2
def ly_obj (s : ly_S) (c k : Nat) : ly_S := (s.1 + 1, s.2.1 + k, (s.1, c, ly_N s s.1) :: s.2.2.1, s.2.2.2.1.filter (fun q => !(q.2.1 == s.1)), s.2.2.2.2.1.filter (fun q => !(q.2.1 == s.1)), s.2.2.2.2.2)
def ly_arr (s : ly_S) (c k : Nat) : ly_S := (s.1 + 1, s.2.1 + k, (s.1, c, k) :: s.2.2.1, s.2.2.2.1, s.2.2.2.2.1, s.2.2.2.2.2.filter (fun q => !(q.1 == s.1)))
def ly_ptr (s : ly_S) (f o t : Nat) : ly_S := (s.1, s.2.1, s.2.2.1, (f, o, t) :: s.2.2.2.1, s.2.2.2.2.1, s.2.2.2.2.2)
def ly_int (s : ly_S) (f o : Nat) (v : Int32) : ly_S := (s.1, s.2.1, s.2.2.1, s.2.2.2.1, (f, o, v) :: s.2.2.2.2.1, s.2.2.2.2.2)
def ly_el (s : ly_S) (o j t : Nat) : ly_S := (s.1, s.2.1, s.2.2.1, s.2.2.2.1, s.2.2.2.2.1, (o, j, t) :: s.2.2.2.2.2)
theorem ly_p_filter (P : List (Nat × Nat × Nat)) (n f o : Nat) : ly_p (P.filter (fun q => !(q.2.1 == n))) f o = if o = n then 0 else ly_p P f o := by
  induction P with
  | nil => by_cases h : o = n <;> simp [ly_p, h]
  | cons q P ih =>
    by_cases hq : q.2.1 = n
    · rw [List.filter_cons_of_neg (by simp [hq]), ih]
      by_cases h : o = n
      · simp [h]
      · rw [if_neg h, if_neg h, ly_p, if_neg (by rintro ⟨-, e⟩; exact h (e.trans hq))]
    · rw [List.filter_cons_of_pos (by simp [hq]), ly_p, ih]
      by_cases h : o = n
      · rw [if_pos h, if_pos h, if_neg (by rintro ⟨-, e⟩; exact hq (e.symm.trans h))]
      · rw [if_neg h, if_neg h, ly_p]
theorem ly_i_filter (P : List (Nat × Nat × Int32)) (n f o : Nat) : ly_i (P.filter (fun q => !(q.2.1 == n))) f o = if o = n then 0 else ly_i P f o := by
  induction P with
  | nil => by_cases h : o = n <;> simp [ly_i, h]
  | cons q P ih =>
    by_cases hq : q.2.1 = n
    · rw [List.filter_cons_of_neg (by simp [hq]), ih]
      by_cases h : o = n
      · simp [h]
      · rw [if_neg h, if_neg h, ly_i, if_neg (by rintro ⟨-, e⟩; exact h (e.trans hq))]
    · rw [List.filter_cons_of_pos (by simp [hq]), ly_i, ih]
      by_cases h : o = n
      · rw [if_pos h, if_pos h, if_neg (by rintro ⟨-, e⟩; exact hq (e.symm.trans h))]
      · rw [if_neg h, if_neg h, ly_i]
theorem ly_p_filter1 (P : List (Nat × Nat × Nat)) (n a j : Nat) : ly_p (P.filter (fun q => !(q.1 == n))) a j = if a = n then 0 else ly_p P a j := by
  induction P with
  | nil => by_cases h : a = n <;> simp [ly_p, h]
  | cons q P ih =>
    by_cases hq : q.1 = n
    · rw [List.filter_cons_of_neg (by simp [hq]), ih]
      by_cases h : a = n
      · simp [h]
      · rw [if_neg h, if_neg h, ly_p, if_neg (by rintro ⟨e, -⟩; exact h (e.trans hq))]
    · rw [List.filter_cons_of_pos (by simp [hq]), ly_p, ih]
      by_cases h : a = n
      · rw [if_pos h, if_pos h, if_neg (by rintro ⟨e, -⟩; exact hq (e.symm.trans h))]
      · rw [if_neg h, if_neg h, ly_p]
theorem ly_eq (B o a : Nat) (h : B ≤ a) : a = B + o ↔ a - B = o := by omega
theorem lay_mk (B : Nat) (s : ly_S) (c k : Nat) : sv_mk (lay B s) c k = lay B (ly_obj s c k) := by
  have hsz : sv_sz (lay B s) = B + s.1 := rfl
  refine Prod.ext ?_ (Prod.ext rfl (Prod.ext ?_ (Prod.ext ?_ (Prod.ext ?_ (Prod.ext ?_ (Prod.ext ?_ (Prod.ext rfl (Prod.ext rfl rfl))))))))
  · show B + s.1 + 1 = B + (s.1 + 1); omega
  · funext a
    show va_up _ (B + s.1) c a = if B ≤ a then (ly_c ((s.1, c, ly_N s s.1) :: s.2.2.1) (a - B)).1 else 0
    by_cases h : B ≤ a
    · rw [if_pos h]
      by_cases e : a = B + s.1
      · rw [e, va_up_self, ly_c, if_pos (by omega)]
      · rw [va_up_ne _ _ e, ly_c, if_neg (fun q => e (by omega))]
        show (if B ≤ a then _ else _) = _
        rw [if_pos h]
    · rw [if_neg h, va_up_ne _ _ (by omega)]
      show (if B ≤ a then _ else _) = _
      rw [if_neg h]
  · funext a
    show (if B ≤ a then (ly_c s.2.2.1 (a - B)).2 else 0) = if B ≤ a then (ly_c ((s.1, c, ly_N s s.1) :: s.2.2.1) (a - B)).2 else 0
    by_cases h : B ≤ a
    · rw [if_pos h, if_pos h, ly_c]
      by_cases e : a - B = s.1
      · rw [if_pos e, e]; rfl
      · rw [if_neg e]
    · rw [if_neg h, if_neg h]
  · funext f a
    show (if a = B + s.1 then 0 else if B ≤ a then ly_i s.2.2.2.2.1 f (a - B) else 0) = if B ≤ a then ly_i (s.2.2.2.2.1.filter (fun q => !(q.2.1 == s.1))) f (a - B) else 0
    by_cases h : B ≤ a
    · rw [if_pos h, if_pos h, ly_i_filter]
      by_cases e : a = B + s.1
      · rw [if_pos e, if_pos (by omega)]
      · rw [if_neg e, if_neg (by omega)]
    · rw [if_neg h, if_neg h, if_neg (by omega)]
  · funext f a
    show (if a = B + s.1 then (0 : Int64) else 0) = 0
    by_cases e : a = B + s.1 <;> simp [e]
  · funext f a
    show (if a = B + s.1 then 0 else if B ≤ a then ly_ad B (ly_p s.2.2.2.1 f (a - B)) else 0) = if B ≤ a then ly_ad B (ly_p (s.2.2.2.1.filter (fun q => !(q.2.1 == s.1))) f (a - B)) else 0
    by_cases h : B ≤ a
    · rw [if_pos h, if_pos h, ly_p_filter]
      by_cases e : a = B + s.1
      · rw [if_pos e, if_pos (by omega)]; rfl
      · rw [if_neg e, if_neg (by omega)]
    · rw [if_neg h, if_neg h, if_neg (by omega)]
theorem lay_ma (B : Nat) (s : ly_S) (c k : Nat) : sv_ma (lay B s) c k = lay B (ly_arr s c k) := by
  refine Prod.ext ?_ (Prod.ext rfl (Prod.ext ?_ (Prod.ext ?_ (Prod.ext rfl (Prod.ext rfl (Prod.ext rfl (Prod.ext ?_ (Prod.ext ?_ ?_))))))))
  · show B + s.1 + 1 = B + (s.1 + 1); omega
  · funext a
    show va_up _ (B + s.1) c a = if B ≤ a then (ly_c ((s.1, c, k) :: s.2.2.1) (a - B)).1 else 0
    by_cases h : B ≤ a
    · rw [if_pos h]
      by_cases e : a = B + s.1
      · rw [e, va_up_self, ly_c, if_pos (by omega)]
      · rw [va_up_ne _ _ e, ly_c, if_neg (fun q => e (by omega))]
        show (if B ≤ a then _ else _) = _
        rw [if_pos h]
    · rw [if_neg h, va_up_ne _ _ (by omega)]
      show (if B ≤ a then _ else _) = _
      rw [if_neg h]
  · funext a
    show va_up _ (B + s.1) k a = if B ≤ a then (ly_c ((s.1, c, k) :: s.2.2.1) (a - B)).2 else 0
    by_cases h : B ≤ a
    · rw [if_pos h]
      by_cases e : a = B + s.1
      · rw [e, va_up_self, ly_c, if_pos (by omega)]
      · rw [va_up_ne _ _ e, ly_c, if_neg (fun q => e (by omega))]
        show (if B ≤ a then _ else _) = _
        rw [if_pos h]
    · rw [if_neg h, va_up_ne _ _ (by omega)]
      show (if B ≤ a then _ else _) = _
      rw [if_neg h]
  · funext a j
    show (if a = B + s.1 then (0 : Int32) else 0) = 0
    by_cases e : a = B + s.1 <;> simp [e]
  · funext a j
    show (if a = B + s.1 then (0 : Int64) else 0) = 0
    by_cases e : a = B + s.1 <;> simp [e]
  · funext a j
    show (if a = B + s.1 then 0 else if B ≤ a then ly_ad B (ly_p s.2.2.2.2.2 (a - B) j) else 0) = if B ≤ a then ly_ad B (ly_p (s.2.2.2.2.2.filter (fun q => !(q.1 == s.1))) (a - B) j) else 0
    by_cases h : B ≤ a
    · rw [if_pos h, if_pos h, ly_p_filter1]
      by_cases e : a = B + s.1
      · rw [if_pos e, if_pos (by omega)]; rfl
      · rw [if_neg e, if_neg (by omega)]
    · rw [if_neg h, if_neg h, if_neg (by omega)]
theorem lay_uP (B : Nat) (s : ly_S) (f o t : Nat) : sv_uP (lay B s) f (B + o) (B + t) = lay B (ly_ptr s f o t) := by
  refine Prod.ext rfl (Prod.ext rfl (Prod.ext rfl (Prod.ext rfl (Prod.ext rfl (Prod.ext rfl (Prod.ext ?_ (Prod.ext rfl (Prod.ext rfl rfl))))))))
  funext g a
  show (if g = f ∧ a = B + o then B + t else if B ≤ a then ly_ad B (ly_p s.2.2.2.1 g (a - B)) else 0) = if B ≤ a then ly_ad B (if g = f ∧ a - B = o then t + 1 else ly_p s.2.2.2.1 g (a - B)) else 0
  by_cases h : B ≤ a
  · rw [if_pos h, if_pos h]
    by_cases e : g = f ∧ a = B + o
    · rw [if_pos e, if_pos ⟨e.1, by omega⟩]
      show B + t = if t + 1 = 0 then 0 else B + (t + 1 - 1)
      rw [if_neg (by omega)]
      omega
    · rw [if_neg e, if_neg (fun q => e ⟨q.1, by omega⟩)]
  · rw [if_neg h, if_neg h, if_neg (fun q => h (by omega))]
theorem lay_uI (B : Nat) (s : ly_S) (f o : Nat) (v : Int32) : sv_uI (lay B s) f (B + o) v = lay B (ly_int s f o v) := by
  refine Prod.ext rfl (Prod.ext rfl (Prod.ext rfl (Prod.ext rfl (Prod.ext ?_ (Prod.ext rfl (Prod.ext rfl (Prod.ext rfl (Prod.ext rfl rfl))))))))
  funext g a
  show (if g = f ∧ a = B + o then v else if B ≤ a then ly_i s.2.2.2.2.1 g (a - B) else 0) = if B ≤ a then (if g = f ∧ a - B = o then v else ly_i s.2.2.2.2.1 g (a - B)) else 0
  by_cases h : B ≤ a
  · rw [if_pos h, if_pos h]
    by_cases e : g = f ∧ a = B + o
    · rw [if_pos e, if_pos ⟨e.1, by omega⟩]
    · rw [if_neg e, if_neg (fun q => e ⟨q.1, by omega⟩)]
  · rw [if_neg h, if_neg h, if_neg (fun q => h (by omega))]
theorem lay_wP (B : Nat) (s : ly_S) (o j t : Nat) : sv_wP (lay B s) (B + o) j (B + t) = lay B (ly_el s o j t) := by
  refine Prod.ext rfl (Prod.ext rfl (Prod.ext rfl (Prod.ext rfl (Prod.ext rfl (Prod.ext rfl (Prod.ext rfl (Prod.ext rfl (Prod.ext rfl ?_))))))))
  funext a i
  show (if a = B + o ∧ i = j then B + t else if B ≤ a then ly_ad B (ly_p s.2.2.2.2.2 (a - B) i) else 0) = if B ≤ a then ly_ad B (if a - B = o ∧ i = j then t + 1 else ly_p s.2.2.2.2.2 (a - B) i) else 0
  by_cases h : B ≤ a
  · rw [if_pos h, if_pos h]
    by_cases e : a = B + o ∧ i = j
    · rw [if_pos e, if_pos ⟨by omega, e.2⟩]
      show B + t = if t + 1 = 0 then 0 else B + (t + 1 - 1)
      rw [if_neg (by omega)]
      omega
    · rw [if_neg e, if_neg (fun q => e ⟨by omega, q.2⟩)]
  · rw [if_neg h, if_neg h, if_neg (fun q => h (by omega))]
-- the constructors' instructions on such a heap
section LY
variable {B : Nat} {s : ly_S} {α : Type}
theorem lay_sz : sv_sz (lay B s) = B + s.1 := rfl
theorem lay_K (o : Nat) : sv_K (lay B s) (B + o) = ly_K s o := by
  show (if B ≤ B + o then (ly_c s.2.2.1 (B + o - B)).1 else 0) = _
  rw [if_pos (by omega), Nat.add_sub_cancel_left]; rfl
theorem lay_N (o : Nat) : sv_N (lay B s) (B + o) = ly_N s o := by
  show (if B ≤ B + o then (ly_c s.2.2.1 (B + o - B)).2 else 0) = _
  rw [if_pos (by omega), Nat.add_sub_cancel_left]; rfl
theorem lay_FP (f o : Nat) : sv_FP (lay B s) f (B + o) = ly_ad B (ly_p s.2.2.2.1 f o) := by
  show (if B ≤ B + o then ly_ad B (ly_p s.2.2.2.1 f (B + o - B)) else 0) = _
  rw [if_pos (by omega), Nat.add_sub_cancel_left]
theorem lay_AP (o j : Nat) : sv_AP (lay B s) (B + o) j = ly_ad B (ly_p s.2.2.2.2.2 o j) := by
  show (if B ≤ B + o then ly_ad B (ly_p s.2.2.2.2.2 (B + o - B) j) else 0) = _
  rw [if_pos (by omega), Nat.add_sub_cancel_left]
theorem lay_FI (f o : Nat) : sv_FI (lay B s) f (B + o) = ly_i s.2.2.2.2.1 f o := by
  show (if B ≤ B + o then ly_i s.2.2.2.2.1 f (B + o - B) else 0) = _
  rw [if_pos (by omega), Nat.add_sub_cancel_left]
theorem in_kd {x : Option α} {c o : Nat} (h : ly_K s o = c) : sv_kd (lay B s) c (B + o) x = x := if_pos (by rw [lay_K]; exact h)
theorem in_new {c n : Nat} {k : Nat → sv_H → Option α} : sv_new (lay B s) c n k = k (B + s.1) (lay B (ly_obj s c n)) := by
  rw [← lay_mk]; rfl
theorem in_na {c : Nat} {i : Int32} (n : Nat) {k : Nat → sv_H → Option α} (hi : i = nI n) (hn : n ≤ 1048576) : sv_na (lay B s) c i k = k (B + s.1) (lay B (ly_arr s c n)) := by
  rw [hi, ok_na hn, lay_ma]; rfl
theorem in_pP {c f o t : Nat} (hB : 0 < B) (h : ly_K s o = c) : sv_pP (lay B s) c f (B + o) (B + t) = some (lay B (ly_ptr s f o t)) := by
  rw [ok_pP (by rw [lay_K]; exact h) (by omega), lay_uP]
theorem in_pI {c f o : Nat} {v : Int32} (h : ly_K s o = c) : sv_pI (lay B s) c f (B + o) v = some (lay B (ly_int s f o v)) := by
  rw [ok_pI (by rw [lay_K]; exact h), lay_uI]
theorem in_gP {c f o : Nat} (t : Nat) (hB : 0 < B) (h : ly_K s o = c) (hp : ly_p s.2.2.2.1 f o = t + 1) : sv_gP (lay B s) c f (B + o) = some (B + t) := by
  have e : sv_FP (lay B s) f (B + o) = B + t := by rw [lay_FP, hp, ly_ad, if_neg (by omega)]; omega
  rw [ok_gP (by rw [lay_K]; exact h) (by rw [e]; omega), e]
theorem in_sP {c o j t : Nat} {i : Int32} (hi : i = nI j) (hB : 0 < B) (h : ly_K s o = c) (hj : j < ly_N s o) (hn : ly_N s o < 2 ^ 31) (ht : ly_K s t + 910 = c) : sv_sP c (lay B s) (B + o) i (B + t) = some (lay B (ly_el s o j t)) := by
  rw [hi, ok_sP (by rw [lay_K]; exact h) (by rw [lay_N]; exact hj) (by rw [lay_N]; exact hn) (by rw [lay_K]; exact ht) (by omega), lay_wP]
end LY
theorem lay_0 (B : Nat) : sv_h0 B = lay B (0, 0, [], [], [], []) := by
  refine Prod.ext rfl (Prod.ext rfl (Prod.ext ?_ (Prod.ext ?_ (Prod.ext ?_ (Prod.ext rfl (Prod.ext ?_ (Prod.ext rfl (Prod.ext rfl ?_))))))))
  · funext a; show 0 = if B ≤ a then _ else _; simp [ly_c]
  · funext a; show 0 = if B ≤ a then _ else _; simp [ly_c]
  · funext f a; show 0 = if B ≤ a then _ else _; simp [ly_i]
  · funext f a; show 0 = if B ≤ a then _ else _; simp [ly_p, ly_ad]
  · funext a j; show 0 = if B ≤ a then _ else _; simp [ly_p, ly_ad]
-- the constructors on such lists
def lc_kd (s : ly_S) (c o : Nat) (y : Option ly_S) : Option ly_S := if ly_K s o = c then y else none
def lc_new (s : ly_S) (c n : Nat) (k : Nat → ly_S → Option ly_S) : Option ly_S := k s.1 (ly_obj s c n)
def lc_na (s : ly_S) (c : Nat) (n : Int32) (k : Nat → ly_S → Option ly_S) : Option ly_S := if ¬ n < 0 ∧ n ≤ 1048576 then k s.1 (ly_arr s c n.toNatClampNeg) else none
def lc_pP (s : ly_S) (c f o t : Nat) : Option ly_S := if ly_K s o = c then some (ly_ptr s f o t) else none
def lc_pI (s : ly_S) (c f o : Nat) (v : Int32) : Option ly_S := if ly_K s o = c then some (ly_int s f o v) else none
def lc_gP (s : ly_S) (c f o : Nat) : Option Nat := if ly_K s o = c ∧ ly_p s.2.2.2.1 f o ≠ 0 then some (ly_p s.2.2.2.1 f o - 1) else none
def lc_sP (c : Nat) (s : ly_S) (o : Nat) (i : Int32) (t : Nat) : Option ly_S := if ly_K s o = c ∧ ¬ (i < 0 ∨ ly_N s o ≤ i.toNatClampNeg) ∧ ly_K s t + 910 = c then some (ly_el s o i.toNatClampNeg t) else none
def lm (B : Nat) (x : Option (Unit × sv_H)) (y : Option ly_S) : Prop := ∀ s, y = some s → x = some ((), lay B s)
section LM
variable {B : Nat} {s : ly_S}
theorem lm_no {x : Option (Unit × sv_H)} : lm B x none := fun _ e => by cases e
theorem lm_rt : lm B (some ((), lay B s)) (some s) := fun _ e => by cases e; rfl
theorem lm_if {c : Prop} [Decidable c] {x x2 : Option (Unit × sv_H)} {y y2 : Option ly_S} (h1 : lm B x y) (h2 : lm B x2 y2) : lm B (if c then x else x2) (if c then y else y2) := by
  by_cases hc : c
  · rw [if_pos hc, if_pos hc]; exact h1
  · rw [if_neg hc, if_neg hc]; exact h2
theorem lm_kd {c o : Nat} {x : Option (Unit × sv_H)} {y : Option ly_S} (hx : lm B x y) : lm B (sv_kd (lay B s) c (B + o) x) (lc_kd s c o y) := by
  unfold sv_kd lc_kd
  rw [lay_K]
  exact lm_if hx lm_no
theorem lm_new {c n : Nat} {k : Nat → sv_H → Option (Unit × sv_H)} {k2 : Nat → ly_S → Option ly_S} (kk : ∀ v s2, lm B (k (B + v) (lay B s2)) (k2 v s2)) : lm B (sv_new (lay B s) c n k) (lc_new s c n k2) := by
  rw [in_new]; exact kk _ _
theorem lm_na {c : Nat} {n : Int32} {k : Nat → sv_H → Option (Unit × sv_H)} {k2 : Nat → ly_S → Option ly_S} (kk : ∀ v s2, lm B (k (B + v) (lay B s2)) (k2 v s2)) : lm B (sv_na (lay B s) c n k) (lc_na s c n k2) := by
  unfold sv_na lc_na
  refine lm_if ?_ lm_no
  rw [lay_ma]
  exact kk _ _
theorem lm_pP {c f o t : Nat} {k : sv_H → Option (Unit × sv_H)} {k2 : ly_S → Option ly_S} (hB : 0 < B) (kk : ∀ s2, lm B (k (lay B s2)) (k2 s2)) : lm B ((sv_pP (lay B s) c f (B + o) (B + t)).bind k) ((lc_pP s c f o t).bind k2) := by
  unfold lc_pP
  by_cases h : ly_K s o = c
  · rw [in_pP hB h, if_pos h]; exact kk _
  · rw [if_neg h]; exact lm_no
theorem lm_pI {c f o : Nat} {v : Int32} {k : sv_H → Option (Unit × sv_H)} {k2 : ly_S → Option ly_S} (kk : ∀ s2, lm B (k (lay B s2)) (k2 s2)) : lm B ((sv_pI (lay B s) c f (B + o) v).bind k) ((lc_pI s c f o v).bind k2) := by
  unfold lc_pI
  by_cases h : ly_K s o = c
  · rw [in_pI h, if_pos h]; exact kk _
  · rw [if_neg h]; exact lm_no
theorem lm_gP {c f o : Nat} {k : Nat → Option (Unit × sv_H)} {k2 : Nat → Option ly_S} (hB : 0 < B) (kk : ∀ v, lm B (k (B + v)) (k2 v)) : lm B ((sv_gP (lay B s) c f (B + o)).bind k) ((lc_gP s c f o).bind k2) := by
  unfold lc_gP
  by_cases h : ly_K s o = c ∧ ly_p s.2.2.2.1 f o ≠ 0
  · rw [in_gP (ly_p s.2.2.2.1 f o - 1) hB h.1 (by have := h.2; omega), if_pos h]; exact kk _
  · rw [if_neg h]; exact lm_no
theorem lm_sP {c o t : Nat} {i : Int32} {k : sv_H → Option (Unit × sv_H)} {k2 : ly_S → Option ly_S} (hB : 0 < B) (kk : ∀ s2, lm B (k (lay B s2)) (k2 s2)) : lm B ((sv_sP c (lay B s) (B + o) i (B + t)).bind k) ((lc_sP c s o i t).bind k2) := by
  unfold lc_sP sv_sP
  rw [lay_K, lay_K, lay_N]
  by_cases h : ly_K s o = c ∧ ¬ (i < 0 ∨ ly_N s o ≤ i.toNatClampNeg) ∧ ly_K s t + 910 = c
  · rw [if_pos h, if_pos ⟨h.1, h.2.1, h.2.2, by omega⟩, lay_wP]; exact kk _
  · rw [if_neg h]; exact lm_no
theorem lm_cl {x : Option (Unit × sv_H)} {y : Option ly_S} {k : Unit → sv_H → Option (Unit × sv_H)} {k2 : ly_S → Option ly_S} (hx : lm B x y) (kk : ∀ s2, lm B (k () (lay B s2)) (k2 s2)) : lm B (sv_b x k) (y.bind k2) := by
  cases y with
  | none => exact lm_no
  | some q => rw [hx q rfl]; exact kk q
end LM
