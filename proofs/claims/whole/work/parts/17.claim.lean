/-- the picture of the law's start: nothing is ours yet -/
def sv_h0 (B : Nat) : sv_H := (B, 0, fun _ => 0, fun _ => 0, fun _ _ => 0, fun _ _ => 0, fun _ _ => 0, fun _ _ => 0, fun _ _ => 0, fun _ _ => 0)
/-- what is left of the claim when the machine is gone: the law's function answers 1 on every script, and its room is the claim's -/
def sv_claim : Prop := ∀ (L : Nat) (xs : Nat → Int32) (B : Nat), L ≤ 2560 → 0 < B → ∃ hE : sv_H, fn_L_law xs L (sv_h0 B) = some (1, hE) ∧ sv_sz hE - B ≤ 600000 ∧ sv_sl hE ≤ 7302250
