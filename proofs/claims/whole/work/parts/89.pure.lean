/-- the picture of nothing, from address B on -/
def ly_h0 (B : Nat) : HP := (fun _ _ => 0, fun _ _ => 0, fun _ _ => none, fun _ => 0, fun _ => 0, B, 0)
/-- what is left: the law's function answers 1, within the room -/
theorem pure_law (xs : Nat → Int32) (L : Nat) (hL : L ≤ 3072) (b B : Nat) : ∃ h1 : HP, f_Lw_law xs L b (ly_h0 B) = some (1, h1) ∧ hp_z h1 - hp_z (ly_h0 B) ≤ 1200000 ∧ hp_s h1 - hp_s (ly_h0 B) ≤ 5502250 := by
  sorry
