/-- the picture of nothing, from address B on -/
def ly_h0 (B : Nat) : HP := (fun _ _ => 0, fun _ _ => 0, fun _ _ => none, fun _ => 0, fun _ => 0, B, 0)
theorem room_s : SX + SMM + svS + roS + faS + chS ≤ 400000 := by decide +kernel
/-- the law's function answers 1, within little room -/
theorem pure_law (xs : Nat → Int32) (L : Nat) (hL : L ≤ 3072) (b B : Nat) : ∃ h1 : HP, f_Lw_law xs L b (ly_h0 B) = some (1, h1) ∧ hp_z h1 - hp_z (ly_h0 B) ≤ 125 ∧ hp_s h1 - hp_s (ly_h0 B) ≤ 400000 := by
  have key : pw (f_Lw_law xs L b (ly_h0 B)) (fun q => q.1 = 1 ∧ hp_z q.2 ≤ hp_z (ly_h0 B) + 125 ∧ hp_s q.2 ≤ hp_s (ly_h0 B) + 400000) := by
    unfold f_Lw_law
    rw [xx_lE, xx_lE]
    refine pw_bind (pw_mono (N_x (ly_h0 B)) ?_)
    intro g hx
    rw [xx_lE, xx_lE]
    refine pw_bind (pw_mono (N_m hx) ?_)
    rintro k ⟨hi, hz⟩
    refine pw_mono (lw_18 hL hi) ?_
    rintro q ⟨q1, P, p, sv, ro, fa, ch, _, _, r1, r2⟩
    have := room_s
    exact ⟨q1, by omega, by omega⟩
  obtain ⟨⟨v, h1⟩, e, rfl, e2, e3⟩ := key
  dsimp only at e2 e3
  exact ⟨h1, e, by omega, by omega⟩
