/-! rounds and chance made anew (printed by a script of ours) -/
theorem sn_i0 {g : HP} {k n s b j a i : Nat} {v : Option Nat} (ha : a = hp_z g) : hp_i (hp_sr (hp_nw g k n s) b j v) a i = 0 := by rw [hp_i_sr, hp_i_nw, if_pos ha]
def ROY (r : Nat) (h : HP) : Prop := hp_r h r 1 = some (r + 1) ∧ hp_r h r 2 = some (r + 2) ∧ hp_r h r 3 = some (r + 3) ∧ hp_r h r 4 = some (r + 4) ∧ hp_r h r 5 = some (r + 5) ∧ hp_r h r 6 = some (r + 6) ∧ hp_n h (r + 1) = 5000 ∧ hp_n h (r + 2) = 5000 ∧ hp_n h (r + 3) = 5000 ∧ hp_n h (r + 4) = 5000 ∧ hp_n h (r + 5) = 5000 ∧ hp_n h (r + 6) = 5000
theorem A_ron {r : Nat} {h : HP} (hz : hp_z h = r + 1) : ∃ g, f_Ro_new r h = some g ∧ hp_z g = r + 7 ∧ hp_s g = hp_s h + (5000 + 5000 + 5000 + 5000 + 5000 + 5000) ∧ ROY r g ∧ (∀ k, hp_i g r k = hp_i h r k) ∧ (∀ a k, r < a → hp_i g a k = if a < r + 7 then 0 else hp_i h a k) ∧ afr r h g := by
  let h1 := hp_sr (hp_nw h 13 5000 5000) r 1 (some (r + 1))
  let h2 := hp_sr (hp_nw h1 13 5000 5000) r 2 (some (r + 2))
  let h3 := hp_sr (hp_nw h2 13 5000 5000) r 3 (some (r + 3))
  let h4 := hp_sr (hp_nw h3 13 5000 5000) r 4 (some (r + 4))
  let h5 := hp_sr (hp_nw h4 13 5000 5000) r 5 (some (r + 5))
  let h6 := hp_sr (hp_nw h5 13 5000 5000) r 6 (some (r + 6))
  have z0 : hp_z h = r + 1 := hz
  have z1 : hp_z h1 = r + 2 := by show hp_z h + 1 = _; omega
  have z2 : hp_z h2 = r + 3 := by show hp_z h1 + 1 = _; omega
  have z3 : hp_z h3 = r + 4 := by show hp_z h2 + 1 = _; omega
  have z4 : hp_z h4 = r + 5 := by show hp_z h3 + 1 = _; omega
  have z5 : hp_z h5 = r + 6 := by show hp_z h4 + 1 = _; omega
  have z6 : hp_z h6 = r + 7 := by show hp_z h5 + 1 = _; omega
  have e : f_Ro_new r h = some h6 := by
    unfold f_Ro_new
    rw [xx_lE, xx_lE, xx_lE, hz]
    rw [show hp_z (hp_sr (hp_nw h 13 5000 5000) r 1 (some (r + 1))) = r + 2 from z1, xx_lE, xx_lE, xx_lE]
    rw [show hp_z (hp_sr (hp_nw h1 13 5000 5000) r 2 (some (r + 2))) = r + 3 from z2, xx_lE, xx_lE, xx_lE]
    rw [show hp_z (hp_sr (hp_nw h2 13 5000 5000) r 3 (some (r + 3))) = r + 4 from z3, xx_lE, xx_lE, xx_lE]
    rw [show hp_z (hp_sr (hp_nw h3 13 5000 5000) r 4 (some (r + 4))) = r + 5 from z4, xx_lE, xx_lE, xx_lE]
    rw [show hp_z (hp_sr (hp_nw h4 13 5000 5000) r 5 (some (r + 5))) = r + 6 from z5, xx_lE, xx_lE, xx_lE]
  have A1 : afr r h h1 := afr_sr (afr_nw (afr_rf r h) (by omega)) (by omega)
  have A2 : afr r h h2 := afr_sr (afr_nw (A1) (by omega)) (by omega)
  have A3 : afr r h h3 := afr_sr (afr_nw (A2) (by omega)) (by omega)
  have A4 : afr r h h4 := afr_sr (afr_nw (A3) (by omega)) (by omega)
  have A5 : afr r h h5 := afr_sr (afr_nw (A4) (by omega)) (by omega)
  have A6 : afr r h h6 := afr_sr (afr_nw (A5) (by omega)) (by omega)
  have R1 : ∀ a i, a ≠ r + 1 → ¬ (a = r ∧ i = 1) → hp_r h1 a i = hp_r h a i := fun a i q1 q2 => sn_r (by omega) q2
  have N1 : ∀ a, a ≠ r + 1 → hp_n h1 a = hp_n h a := fun a q1 => sn_n (by omega)
  have I1 : ∀ a k, a ≠ r + 1 → hp_i h1 a k = hp_i h a k := fun a k q1 => sn_i (by omega)
  have J1 : ∀ k, hp_i h1 (r + 1) k = 0 := fun k => sn_i0 (by omega)
  have s1 : hp_s h1 = hp_s h + 5000 := sn_s _ _ _ _ _ _ _
  have R2 : ∀ a i, a ≠ r + 2 → ¬ (a = r ∧ i = 2) → hp_r h2 a i = hp_r h1 a i := fun a i q1 q2 => sn_r (by omega) q2
  have N2 : ∀ a, a ≠ r + 2 → hp_n h2 a = hp_n h1 a := fun a q1 => sn_n (by omega)
  have I2 : ∀ a k, a ≠ r + 2 → hp_i h2 a k = hp_i h1 a k := fun a k q1 => sn_i (by omega)
  have J2 : ∀ k, hp_i h2 (r + 2) k = 0 := fun k => sn_i0 (by omega)
  have s2 : hp_s h2 = hp_s h1 + 5000 := sn_s _ _ _ _ _ _ _
  have R3 : ∀ a i, a ≠ r + 3 → ¬ (a = r ∧ i = 3) → hp_r h3 a i = hp_r h2 a i := fun a i q1 q2 => sn_r (by omega) q2
  have N3 : ∀ a, a ≠ r + 3 → hp_n h3 a = hp_n h2 a := fun a q1 => sn_n (by omega)
  have I3 : ∀ a k, a ≠ r + 3 → hp_i h3 a k = hp_i h2 a k := fun a k q1 => sn_i (by omega)
  have J3 : ∀ k, hp_i h3 (r + 3) k = 0 := fun k => sn_i0 (by omega)
  have s3 : hp_s h3 = hp_s h2 + 5000 := sn_s _ _ _ _ _ _ _
  have R4 : ∀ a i, a ≠ r + 4 → ¬ (a = r ∧ i = 4) → hp_r h4 a i = hp_r h3 a i := fun a i q1 q2 => sn_r (by omega) q2
  have N4 : ∀ a, a ≠ r + 4 → hp_n h4 a = hp_n h3 a := fun a q1 => sn_n (by omega)
  have I4 : ∀ a k, a ≠ r + 4 → hp_i h4 a k = hp_i h3 a k := fun a k q1 => sn_i (by omega)
  have J4 : ∀ k, hp_i h4 (r + 4) k = 0 := fun k => sn_i0 (by omega)
  have s4 : hp_s h4 = hp_s h3 + 5000 := sn_s _ _ _ _ _ _ _
  have R5 : ∀ a i, a ≠ r + 5 → ¬ (a = r ∧ i = 5) → hp_r h5 a i = hp_r h4 a i := fun a i q1 q2 => sn_r (by omega) q2
  have N5 : ∀ a, a ≠ r + 5 → hp_n h5 a = hp_n h4 a := fun a q1 => sn_n (by omega)
  have I5 : ∀ a k, a ≠ r + 5 → hp_i h5 a k = hp_i h4 a k := fun a k q1 => sn_i (by omega)
  have J5 : ∀ k, hp_i h5 (r + 5) k = 0 := fun k => sn_i0 (by omega)
  have s5 : hp_s h5 = hp_s h4 + 5000 := sn_s _ _ _ _ _ _ _
  have R6 : ∀ a i, a ≠ r + 6 → ¬ (a = r ∧ i = 6) → hp_r h6 a i = hp_r h5 a i := fun a i q1 q2 => sn_r (by omega) q2
  have N6 : ∀ a, a ≠ r + 6 → hp_n h6 a = hp_n h5 a := fun a q1 => sn_n (by omega)
  have I6 : ∀ a k, a ≠ r + 6 → hp_i h6 a k = hp_i h5 a k := fun a k q1 => sn_i (by omega)
  have J6 : ∀ k, hp_i h6 (r + 6) k = 0 := fun k => sn_i0 (by omega)
  have s6 : hp_s h6 = hp_s h5 + 5000 := sn_s _ _ _ _ _ _ _
  refine ⟨h6, e, z6, ?_, ?_, fun k => ?_, fun a k ha => ?_, A6⟩
  · clear_value h1 h2 h3 h4 h5 h6; omega
  · refine ⟨?_, ?_, ?_, ?_, ?_, ?_, ?_, ?_, ?_, ?_, ?_, ?_⟩
    · rw [R6 _ _ (by omega) (by omega), R5 _ _ (by omega) (by omega), R4 _ _ (by omega) (by omega), R3 _ _ (by omega) (by omega), R2 _ _ (by omega) (by omega)]; exact sr_at
    · rw [R6 _ _ (by omega) (by omega), R5 _ _ (by omega) (by omega), R4 _ _ (by omega) (by omega), R3 _ _ (by omega) (by omega)]; exact sr_at
    · rw [R6 _ _ (by omega) (by omega), R5 _ _ (by omega) (by omega), R4 _ _ (by omega) (by omega)]; exact sr_at
    · rw [R6 _ _ (by omega) (by omega), R5 _ _ (by omega) (by omega)]; exact sr_at
    · rw [R6 _ _ (by omega) (by omega)]; exact sr_at
    · exact sr_at
    · rw [N6 _ (by omega), N5 _ (by omega), N4 _ (by omega), N3 _ (by omega), N2 _ (by omega)]; exact sn_n0 z0.symm
    · rw [N6 _ (by omega), N5 _ (by omega), N4 _ (by omega), N3 _ (by omega)]; exact sn_n0 z1.symm
    · rw [N6 _ (by omega), N5 _ (by omega), N4 _ (by omega)]; exact sn_n0 z2.symm
    · rw [N6 _ (by omega), N5 _ (by omega)]; exact sn_n0 z3.symm
    · rw [N6 _ (by omega)]; exact sn_n0 z4.symm
    · exact sn_n0 z5.symm
  · rw [I6 _ _ (by omega), I5 _ _ (by omega), I4 _ _ (by omega), I3 _ _ (by omega), I2 _ _ (by omega), I1 _ _ (by omega)]
  · by_cases hl : a < r + 7
    · rw [if_pos hl]
      have hc : a = r + 1 ∨ a = r + 2 ∨ a = r + 3 ∨ a = r + 4 ∨ a = r + 5 ∨ a = r + 6 := by omega
      rcases hc with z | z | z | z | z | z
      · rw [z, I6 _ _ (by omega), I5 _ _ (by omega), I4 _ _ (by omega), I3 _ _ (by omega), I2 _ _ (by omega)]; exact J1 k
      · rw [z, I6 _ _ (by omega), I5 _ _ (by omega), I4 _ _ (by omega), I3 _ _ (by omega)]; exact J2 k
      · rw [z, I6 _ _ (by omega), I5 _ _ (by omega), I4 _ _ (by omega)]; exact J3 k
      · rw [z, I6 _ _ (by omega), I5 _ _ (by omega)]; exact J4 k
      · rw [z, I6 _ _ (by omega)]; exact J5 k
      · rw [z]; exact J6 k
    · rw [if_neg hl, I6 _ _ (by omega), I5 _ _ (by omega), I4 _ _ (by omega), I3 _ _ (by omega), I2 _ _ (by omega), I1 _ _ (by omega)]
theorem A_chn {c : Nat} {h : HP} (hz : hp_z h = c + 1) : ∃ g, f_Ch_new c h = some g ∧ hp_z g = c + 6 ∧ hp_s g = hp_s h + (4 + 52 + 52 + 5000 + 5000) ∧ CHX c 0 g ∧ (∀ k, hp_i g c k = hp_i h c k) ∧ (∀ a k, c < a → hp_i g a k = if a < c + 6 then 0 else hp_i h a k) ∧ afr c h g := by
  let h1 := hp_sr (hp_nw h 15 4 4) c 0 (some (c + 1))
  let h2 := hp_sr (hp_nw h1 14 52 52) c 1 (some (c + 2))
  let h3 := hp_sr (hp_nw h2 14 52 52) c 2 (some (c + 3))
  let h4 := hp_sr (hp_nw h3 14 5000 5000) c 3 (some (c + 4))
  let h5 := hp_sr (hp_nw h4 14 5000 5000) c 4 (some (c + 5))
  have z0 : hp_z h = c + 1 := hz
  have z1 : hp_z h1 = c + 2 := by show hp_z h + 1 = _; omega
  have z2 : hp_z h2 = c + 3 := by show hp_z h1 + 1 = _; omega
  have z3 : hp_z h3 = c + 4 := by show hp_z h2 + 1 = _; omega
  have z4 : hp_z h4 = c + 5 := by show hp_z h3 + 1 = _; omega
  have z5 : hp_z h5 = c + 6 := by show hp_z h4 + 1 = _; omega
  have e : f_Ch_new c h = some h5 := by
    unfold f_Ch_new
    rw [xx_lE, xx_lE, xx_lE, hz]
    rw [show hp_z (hp_sr (hp_nw h 15 4 4) c 0 (some (c + 1))) = c + 2 from z1, xx_lE, xx_lE, xx_lE]
    rw [show hp_z (hp_sr (hp_nw h1 14 52 52) c 1 (some (c + 2))) = c + 3 from z2, xx_lE, xx_lE, xx_lE]
    rw [show hp_z (hp_sr (hp_nw h2 14 52 52) c 2 (some (c + 3))) = c + 4 from z3, xx_lE, xx_lE, xx_lE]
    rw [show hp_z (hp_sr (hp_nw h3 14 5000 5000) c 3 (some (c + 4))) = c + 5 from z4, xx_lE, xx_lE, xx_lE]
  have A1 : afr c h h1 := afr_sr (afr_nw (afr_rf c h) (by omega)) (by omega)
  have A2 : afr c h h2 := afr_sr (afr_nw (A1) (by omega)) (by omega)
  have A3 : afr c h h3 := afr_sr (afr_nw (A2) (by omega)) (by omega)
  have A4 : afr c h h4 := afr_sr (afr_nw (A3) (by omega)) (by omega)
  have A5 : afr c h h5 := afr_sr (afr_nw (A4) (by omega)) (by omega)
  have R1 : ∀ a i, a ≠ c + 1 → ¬ (a = c ∧ i = 0) → hp_r h1 a i = hp_r h a i := fun a i q1 q2 => sn_r (by omega) q2
  have N1 : ∀ a, a ≠ c + 1 → hp_n h1 a = hp_n h a := fun a q1 => sn_n (by omega)
  have I1 : ∀ a k, a ≠ c + 1 → hp_i h1 a k = hp_i h a k := fun a k q1 => sn_i (by omega)
  have J1 : ∀ k, hp_i h1 (c + 1) k = 0 := fun k => sn_i0 (by omega)
  have s1 : hp_s h1 = hp_s h + 4 := sn_s _ _ _ _ _ _ _
  have R2 : ∀ a i, a ≠ c + 2 → ¬ (a = c ∧ i = 1) → hp_r h2 a i = hp_r h1 a i := fun a i q1 q2 => sn_r (by omega) q2
  have N2 : ∀ a, a ≠ c + 2 → hp_n h2 a = hp_n h1 a := fun a q1 => sn_n (by omega)
  have I2 : ∀ a k, a ≠ c + 2 → hp_i h2 a k = hp_i h1 a k := fun a k q1 => sn_i (by omega)
  have J2 : ∀ k, hp_i h2 (c + 2) k = 0 := fun k => sn_i0 (by omega)
  have s2 : hp_s h2 = hp_s h1 + 52 := sn_s _ _ _ _ _ _ _
  have R3 : ∀ a i, a ≠ c + 3 → ¬ (a = c ∧ i = 2) → hp_r h3 a i = hp_r h2 a i := fun a i q1 q2 => sn_r (by omega) q2
  have N3 : ∀ a, a ≠ c + 3 → hp_n h3 a = hp_n h2 a := fun a q1 => sn_n (by omega)
  have I3 : ∀ a k, a ≠ c + 3 → hp_i h3 a k = hp_i h2 a k := fun a k q1 => sn_i (by omega)
  have J3 : ∀ k, hp_i h3 (c + 3) k = 0 := fun k => sn_i0 (by omega)
  have s3 : hp_s h3 = hp_s h2 + 52 := sn_s _ _ _ _ _ _ _
  have R4 : ∀ a i, a ≠ c + 4 → ¬ (a = c ∧ i = 3) → hp_r h4 a i = hp_r h3 a i := fun a i q1 q2 => sn_r (by omega) q2
  have N4 : ∀ a, a ≠ c + 4 → hp_n h4 a = hp_n h3 a := fun a q1 => sn_n (by omega)
  have I4 : ∀ a k, a ≠ c + 4 → hp_i h4 a k = hp_i h3 a k := fun a k q1 => sn_i (by omega)
  have J4 : ∀ k, hp_i h4 (c + 4) k = 0 := fun k => sn_i0 (by omega)
  have s4 : hp_s h4 = hp_s h3 + 5000 := sn_s _ _ _ _ _ _ _
  have R5 : ∀ a i, a ≠ c + 5 → ¬ (a = c ∧ i = 4) → hp_r h5 a i = hp_r h4 a i := fun a i q1 q2 => sn_r (by omega) q2
  have N5 : ∀ a, a ≠ c + 5 → hp_n h5 a = hp_n h4 a := fun a q1 => sn_n (by omega)
  have I5 : ∀ a k, a ≠ c + 5 → hp_i h5 a k = hp_i h4 a k := fun a k q1 => sn_i (by omega)
  have J5 : ∀ k, hp_i h5 (c + 5) k = 0 := fun k => sn_i0 (by omega)
  have s5 : hp_s h5 = hp_s h4 + 5000 := sn_s _ _ _ _ _ _ _
  refine ⟨h5, e, z5, ?_, ?_, fun k => ?_, fun a k ha => ?_, A5⟩
  · clear_value h1 h2 h3 h4 h5; omega
  · refine ⟨Nat.zero_le _, ?_, ?_, ?_, ?_, ?_, ?_, ?_, ?_, ?_, ?_⟩
    · rw [R5 _ _ (by omega) (by omega), R4 _ _ (by omega) (by omega), R3 _ _ (by omega) (by omega), R2 _ _ (by omega) (by omega)]; exact sr_at
    · rw [R5 _ _ (by omega) (by omega), R4 _ _ (by omega) (by omega), R3 _ _ (by omega) (by omega)]; exact sr_at
    · rw [R5 _ _ (by omega) (by omega), R4 _ _ (by omega) (by omega)]; exact sr_at
    · rw [R5 _ _ (by omega) (by omega)]; exact sr_at
    · exact sr_at
    · rw [N5 _ (by omega), N4 _ (by omega), N3 _ (by omega), N2 _ (by omega)]; exact sn_n0 z0.symm
    · rw [N5 _ (by omega), N4 _ (by omega), N3 _ (by omega)]; exact sn_n0 z1.symm
    · rw [N5 _ (by omega), N4 _ (by omega)]; exact sn_n0 z2.symm
    · rw [N5 _ (by omega)]; exact sn_n0 z3.symm
    · exact sn_n0 z4.symm
  · rw [I5 _ _ (by omega), I4 _ _ (by omega), I3 _ _ (by omega), I2 _ _ (by omega), I1 _ _ (by omega)]
  · by_cases hl : a < c + 6
    · rw [if_pos hl]
      have hc : a = c + 1 ∨ a = c + 2 ∨ a = c + 3 ∨ a = c + 4 ∨ a = c + 5 := by omega
      rcases hc with z | z | z | z | z
      · rw [z, I5 _ _ (by omega), I4 _ _ (by omega), I3 _ _ (by omega), I2 _ _ (by omega)]; exact J1 k
      · rw [z, I5 _ _ (by omega), I4 _ _ (by omega), I3 _ _ (by omega)]; exact J2 k
      · rw [z, I5 _ _ (by omega), I4 _ _ (by omega)]; exact J3 k
      · rw [z, I5 _ _ (by omega)]; exact J4 k
      · rw [z]; exact J5 k
    · rw [if_neg hl, I5 _ _ (by omega), I4 _ _ (by omega), I3 _ _ (by omega), I2 _ _ (by omega), I1 _ _ (by omega)]
