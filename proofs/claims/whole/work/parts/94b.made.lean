/-! survey, rounds, faults, chance: made anew -/
theorem sn_r {g : HP} {k n s b j a i : Nat} {v : Option Nat} (ha : a ≠ hp_z g) (hn : ¬ (a = b ∧ i = j)) : hp_r (hp_sr (hp_nw g k n s) b j v) a i = hp_r g a i := by rw [hp_r_sr, if_neg hn, hp_r_nw, if_neg ha]
theorem sn_n {g : HP} {k n s b j a : Nat} {v : Option Nat} (ha : a ≠ hp_z g) : hp_n (hp_sr (hp_nw g k n s) b j v) a = hp_n g a := by rw [hp_n_sr, hp_n_nw, if_neg ha]
theorem sn_i {g : HP} {k n s b j a i : Nat} {v : Option Nat} (ha : a ≠ hp_z g) : hp_i (hp_sr (hp_nw g k n s) b j v) a i = hp_i g a i := by rw [hp_i_sr, hp_i_nw, if_neg ha]
theorem sn_n0 {g : HP} {k n s b j a : Nat} {v : Option Nat} (ha : a = hp_z g) : hp_n (hp_sr (hp_nw g k n s) b j v) a = n := by rw [hp_n_sr, hp_n_nw, if_pos ha]
theorem sn_s (g : HP) (k n s b j : Nat) (v : Option Nat) : hp_s (hp_sr (hp_nw g k n s) b j v) = hp_s g + s := rfl
theorem sr_at {g : HP} {b j : Nat} {v : Option Nat} : hp_r (hp_sr g b j v) b j = v := by rw [hp_r_sr, if_pos ⟨rfl, rfl⟩]
theorem A_svn {sv : Nat} {h : HP} (hz : hp_z h = sv + 1) : ∃ g, f_Sv_new sv h = some g ∧ hp_z g = sv + 10 ∧ hp_s g = hp_s h + (ly_nf 8 + 24576 + ly_nf 7 + 5000 + 8192 + 5000 + 6 + 30000 + 5000) ∧ SVZ sv g ∧ hp_r g sv 14 = hp_r h sv 14 ∧ (∀ k, hp_i g sv k = hp_i h sv k) ∧ afr sv h g := by
  let h1 := hp_sr (hp_sr (hp_nw (hp_nw h 8 0 (ly_nf 8)) 13 24576 24576) (sv + 1) 0 (some (sv + 2))) sv 0 (some (sv + 1))
  let h2 := hp_sr (hp_nw (hp_nw h1 7 0 (ly_nf 7)) 14 5000 5000) (sv + 3) 2 (some (sv + 4))
  let h3 := hp_sr (hp_sr (hp_nw h2 13 8192 8192) (sv + 3) 3 (some (sv + 5))) sv 1 (some (sv + 3))
  let h4 := hp_sr (hp_nw h3 13 5000 5000) sv 2 (some (sv + 6))
  let h5 := hp_sr (hp_nw h4 13 6 6) sv 3 (some (sv + 7))
  let h6 := hp_sr (hp_nw h5 13 30000 30000) sv 12 (some (sv + 8))
  let h7 := hp_sr (hp_nw h6 13 5000 5000) sv 13 (some (sv + 9))
  have z1 : hp_z h1 = sv + 3 := by show hp_z h + 1 + 1 = _; omega
  have z2 : hp_z h2 = sv + 5 := by show hp_z h1 + 1 + 1 = _; omega
  have z3 : hp_z h3 = sv + 6 := by show hp_z h2 + 1 = _; omega
  have z4 : hp_z h4 = sv + 7 := by show hp_z h3 + 1 = _; omega
  have z5 : hp_z h5 = sv + 8 := by show hp_z h4 + 1 = _; omega
  have z6 : hp_z h6 = sv + 9 := by show hp_z h5 + 1 = _; omega
  have z7 : hp_z h7 = sv + 10 := by show hp_z h6 + 1 = _; omega
  have e : f_Sv_new sv h = some h7 := by
    unfold f_Sv_new f_Sp_new f_Ss_new
    rw [xx_lE, xx_lE, xx_lE, xx_lE, xx_lE, hz, show hp_z (hp_nw h 8 0 (ly_nf 8)) = sv + 2 from by show hp_z h + 1 = _; omega, bn_s, xx_lE, xx_lE, xx_lE]
    rw [show hp_z (hp_sr (hp_sr (hp_nw (hp_nw h 8 0 (ly_nf 8)) 13 24576 24576) (sv + 1) 0 (some (sv + 2))) sv 0 (some (sv + 1))) = sv + 3 from z1]
    rw [xx_lE, xx_lE, xx_lE, xx_lE, xx_lE, xx_lE]
    rw [show hp_z (hp_nw h1 7 0 (ly_nf 7)) = sv + 4 from by show hp_z h1 + 1 = _; omega]
    rw [show hp_z (hp_sr (hp_nw (hp_nw h1 7 0 (ly_nf 7)) 14 5000 5000) (sv + 3) 2 (some (sv + 4))) = sv + 5 from z2, bn_s, xx_lE, xx_lE]
    rw [show hp_z (hp_sr (hp_sr (hp_nw h2 13 8192 8192) (sv + 3) 3 (some (sv + 5))) sv 1 (some (sv + 3))) = sv + 6 from z3, xx_lE, xx_lE, xx_lE]
    rw [show hp_z (hp_sr (hp_nw h3 13 5000 5000) sv 2 (some (sv + 6))) = sv + 7 from z4, xx_lE, xx_lE, xx_lE]
    rw [show hp_z (hp_sr (hp_nw h4 13 6 6) sv 3 (some (sv + 7))) = sv + 8 from z5, xx_lE, xx_lE, xx_lE]
    rw [show hp_z (hp_sr (hp_nw h5 13 30000 30000) sv 12 (some (sv + 8))) = sv + 9 from z6, xx_lE, xx_lE]
  have zz : hp_z (hp_nw h 8 0 (ly_nf 8)) = sv + 2 := by show hp_z h + 1 = _; omega
  have zy : hp_z (hp_nw h1 7 0 (ly_nf 7)) = sv + 4 := by show hp_z h1 + 1 = _; omega
  have A1 : afr sv h h1 := afr_sr (afr_sr (afr_nw (afr_nw (afr_rf sv h) (by omega)) (by omega)) (by omega)) (by omega)
  have A2 : afr sv h h2 := afr_sr (afr_nw (afr_nw A1 (by omega)) (by omega)) (by omega)
  have A3 : afr sv h h3 := afr_sr (afr_sr (afr_nw A2 (by omega)) (by omega)) (by omega)
  have A4 : afr sv h h4 := afr_sr (afr_nw A3 (by omega)) (by omega)
  have A5 : afr sv h h5 := afr_sr (afr_nw A4 (by omega)) (by omega)
  have A6 : afr sv h h6 := afr_sr (afr_nw A5 (by omega)) (by omega)
  have A7 : afr sv h h7 := afr_sr (afr_nw A6 (by omega)) (by omega)
  have R7 : ∀ a i, a < sv + 9 → ¬ (a = sv ∧ i = 13) → hp_r h7 a i = hp_r h6 a i := fun a i q1 q2 => sn_r (by omega) q2
  have R6 : ∀ a i, a < sv + 8 → ¬ (a = sv ∧ i = 12) → hp_r h6 a i = hp_r h5 a i := fun a i q1 q2 => sn_r (by omega) q2
  have R5 : ∀ a i, a < sv + 7 → ¬ (a = sv ∧ i = 3) → hp_r h5 a i = hp_r h4 a i := fun a i q1 q2 => sn_r (by omega) q2
  have R4 : ∀ a i, a < sv + 6 → ¬ (a = sv ∧ i = 2) → hp_r h4 a i = hp_r h3 a i := fun a i q1 q2 => sn_r (by omega) q2
  have R3 : ∀ a i, a < sv + 5 → ¬ (a = sv ∧ i = 1 ∨ a = sv + 3 ∧ i = 3) → hp_r h3 a i = hp_r h2 a i := fun a i q1 q2 => by
    show hp_r (hp_sr (hp_sr (hp_nw h2 13 8192 8192) (sv + 3) 3 (some (sv + 5))) sv 1 (some (sv + 3))) a i = _
    rw [hp_r_sr, if_neg (by omega)]; exact sn_r (by omega) (by omega)
  have R2 : ∀ a i, a < sv + 3 → hp_r h2 a i = hp_r h1 a i := fun a i q1 => by
    show hp_r (hp_sr (hp_nw (hp_nw h1 7 0 (ly_nf 7)) 14 5000 5000) (sv + 3) 2 (some (sv + 4))) a i = _
    rw [sn_r (by omega) (by omega), hp_r_nw, if_neg (by omega)]
  have N7 : ∀ a, a < sv + 9 → hp_n h7 a = hp_n h6 a := fun a q1 => sn_n (by omega)
  have N6 : ∀ a, a < sv + 8 → hp_n h6 a = hp_n h5 a := fun a q1 => sn_n (by omega)
  have N5 : ∀ a, a < sv + 7 → hp_n h5 a = hp_n h4 a := fun a q1 => sn_n (by omega)
  have N4 : ∀ a, a < sv + 6 → hp_n h4 a = hp_n h3 a := fun a q1 => sn_n (by omega)
  have N3 : ∀ a, a < sv + 5 → hp_n h3 a = hp_n h2 a := fun a q1 => sn_n (b := sv + 3) (j := 3) (v := some (sv + 5)) (by omega)
  have N2 : ∀ a, a < sv + 3 → hp_n h2 a = hp_n h1 a := fun a q1 => by
    show hp_n (hp_sr (hp_nw (hp_nw h1 7 0 (ly_nf 7)) 14 5000 5000) (sv + 3) 2 (some (sv + 4))) a = _
    rw [sn_n (by omega), hp_n_nw, if_neg (by omega)]
  refine ⟨h7, e, z7, ?_, ?_, ?_, fun k => ?_, A7⟩
  · have s7 : hp_s h7 = hp_s h6 + 5000 := sn_s _ _ _ _ _ _ _
    have s6 : hp_s h6 = hp_s h5 + 30000 := sn_s _ _ _ _ _ _ _
    have s5 : hp_s h5 = hp_s h4 + 6 := sn_s _ _ _ _ _ _ _
    have s4 : hp_s h4 = hp_s h3 + 5000 := sn_s _ _ _ _ _ _ _
    have s3 : hp_s h3 = hp_s h2 + 8192 := (hp_s_sr _ _ _ _).trans (sn_s _ _ _ _ _ _ _)
    have s2 : hp_s h2 = hp_s (hp_nw h1 7 0 (ly_nf 7)) + 5000 := sn_s _ _ _ _ _ _ _
    have s2' : hp_s (hp_nw h1 7 0 (ly_nf 7)) = hp_s h1 + ly_nf 7 := hp_s_nw _ _ _ _
    have s1 : hp_s h1 = hp_s (hp_nw h 8 0 (ly_nf 8)) + 24576 := (hp_s_sr _ _ _ _).trans (sn_s _ _ _ _ _ _ _)
    have s1' : hp_s (hp_nw h 8 0 (ly_nf 8)) = hp_s h + ly_nf 8 := hp_s_nw _ _ _ _
    rw [s7, s6, s5, s4, s3, s2, s2', s1, s1']
    generalize ly_nf 8 = u
    generalize ly_nf 7 = v
    omega
  · refine ⟨?_, ?_, ?_, ?_, ?_, ?_, ?_, ?_, ?_, ?_, ?_, ?_, ?_, ?_, ?_, ?_⟩
    · rw [R7 _ _ (by omega) (by omega), R6 _ _ (by omega) (by omega), R5 _ _ (by omega) (by omega), R4 _ _ (by omega) (by omega), R3 _ _ (by omega) (by omega), R2 _ _ (by omega)]; exact sr_at
    · rw [R7 _ _ (by omega) (by omega), R6 _ _ (by omega) (by omega), R5 _ _ (by omega) (by omega), R4 _ _ (by omega) (by omega), R3 _ _ (by omega) (by omega), R2 _ _ (by omega)]
      show hp_r (hp_sr _ sv 0 _) (sv + 1) 0 = _
      rw [hp_r_sr, if_neg (by omega)]; exact sr_at
    · rw [R7 _ _ (by omega) (by omega), R6 _ _ (by omega) (by omega), R5 _ _ (by omega) (by omega), R4 _ _ (by omega) (by omega)]; exact sr_at
    · rw [R7 _ _ (by omega) (by omega), R6 _ _ (by omega) (by omega), R5 _ _ (by omega) (by omega)]; exact sr_at
    · rw [R7 _ _ (by omega) (by omega), R6 _ _ (by omega) (by omega)]; exact sr_at
    · rw [R7 _ _ (by omega) (by omega)]; exact sr_at
    · exact sr_at
    · rw [R7 _ _ (by omega) (by omega), R6 _ _ (by omega) (by omega), R5 _ _ (by omega) (by omega), R4 _ _ (by omega) (by omega), R3 _ _ (by omega) (by omega)]; exact sr_at
    · rw [R7 _ _ (by omega) (by omega), R6 _ _ (by omega) (by omega), R5 _ _ (by omega) (by omega), R4 _ _ (by omega) (by omega)]
      show hp_r (hp_sr _ sv 1 _) (sv + 3) 3 = _
      rw [hp_r_sr, if_neg (by omega)]; exact sr_at
    · rw [N7 _ (by omega), N6 _ (by omega), N5 _ (by omega), N4 _ (by omega), N3 _ (by omega), N2 _ (by omega)]
      exact sn_n0 (b := sv + 1) (j := 0) (v := some (sv + 2)) zz.symm
    · rw [N7 _ (by omega), N6 _ (by omega), N5 _ (by omega), N4 _ (by omega), N3 _ (by omega)]
      exact sn_n0 zy.symm
    · rw [N7 _ (by omega), N6 _ (by omega), N5 _ (by omega), N4 _ (by omega)]
      exact sn_n0 (b := sv + 3) (j := 3) (v := some (sv + 5)) z2.symm
    · rw [N7 _ (by omega), N6 _ (by omega), N5 _ (by omega)]; exact sn_n0 z3.symm
    · rw [N7 _ (by omega), N6 _ (by omega)]; exact sn_n0 z4.symm
    · rw [N7 _ (by omega)]; exact sn_n0 z5.symm
    · exact sn_n0 z6.symm
  · rw [R7 _ _ (by omega) (by omega), R6 _ _ (by omega) (by omega), R5 _ _ (by omega) (by omega), R4 _ _ (by omega) (by omega), R3 _ _ (by omega) (by omega), R2 _ _ (by omega)]
    show hp_r (hp_sr (hp_sr (hp_nw (hp_nw h 8 0 (ly_nf 8)) 13 24576 24576) (sv + 1) 0 (some (sv + 2))) sv 0 (some (sv + 1))) sv 14 = _
    rw [hp_r_sr, if_neg (by omega), sn_r (by omega) (by omega), hp_r_nw, if_neg (by omega)]
  · show hp_i (hp_sr (hp_nw h6 13 5000 5000) sv 13 (some (sv + 9))) sv k = _
    rw [sn_i (by omega)]
    show hp_i (hp_sr (hp_nw h5 13 30000 30000) sv 12 (some (sv + 8))) sv k = _
    rw [sn_i (by omega)]
    show hp_i (hp_sr (hp_nw h4 13 6 6) sv 3 (some (sv + 7))) sv k = _
    rw [sn_i (by omega)]
    show hp_i (hp_sr (hp_nw h3 13 5000 5000) sv 2 (some (sv + 6))) sv k = _
    rw [sn_i (by omega)]
    show hp_i (hp_sr (hp_nw h2 13 8192 8192) (sv + 3) 3 (some (sv + 5))) sv k = _
    rw [sn_i (by omega)]
    show hp_i (hp_sr (hp_nw (hp_nw h1 7 0 (ly_nf 7)) 14 5000 5000) (sv + 3) 2 (some (sv + 4))) sv k = _
    rw [sn_i (by omega), hp_i_nw, if_neg (by omega)]
    show hp_i (hp_sr (hp_nw (hp_nw h 8 0 (ly_nf 8)) 13 24576 24576) (sv + 1) 0 (some (sv + 2))) sv k = _
    rw [sn_i (by omega), hp_i_nw, if_neg (by omega)]
