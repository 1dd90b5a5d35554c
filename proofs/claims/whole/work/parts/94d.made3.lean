/-! faults made anew -/
theorem A_fan {f : Nat} {h : HP} (hz : hp_z h = f + 1) : ∃ g, pw (f_Fa_new f h) (fun r => r = g) ∧ hp_z g = f + 5 ∧ hp_s g = hp_s h + (3 + ly_nf 7 + 5000 + 8192) ∧ FAX f g ∧ (∀ k, hp_i g f k = hp_i h f k) ∧ (∀ F, F < 3 → hp_i g (f + 1) F = -3) ∧ afr f h g := by
  let h1 := hp_sr (hp_nw h 13 3 3) f 0 (some (f + 1))
  let h2 := hp_sr (hp_nw (hp_nw h1 7 0 (ly_nf 7)) 14 5000 5000) (f + 2) 2 (some (f + 3))
  let h3 := hp_sr (hp_sr (hp_nw h2 13 8192 8192) (f + 2) 3 (some (f + 4))) f 1 (some (f + 2))
  have z1 : hp_z h1 = f + 2 := by show hp_z h + 1 = _; omega
  have zy : hp_z (hp_nw h1 7 0 (ly_nf 7)) = f + 3 := by show hp_z h1 + 1 = _; omega
  have z2 : hp_z h2 = f + 4 := by show hp_z h1 + 1 + 1 = _; omega
  have z3 : hp_z h3 = f + 5 := by show hp_z h2 + 1 = _; omega
  have A1 : afr f h h1 := afr_sr (afr_nw (afr_rf f h) (by omega)) (by omega)
  have A2 : afr f h h2 := afr_sr (afr_nw (afr_nw A1 (by omega)) (by omega)) (by omega)
  have A3 : afr f h h3 := afr_sr (afr_sr (afr_nw A2 (by omega)) (by omega)) (by omega)
  have R3 : ∀ a i, a ≠ f + 4 → ¬ (a = f ∧ i = 1 ∨ a = f + 2 ∧ i = 3) → hp_r h3 a i = hp_r h2 a i := fun a i q1 q2 => by
    show hp_r (hp_sr (hp_sr (hp_nw h2 13 8192 8192) (f + 2) 3 (some (f + 4))) f 1 (some (f + 2))) a i = _
    rw [hp_r_sr, if_neg (by omega)]; exact sn_r (by omega) (by omega)
  have R2 : ∀ a i, a < f + 2 → hp_r h2 a i = hp_r h1 a i := fun a i q1 => by
    show hp_r (hp_sr (hp_nw (hp_nw h1 7 0 (ly_nf 7)) 14 5000 5000) (f + 2) 2 (some (f + 3))) a i = _
    rw [sn_r (by omega) (by omega), hp_r_nw, if_neg (by omega)]
  have N3 : ∀ a, a ≠ f + 4 → hp_n h3 a = hp_n h2 a := fun a q1 => sn_n (b := f + 2) (j := 3) (v := some (f + 4)) (by omega)
  have N2 : ∀ a, a < f + 2 → hp_n h2 a = hp_n h1 a := fun a q1 => by
    show hp_n (hp_sr (hp_nw (hp_nw h1 7 0 (ly_nf 7)) 14 5000 5000) (f + 2) 2 (some (f + 3))) a = _
    rw [sn_n (by omega), hp_n_nw, if_neg (by omega)]
  have F3 : FAX f h3 := by
    refine ⟨?_, sr_at, ?_, ?_, ?_, ?_, ?_⟩
    · rw [R3 _ _ (by omega) (by omega), R2 _ _ (by omega)]; exact sr_at
    · rw [N3 _ (by omega), N2 _ (by omega)]; exact sn_n0 hz.symm
    · rw [R3 _ _ (by omega) (by omega)]; exact sr_at
    · show hp_r (hp_sr _ f 1 _) (f + 2) 3 = _
      rw [hp_r_sr, if_neg (by omega)]; exact sr_at
    · rw [N3 _ (by omega)]; exact sn_n0 zy.symm
    · exact sn_n0 (b := f + 2) (j := 3) (v := some (f + 4)) z2.symm
  obtain ⟨g, eg, H, ge⟩ := A_fill (v := (-3 : Int32)) F3.2.2.1 (by decide)
  have s3 : hp_s h3 = hp_s h2 + 8192 := (hp_s_sr _ _ _ _).trans (sn_s _ _ _ _ _ _ _)
  have s2 : hp_s h2 = hp_s (hp_nw h1 7 0 (ly_nf 7)) + 5000 := sn_s _ _ _ _ _ _ _
  have s2' : hp_s (hp_nw h1 7 0 (ly_nf 7)) = hp_s h1 + ly_nf 7 := hp_s_nw _ _ _ _
  have s1 : hp_s h1 = hp_s h + 3 := sn_s _ _ _ _ _ _ _
  refine ⟨g, ⟨g, ?_, rfl⟩, by rw [hp_fr_z H]; exact z3, ?_, FAX_fr H F3, fun k => ?_, ge, fun a ha => ?_⟩
  · unfold f_Fa_new f_Ss_new
    rw [xx_lE, xx_lE, xx_lE, hz]
    rw [show hp_z (hp_sr (hp_nw h 13 3 3) f 0 (some (f + 1))) = f + 2 from z1, xx_lE, xx_lE, xx_lE, xx_lE, xx_lE]
    rw [show hp_z (hp_nw h1 7 0 (ly_nf 7)) = f + 3 from zy]
    rw [show hp_z (hp_sr (hp_nw (hp_nw h1 7 0 (ly_nf 7)) 14 5000 5000) (f + 2) 2 (some (f + 3))) = f + 4 from z2, xx_lE, xx_lE, xx_lE, bn_s, xx_lE]
    show (f_Fa_clear f h3).bind _ = _
    unfold f_Fa_clear
    rw [bn_o F3.1, eg]; rfl
  · rw [hp_fr_s H, s3, s2, s2', s1]
    generalize ly_nf 7 = v
    omega
  · rw [hf_i H (by omega)]
    show hp_i (hp_sr (hp_nw h2 13 8192 8192) (f + 2) 3 (some (f + 4))) f k = _
    rw [sn_i (by omega)]
    show hp_i (hp_sr (hp_nw (hp_nw h1 7 0 (ly_nf 7)) 14 5000 5000) (f + 2) 2 (some (f + 3))) f k = _
    rw [sn_i (by omega), hp_i_nw, if_neg (by omega)]
    exact sn_i (by omega)
  · refine ⟨fun k => ?_, by rw [hp_fr_n H]; exact (A3 a ha).2⟩
    rw [hf_i H (by omega), hf_l H (by omega), hp_fr_r H]; exact (A3 a ha).1 k
