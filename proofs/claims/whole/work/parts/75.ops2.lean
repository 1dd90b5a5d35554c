/-! man, about, fair -/
theorem it01 {n : Nat} (h : n < 2) : (if nI n = nI 0 then nI 0 else nI 1) = nI n := by
  have : n = 0 ∨ n = 1 := by omega
  rcases this with rfl | rfl
  · rfl
  · rw [if_neg (by decide)]
theorem op_man {x m : Nat} (v w : Int32) : EZ (fun h => f_X_man x v w h) (fun h => f_M_man m v w h) x m := by
  intro P q h hb
  have hm := bm hb
  have ok := bok hb
  have hnm := ok.2.2.2.2.2.1
  have px := bpx hb
  have pm := bpm hb
  have px5 := px.2.2.2.2.2.1
  have pm5 := pm.2.2.2.2.2.1
  obtain ⟨N, td, ov, bu, ⟨n1, n2, n3, n4, n5, n6⟩, ⟨x1, x2, x3, x4⟩, ⟨⟨y1, y2, y3⟩, y4, y5, y6⟩⟩ := bC hb
  rcases man_cases P ok v with ⟨i, hi, rfl⟩ | ⟨k1, k2⟩
  · have hi6 : i < 6 := by omega
    obtain ⟨z1, z2, z3⟩ := y3 i hi6
    have z4 := y6 i hi6
    have x5 : hp_i h (x + 26) i = nI (bu i) := x4 i hi6
    have z5 := pm.2.2.2.2.2.2.2.2.1 i hi
    by_cases c0 : w = nI 0
    · subst c0
      exact EZ_id hb (v := nI (p_ro P i)) (by simp (disch := omega) only [f_X_man, ↓xx_lE, ↓reduceIte, ↓bn_si, ↓bn_sl, ↓bn_s, ↓bn_ms, hp_i_si, hp_l_si, hp_r_si, hp_n_si, hp_i_sl, hp_l_sl, hp_r_sl, hp_n_sl, hp_i_sr, hp_l_sr, hp_r_sr, hp_n_sr, iL, nI_clamp, hp_in_nI, nI_add, pk_mul, pk_sub, c_le, c_nle, c_lt, c_nlt, c_ne, c_m1, c_m1', ad_ne, ad_ne', ad_ne2, nar0, nar1, true_and, false_and, and_true, and_false, Nat.add_zero, Nat.zero_add, ↓bn_o (br3 hb), ↓bn_o (X_man ok hi px5), ↓bn_o (X_roleOf (BAS_psh hb) ok px hi)]) (by simp (disch := omega) only [f_M_man, ↓xx_lE, ↓reduceIte, ↓bn_si, ↓bn_sl, ↓bn_s, ↓bn_ms, hp_i_si, hp_l_si, hp_r_si, hp_n_si, hp_i_sl, hp_l_sl, hp_r_sl, hp_n_sl, hp_i_sr, hp_l_sr, hp_r_sr, hp_n_sr, iL, nI_clamp, hp_in_nI, nI_add, pk_mul, pk_sub, c_le, c_nle, c_lt, c_nlt, c_ne, c_m1, c_m1', ad_ne, ad_ne', ad_ne2, nar0, nar1, true_and, false_and, and_true, and_false, Nat.add_zero, Nat.zero_add, ↓bn_o (M_man ok hi pm5), ↓mb_14 (bms hb), mn_6 (bms hb), z5])
    by_cases c1 : w = nI 1
    · subst c1
      exact EZ_id hb (v := nI (hd N i)) (by simp (disch := omega) only [f_X_man, ↓xx_lE, ↓reduceIte, ↓bn_si, ↓bn_sl, ↓bn_s, ↓bn_ms, hp_i_si, hp_l_si, hp_r_si, hp_n_si, hp_i_sl, hp_l_sl, hp_r_sl, hp_n_sl, hp_i_sr, hp_l_sr, hp_r_sr, hp_n_sr, iL, nI_clamp, hp_in_nI, nI_add, pk_mul, pk_sub, c_le, c_nle, c_lt, c_nlt, c_ne, c_m1, c_m1', ad_ne, ad_ne', ad_ne2, nar0, nar1, true_and, false_and, and_true, and_false, Nat.add_zero, Nat.zero_add, ↓bn_o (br3 hb), ↓bn_o (X_man ok hi px5), ↓xb_0_5 (bxs hb), x1, X_held n1 hi6]) (by simp (disch := omega) only [f_M_man, ↓xx_lE, ↓reduceIte, ↓bn_si, ↓bn_sl, ↓bn_s, ↓bn_ms, hp_i_si, hp_l_si, hp_r_si, hp_n_si, hp_i_sl, hp_l_sl, hp_r_sl, hp_n_sl, hp_i_sr, hp_l_sr, hp_r_sr, hp_n_sr, iL, nI_clamp, hp_in_nI, nI_add, pk_mul, pk_sub, c_le, c_nle, c_lt, c_nlt, c_ne, c_m1, c_m1', ad_ne, ad_ne', ad_ne2, nar0, nar1, true_and, false_and, and_true, and_false, Nat.add_zero, Nat.zero_add, ↓bn_o (M_man ok hi pm5), ↓mb_47 (bms hb), mn_20 (bms hb), z1])
    by_cases c2 : w = nI 2
    · subst c2
      exact EZ_id hb (v := nI (vs N i)) (by simp (disch := omega) only [f_X_man, ↓xx_lE, ↓reduceIte, ↓bn_si, ↓bn_sl, ↓bn_s, ↓bn_ms, hp_i_si, hp_l_si, hp_r_si, hp_n_si, hp_i_sl, hp_l_sl, hp_r_sl, hp_n_sl, hp_i_sr, hp_l_sr, hp_r_sr, hp_n_sr, iL, nI_clamp, hp_in_nI, nI_add, pk_mul, pk_sub, c_le, c_nle, c_lt, c_nlt, c_ne, c_m1, c_m1', ad_ne, ad_ne', ad_ne2, nar0, nar1, true_and, false_and, and_true, and_false, Nat.add_zero, Nat.zero_add, ↓bn_o (br3 hb), ↓bn_o (X_man ok hi px5), ↓xb_0_5 (bxs hb), x1, X_vis n1 hi6]) (by simp (disch := omega) only [f_M_man, ↓xx_lE, ↓reduceIte, ↓bn_si, ↓bn_sl, ↓bn_s, ↓bn_ms, hp_i_si, hp_l_si, hp_r_si, hp_n_si, hp_i_sl, hp_l_sl, hp_r_sl, hp_n_sl, hp_i_sr, hp_l_sr, hp_r_sr, hp_n_sr, iL, nI_clamp, hp_in_nI, nI_add, pk_mul, pk_sub, c_le, c_nle, c_lt, c_nlt, c_ne, c_m1, c_m1', ad_ne, ad_ne', ad_ne2, nar0, nar1, true_and, false_and, and_true, and_false, Nat.add_zero, Nat.zero_add, ↓bn_o (M_man ok hi pm5), ↓mb_48 (bms hb), mn_21 (bms hb), z2])
    by_cases c3 : w = nI 3
    · subst c3
      have hbe : be N i = 0 ∨ be N i = 1 := by have := be_lt N i; omega
      have bX := X_been n1 hi6 h
      rcases hbe with hx | hx <;> rw [hx] at bX z3
      · exact EZ_id hb (v := nI 0) (by simp (disch := omega) only [f_X_man, ↓xx_lE, ↓reduceIte, ↓bn_si, ↓bn_sl, ↓bn_s, ↓bn_ms, hp_i_si, hp_l_si, hp_r_si, hp_n_si, hp_i_sl, hp_l_sl, hp_r_sl, hp_n_sl, hp_i_sr, hp_l_sr, hp_r_sr, hp_n_sr, iL, nI_clamp, hp_in_nI, nI_add, pk_mul, pk_sub, c_le, c_nle, c_lt, c_nlt, c_ne, c_m1, c_m1', ad_ne, ad_ne', ad_ne2, nar0, nar1, true_and, false_and, and_true, and_false, Nat.add_zero, Nat.zero_add, ↓bn_o (br3 hb), ↓bn_o (X_man ok hi px5), ↓xb_0_5 (bxs hb), x1, bX]) (by simp (disch := omega) only [f_M_man, ↓xx_lE, ↓reduceIte, ↓bn_si, ↓bn_sl, ↓bn_s, ↓bn_ms, hp_i_si, hp_l_si, hp_r_si, hp_n_si, hp_i_sl, hp_l_sl, hp_r_sl, hp_n_sl, hp_i_sr, hp_l_sr, hp_r_sr, hp_n_sr, iL, nI_clamp, hp_in_nI, nI_add, pk_mul, pk_sub, c_le, c_nle, c_lt, c_nlt, c_ne, c_m1, c_m1', ad_ne, ad_ne', ad_ne2, nar0, nar1, true_and, false_and, and_true, and_false, Nat.add_zero, Nat.zero_add, ↓bn_o (M_man ok hi pm5), ↓mb_50 (bms hb), mn_23 (bms hb), z3])
      · exact EZ_id hb (v := nI 1) (by simp (disch := omega) only [f_X_man, ↓xx_lE, ↓reduceIte, ↓bn_si, ↓bn_sl, ↓bn_s, ↓bn_ms, hp_i_si, hp_l_si, hp_r_si, hp_n_si, hp_i_sl, hp_l_sl, hp_r_sl, hp_n_sl, hp_i_sr, hp_l_sr, hp_r_sr, hp_n_sr, iL, nI_clamp, hp_in_nI, nI_add, pk_mul, pk_sub, c_le, c_nle, c_lt, c_nlt, c_ne, c_m1, c_m1', ad_ne, ad_ne', ad_ne2, nar0, nar1, true_and, false_and, and_true, and_false, Nat.add_zero, Nat.zero_add, ↓bn_o (br3 hb), ↓bn_o (X_man ok hi px5), ↓xb_0_5 (bxs hb), x1, bX]) (by simp (disch := omega) only [f_M_man, ↓xx_lE, ↓reduceIte, ↓bn_si, ↓bn_sl, ↓bn_s, ↓bn_ms, hp_i_si, hp_l_si, hp_r_si, hp_n_si, hp_i_sl, hp_l_sl, hp_r_sl, hp_n_sl, hp_i_sr, hp_l_sr, hp_r_sr, hp_n_sr, iL, nI_clamp, hp_in_nI, nI_add, pk_mul, pk_sub, c_le, c_nle, c_lt, c_nlt, c_ne, c_m1, c_m1', ad_ne, ad_ne', ad_ne2, nar0, nar1, true_and, false_and, and_true, and_false, Nat.add_zero, Nat.zero_add, ↓bn_o (M_man ok hi pm5), ↓mb_50 (bms hb), mn_23 (bms hb), z3])
    by_cases c4 : w = nI 4
    · subst c4
      exact EZ_id hb (v := nI (bu i)) (by simp (disch := omega) only [f_X_man, ↓xx_lE, ↓reduceIte, ↓bn_si, ↓bn_sl, ↓bn_s, ↓bn_ms, hp_i_si, hp_l_si, hp_r_si, hp_n_si, hp_i_sl, hp_l_sl, hp_r_sl, hp_n_sl, hp_i_sr, hp_l_sr, hp_r_sr, hp_n_sr, iL, nI_clamp, hp_in_nI, nI_add, pk_mul, pk_sub, c_le, c_nle, c_lt, c_nlt, c_ne, c_m1, c_m1', ad_ne, ad_ne', ad_ne2, nar0, nar1, true_and, false_and, and_true, and_false, Nat.add_zero, Nat.zero_add, ↓bn_o (br3 hb), ↓bn_o (X_man ok hi px5), ↓xb_0_5 (bxs hb), ↓xb_25_4 (bxs hb), xn_26 (bxs hb), x5]) (by simp (disch := omega) only [f_M_man, ↓xx_lE, ↓reduceIte, ↓bn_si, ↓bn_sl, ↓bn_s, ↓bn_ms, hp_i_si, hp_l_si, hp_r_si, hp_n_si, hp_i_sl, hp_l_sl, hp_r_sl, hp_n_sl, hp_i_sr, hp_l_sr, hp_r_sr, hp_n_sr, iL, nI_clamp, hp_in_nI, nI_add, pk_mul, pk_sub, c_le, c_nle, c_lt, c_nlt, c_ne, c_m1, c_m1', ad_ne, ad_ne', ad_ne2, nar0, nar1, true_and, false_and, and_true, and_false, Nat.add_zero, Nat.zero_add, ↓bn_o (M_man ok hi pm5), ↓mb_49 (bms hb), mn_22 (bms hb), z4])
    exact EZ_id hb (v := -nI 1) (by simp (disch := omega) only [f_X_man, ↓xx_lE, ↓reduceIte, ↓bn_si, ↓bn_sl, ↓bn_s, ↓bn_ms, hp_i_si, hp_l_si, hp_r_si, hp_n_si, hp_i_sl, hp_l_sl, hp_r_sl, hp_n_sl, hp_i_sr, hp_l_sr, hp_r_sr, hp_n_sr, iL, nI_clamp, hp_in_nI, nI_add, pk_mul, pk_sub, c_le, c_nle, c_lt, c_nlt, c_ne, c_m1, c_m1', ad_ne, ad_ne', ad_ne2, nar0, nar1, true_and, false_and, and_true, and_false, Nat.add_zero, Nat.zero_add, ↓bn_o (br3 hb), ↓bn_o (X_man ok hi px5), c0, c1, c2, c3, c4]) (by simp (disch := omega) only [f_M_man, ↓xx_lE, ↓reduceIte, ↓bn_si, ↓bn_sl, ↓bn_s, ↓bn_ms, hp_i_si, hp_l_si, hp_r_si, hp_n_si, hp_i_sl, hp_l_sl, hp_r_sl, hp_n_sl, hp_i_sr, hp_l_sr, hp_r_sr, hp_n_sr, iL, nI_clamp, hp_in_nI, nI_add, pk_mul, pk_sub, c_le, c_nle, c_lt, c_nlt, c_ne, c_m1, c_m1', ad_ne, ad_ne', ad_ne2, nar0, nar1, true_and, false_and, and_true, and_false, Nat.add_zero, Nat.zero_add, ↓bn_o (M_man ok hi pm5), c0, c1, c2, c3, c4])
  · exact EZ_id hb (v := -nI 1) (by simp (disch := omega) only [f_X_man, ↓xx_lE, ↓reduceIte, ↓bn_si, ↓bn_sl, ↓bn_s, ↓bn_ms, hp_i_si, hp_l_si, hp_r_si, hp_n_si, hp_i_sl, hp_l_sl, hp_r_sl, hp_n_sl, hp_i_sr, hp_l_sr, hp_r_sr, hp_n_sr, iL, nI_clamp, hp_in_nI, nI_add, pk_mul, pk_sub, c_le, c_nle, c_lt, c_nlt, c_ne, c_m1, c_m1', ad_ne, ad_ne', ad_ne2, nar0, nar1, true_and, false_and, and_true, and_false, Nat.add_zero, Nat.zero_add, ↓bn_o (br3 hb), ↓bn_o (k1 q h px5)]) (by simp (disch := omega) only [f_M_man, ↓xx_lE, ↓reduceIte, ↓bn_si, ↓bn_sl, ↓bn_s, ↓bn_ms, hp_i_si, hp_l_si, hp_r_si, hp_n_si, hp_i_sl, hp_l_sl, hp_r_sl, hp_n_sl, hp_i_sr, hp_l_sr, hp_r_sr, hp_n_sr, iL, nI_clamp, hp_in_nI, nI_add, pk_mul, pk_sub, c_le, c_nle, c_lt, c_nlt, c_ne, c_m1, c_m1', ad_ne, ad_ne', ad_ne2, nar0, nar1, true_and, false_and, and_true, and_false, Nat.add_zero, Nat.zero_add, ↓bn_o (k2 m h pm5)])
theorem op_about {x m : Nat} (w : Int32) : EZ (fun h => f_X_about x w h) (fun h => f_M_about m w h) x m := by
  intro P q h hb
  have px := bpx hb
  have pm := bpm hb
  obtain ⟨N, td, ov, bu, ⟨n1, n2, n3, n4, n5, n6⟩, ⟨x1, x2, x3, x4⟩, ⟨⟨y1, y2, y3⟩, y4, y5, y6⟩⟩ := bC hb
  obtain ⟨n, tm, dd, mm, tt, uu, l1, l2, l3, l4, l5, l6, l7⟩ := bL hb
  obtain ⟨T, t, t1, t2, t3, t4⟩ := bT hb
  obtain ⟨a1, a2, a3, a4, a5, a6, a7, a8, _⟩ := px
  obtain ⟨b1, b2, b3, b4, b5, b6, b7, b8, _⟩ := pm
  by_cases c0 : w = nI 0
  · subst c0
    exact EZ_id hb (v := nI (p_nm P)) (by simp (disch := omega) only [f_X_about, ↓xx_lE, ↓reduceIte, ↓bn_si, ↓bn_sl, ↓bn_s, ↓bn_ms, hp_i_si, hp_l_si, hp_r_si, hp_n_si, hp_i_sl, hp_l_sl, hp_r_sl, hp_n_sl, hp_i_sr, hp_l_sr, hp_r_sr, hp_n_sr, iL, nI_clamp, hp_in_nI, nI_add, pk_mul, pk_sub, c_le, c_nle, c_lt, c_nlt, c_ne, c_m1, c_m1', ad_ne, ad_ne', ad_ne2, nar0, nar1, true_and, false_and, and_true, and_false, Nat.add_zero, Nat.zero_add, ↓bn_o (br3 hb), a6]) (by simp (disch := omega) only [f_M_about, ↓xx_lE, ↓reduceIte, ↓bn_si, ↓bn_sl, ↓bn_s, ↓bn_ms, hp_i_si, hp_l_si, hp_r_si, hp_n_si, hp_i_sl, hp_l_sl, hp_r_sl, hp_n_sl, hp_i_sr, hp_l_sr, hp_r_sr, hp_n_sr, iL, nI_clamp, hp_in_nI, nI_add, pk_mul, pk_sub, c_le, c_nle, c_lt, c_nlt, c_ne, c_m1, c_m1', ad_ne, ad_ne', ad_ne2, nar0, nar1, true_and, false_and, and_true, and_false, Nat.add_zero, Nat.zero_add, b6])
  by_cases c1 : w = nI 1
  · subst c1
    exact EZ_id hb (v := nI (p_nr P)) (by simp (disch := omega) only [f_X_about, ↓xx_lE, ↓reduceIte, ↓bn_si, ↓bn_sl, ↓bn_s, ↓bn_ms, hp_i_si, hp_l_si, hp_r_si, hp_n_si, hp_i_sl, hp_l_sl, hp_r_sl, hp_n_sl, hp_i_sr, hp_l_sr, hp_r_sr, hp_n_sr, iL, nI_clamp, hp_in_nI, nI_add, pk_mul, pk_sub, c_le, c_nle, c_lt, c_nlt, c_ne, c_m1, c_m1', ad_ne, ad_ne', ad_ne2, nar0, nar1, true_and, false_and, and_true, and_false, Nat.add_zero, Nat.zero_add, ↓bn_o (br3 hb), a5]) (by simp (disch := omega) only [f_M_about, ↓xx_lE, ↓reduceIte, ↓bn_si, ↓bn_sl, ↓bn_s, ↓bn_ms, hp_i_si, hp_l_si, hp_r_si, hp_n_si, hp_i_sl, hp_l_sl, hp_r_sl, hp_n_sl, hp_i_sr, hp_l_sr, hp_r_sr, hp_n_sr, iL, nI_clamp, hp_in_nI, nI_add, pk_mul, pk_sub, c_le, c_nle, c_lt, c_nlt, c_ne, c_m1, c_m1', ad_ne, ad_ne', ad_ne2, nar0, nar1, true_and, false_and, and_true, and_false, Nat.add_zero, Nat.zero_add, b5])
  by_cases c2 : w = nI 2
  · subst c2
    exact EZ_id hb (v := nI (p_nu P)) (by simp (disch := omega) only [f_X_about, ↓xx_lE, ↓reduceIte, ↓bn_si, ↓bn_sl, ↓bn_s, ↓bn_ms, hp_i_si, hp_l_si, hp_r_si, hp_n_si, hp_i_sl, hp_l_sl, hp_r_sl, hp_n_sl, hp_i_sr, hp_l_sr, hp_r_sr, hp_n_sr, iL, nI_clamp, hp_in_nI, nI_add, pk_mul, pk_sub, c_le, c_nle, c_lt, c_nlt, c_ne, c_m1, c_m1', ad_ne, ad_ne', ad_ne2, nar0, nar1, true_and, false_and, and_true, and_false, Nat.add_zero, Nat.zero_add, ↓bn_o (br3 hb), a7]) (by simp (disch := omega) only [f_M_about, ↓xx_lE, ↓reduceIte, ↓bn_si, ↓bn_sl, ↓bn_s, ↓bn_ms, hp_i_si, hp_l_si, hp_r_si, hp_n_si, hp_i_sl, hp_l_sl, hp_r_sl, hp_n_sl, hp_i_sr, hp_l_sr, hp_r_sr, hp_n_sr, iL, nI_clamp, hp_in_nI, nI_add, pk_mul, pk_sub, c_le, c_nle, c_lt, c_nlt, c_ne, c_m1, c_m1', ad_ne, ad_ne', ad_ne2, nar0, nar1, true_and, false_and, and_true, and_false, Nat.add_zero, Nat.zero_add, b7])
  by_cases c3 : w = nI 3
  · subst c3
    exact EZ_id hb (v := nI td) (by simp (disch := omega) only [f_X_about, ↓xx_lE, ↓reduceIte, ↓bn_si, ↓bn_sl, ↓bn_s, ↓bn_ms, hp_i_si, hp_l_si, hp_r_si, hp_n_si, hp_i_sl, hp_l_sl, hp_r_sl, hp_n_sl, hp_i_sr, hp_l_sr, hp_r_sr, hp_n_sr, iL, nI_clamp, hp_in_nI, nI_add, pk_mul, pk_sub, c_le, c_nle, c_lt, c_nlt, c_ne, c_m1, c_m1', ad_ne, ad_ne', ad_ne2, nar0, nar1, true_and, false_and, and_true, and_false, Nat.add_zero, Nat.zero_add, ↓xb_0_5 (bxs hb), x2]) (by simp (disch := omega) only [f_M_about, ↓xx_lE, ↓reduceIte, ↓bn_si, ↓bn_sl, ↓bn_s, ↓bn_ms, hp_i_si, hp_l_si, hp_r_si, hp_n_si, hp_i_sl, hp_l_sl, hp_r_sl, hp_n_sl, hp_i_sr, hp_l_sr, hp_r_sr, hp_n_sr, iL, nI_clamp, hp_in_nI, nI_add, pk_mul, pk_sub, c_le, c_nle, c_lt, c_nlt, c_ne, c_m1, c_m1', ad_ne, ad_ne', ad_ne2, nar0, nar1, true_and, false_and, and_true, and_false, Nat.add_zero, Nat.zero_add, y4])
  by_cases c4 : w = nI 4
  · subst c4
    exact EZ_id hb (v := nI (lm N)) (by simp (disch := omega) only [f_X_about, ↓xx_lE, ↓reduceIte, ↓bn_si, ↓bn_sl, ↓bn_s, ↓bn_ms, hp_i_si, hp_l_si, hp_r_si, hp_n_si, hp_i_sl, hp_l_sl, hp_r_sl, hp_n_sl, hp_i_sr, hp_l_sr, hp_r_sr, hp_n_sr, iL, nI_clamp, hp_in_nI, nI_add, pk_mul, pk_sub, c_le, c_nle, c_lt, c_nlt, c_ne, c_m1, c_m1', ad_ne, ad_ne', ad_ne2, nar0, nar1, true_and, false_and, and_true, and_false, Nat.add_zero, Nat.zero_add, ↓xb_0_5 (bxs hb), x1, X_lamps]) (by simp (disch := omega) only [f_M_about, ↓xx_lE, ↓reduceIte, ↓bn_si, ↓bn_sl, ↓bn_s, ↓bn_ms, hp_i_si, hp_l_si, hp_r_si, hp_n_si, hp_i_sl, hp_l_sl, hp_r_sl, hp_n_sl, hp_i_sr, hp_l_sr, hp_r_sr, hp_n_sr, iL, nI_clamp, hp_in_nI, nI_add, pk_mul, pk_sub, c_le, c_nle, c_lt, c_nlt, c_ne, c_m1, c_m1', ad_ne, ad_ne', ad_ne2, nar0, nar1, true_and, false_and, and_true, and_false, Nat.add_zero, Nat.zero_add, y1])
  by_cases c5 : w = nI 5
  · subst c5
    exact EZ_id hb (v := nI ov) (by simp (disch := omega) only [f_X_about, ↓xx_lE, ↓reduceIte, ↓bn_si, ↓bn_sl, ↓bn_s, ↓bn_ms, hp_i_si, hp_l_si, hp_r_si, hp_n_si, hp_i_sl, hp_l_sl, hp_r_sl, hp_n_sl, hp_i_sr, hp_l_sr, hp_r_sr, hp_n_sr, iL, nI_clamp, hp_in_nI, nI_add, pk_mul, pk_sub, c_le, c_nle, c_lt, c_nlt, c_ne, c_m1, c_m1', ad_ne, ad_ne', ad_ne2, nar0, nar1, true_and, false_and, and_true, and_false, Nat.add_zero, Nat.zero_add, ↓xb_0_5 (bxs hb), x3, it_s, it01]) (by simp (disch := omega) only [f_M_about, ↓xx_lE, ↓reduceIte, ↓bn_si, ↓bn_sl, ↓bn_s, ↓bn_ms, hp_i_si, hp_l_si, hp_r_si, hp_n_si, hp_i_sl, hp_l_sl, hp_r_sl, hp_n_sl, hp_i_sr, hp_l_sr, hp_r_sr, hp_n_sr, iL, nI_clamp, hp_in_nI, nI_add, pk_mul, pk_sub, c_le, c_nle, c_lt, c_nlt, c_ne, c_m1, c_m1', ad_ne, ad_ne', ad_ne2, nar0, nar1, true_and, false_and, and_true, and_false, Nat.add_zero, Nat.zero_add, y5, it_s, it01])
  by_cases c6 : w = nI 6
  · subst c6
    exact EZ_id hb (v := nI n) (by simp (disch := omega) only [f_X_about, ↓xx_lE, ↓reduceIte, ↓bn_si, ↓bn_sl, ↓bn_s, ↓bn_ms, hp_i_si, hp_l_si, hp_r_si, hp_n_si, hp_i_sl, hp_l_sl, hp_r_sl, hp_n_sl, hp_i_sr, hp_l_sr, hp_r_sr, hp_n_sr, iL, nI_clamp, hp_in_nI, nI_add, pk_mul, pk_sub, c_le, c_nle, c_lt, c_nlt, c_ne, c_m1, c_m1', ad_ne, ad_ne', ad_ne2, nar0, nar1, true_and, false_and, and_true, and_false, Nat.add_zero, Nat.zero_add, ↓xb_0_7 (bxs hb), l3]) (by simp (disch := omega) only [f_M_about, ↓xx_lE, ↓reduceIte, ↓bn_si, ↓bn_sl, ↓bn_s, ↓bn_ms, hp_i_si, hp_l_si, hp_r_si, hp_n_si, hp_i_sl, hp_l_sl, hp_r_sl, hp_n_sl, hp_i_sr, hp_l_sr, hp_r_sr, hp_n_sr, iL, nI_clamp, hp_in_nI, nI_add, pk_mul, pk_sub, c_le, c_nle, c_lt, c_nlt, c_ne, c_m1, c_m1', ad_ne, ad_ne', ad_ne2, nar0, nar1, true_and, false_and, and_true, and_false, Nat.add_zero, Nat.zero_add, l5])
  by_cases c7 : w = nI 7
  · subst c7
    exact EZ_id hb (v := nI tm) (by simp (disch := omega) only [f_X_about, ↓xx_lE, ↓reduceIte, ↓bn_si, ↓bn_sl, ↓bn_s, ↓bn_ms, hp_i_si, hp_l_si, hp_r_si, hp_n_si, hp_i_sl, hp_l_sl, hp_r_sl, hp_n_sl, hp_i_sr, hp_l_sr, hp_r_sr, hp_n_sr, iL, nI_clamp, hp_in_nI, nI_add, pk_mul, pk_sub, c_le, c_nle, c_lt, c_nlt, c_ne, c_m1, c_m1', ad_ne, ad_ne', ad_ne2, nar0, nar1, true_and, false_and, and_true, and_false, Nat.add_zero, Nat.zero_add, ↓xb_0_7 (bxs hb), l4]) (by simp (disch := omega) only [f_M_about, ↓xx_lE, ↓reduceIte, ↓bn_si, ↓bn_sl, ↓bn_s, ↓bn_ms, hp_i_si, hp_l_si, hp_r_si, hp_n_si, hp_i_sl, hp_l_sl, hp_r_sl, hp_n_sl, hp_i_sr, hp_l_sr, hp_r_sr, hp_n_sr, iL, nI_clamp, hp_in_nI, nI_add, pk_mul, pk_sub, c_le, c_nle, c_lt, c_nlt, c_ne, c_m1, c_m1', ad_ne, ad_ne', ad_ne2, nar0, nar1, true_and, false_and, and_true, and_false, Nat.add_zero, Nat.zero_add, l6])
  by_cases c8 : w = nI 8
  · subst c8
    exact EZ_id hb (v := nI t) (by simp (disch := omega) only [f_X_about, ↓xx_lE, ↓reduceIte, ↓bn_si, ↓bn_sl, ↓bn_s, ↓bn_ms, hp_i_si, hp_l_si, hp_r_si, hp_n_si, hp_i_sl, hp_l_sl, hp_r_sl, hp_n_sl, hp_i_sr, hp_l_sr, hp_r_sr, hp_n_sr, iL, nI_clamp, hp_in_nI, nI_add, pk_mul, pk_sub, c_le, c_nle, c_lt, c_nlt, c_ne, c_m1, c_m1', ad_ne, ad_ne', ad_ne2, nar0, nar1, true_and, false_and, and_true, and_false, Nat.add_zero, Nat.zero_add, t2]) (by simp (disch := omega) only [f_M_about, ↓xx_lE, ↓reduceIte, ↓bn_si, ↓bn_sl, ↓bn_s, ↓bn_ms, hp_i_si, hp_l_si, hp_r_si, hp_n_si, hp_i_sl, hp_l_sl, hp_r_sl, hp_n_sl, hp_i_sr, hp_l_sr, hp_r_sr, hp_n_sr, iL, nI_clamp, hp_in_nI, nI_add, pk_mul, pk_sub, c_le, c_nle, c_lt, c_nlt, c_ne, c_m1, c_m1', ad_ne, ad_ne', ad_ne2, nar0, nar1, true_and, false_and, and_true, and_false, Nat.add_zero, Nat.zero_add, t3])
  by_cases c9 : w = nI 9
  · subst c9
    exact EZ_id hb (v := nI (p_un P)) (by simp (disch := omega) only [f_X_about, ↓xx_lE, ↓reduceIte, ↓bn_si, ↓bn_sl, ↓bn_s, ↓bn_ms, hp_i_si, hp_l_si, hp_r_si, hp_n_si, hp_i_sl, hp_l_sl, hp_r_sl, hp_n_sl, hp_i_sr, hp_l_sr, hp_r_sr, hp_n_sr, iL, nI_clamp, hp_in_nI, nI_add, pk_mul, pk_sub, c_le, c_nle, c_lt, c_nlt, c_ne, c_m1, c_m1', ad_ne, ad_ne', ad_ne2, nar0, nar1, true_and, false_and, and_true, and_false, Nat.add_zero, Nat.zero_add, ↓bn_o (br3 hb), a8]) (by simp (disch := omega) only [f_M_about, ↓xx_lE, ↓reduceIte, ↓bn_si, ↓bn_sl, ↓bn_s, ↓bn_ms, hp_i_si, hp_l_si, hp_r_si, hp_n_si, hp_i_sl, hp_l_sl, hp_r_sl, hp_n_sl, hp_i_sr, hp_l_sr, hp_r_sr, hp_n_sr, iL, nI_clamp, hp_in_nI, nI_add, pk_mul, pk_sub, c_le, c_nle, c_lt, c_nlt, c_ne, c_m1, c_m1', ad_ne, ad_ne', ad_ne2, nar0, nar1, true_and, false_and, and_true, and_false, Nat.add_zero, Nat.zero_add, b8])
  exact EZ_id hb (v := -nI 1) (by simp (disch := omega) only [f_X_about, ↓xx_lE, ↓reduceIte, ↓bn_si, ↓bn_sl, ↓bn_s, ↓bn_ms, hp_i_si, hp_l_si, hp_r_si, hp_n_si, hp_i_sl, hp_l_sl, hp_r_sl, hp_n_sl, hp_i_sr, hp_l_sr, hp_r_sr, hp_n_sr, iL, nI_clamp, hp_in_nI, nI_add, pk_mul, pk_sub, c_le, c_nle, c_lt, c_nlt, c_ne, c_m1, c_m1', ad_ne, ad_ne', ad_ne2, nar0, nar1, true_and, false_and, and_true, and_false, Nat.add_zero, Nat.zero_add, c0, c1, c2, c3, c4, c5, c6, c7, c8, c9]) (by simp (disch := omega) only [f_M_about, ↓xx_lE, ↓reduceIte, ↓bn_si, ↓bn_sl, ↓bn_s, ↓bn_ms, hp_i_si, hp_l_si, hp_r_si, hp_n_si, hp_i_sl, hp_l_sl, hp_r_sl, hp_n_sl, hp_i_sr, hp_l_sr, hp_r_sr, hp_n_sr, iL, nI_clamp, hp_in_nI, nI_add, pk_mul, pk_sub, c_le, c_nle, c_lt, c_nlt, c_ne, c_m1, c_m1', ad_ne, ad_ne', ad_ne2, nar0, nar1, true_and, false_and, and_true, and_false, Nat.add_zero, Nat.zero_add, c0, c1, c2, c3, c4, c5, c6, c7, c8, c9])
/-- least and greatest of the first burdens -/
def mnB (bu : Nat → Nat) : Nat → Nat
  | 0 => bu 0
  | n + 1 => if bu n < mnB bu n then bu n else mnB bu n
def mxB (bu : Nat → Nat) : Nat → Nat
  | 0 => 0
  | n + 1 => if mxB bu n < bu n then bu n else mxB bu n
theorem mnB_lt {bu : Nat → Nat} {K : Nat} (h : ∀ i, i < 6 → bu i ≤ K) : ∀ n, n ≤ 6 → mnB bu n ≤ K := by
  intro n
  induction n with
  | zero => intro _; exact h 0 (by decide)
  | succ n ih => intro hn; unfold mnB; have := ih (by omega); have := h n (by omega); split <;> assumption
theorem mxB_lt {bu : Nat → Nat} {K : Nat} (h : ∀ i, i < 6 → bu i ≤ K) : ∀ n, n ≤ 6 → mxB bu n ≤ K := by
  intro n
  induction n with
  | zero => intro _; exact Nat.zero_le _
  | succ n ih => intro hn; unfold mxB; have := ih (by omega); have := h n (by omega); split <;> assumption
theorem op_fair {x m : Nat} : EZ (fun h => f_X_fair x h) (fun h => f_M_fair m h) x m := by
  intro P q h hb
  have hm := bm hb
  have ok := bok hb
  have hnm := ok.2.2.2.2.2.1
  have px5 := (bpx hb).2.2.2.2.2.1
  have pm5 := (bpm hb).2.2.2.2.2.1
  obtain ⟨N, td, ov, bu, ⟨n1, n2, n3, n4, n5, n6⟩, ⟨x1, x2, x3, x4⟩, ⟨⟨y1, y2, y3⟩, y4, y5, y6⟩⟩ := bC hb
  by_cases c : p_nm P = 0
  · rw [c] at px5 pm5
    exact EZ_id hb (v := -nI 1) (by simp (disch := omega) only [f_X_fair, ↓xx_lE, ↓reduceIte, ↓bn_si, ↓bn_sl, ↓bn_s, ↓bn_ms, hp_i_si, hp_l_si, hp_r_si, hp_n_si, hp_i_sl, hp_l_sl, hp_r_sl, hp_n_sl, hp_i_sr, hp_l_sr, hp_r_sr, hp_n_sr, iL, nI_clamp, hp_in_nI, nI_add, pk_mul, pk_sub, c_le, c_nle, c_lt, c_nlt, c_ne, c_m1, c_m1', ad_ne, ad_ne', ad_ne2, nar0, nar1, true_and, false_and, and_true, and_false, Nat.add_zero, Nat.zero_add, ↓bn_o (br3 hb), px5]) (by simp (disch := omega) only [f_M_fair, ↓xx_lE, ↓reduceIte, ↓bn_si, ↓bn_sl, ↓bn_s, ↓bn_ms, hp_i_si, hp_l_si, hp_r_si, hp_n_si, hp_i_sl, hp_l_sl, hp_r_sl, hp_n_sl, hp_i_sr, hp_l_sr, hp_r_sr, hp_n_sr, iL, nI_clamp, hp_in_nI, nI_add, pk_mul, pk_sub, c_le, c_nle, c_lt, c_nlt, c_ne, c_m1, c_m1', ad_ne, ad_ne', ad_ne2, nar0, nar1, true_and, false_and, and_true, and_false, Nat.add_zero, Nat.zero_add, pm5])
  · have kX : pw (f_Co_unevenness (x + 25) (nI (p_nm P)) h) (fun r => r = (nI (mxB bu (p_nm P)) - nI (mnB bu (p_nm P)), h)) := by
      have x5 : ∀ i, i < 6 → hp_i h (x + 26) i = nI (bu i) := x4
      have x50 := x5 0 (by decide)
      unfold f_Co_unevenness f_Co_unevenness_17
      simp (disch := omega) only [↓xx_lE, ↓reduceIte, ↓bn_si, ↓bn_sl, ↓bn_s, ↓bn_ms, hp_i_si, hp_l_si, hp_r_si, hp_n_si, hp_i_sl, hp_l_sl, hp_r_sl, hp_n_sl, hp_i_sr, hp_l_sr, hp_r_sr, hp_n_sr, iL, nI_clamp, hp_in_nI, nI_add, pk_mul, pk_sub, c_le, c_nle, c_lt, c_nlt, c_ne, c_m1, c_m1', ad_ne, ad_ne', ad_ne2, nar0, nar1, true_and, false_and, and_true, and_false, Nat.add_zero, Nat.zero_add, ↓xb_25_4 (bxs hb), xn_26 (bxs hb), x50]
      refine pw_cnt (p_nm P) (fun i s => 0 < i ∧ s = (nI (mnB bu i), nI (mxB bu i), nI i, h)) ?_ ?_ 1 _ (by omega) ⟨by decide, ?_⟩
      · rintro i s hi ⟨hi0, rfl⟩
        have b1 := mnB_lt n6 i (by omega)
        have b2 := mxB_lt n6 i (by omega)
        have b3 := n6 i (by omega)
        refine pw_L (s := (nI (mnB bu (i + 1)), nI (mxB bu (i + 1)), nI (i + 1), h)) ?_ ⟨by omega, rfl⟩
        have x5i := x5 i (by omega)
        simp (disch := omega) only [f_Co_unevenness_17b, ↓xx_lE, ↓reduceIte, ↓bn_si, ↓bn_sl, ↓bn_s, ↓bn_ms, hp_i_si, hp_l_si, hp_r_si, hp_n_si, hp_i_sl, hp_l_sl, hp_r_sl, hp_n_sl, hp_i_sr, hp_l_sr, hp_r_sr, hp_n_sr, iL, nI_clamp, hp_in_nI, nI_add, pk_mul, pk_sub, c_le, c_nle, c_lt, c_nlt, c_ne, c_m1, c_m1', ad_ne, ad_ne', ad_ne2, nar0, nar1, true_and, false_and, and_true, and_false, Nat.add_zero, Nat.zero_add, ↓xb_25_4 (bxs hb), xn_26 (bxs hb), x5i, i_lt]
        rw [show mnB bu (i + 1) = if bu i < mnB bu i then bu i else mnB bu i from rfl, show mxB bu (i + 1) = if mxB bu i < bu i then bu i else mxB bu i from rfl]
        by_cases d1 : bu i < mnB bu i <;> by_cases d2 : mxB bu i < bu i <;> simp only [d1, d2, if_true, if_false]
      · rintro s ⟨_, rfl⟩
        refine pw_R (t := (nI (mxB bu (p_nm P)) - nI (mnB bu (p_nm P)), h)) ?_ rfl
        unfold f_Co_unevenness_17b
        rw [if_pos (nI_le (Nat.le_refl _) (by omega))]
      · simp [mnB, mxB]
        by_cases d : 0 < bu 0
        · simp [d]
        · have : bu 0 = 0 := by omega
          simp [this]
    have kM : pw (f_M_fair m h) (fun r => r = (nI (mxB bu (p_nm P)) - nI (mnB bu (p_nm P)), h)) := by
      have y60 := y6 0 (by decide)
      unfold f_M_fair f_M_fair_20
      simp (disch := omega) only [↓xx_lE, ↓reduceIte, ↓bn_si, ↓bn_sl, ↓bn_s, ↓bn_ms, hp_i_si, hp_l_si, hp_r_si, hp_n_si, hp_i_sl, hp_l_sl, hp_r_sl, hp_n_sl, hp_i_sr, hp_l_sr, hp_r_sr, hp_n_sr, iL, nI_clamp, hp_in_nI, nI_add, pk_mul, pk_sub, c_le, c_nle, c_lt, c_nlt, c_ne, c_m1, c_m1', ad_ne, ad_ne', ad_ne2, nar0, nar1, true_and, false_and, and_true, and_false, Nat.add_zero, Nat.zero_add, pm5, ↓mb_49 (bms hb), mn_22 (bms hb), y60]
      refine pw_cnt (p_nm P) (fun i s => s = (nI (mxB bu i), nI (mnB bu i), nI i, h)) ?_ ?_ 0 _ (by omega) ?_
      · rintro i s hi rfl
        have b1 := mnB_lt n6 i (by omega)
        have b2 := mxB_lt n6 i (by omega)
        have b3 := n6 i (by omega)
        refine pw_L (s := (nI (mxB bu (i + 1)), nI (mnB bu (i + 1)), nI (i + 1), h)) ?_ rfl
        have y6i := y6 i (by omega)
        rw [show mnB bu (i + 1) = if bu i < mnB bu i then bu i else mnB bu i from rfl, show mxB bu (i + 1) = if mxB bu i < bu i then bu i else mxB bu i from rfl]
        by_cases d1 : bu i < mnB bu i <;> by_cases d2 : mxB bu i < bu i <;> simp (disch := omega) only [f_M_fair_20b, f_M_fair_48, f_M_fair_69, ↓xx_lE, ↓reduceIte, ↓bn_si, ↓bn_sl, ↓bn_s, ↓bn_ms, hp_i_si, hp_l_si, hp_r_si, hp_n_si, hp_i_sl, hp_l_sl, hp_r_sl, hp_n_sl, hp_i_sr, hp_l_sr, hp_r_sr, hp_n_sr, iL, nI_clamp, hp_in_nI, nI_add, pk_mul, pk_sub, c_le, c_nle, c_lt, c_nlt, c_ne, c_m1, c_m1', ad_ne, ad_ne', ad_ne2, nar0, nar1, true_and, false_and, and_true, and_false, Nat.add_zero, Nat.zero_add, pm5, ↓mb_49 (bms hb), mn_22 (bms hb), y6i, d1, d2]
      · rintro s rfl
        refine pw_R (t := (nI (mxB bu (p_nm P)) - nI (mnB bu (p_nm P)), h)) ?_ rfl
        unfold f_M_fair_20b
        rw [pm5, if_pos (nI_le (Nat.le_refl _) (by omega))]
      · rfl
    obtain ⟨r, er, rfl⟩ := kX
    obtain ⟨s, es, rfl⟩ := kM
    exact EZ_id hb (v := nI (mxB bu (p_nm P)) - nI (mnB bu (p_nm P))) (by simp (disch := omega) only [f_X_fair, ↓bn_o (br3 hb), px5, ↓xx_lE, ↓reduceIte, ↓bn_si, ↓bn_sl, ↓bn_s, ↓bn_ms, hp_i_si, hp_l_si, hp_r_si, hp_n_si, hp_i_sl, hp_l_sl, hp_r_sl, hp_n_sl, hp_i_sr, hp_l_sr, hp_r_sr, hp_n_sr, iL, nI_clamp, hp_in_nI, nI_add, pk_mul, pk_sub, c_le, c_nle, c_lt, c_nlt, c_ne, c_m1, c_m1', ad_ne, ad_ne', ad_ne2, nar0, nar1, true_and, false_and, and_true, and_false, Nat.add_zero, Nat.zero_add, ↓xb_0_5 (bxs hb), ↓bn_o er]) es
