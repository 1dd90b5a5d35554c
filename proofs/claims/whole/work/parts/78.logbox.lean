/-! log, untell -/
theorem utv0 : utv 0 = -nI 1 := rfl
theorem utv_s {u : Nat} (h : 0 < u) : utv u = nI (u - 1) := by unfold utv; rw [if_neg (by omega)]
theorem op_log {x m : Nat} (v w : Int32) : EZ (fun h => f_X_log x v w h) (fun h => f_M_log m v w h) x m := by
  intro P q h hb
  have hm := bm hb
  have ok := bok hb
  have hnm := ok.2.2.2.2.2.1
  have px5 := (bpx hb).2.2.2.2.2.1
  have pm5 := (bpm hb).2.2.2.2.2.1
  obtain ⟨n, tm, dd, mm, tt, uu, l1, l2, l3, l4, l5, l6, l7⟩ := bL hb
  have hxs := bxs hb
  rcases man_cases P ok w with ⟨i, hi, rfl⟩ | ⟨k1, k2⟩
  · rcases i_cases v with hv | ⟨d, hd, rfl⟩
    · refine EZ_id hb (v := -nI 1) ?_ ?_
      · simp (disch := omega) only [f_X_log, ↓bn_o (br3 hb), ↓bn_o (X_man ok hi px5), ↓xx_lE, ↓reduceIte, ↓bn_si, ↓bn_sl, ↓bn_s, ↓bn_ms, hp_i_si, hp_l_si, hp_r_si, hp_n_si, hp_i_sl, hp_l_sl, hp_r_sl, hp_n_sl, hp_i_sr, hp_l_sr, hp_r_sr, hp_n_sr, iL, nI_clamp, hp_in_nI, nI_add, pk_mul, pk_sub, c_le, c_nle, c_lt, c_nlt, c_ne, c_m1, c_m1', ad_ne, ad_ne', ad_ne2, nar0, nar1, true_and, false_and, and_true, and_false, Nat.add_zero, Nat.zero_add, ↓xb_0_7 hxs]
        unfold f_Lo_tell; rw [if_pos hv]; rfl
      · unfold f_M_log; rw [if_pos hv]; rfl
    · by_cases hc : d < 100 ∧ n < 60
      · obtain ⟨c1, c2⟩ := hc
        let g1 := hp_si (hp_si (hp_si (hp_si (hp_si h (x + 35) n (nI d)) (x + 36) n (nI i)) (x + 37) n (nI tm)) (x + 38) n (-nI 1)) (x + 34) 0 (nI (n + 1))
        let g2 := hp_si (hp_si (hp_si (hp_si (hp_si g1 (m + 41) n (nI d)) (m + 42) n (nI i)) (m + 43) n (nI tm)) (m + 44) n (-nI 1)) m 85 (nI (n + 1))
        have H1 : hp_fr (fun a k => a = x + 34 ∧ k = 0 ∨ x + 35 ≤ a ∧ a ≤ x + 38 ∧ k = n) h g1 := hf_si (hf_si (hf_si (hf_si (hf_si (hp_fr_rf h) (by omega)) (by omega)) (by omega)) (by omega)) (by omega)
        have H2 : hp_fr (fun a k => a = m ∧ k = 85 ∨ m + 41 ≤ a ∧ a ≤ m + 44 ∧ k = n) g1 g2 := hf_si (hf_si (hf_si (hf_si (hf_si (hp_fr_rf g1) (by omega)) (by omega)) (by omega)) (by omega)) (by omega)
        have H : hp_fr (fun a k => a = x + 34 ∧ k = 0 ∨ x + 35 ≤ a ∧ a ≤ x + 38 ∧ k = n ∨ a = m ∧ k = 85 ∨ m + 41 ≤ a ∧ a ≤ m + 44 ∧ k = n) h g2 := hp_fr_tr (hp_fr_mo H1 (by omega)) (hp_fr_mo H2 (by omega))
        have hs1 := MS_fr H1 (bms hb)
        have e5 : hp_i g1 m 85 = nI n := by rw [hf_i H1 (by omega)]; exact l5
        have e6 : hp_i g1 m 86 = nI tm := by rw [hf_i H1 (by omega)]; exact l6
        have e7 : hp_i g1 m 33 = nI (p_nm P) := by rw [hf_i H1 (by omega)]; exact pm5
        refine pw_eq (x := (nI n, g1)) ?_ (pw_eq (x := (nI n, g2)) ?_ ⟨rfl, ?_, hp_fr_mo H (by unfold S_ez; omega)⟩)
        · simp (disch := omega) only [f_X_log, f_Lo_tell, ↓xx_lE, ↓reduceIte, ↓bn_si, ↓bn_sl, ↓bn_s, ↓bn_ms, hp_i_si, hp_l_si, hp_r_si, hp_n_si, hp_i_sl, hp_l_sl, hp_r_sl, hp_n_sl, hp_i_sr, hp_l_sr, hp_r_sr, hp_n_sr, iL, nI_clamp, hp_in_nI, nI_add, pk_mul, pk_sub, c_le, c_nle, c_lt, c_nlt, c_ne, c_m1, c_m1', ad_ne, ad_ne', ad_ne2, nar0, nar1, true_and, false_and, and_true, and_false, Nat.add_zero, Nat.zero_add, ↓bn_o (br3 hb), ↓bn_o (X_man ok hi px5), ↓xb_0_7 hxs, l3, l4, ↓xb_34_2 hxs, xn_35 hxs, ↓xb_34_3 hxs, xn_36 hxs, ↓xb_34_4 hxs, xn_37 hxs, ↓xb_34_5 hxs, xn_38 hxs, Nat.add_sub_cancel, g1]
        · simp (disch := omega) only [f_M_log, ↓xx_lE, ↓reduceIte, ↓bn_si, ↓bn_sl, ↓bn_s, ↓bn_ms, hp_i_si, hp_l_si, hp_r_si, hp_n_si, hp_i_sl, hp_l_sl, hp_r_sl, hp_n_sl, hp_i_sr, hp_l_sr, hp_r_sr, hp_n_sr, iL, nI_clamp, hp_in_nI, nI_add, pk_mul, pk_sub, c_le, c_nle, c_lt, c_nlt, c_ne, c_m1, c_m1', ad_ne, ad_ne', ad_ne2, nar0, nar1, true_and, false_and, and_true, and_false, Nat.add_zero, Nat.zero_add, ↓bn_o (M_man ok hi e7), e5, e6, ↓mb_79 hs1, mn_41 hs1, ↓mb_80 hs1, mn_42 hs1, ↓mb_81 hs1, mn_43 hs1, ↓mb_82 hs1, mn_44 hs1, Nat.add_sub_cancel, g2]
        · refine BAS_mk hb H (by unfold F_core F_PM; omega) (TP_fr H (by unfold F_TP; omega) (bT hb)) (FL_fr H (by unfold F_FL; omega) (bF hb)) (CR_fr H (by unfold F_CCX F_CMM; omega) (bC hb)) (BX_fr H (by unfold F_BX; omega) (bB hb)) ⟨n + 1, tm, upN dd n d, upN mm n i, upN tt n tm, upN uu n 0, by omega, l2, ?_, ?_, ?_, ?_, fun k hk => ?_⟩
          · rw [hf_i H2 (by omega)]; simp [g1, hp_i_si]
          · rw [hf_i H (by omega)]; exact l4
          · simp [g2, hp_i_si]
          · rw [hf_i H (by omega)]; exact l6
          · by_cases hk2 : k = n
            · subst hk2
              simp only [upN_s]
              refine ⟨c1, hi, Nat.le_refl _, Nat.zero_le _, ?_, ?_, ?_, ?_, ?_, ?_, ?_, ?_⟩
              · rw [hf_i H2 (by omega)]; simp [g1, hp_i_si]
              · rw [hf_i H2 (by omega)]; simp [g1, hp_i_si]
              · rw [hf_i H2 (by omega)]; simp [g1, hp_i_si]
              · rw [hf_i H2 (by omega)]; simp [g1, hp_i_si, utv0]
              · simp [g2, hp_i_si]
              · simp [g2, hp_i_si]
              · simp [g2, hp_i_si]
              · simp [g2, hp_i_si, utv0]
            · obtain ⟨a1, a2, a3, a4, a5, a6, a7, a8, a9, a10, a11, a12⟩ := l7 k (by omega)
              simp only [upN_n hk2]
              refine ⟨a1, a2, a3, a4, ?_, ?_, ?_, ?_, ?_, ?_, ?_, ?_⟩
              all_goals rw [hf_i H (by omega)]
              all_goals assumption
      · by_cases c1 : d < 100
        · have hn : n = 60 := by omega
          subst hn
          exact EZ_id hb (v := -nI 1) (by simp (disch := omega) only [f_X_log, f_Lo_tell, ↓xx_lE, ↓reduceIte, ↓bn_si, ↓bn_sl, ↓bn_s, ↓bn_ms, hp_i_si, hp_l_si, hp_r_si, hp_n_si, hp_i_sl, hp_l_sl, hp_r_sl, hp_n_sl, hp_i_sr, hp_l_sr, hp_r_sr, hp_n_sr, iL, nI_clamp, hp_in_nI, nI_add, pk_mul, pk_sub, c_le, c_nle, c_lt, c_nlt, c_ne, c_m1, c_m1', ad_ne, ad_ne', ad_ne2, nar0, nar1, true_and, false_and, and_true, and_false, Nat.add_zero, Nat.zero_add, ↓bn_o (br3 hb), ↓bn_o (X_man ok hi px5), ↓xb_0_7 hxs, l3]) (by simp (disch := omega) only [f_M_log, ↓xx_lE, ↓reduceIte, ↓bn_si, ↓bn_sl, ↓bn_s, ↓bn_ms, hp_i_si, hp_l_si, hp_r_si, hp_n_si, hp_i_sl, hp_l_sl, hp_r_sl, hp_n_sl, hp_i_sr, hp_l_sr, hp_r_sr, hp_n_sr, iL, nI_clamp, hp_in_nI, nI_add, pk_mul, pk_sub, c_le, c_nle, c_lt, c_nlt, c_ne, c_m1, c_m1', ad_ne, ad_ne', ad_ne2, nar0, nar1, true_and, false_and, and_true, and_false, Nat.add_zero, Nat.zero_add, ↓bn_o (M_man ok hi pm5), l5])
        · exact EZ_id hb (v := -nI 1) (by simp (disch := omega) only [f_X_log, f_Lo_tell, ↓xx_lE, ↓reduceIte, ↓bn_si, ↓bn_sl, ↓bn_s, ↓bn_ms, hp_i_si, hp_l_si, hp_r_si, hp_n_si, hp_i_sl, hp_l_sl, hp_r_sl, hp_n_sl, hp_i_sr, hp_l_sr, hp_r_sr, hp_n_sr, iL, nI_clamp, hp_in_nI, nI_add, pk_mul, pk_sub, c_le, c_nle, c_lt, c_nlt, c_ne, c_m1, c_m1', ad_ne, ad_ne', ad_ne2, nar0, nar1, true_and, false_and, and_true, and_false, Nat.add_zero, Nat.zero_add, ↓bn_o (br3 hb), ↓bn_o (X_man ok hi px5), ↓xb_0_7 hxs, l3]) (by simp (disch := omega) only [f_M_log, ↓xx_lE, ↓reduceIte, ↓bn_si, ↓bn_sl, ↓bn_s, ↓bn_ms, hp_i_si, hp_l_si, hp_r_si, hp_n_si, hp_i_sl, hp_l_sl, hp_r_sl, hp_n_sl, hp_i_sr, hp_l_sr, hp_r_sr, hp_n_sr, iL, nI_clamp, hp_in_nI, nI_add, pk_mul, pk_sub, c_le, c_nle, c_lt, c_nlt, c_ne, c_m1, c_m1', ad_ne, ad_ne', ad_ne2, nar0, nar1, true_and, false_and, and_true, and_false, Nat.add_zero, Nat.zero_add])
  · have hx : f_X_log x v w h = some (-nI 1, h) := by simp (disch := omega) only [f_X_log, ↓xx_lE, ↓reduceIte, ↓bn_si, ↓bn_sl, ↓bn_s, ↓bn_ms, hp_i_si, hp_l_si, hp_r_si, hp_n_si, hp_i_sl, hp_l_sl, hp_r_sl, hp_n_sl, hp_i_sr, hp_l_sr, hp_r_sr, hp_n_sr, iL, nI_clamp, hp_in_nI, nI_add, pk_mul, pk_sub, c_le, c_nle, c_lt, c_nlt, c_ne, c_m1, c_m1', ad_ne, ad_ne', ad_ne2, nar0, nar1, true_and, false_and, and_true, and_false, Nat.add_zero, Nat.zero_add, ↓bn_o (br3 hb), ↓bn_o (k1 q h px5)]
    rcases i_cases v with hv | ⟨d, hd, rfl⟩
    · exact EZ_id hb (v := -nI 1) hx (by unfold f_M_log; rw [if_pos hv]; rfl)
    · by_cases c1 : d < 100
      · exact EZ_id hb (v := -nI 1) hx (by simp (disch := omega) only [f_M_log, ↓xx_lE, ↓reduceIte, ↓bn_si, ↓bn_sl, ↓bn_s, ↓bn_ms, hp_i_si, hp_l_si, hp_r_si, hp_n_si, hp_i_sl, hp_l_sl, hp_r_sl, hp_n_sl, hp_i_sr, hp_l_sr, hp_r_sr, hp_n_sr, iL, nI_clamp, hp_in_nI, nI_add, pk_mul, pk_sub, c_le, c_nle, c_lt, c_nlt, c_ne, c_m1, c_m1', ad_ne, ad_ne', ad_ne2, nar0, nar1, true_and, false_and, and_true, and_false, Nat.add_zero, Nat.zero_add, ↓bn_o (k2 m h pm5)])
      · exact EZ_id hb (v := -nI 1) hx (by simp (disch := omega) only [f_M_log, ↓xx_lE, ↓reduceIte, ↓bn_si, ↓bn_sl, ↓bn_s, ↓bn_ms, hp_i_si, hp_l_si, hp_r_si, hp_n_si, hp_i_sl, hp_l_sl, hp_r_sl, hp_n_sl, hp_i_sr, hp_l_sr, hp_r_sr, hp_n_sr, iL, nI_clamp, hp_in_nI, nI_add, pk_mul, pk_sub, c_le, c_nle, c_lt, c_nlt, c_ne, c_m1, c_m1', ad_ne, ad_ne', ad_ne2, nar0, nar1, true_and, false_and, and_true, and_false, Nat.add_zero, Nat.zero_add])
theorem op_untell {x m : Nat} (v : Int32) : EZ (fun h => f_X_untell x v h) (fun h => f_M_untell m v h) x m := by
  intro P q h hb
  have hm := bm hb
  obtain ⟨n, tm, dd, mm, tt, uu, l1, l2, l3, l4, l5, l6, l7⟩ := bL hb
  have hxs := bxs hb
  rcases i_cases v with hv | ⟨j, hj, rfl⟩
  · refine EZ_id hb (v := 0) ?_ ?_
    · unfold f_X_untell f_Lo_takeBack; rw [xb_0_7 hxs, if_pos hv]; rfl
    · unfold f_M_untell; rw [if_pos hv]
  · by_cases hc : j < n
    · obtain ⟨a1, a2, a3, a4, a5, a6, a7, a8, a9, a10, a11, a12⟩ := l7 j hc
      by_cases hu : uu j = 0
      · rw [hu, utv0] at a8 a12
        let g1 := hp_si h (x + 38) j (nI tm)
        let g2 := hp_si g1 (m + 44) j (nI tm)
        have H1 : hp_fr (fun a k => a = x + 38 ∧ k = j) h g1 := hf_si (hp_fr_rf h) (by omega)
        have H : hp_fr (fun a k => (a = x + 38 ∨ a = m + 44) ∧ k = j) h g2 := hf_si (hp_fr_mo H1 (by omega)) (by omega)
        have hs1 := MS_fr H1 (bms hb)
        have e5 : hp_i g1 m 85 = nI n := by rw [hf_i H1 (by omega)]; exact l5
        have e6 : hp_i g1 m 86 = nI tm := by rw [hf_i H1 (by omega)]; exact l6
        have e7 : hp_i g1 (m + 44) j = -nI 1 := by rw [hf_i H1 (by omega)]; exact a12
        refine pw_eq (x := (nI 1, g1)) ?_ (pw_eq (x := (nI 1, g2)) ?_ ⟨rfl, ?_, hp_fr_mo H (by unfold S_ez; omega)⟩)
        · simp (disch := omega) only [f_X_untell, f_Lo_takeBack, ↓xx_lE, ↓reduceIte, ↓bn_si, ↓bn_sl, ↓bn_s, ↓bn_ms, hp_i_si, hp_l_si, hp_r_si, hp_n_si, hp_i_sl, hp_l_sl, hp_r_sl, hp_n_sl, hp_i_sr, hp_l_sr, hp_r_sr, hp_n_sr, iL, nI_clamp, hp_in_nI, nI_add, pk_mul, pk_sub, c_le, c_nle, c_lt, c_nlt, c_ne, c_m1, c_m1', ad_ne, ad_ne', ad_ne2, nar0, nar1, true_and, false_and, and_true, and_false, Nat.add_zero, Nat.zero_add, ↓xb_0_7 hxs, l3, l4, ↓xb_34_5 hxs, xn_38 hxs, a8, z01, g1]
        · simp (disch := omega) only [f_M_untell, ↓xx_lE, ↓reduceIte, ↓bn_si, ↓bn_sl, ↓bn_s, ↓bn_ms, hp_i_si, hp_l_si, hp_r_si, hp_n_si, hp_i_sl, hp_l_sl, hp_r_sl, hp_n_sl, hp_i_sr, hp_l_sr, hp_r_sr, hp_n_sr, iL, nI_clamp, hp_in_nI, nI_add, pk_mul, pk_sub, c_le, c_nle, c_lt, c_nlt, c_ne, c_m1, c_m1', ad_ne, ad_ne', ad_ne2, nar0, nar1, true_and, false_and, and_true, and_false, Nat.add_zero, Nat.zero_add, e5, e6, ↓mb_82 hs1, mn_44 hs1, e7, ng_lt0, g2]
        · refine BAS_mk hb H (by unfold F_core F_PM; omega) (TP_fr H (by unfold F_TP; omega) (bT hb)) (FL_fr H (by unfold F_FL; omega) (bF hb)) (CR_fr H (by unfold F_CCX F_CMM; omega) (bC hb)) (BX_fr H (by unfold F_BX; omega) (bB hb)) ⟨n, tm, dd, mm, tt, upN uu j (tm + 1), l1, l2, ?_, ?_, ?_, ?_, fun k hk => ?_⟩
          · rw [hf_i H (by omega)]; exact l3
          · rw [hf_i H (by omega)]; exact l4
          · rw [hf_i H (by omega)]; exact l5
          · rw [hf_i H (by omega)]; exact l6
          · obtain ⟨a1, a2, a3, a4, a5, a6, a7, a8, a9, a10, a11, a12⟩ := l7 k (by omega)
            refine ⟨a1, a2, a3, ?_, ?_, ?_, ?_, ?_, ?_, ?_, ?_, ?_⟩
            · unfold upN; split <;> omega
            · rw [hf_i H (by omega)]; exact a5
            · rw [hf_i H (by omega)]; exact a6
            · rw [hf_i H (by omega)]; exact a7
            · by_cases hk2 : k = j
              · rw [hk2, upN_s, utv_s (by omega)]; simp only [g2, g1]; rw [hp_i_si, if_neg (by omega), hp_i_si, if_pos ⟨rfl, rfl⟩]; rfl
              · rw [upN_n hk2, hf_i H (by omega)]; exact a8
            · rw [hf_i H (by omega)]; exact a9
            · rw [hf_i H (by omega)]; exact a10
            · rw [hf_i H (by omega)]; exact a11
            · by_cases hk2 : k = j
              · rw [hk2, upN_s, utv_s (by omega)]; simp only [g2, g1]; rw [hp_i_si, if_pos ⟨rfl, rfl⟩]; rfl
              · rw [upN_n hk2, hf_i H (by omega)]; exact a12
      · rw [utv_s (by omega)] at a8 a12
        exact EZ_id hb (v := nI 0) (by simp (disch := omega) only [f_X_untell, f_Lo_takeBack, ↓xx_lE, ↓reduceIte, ↓bn_si, ↓bn_sl, ↓bn_s, ↓bn_ms, hp_i_si, hp_l_si, hp_r_si, hp_n_si, hp_i_sl, hp_l_sl, hp_r_sl, hp_n_sl, hp_i_sr, hp_l_sr, hp_r_sr, hp_n_sr, iL, nI_clamp, hp_in_nI, nI_add, pk_mul, pk_sub, c_le, c_nle, c_lt, c_nlt, c_ne, c_m1, c_m1', ad_ne, ad_ne', ad_ne2, nar0, nar1, true_and, false_and, and_true, and_false, Nat.add_zero, Nat.zero_add, ↓xb_0_7 hxs, l3, l4, ↓xb_34_5 hxs, xn_38 hxs, a8, z01]) (by simp (disch := omega) only [f_M_untell, ↓xx_lE, ↓reduceIte, ↓bn_si, ↓bn_sl, ↓bn_s, ↓bn_ms, hp_i_si, hp_l_si, hp_r_si, hp_n_si, hp_i_sl, hp_l_sl, hp_r_sl, hp_n_sl, hp_i_sr, hp_l_sr, hp_r_sr, hp_n_sr, iL, nI_clamp, hp_in_nI, nI_add, pk_mul, pk_sub, c_le, c_nle, c_lt, c_nlt, c_ne, c_m1, c_m1', ad_ne, ad_ne', ad_ne2, nar0, nar1, true_and, false_and, and_true, and_false, Nat.add_zero, Nat.zero_add, l5, ↓mb_82 (bms hb), mn_44 (bms hb), a12])
    · exact EZ_id hb (v := nI 0) (by simp (disch := omega) only [f_X_untell, f_Lo_takeBack, ↓xx_lE, ↓reduceIte, ↓bn_si, ↓bn_sl, ↓bn_s, ↓bn_ms, hp_i_si, hp_l_si, hp_r_si, hp_n_si, hp_i_sl, hp_l_sl, hp_r_sl, hp_n_sl, hp_i_sr, hp_l_sr, hp_r_sr, hp_n_sr, iL, nI_clamp, hp_in_nI, nI_add, pk_mul, pk_sub, c_le, c_nle, c_lt, c_nlt, c_ne, c_m1, c_m1', ad_ne, ad_ne', ad_ne2, nar0, nar1, true_and, false_and, and_true, and_false, Nat.add_zero, Nat.zero_add, ↓xb_0_7 hxs, l3, z01]) (by simp (disch := omega) only [f_M_untell, ↓xx_lE, ↓reduceIte, ↓bn_si, ↓bn_sl, ↓bn_s, ↓bn_ms, hp_i_si, hp_l_si, hp_r_si, hp_n_si, hp_i_sl, hp_l_sl, hp_r_sl, hp_n_sl, hp_i_sr, hp_l_sr, hp_r_sr, hp_n_sr, iL, nI_clamp, hp_in_nI, nI_add, pk_mul, pk_sub, c_le, c_nle, c_lt, c_nlt, c_ne, c_m1, c_m1', ad_ne, ad_ne', ad_ne2, nar0, nar1, true_and, false_and, and_true, and_false, Nat.add_zero, Nat.zero_add, l5])
