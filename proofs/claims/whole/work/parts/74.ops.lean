/-! easy calls -/
theorem bm {P : PT} {q x m : Nat} {h : HP} (hb : BAS P q x m h) : m = x + 41 := hb.1
theorem bxs {P : PT} {q x m : Nat} {h : HP} (hb : BAS P q x m h) : XS x h := hb.2.1
theorem bms {P : PT} {q x m : Nat} {h : HP} (hb : BAS P q x m h) : MS m h := hb.2.2.1
theorem br3 {P : PT} {q x m : Nat} {h : HP} (hb : BAS P q x m h) : hp_r h x 3 = some q := hb.2.2.2.2.1
theorem bok {P : PT} {q x m : Nat} {h : HP} (hb : BAS P q x m h) : POK P := hb.2.2.2.2.2.2.1
theorem bpx {P : PT} {q x m : Nat} {h : HP} (hb : BAS P q x m h) : PX P q h := hb.2.2.2.2.2.2.2.1
theorem bpm {P : PT} {q x m : Nat} {h : HP} (hb : BAS P q x m h) : PM P m h := hb.2.2.2.2.2.2.2.2.1
theorem bT {P : PT} {q x m : Nat} {h : HP} (hb : BAS P q x m h) : ∃ T t, TPE T t x m h := hb.2.2.2.2.2.2.2.2.2.1
theorem bF {P : PT} {q x m : Nat} {h : HP} (hb : BAS P q x m h) : FLE x m h := hb.2.2.2.2.2.2.2.2.2.2.1
theorem bC {P : PT} {q x m : Nat} {h : HP} (hb : BAS P q x m h) : CRE P x m h := hb.2.2.2.2.2.2.2.2.2.2.2.1
theorem bB {P : PT} {q x m : Nat} {h : HP} (hb : BAS P q x m h) : ∀ b, b < 3 → BXE P x m b h := hb.2.2.2.2.2.2.2.2.2.2.2.2.1
theorem bL {P : PT} {q x m : Nat} {h : HP} (hb : BAS P q x m h) : ∃ n tm dd mm tt uu, LGE P n tm dd mm tt uu x m h := hb.2.2.2.2.2.2.2.2.2.2.2.2.2
theorem op_end {x m : Nat} (v : Int32) : EZ (fun h => f_X_end x v h) (fun h => f_M_end m v h) x m := by
  intro P q h hb
  have hm := bm hb
  obtain ⟨T, t, t1, t2, t3, t4⟩ := bT hb
  rcases i_cases v with hv | ⟨n, hn, rfl⟩
  · exact EZ_id hb (v := -1) (by unfold f_X_end; rw [if_pos hv]) (by unfold f_M_end; rw [if_pos hv])
  · by_cases hc : n ≤ t
    · let g1 := hp_si h x 1 (nI n)
      let g2 := hp_si g1 m 1 (nI n)
      have H : hp_fr (fun a k => (a = x ∨ a = m) ∧ k = 1) h g2 := hf_si (hf_si (hp_fr_rf h) (by omega)) (by omega)
      have e3 : hp_i g1 m 1 = nI t := by simp only [g1]; rw [hp_i_si, if_neg (by omega)]; exact t3
      refine pw_eq (x := (nI n, g1)) ?_ (pw_eq (x := (nI n, g2)) ?_ ⟨rfl, ?_, hp_fr_mo H (by unfold S_ez; omega)⟩)
      · simp (disch := omega) only [f_X_end, ↓xx_lE, ↓reduceIte, ↓bn_si, ↓bn_sl, ↓bn_s, ↓bn_ms, hp_i_si, hp_l_si, hp_r_si, hp_n_si, hp_i_sl, hp_l_sl, hp_r_sl, hp_n_sl, hp_i_sr, hp_l_sr, hp_r_sr, hp_n_sr, iL, nI_clamp, hp_in_nI, nI_add, pk_mul, pk_sub, c_le, c_nle, c_lt, c_nlt, c_ne, c_m1, c_m1', ad_ne, ad_ne', ad_ne2, nar0, nar1, true_and, false_and, and_true, and_false, Nat.add_zero, Nat.zero_add, t2, g1]
      · simp (disch := omega) only [f_M_end, ↓xx_lE, ↓reduceIte, ↓bn_si, ↓bn_sl, ↓bn_s, ↓bn_ms, hp_i_si, hp_l_si, hp_r_si, hp_n_si, hp_i_sl, hp_l_sl, hp_r_sl, hp_n_sl, hp_i_sr, hp_l_sr, hp_r_sr, hp_n_sr, iL, nI_clamp, hp_in_nI, nI_add, pk_mul, pk_sub, c_le, c_nle, c_lt, c_nlt, c_ne, c_m1, c_m1', ad_ne, ad_ne', ad_ne2, nar0, nar1, true_and, false_and, and_true, and_false, Nat.add_zero, Nat.zero_add, e3, g2]
      · refine BAS_mk hb H (by unfold F_core F_PM; omega) ⟨T, n, by omega, ?_, ?_, fun k hk => ⟨(t4 k (by omega)).1, ?_, ?_⟩⟩ (FL_fr H (by unfold F_FL; omega) (bF hb)) (CR_fr H (by unfold F_CCX F_CMM; omega) (bC hb)) (BX_fr H (by unfold F_BX; omega) (bB hb)) (LG_fr H (by unfold F_LG; omega) (bL hb))
        · simp only [g2, g1]; rw [hp_i_si, if_neg (by omega), hp_i_si, if_pos ⟨rfl, rfl⟩]
        · simp only [g2, g1]; rw [hp_i_si, if_pos ⟨rfl, rfl⟩]
        · rw [hf_i H (by omega)]; exact (t4 k (by omega)).2.1
        · rw [hf_i H (by omega)]; exact (t4 k (by omega)).2.2
    · exact EZ_id hb (v := -nI 1) (by simp (disch := omega) only [f_X_end, ↓xx_lE, ↓reduceIte, ↓bn_si, ↓bn_sl, ↓bn_s, ↓bn_ms, hp_i_si, hp_l_si, hp_r_si, hp_n_si, hp_i_sl, hp_l_sl, hp_r_sl, hp_n_sl, hp_i_sr, hp_l_sr, hp_r_sr, hp_n_sr, iL, nI_clamp, hp_in_nI, nI_add, pk_mul, pk_sub, c_le, c_nle, c_lt, c_nlt, c_ne, c_m1, c_m1', ad_ne, ad_ne', ad_ne2, nar0, nar1, true_and, false_and, and_true, and_false, Nat.add_zero, Nat.zero_add, t2]) (by simp (disch := omega) only [f_M_end, ↓xx_lE, ↓reduceIte, ↓bn_si, ↓bn_sl, ↓bn_s, ↓bn_ms, hp_i_si, hp_l_si, hp_r_si, hp_n_si, hp_i_sl, hp_l_sl, hp_r_sl, hp_n_sl, hp_i_sr, hp_l_sr, hp_r_sr, hp_n_sr, iL, nI_clamp, hp_in_nI, nI_add, pk_mul, pk_sub, c_le, c_nle, c_lt, c_nlt, c_ne, c_m1, c_m1', ad_ne, ad_ne', ad_ne2, nar0, nar1, true_and, false_and, and_true, and_false, Nat.add_zero, Nat.zero_add, t3])
theorem op_fault {x m : Nat} (v : Int32) : EZ (fun h => f_X_fault x v h) (fun h => f_M_fault m v h) x m := by
  intro P q h hb
  obtain ⟨f1, f2⟩ := bF hb
  by_cases h0 : v = 0
  · subst h0
    exact EZ_id hb (v := hp_i h m 2) (by simp (disch := omega) only [f_X_fault, ↓reduceIte, ↓xb_0_2 (bxs hb), f1]) (by simp only [f_M_fault, ↓reduceIte])
  · by_cases h1 : v = 1
    · subst h1
      exact EZ_id hb (v := hp_i h m 3) (by unfold f_X_fault; rw [if_neg h0, if_pos rfl, xb_0_2 (bxs hb), f2]) (by unfold f_M_fault; rw [if_neg h0, if_pos rfl])
    · exact EZ_id hb (v := -1) (by unfold f_X_fault; rw [if_neg h0, if_neg h1]) (by unfold f_M_fault; rw [if_neg h0, if_neg h1])
theorem op_later {x m : Nat} (v : Int32) : EZ (fun h => f_X_later x v h) (fun h => f_M_later m v h) x m := by
  intro P q h hb
  have hm := bm hb
  obtain ⟨n, tm, dd, mm, tt, uu, l1, l2, l3, l4, l5, l6, l7⟩ := bL hb
  rcases i_cases v with hv | ⟨j, hj, rfl⟩
  · exact EZ_id hb (v := -1) (by unfold f_X_later f_Lo_goOn; rw [xb_0_7 (bxs hb), if_pos hv]; rfl) (by unfold f_M_later; rw [if_pos hv])
  · by_cases hc : j ≤ 1000 ∧ tm + j ≤ 100000
    · obtain ⟨c1, c2⟩ := hc
      let g1 := hp_si h (x + 34) 1 (nI (tm + j))
      let g2 := hp_si g1 m 86 (nI (tm + j))
      have H : hp_fr (fun a k => a = x + 34 ∧ k = 1 ∨ a = m ∧ k = 86) h g2 := hf_si (hf_si (hp_fr_rf h) (by omega)) (by omega)
      have e3 : hp_i g1 m 86 = nI tm := by simp only [g1]; rw [hp_i_si, if_neg (by omega)]; exact l6
      refine pw_eq (x := (nI (tm + j), g1)) ?_ (pw_eq (x := (nI (tm + j), g2)) ?_ ⟨rfl, ?_, hp_fr_mo H (by unfold S_ez; omega)⟩)
      · simp (disch := omega) only [f_X_later, f_Lo_goOn, ↓xb_0_7 (bxs hb), ↓xx_lE, ↓reduceIte, ↓bn_si, ↓bn_sl, ↓bn_s, ↓bn_ms, hp_i_si, hp_l_si, hp_r_si, hp_n_si, hp_i_sl, hp_l_sl, hp_r_sl, hp_n_sl, hp_i_sr, hp_l_sr, hp_r_sr, hp_n_sr, iL, nI_clamp, hp_in_nI, nI_add, pk_mul, pk_sub, c_le, c_nle, c_lt, c_nlt, c_ne, c_m1, c_m1', ad_ne, ad_ne', ad_ne2, nar0, nar1, true_and, false_and, and_true, and_false, Nat.add_zero, Nat.zero_add, l4, g1]
      · simp (disch := omega) only [f_M_later, ↓xx_lE, ↓reduceIte, ↓bn_si, ↓bn_sl, ↓bn_s, ↓bn_ms, hp_i_si, hp_l_si, hp_r_si, hp_n_si, hp_i_sl, hp_l_sl, hp_r_sl, hp_n_sl, hp_i_sr, hp_l_sr, hp_r_sr, hp_n_sr, iL, nI_clamp, hp_in_nI, nI_add, pk_mul, pk_sub, c_le, c_nle, c_lt, c_nlt, c_ne, c_m1, c_m1', ad_ne, ad_ne', ad_ne2, nar0, nar1, true_and, false_and, and_true, and_false, Nat.add_zero, Nat.zero_add, e3, g2]
      · refine BAS_mk hb H (by unfold F_core F_PM; omega) (TP_fr H (by unfold F_TP; omega) (bT hb)) (FL_fr H (by unfold F_FL; omega) (bF hb)) (CR_fr H (by unfold F_CCX F_CMM; omega) (bC hb)) (BX_fr H (by unfold F_BX; omega) (bB hb)) ⟨n, tm + j, dd, mm, tt, uu, l1, c2, ?_, ?_, ?_, ?_, fun k hk => ?_⟩
        · rw [hf_i H (by omega)]; exact l3
        · simp only [g2, g1]; rw [hp_i_si, if_neg (by omega), hp_i_si, if_pos ⟨rfl, rfl⟩]
        · rw [hf_i H (by omega)]; exact l5
        · simp only [g2, g1]; rw [hp_i_si, if_pos ⟨rfl, rfl⟩]
        · obtain ⟨a1, a2, a3, a4, a5, a6, a7, a8, a9, a10, a11, a12⟩ := l7 k hk
          refine ⟨a1, a2, by omega, by omega, ?_, ?_, ?_, ?_, ?_, ?_, ?_, ?_⟩
          all_goals rw [hf_i H (by omega)]
          all_goals assumption
    · by_cases c1 : j ≤ 1000
      · exact EZ_id hb (v := -nI 1) (by simp (disch := omega) only [f_X_later, f_Lo_goOn, ↓xb_0_7 (bxs hb), ↓xx_lE, ↓reduceIte, ↓bn_si, ↓bn_sl, ↓bn_s, ↓bn_ms, hp_i_si, hp_l_si, hp_r_si, hp_n_si, hp_i_sl, hp_l_sl, hp_r_sl, hp_n_sl, hp_i_sr, hp_l_sr, hp_r_sr, hp_n_sr, iL, nI_clamp, hp_in_nI, nI_add, pk_mul, pk_sub, c_le, c_nle, c_lt, c_nlt, c_ne, c_m1, c_m1', ad_ne, ad_ne', ad_ne2, nar0, nar1, true_and, false_and, and_true, and_false, Nat.add_zero, Nat.zero_add, l4]) (by simp (disch := omega) only [f_M_later, ↓xx_lE, ↓reduceIte, ↓bn_si, ↓bn_sl, ↓bn_s, ↓bn_ms, hp_i_si, hp_l_si, hp_r_si, hp_n_si, hp_i_sl, hp_l_sl, hp_r_sl, hp_n_sl, hp_i_sr, hp_l_sr, hp_r_sr, hp_n_sr, iL, nI_clamp, hp_in_nI, nI_add, pk_mul, pk_sub, c_le, c_nle, c_lt, c_nlt, c_ne, c_m1, c_m1', ad_ne, ad_ne', ad_ne2, nar0, nar1, true_and, false_and, and_true, and_false, Nat.add_zero, Nat.zero_add, l6])
      · exact EZ_id hb (v := -nI 1) (by simp (disch := omega) only [f_X_later, f_Lo_goOn, ↓xb_0_7 (bxs hb), ↓xx_lE, ↓reduceIte, ↓bn_si, ↓bn_sl, ↓bn_s, ↓bn_ms, hp_i_si, hp_l_si, hp_r_si, hp_n_si, hp_i_sl, hp_l_sl, hp_r_sl, hp_n_sl, hp_i_sr, hp_l_sr, hp_r_sr, hp_n_sr, iL, nI_clamp, hp_in_nI, nI_add, pk_mul, pk_sub, c_le, c_nle, c_lt, c_nlt, c_ne, c_m1, c_m1', ad_ne, ad_ne', ad_ne2, nar0, nar1, true_and, false_and, and_true, and_false, Nat.add_zero, Nat.zero_add, l4]) (by simp (disch := omega) only [f_M_later, ↓xx_lE, ↓reduceIte, ↓bn_si, ↓bn_sl, ↓bn_s, ↓bn_ms, hp_i_si, hp_l_si, hp_r_si, hp_n_si, hp_i_sl, hp_l_sl, hp_r_sl, hp_n_sl, hp_i_sr, hp_l_sr, hp_r_sr, hp_n_sr, iL, nI_clamp, hp_in_nI, nI_add, pk_mul, pk_sub, c_le, c_nle, c_lt, c_nlt, c_ne, c_m1, c_m1', ad_ne, ad_ne', ad_ne2, nar0, nar1, true_and, false_and, and_true, and_false, Nat.add_zero, Nat.zero_add, l6])
