/-! fill; begin, dark, forget, lead -/
theorem A_fill {a n : Nat} {v : Int32} {h : HP} (hn : hp_n h a = n) (hn2 : n < 2 ^ 31) : pw (f_Ar_fillI a v h) (fun h' => hp_fr (fun b _ => b = a) h h' ∧ ∀ k, k < n → hp_i h' a k = v) := by
  unfold f_Ar_fillI f_Ar_fillI_5
  rw [xx_lE, hn]
  refine pw_cnt n (fun i s => s.1 = nI i ∧ hp_fr (fun b _ => b = a) h s.2 ∧ ∀ k, k < i → hp_i s.2 a k = v) ?_ ?_ 0 _ (by omega) ⟨rfl, hp_fr_rf h, fun k hk => by omega⟩
  · rintro i ⟨w, g⟩ hi ⟨rfl, H, e⟩
    dsimp only at H e
    have hg : hp_n g a = n := by rw [hp_fr_n H]; exact hn
    refine pw_L (s := (nI (i + 1), hp_si g a i v)) ?_ ⟨rfl, hf_si H rfl, fun k hk => ?_⟩
    · unfold f_Ar_fillI_5b
      rw [if_neg (show ¬ Int32.ofNat n ≤ nI i from nI_ge hi hn2), hg, if_pos (hp_in_nI hi (by omega)), xx_lE, xx_lE, nI_clamp (by omega), ← nI_succ]
    · dsimp only
      by_cases hk2 : k = i
      · rw [hk2, hp_i_si, if_pos ⟨rfl, rfl⟩]
      · rw [hp_i_si, if_neg (by omega)]; exact e k (by omega)
  · rintro ⟨w, g⟩ ⟨rfl, H, e⟩
    refine pw_R (t := g) ?_ ⟨H, e⟩
    unfold f_Ar_fillI_5b
    rw [if_pos (show Int32.ofNat n ≤ nI n from nI_le (Nat.le_refl _) hn2)]
theorem CRS_0 {P : PT} (ok : POK P) {l : Nat} (hl : l < 2 ^ p_lc P) : CRS P (fs P l) 0 0 (fun _ => 0) := by
  have h4 := lam_lt4 ok hl
  have := ok.2.1
  refine ⟨fs_lt ok h4, ?_, ?_, by decide, by decide, fun i _ => Nat.le_refl _⟩
  · unfold fs; rw [ex_lm h4]; exact hl
  · unfold fs; rw [ex_dy h4 (by decide)]; omega
theorem X_start {P : PT} {q c l : Nat} {h : HP} (hs : PSH q h) (ok : POK P) (hp : PX P q h) (hl : l < 4) (h1 : hp_r h c 4 = some (c + 1)) (h2 : hp_n h (c + 1) = 6) : pw (f_Co_startWith c q (nI l) h) (fun h' => hp_fr (F_CCX c) h h' ∧ CCX c (fs P l) 0 0 (fun _ => 0) h') := by
  unfold f_Co_startWith
  refine pw_bind (pw_eq (X_first hs ok hp hl) ?_)
  simp only [xx_lE]
  rw [show ∀ g : HP, hp_r (hp_si (hp_si (hp_sl g c 0 (lN (fs P l))) c 1 0) c 2 0) c 4 = hp_r g c 4 from fun g => rfl, h1]
  refine pw_bind (pw_some ?_)
  refine pw_bind (pw_mono (A_fill (n := 6) (by exact h2) (by decide)) ?_)
  rintro g ⟨H, e⟩
  refine pw_some ⟨?_, ?_, ?_, ?_, fun i hi => e i hi⟩
  · exact hp_fr_tr (hf_si (hf_si (hf_sl (hp_fr_rf h) (by unfold F_CCX; omega)) (by unfold F_CCX; omega)) (by unfold F_CCX; omega)) (hp_fr_mo H (by unfold F_CCX; omega))
  · rw [hf_l H (by omega)]; simp [hp_l_si, hp_l_sl]
  · rw [hf_i H (by omega)]; simp [hp_i_si]; rfl
  · rw [hf_i H (by omega)]; simp [hp_i_si]; rfl
theorem op_begin {x m : Nat} (v : Int32) : EZ (fun h => f_X_begin x v h) (fun h => f_M_begin m v h) x m := by
  intro P q h hb
  have hm := bm hb
  obtain ⟨_, hq⟩ := BAS_q hb
  have ok := bok hb
  have pm1 := (bpm hb).1
  rcases lam_cases P ok v with ⟨l, hl, rfl⟩ | ⟨k1, k2⟩
  · have h4 := lam_lt4 ok hl
    unfold f_X_begin f_M_begin
    dsimp only
    rw [bn_o (br3 hb), bn_o (X_lam ok hl (bpx hb)), if_neg (show ¬ nI 1 = (0 : Int32) by decide), xb_0_5 (bxs hb), bn_o (br3 hb)]
    refine pw_bind (pw_mono (X_start (BAS_psh hb) ok (bpx hb) h4 (xr_25_4 (bxs hb)) (xn_26 (bxs hb))) ?_)
    rintro g1 ⟨H1, e1⟩
    refine pw_some ?_
    dsimp only
    have pm1' : hp_i g1 m 28 = nI (p_lc P) := by rw [hf_i H1 (by unfold F_CCX; omega)]; exact pm1
    have pmg : PM P m g1 := PM_ag (fun a k hk => hf_i H1 (by unfold F_PM at hk; unfold F_CCX; omega)) (bpm hb)
    rw [bn_o (M_lam ok hl pm1'), if_neg (show ¬ nI 1 = (0 : Int32) by decide)]
    refine pw_bind (pw_mono (M_beginWith (MS_fr H1 (bms hb)) ok pmg h4) ?_)
    rintro g2 ⟨H2, e2, e3, e4, e5⟩
    refine pw_some ⟨rfl, ?_, ?_⟩
    · have H : hp_fr (fun a k => F_CCX (x + 25) a k ∨ S_bw m a k) h g2 := hp_fr_tr (hp_fr_mo H1 (fun a k hk => .inl hk)) (hp_fr_mo H2 (fun a k hk => .inr hk))
      refine BAS_mk hb H (by unfold F_core F_PM F_CCX S_bw; omega) (TP_fr H (by unfold F_TP F_CCX S_bw; omega) (bT hb)) (FL_fr H (by unfold F_FL F_CCX S_bw; omega) (bF hb)) ⟨fs P l, 0, 0, fun _ => 0, CRS_0 ok hl, ?_, e2, e3, e4, e5⟩ (BX_fr H (by unfold F_BX F_CCX S_bw; omega) (bB hb)) (LG_fr H (by unfold F_LG F_CCX S_bw; omega) (bL hb))
      exact CCX_ag (fun a k hk => ⟨hf_i H2 (by unfold F_CCX at hk; unfold S_bw; omega), hf_l H2 (by unfold F_CCX at hk; unfold S_bw; omega)⟩) e1
    · exact hp_fr_tr (hp_fr_mo H1 (by unfold F_CCX S_ez; omega)) (hp_fr_mo H2 (by unfold S_bw S_ez; omega))
  · exact EZ_id hb (v := nI 0) (by simp (disch := omega) only [f_X_begin, ↓xx_lE, ↓reduceIte, ↓bn_si, ↓bn_sl, ↓bn_s, ↓bn_ms, hp_i_si, hp_l_si, hp_r_si, hp_n_si, hp_i_sl, hp_l_sl, hp_r_sl, hp_n_sl, hp_i_sr, hp_l_sr, hp_r_sr, hp_n_sr, iL, nI_clamp, hp_in_nI, nI_add, pk_mul, pk_sub, c_le, c_nle, c_lt, c_nlt, c_ne, c_m1, c_m1', ad_ne, ad_ne', ad_ne2, nar0, nar1, true_and, false_and, and_true, and_false, Nat.add_zero, Nat.zero_add, ↓bn_o (br3 hb), ↓bn_o (k1 q h (bpx hb))]) (by simp (disch := omega) only [f_M_begin, ↓xx_lE, ↓reduceIte, ↓bn_si, ↓bn_sl, ↓bn_s, ↓bn_ms, hp_i_si, hp_l_si, hp_r_si, hp_n_si, hp_i_sl, hp_l_sl, hp_r_sl, hp_n_sl, hp_i_sr, hp_l_sr, hp_r_sr, hp_n_sr, iL, nI_clamp, hp_in_nI, nI_add, pk_mul, pk_sub, c_le, c_nle, c_lt, c_nlt, c_ne, c_m1, c_m1', ad_ne, ad_ne', ad_ne2, nar0, nar1, true_and, false_and, and_true, and_false, Nat.add_zero, Nat.zero_add, ↓bn_o (k2 m h pm1)])
/-- only the state's number changes -/
theorem CR_N {P : PT} {x m N td ov : Nat} {bu : Nat → Nat} {h : HP} (hc : CRS P N td ov bu) {N' : Nat} (h1 : N' < 2 ^ 54) (h2 : lm N' < 2 ^ p_lc P) (h3 : dy N' < p_cy P) : CRS P N' td ov bu := ⟨h1, h2, h3, hc.2.2.2⟩
theorem op_dark {x m : Nat} (v : Int32) : EZ (fun h => f_X_dark x v h) (fun h => f_M_dark m v h) x m := by
  intro P q h hb
  have hm := bm hb
  have ok := bok hb
  have pm1 := (bpm hb).1
  obtain ⟨N, td, ov, bu, hc, ⟨x1, x2, x3, x4⟩, ⟨⟨y1, y2, y3⟩, y4, y5, y6⟩⟩ := bC hb
  obtain ⟨n1, n2, n3, n4, n5, n6⟩ := id hc
  rcases lam_cases P ok v with ⟨l, hl, rfl⟩ | ⟨k1, k2⟩
  · have h4 := lam_lt4 ok hl
    have hov : ov = 0 ∨ ov = 1 := by omega
    rcases hov with rfl | rfl
    · let g1 := hp_sl h (x + 25) 0 (lN (ex l (dy N) (ow N)))
      let g2 := hp_si g1 m 51 (nI l)
      have H : hp_fr (fun a k => a = x + 25 ∧ k = 0 ∨ a = m ∧ k = 51) h g2 := hf_si (hf_sl (hp_fr_rf h) (by omega)) (by omega)
      refine pw_eq (x := (nI (lm N), g1)) ?_ (pw_eq (x := (nI (lm N), g2)) ?_ ⟨rfl, ?_, hp_fr_mo H (by unfold S_ez; omega)⟩)
      · simp (disch := omega) only [f_X_dark, ↓xx_lE, ↓reduceIte, ↓bn_si, ↓bn_sl, ↓bn_s, ↓bn_ms, hp_i_si, hp_l_si, hp_r_si, hp_n_si, hp_i_sl, hp_l_sl, hp_r_sl, hp_n_sl, hp_i_sr, hp_l_sr, hp_r_sr, hp_n_sr, iL, nI_clamp, hp_in_nI, nI_add, pk_mul, pk_sub, c_le, c_nle, c_lt, c_nlt, c_ne, c_m1, c_m1', ad_ne, ad_ne', ad_ne2, nar0, nar1, true_and, false_and, and_true, and_false, Nat.add_zero, Nat.zero_add, ↓bn_o (br3 hb), ↓bn_o (X_lam ok hl (bpx hb)), ↓xb_0_5 (bxs hb), x3, x1, X_lamps, X_wlamps n1 h4, g1]
      · have e1 : hp_i g1 m 56 = nI 0 := y5
        have e2 : hp_i g1 m 51 = nI (lm N) := y1
        have e3 : hp_i g1 m 28 = nI (p_lc P) := pm1
        simp (disch := omega) only [f_M_dark, ↓xx_lE, ↓reduceIte, ↓bn_si, ↓bn_sl, ↓bn_s, ↓bn_ms, hp_i_si, hp_l_si, hp_r_si, hp_n_si, hp_i_sl, hp_l_sl, hp_r_sl, hp_n_sl, hp_i_sr, hp_l_sr, hp_r_sr, hp_n_sr, iL, nI_clamp, hp_in_nI, nI_add, pk_mul, pk_sub, c_le, c_nle, c_lt, c_nlt, c_ne, c_m1, c_m1', ad_ne, ad_ne', ad_ne2, nar0, nar1, true_and, false_and, and_true, and_false, Nat.add_zero, Nat.zero_add, ↓bn_o (M_lam ok hl e3), e1, e2, g2]
      · have hw : ∀ i, i < 6 → ow (ex l (dy N) (ow N)) i = ow N i := fun i hi => ex_ow h4 (dy_lt N) (fun j _ => ow_lt N j) hi
        refine BAS_mk hb H (by unfold F_core F_PM; omega) (TP_fr H (by unfold F_TP; omega) (bT hb)) (FL_fr H (by unfold F_FL; omega) (bF hb)) ⟨ex l (dy N) (ow N), td, 0, bu, ⟨ex_lt h4 (dy_lt N) (fun j _ => ow_lt N j), by rw [ex_lm h4]; exact hl, by rw [ex_dy h4 (dy_lt N)]; exact n3, n4, n5, n6⟩, ⟨?_, ?_, ?_, fun i hi => ?_⟩, ⟨⟨?_, ?_, fun i hi => ?_⟩, ?_, ?_, fun i hi => ?_⟩⟩ (BX_fr H (by unfold F_BX; omega) (bB hb)) (LG_fr H (by unfold F_LG; omega) (bL hb))
        · simp [g2, g1, hp_l_si, hp_l_sl]
        · rw [hf_i H (by omega)]; exact x2
        · rw [hf_i H (by omega)]; exact x3
        · rw [hf_i H (by omega)]; exact x4 i hi
        · rw [ex_lm h4]; simp [g2, hp_i_si]
        · rw [hf_i H (by omega), ex_dy h4 (dy_lt N)]; exact y2
        · unfold hd vs be
          rw [hw i hi, hf_i H (by omega), hf_i H (by omega), hf_i H (by omega)]; exact y3 i hi
        · rw [hf_i H (by omega)]; exact y4
        · rw [hf_i H (by omega)]; exact y5
        · rw [hf_i H (by omega)]; exact y6 i hi
    · exact EZ_id hb (v := -nI 1) (by simp (disch := omega) only [f_X_dark, ↓xx_lE, ↓reduceIte, ↓bn_si, ↓bn_sl, ↓bn_s, ↓bn_ms, hp_i_si, hp_l_si, hp_r_si, hp_n_si, hp_i_sl, hp_l_sl, hp_r_sl, hp_n_sl, hp_i_sr, hp_l_sr, hp_r_sr, hp_n_sr, iL, nI_clamp, hp_in_nI, nI_add, pk_mul, pk_sub, c_le, c_nle, c_lt, c_nlt, c_ne, c_m1, c_m1', ad_ne, ad_ne', ad_ne2, nar0, nar1, true_and, false_and, and_true, and_false, Nat.add_zero, Nat.zero_add, ↓bn_o (br3 hb), ↓bn_o (X_lam ok hl (bpx hb)), ↓xb_0_5 (bxs hb), x3]) (by simp (disch := omega) only [f_M_dark, ↓xx_lE, ↓reduceIte, ↓bn_si, ↓bn_sl, ↓bn_s, ↓bn_ms, hp_i_si, hp_l_si, hp_r_si, hp_n_si, hp_i_sl, hp_l_sl, hp_r_sl, hp_n_sl, hp_i_sr, hp_l_sr, hp_r_sr, hp_n_sr, iL, nI_clamp, hp_in_nI, nI_add, pk_mul, pk_sub, c_le, c_nle, c_lt, c_nlt, c_ne, c_m1, c_m1', ad_ne, ad_ne', ad_ne2, nar0, nar1, true_and, false_and, and_true, and_false, Nat.add_zero, Nat.zero_add, ↓bn_o (M_lam ok hl pm1), y5])
  · exact EZ_id hb (v := -nI 1) (by simp (disch := omega) only [f_X_dark, ↓xx_lE, ↓reduceIte, ↓bn_si, ↓bn_sl, ↓bn_s, ↓bn_ms, hp_i_si, hp_l_si, hp_r_si, hp_n_si, hp_i_sl, hp_l_sl, hp_r_sl, hp_n_sl, hp_i_sr, hp_l_sr, hp_r_sr, hp_n_sr, iL, nI_clamp, hp_in_nI, nI_add, pk_mul, pk_sub, c_le, c_nle, c_lt, c_nlt, c_ne, c_m1, c_m1', ad_ne, ad_ne', ad_ne2, nar0, nar1, true_and, false_and, and_true, and_false, Nat.add_zero, Nat.zero_add, ↓bn_o (br3 hb), ↓bn_o (k1 q h (bpx hb))]) (by simp (disch := omega) only [f_M_dark, ↓xx_lE, ↓reduceIte, ↓bn_si, ↓bn_sl, ↓bn_s, ↓bn_ms, hp_i_si, hp_l_si, hp_r_si, hp_n_si, hp_i_sl, hp_l_sl, hp_r_sl, hp_n_sl, hp_i_sr, hp_l_sr, hp_r_sr, hp_n_sr, iL, nI_clamp, hp_in_nI, nI_add, pk_mul, pk_sub, c_le, c_nle, c_lt, c_nlt, c_ne, c_m1, c_m1', ad_ne, ad_ne', ad_ne2, nar0, nar1, true_and, false_and, and_true, and_false, Nat.add_zero, Nat.zero_add, ↓bn_o (k2 m h pm1)])
theorem op_forget {x m : Nat} (v : Int32) : EZ (fun h => f_X_forget x v h) (fun h => f_M_forget m v h) x m := by
  intro P q h hb
  have hm := bm hb
  have ok := bok hb
  have hnm := ok.2.2.2.2.2.1
  have px5 := (bpx hb).2.2.2.2.2.1
  have pm5 := (bpm hb).2.2.2.2.2.1
  obtain ⟨N, td, ov, bu, hc, ⟨x1, x2, x3, x4⟩, ⟨⟨y1, y2, y3⟩, y4, y5, y6⟩⟩ := bC hb
  obtain ⟨n1, n2, n3, n4, n5, n6⟩ := id hc
  rcases man_cases P ok v with ⟨i, hi, rfl⟩ | ⟨k1, k2⟩
  · have hi6 : i < 6 := by omega
    have hfi := hf_lt ok hi
    have hov : ov = 0 ∨ ov = 1 := by omega
    rcases hov with rfl | rfl
    · let g1 := hp_sl h (x + 25) 0 (lN (fg P N i))
      let g2 := hp_si (hp_si g1 (m + 20) i (nI (p_hf P (p_ro P i)))) (m + 21) i (nI 0)
      have H : hp_fr (fun a k => a = x + 25 ∧ k = 0 ∨ a = m + 20 ∨ a = m + 21) h g2 := hf_si (hf_si (hf_sl (hp_fr_rf h) (by omega)) (by omega)) (by omega)
      refine pw_eq (x := (nI 1, g1)) ?_ (pw_eq (x := (nI 1, g2)) ?_ ⟨rfl, ?_, hp_fr_mo H (by unfold S_ez; omega)⟩)
      · simp (disch := omega) only [f_X_forget, ↓xx_lE, ↓reduceIte, ↓bn_si, ↓bn_sl, ↓bn_s, ↓bn_ms, hp_i_si, hp_l_si, hp_r_si, hp_n_si, hp_i_sl, hp_l_sl, hp_r_sl, hp_n_sl, hp_i_sr, hp_l_sr, hp_r_sr, hp_n_sr, iL, nI_clamp, hp_in_nI, nI_add, pk_mul, pk_sub, c_le, c_nle, c_lt, c_nlt, c_ne, c_m1, c_m1', ad_ne, ad_ne', ad_ne2, nar0, nar1, true_and, false_and, and_true, and_false, Nat.add_zero, Nat.zero_add, ↓bn_o (br3 hb), ↓bn_o (X_man ok hi px5), ↓xb_0_5 (bxs hb), x3, x1, X_forgot (BAS_psh hb) ok (bpx hb) hi n1, g1]
      · have e1 : hp_i g1 m 56 = nI 0 := y5
        have e2 : hp_i g1 (m + 7) i = nI (p_hf P (p_ro P i)) := (bpm hb).2.2.2.2.2.2.2.2.2.1 i hi
        have e3 : hp_i g1 m 33 = nI (p_nm P) := pm5
        have hs1 : MS m g1 := MS_sl (bms hb)
        simp (disch := omega) only [f_M_forget, f_M_forgetAt, ↓xx_lE, ↓reduceIte, ↓bn_si, ↓bn_sl, ↓bn_s, ↓bn_ms, hp_i_si, hp_l_si, hp_r_si, hp_n_si, hp_i_sl, hp_l_sl, hp_r_sl, hp_n_sl, hp_i_sr, hp_l_sr, hp_r_sr, hp_n_sr, iL, nI_clamp, hp_in_nI, nI_add, pk_mul, pk_sub, c_le, c_nle, c_lt, c_nlt, c_ne, c_m1, c_m1', ad_ne, ad_ne', ad_ne2, nar0, nar1, true_and, false_and, and_true, and_false, Nat.add_zero, Nat.zero_add, ↓bn_o (M_man ok hi e3), e1, e2, ↓mb_47 hs1, ↓mb_15 hs1, ↓mb_48 hs1, mn_7 hs1, mn_20 hs1, mn_21 hs1, g2]
      · have hbe := be_lt N i
        have hol : ∀ j, j < 6 → upN (ow N) i (p_hf P (p_ro P i) + 128 * be N i) j < 256 := upN_lt (fun j _ => ow_lt N j) (by omega)
        have hw : ∀ j, j < 6 → ow (fg P N i) j = upN (ow N) i (p_hf P (p_ro P i) + 128 * be N i) j := fun j hj => ex_ow (lm_lt N) (dy_lt N) hol hj
        have hlm : lm (fg P N i) = lm N := ex_lm (lm_lt N)
        have hdy : dy (fg P N i) = dy N := ex_dy (lm_lt N) (dy_lt N)
        refine BAS_mk hb H (by unfold F_core F_PM; omega) (TP_fr H (by unfold F_TP; omega) (bT hb)) (FL_fr H (by unfold F_FL; omega) (bF hb)) ⟨fg P N i, td, 0, bu, ⟨fg_lt ok N hi, by rw [hlm]; exact n2, by rw [hdy]; exact n3, n4, n5, n6⟩, ⟨?_, ?_, ?_, fun i hi => ?_⟩, ⟨⟨?_, ?_, fun j hj => ?_⟩, ?_, ?_, fun i hi => ?_⟩⟩ (BX_fr H (by unfold F_BX; omega) (bB hb)) (LG_fr H (by unfold F_LG; omega) (bL hb))
        · simp [g2, g1, hp_l_si, hp_l_sl]
        · rw [hf_i H (by omega)]; exact x2
        · rw [hf_i H (by omega)]; exact x3
        · rw [hf_i H (by omega)]; exact x4 i hi
        · rw [hf_i H (by omega), hlm]; exact y1
        · rw [hf_i H (by omega), hdy]; exact y2
        · have hy := y3 j hj
          have e23 : hp_i g2 (m + 23) j = hp_i h (m + 23) j := hf_i H (by omega)
          show hp_i g2 (m + 20) j = _ ∧ hp_i g2 (m + 21) j = _ ∧ hp_i g2 (m + 23) j = _
          rw [e23]
          unfold hd vs be
          rw [hw j hj]
          by_cases hji : j = i
          · subst hji
            rw [upN_s]
            refine ⟨?_, ?_, ?_⟩
            · rw [show (p_hf P (p_ro P j) + 128 * be N j) % 32 = p_hf P (p_ro P j) by omega]; simp [g2, hp_i_si]
            · rw [show (p_hf P (p_ro P j) + 128 * be N j) / 32 % 4 = 0 by omega]; simp [g2, hp_i_si]
            · rw [show (p_hf P (p_ro P j) + 128 * be N j) / 128 = be N j by omega]; exact hy.2.2
          · rw [upN_n hji]
            refine ⟨?_, ?_, hy.2.2⟩
            · have : hp_i g2 (m + 20) j = hp_i h (m + 20) j := by simp only [g2, g1]; rw [hp_i_si, if_neg (by omega), hp_i_si, if_neg (by omega)]; rfl
              rw [this]; exact hy.1
            · have : hp_i g2 (m + 21) j = hp_i h (m + 21) j := by simp only [g2, g1]; rw [hp_i_si, if_neg (by omega), hp_i_si, if_neg (by omega)]; rfl
              rw [this]; exact hy.2.1
        · rw [hf_i H (by omega)]; exact y4
        · rw [hf_i H (by omega)]; exact y5
        · rw [hf_i H (by omega)]; exact y6 i hi
    · exact EZ_id hb (v := nI 0) (by simp (disch := omega) only [f_X_forget, ↓xx_lE, ↓reduceIte, ↓bn_si, ↓bn_sl, ↓bn_s, ↓bn_ms, hp_i_si, hp_l_si, hp_r_si, hp_n_si, hp_i_sl, hp_l_sl, hp_r_sl, hp_n_sl, hp_i_sr, hp_l_sr, hp_r_sr, hp_n_sr, iL, nI_clamp, hp_in_nI, nI_add, pk_mul, pk_sub, c_le, c_nle, c_lt, c_nlt, c_ne, c_m1, c_m1', ad_ne, ad_ne', ad_ne2, nar0, nar1, true_and, false_and, and_true, and_false, Nat.add_zero, Nat.zero_add, ↓bn_o (br3 hb), ↓bn_o (X_man ok hi px5), ↓xb_0_5 (bxs hb), x3]) (by simp (disch := omega) only [f_M_forget, ↓xx_lE, ↓reduceIte, ↓bn_si, ↓bn_sl, ↓bn_s, ↓bn_ms, hp_i_si, hp_l_si, hp_r_si, hp_n_si, hp_i_sl, hp_l_sl, hp_r_sl, hp_n_sl, hp_i_sr, hp_l_sr, hp_r_sr, hp_n_sr, iL, nI_clamp, hp_in_nI, nI_add, pk_mul, pk_sub, c_le, c_nle, c_lt, c_nlt, c_ne, c_m1, c_m1', ad_ne, ad_ne', ad_ne2, nar0, nar1, true_and, false_and, and_true, and_false, Nat.add_zero, Nat.zero_add, ↓bn_o (M_man ok hi pm5), y5])
  · exact EZ_id hb (v := nI 0) (by simp (disch := omega) only [f_X_forget, ↓xx_lE, ↓reduceIte, ↓bn_si, ↓bn_sl, ↓bn_s, ↓bn_ms, hp_i_si, hp_l_si, hp_r_si, hp_n_si, hp_i_sl, hp_l_sl, hp_r_sl, hp_n_sl, hp_i_sr, hp_l_sr, hp_r_sr, hp_n_sr, iL, nI_clamp, hp_in_nI, nI_add, pk_mul, pk_sub, c_le, c_nle, c_lt, c_nlt, c_ne, c_m1, c_m1', ad_ne, ad_ne', ad_ne2, nar0, nar1, true_and, false_and, and_true, and_false, Nat.add_zero, Nat.zero_add, ↓bn_o (br3 hb), ↓bn_o (k1 q h px5)]) (by simp (disch := omega) only [f_M_forget, ↓xx_lE, ↓reduceIte, ↓bn_si, ↓bn_sl, ↓bn_s, ↓bn_ms, hp_i_si, hp_l_si, hp_r_si, hp_n_si, hp_i_sl, hp_l_sl, hp_r_sl, hp_n_sl, hp_i_sr, hp_l_sr, hp_r_sr, hp_n_sr, iL, nI_clamp, hp_in_nI, nI_add, pk_mul, pk_sub, c_le, c_nle, c_lt, c_nlt, c_ne, c_m1, c_m1', ad_ne, ad_ne', ad_ne2, nar0, nar1, true_and, false_and, and_true, and_false, Nat.add_zero, Nat.zero_add, ↓bn_o (k2 m h pm5)])
