/-! image, back -/
theorem nar_lt {n : Nat} (h : n < 2) : vp_nar .boolean (nI n) = nI n := by
  have : n = 0 ∨ n = 1 := by omega
  rcases this with rfl | rfl
  · exact nar0
  · exact nar1
theorem hf_cp {S : Nat → Nat → Prop} {h0 h : HP} (H : hp_fr S h0 h) {a0 sp a dp n : Nat} (hS : ∀ k, S a k) : hp_fr S h0 (hp_cp h a0 sp a dp n) := hp_fr_tr H ⟨fun q j hq => by rw [hp_i_cp]; exact if_neg (fun z => hq (by rw [z]; exact hS j)), fun _ _ _ => rfl, rfl⟩
theorem box_r {x b : Nat} {h : HP} (hs : XS x h) (hb : b < 3) : hp_r h (x + 27) b = some (x + (28 + 2 * b)) ∧ hp_r h (x + (28 + 2 * b)) 4 = some (x + (28 + 2 * b) + 1) ∧ hp_n h (x + (28 + 2 * b) + 1) = 6 := by
  have : b = 0 ∨ b = 1 ∨ b = 2 := by omega
  rcases this with rfl | rfl | rfl
  · exact ⟨xr_27_0 hs, xr_28_4 hs, xn_29 hs⟩
  · exact ⟨xr_27_1 hs, xr_30_4 hs, xn_31 hs⟩
  · exact ⟨xr_27_2 hs, xr_32_4 hs, xn_33 hs⟩
theorem Co_copy {c d N td ov : Nat} {bu : Nat → Nat} {h : HP} (c1 : hp_r h c 4 = some (c + 1)) (c2 : hp_n h (c + 1) = 6) (d1 : hp_r h d 4 = some (d + 1)) (d2 : hp_n h (d + 1) = 6) (hcd : c + 1 < d ∨ d + 1 < c) (ho : ov < 2) (hc : CCX d N td ov bu h) : pw (f_Co_copy c d h) (fun h' => hp_fr (F_CCX c) h h' ∧ CCX c N td ov bu h') := by
  obtain ⟨e1, e2, e3, e4⟩ := hc
  have n1 : ¬ (d = c) := by omega
  refine pw_eq (x := hp_cp (hp_si (hp_si (hp_sl h c 0 (lN N)) c 1 (nI td)) c 2 (nI ov)) (d + 1) 0 (c + 1) 0 6) ?_ ⟨?_, ?_, ?_, ?_, fun i hi => ?_⟩
  · unfold f_Co_copy
    simp only [xx_lE]
    rw [e1, show hp_i (hp_sl h c 0 (lN N)) d 1 = nI td from e2]
    have a3 : hp_i (hp_si (hp_sl h c 0 (lN N)) c 1 (nI td)) d 2 = nI ov := by rw [hp_i_si, if_neg (by omega)]; exact e3
    rw [a3, if_pos (z01 ho)]
    have a4 : hp_r (hp_si (hp_si (hp_sl h c 0 (lN N)) c 1 (nI td)) c 2 (nI ov)) d 4 = some (d + 1) := d1
    have a5 : hp_r (hp_si (hp_si (hp_sl h c 0 (lN N)) c 1 (nI td)) c 2 (nI ov)) c 4 = some (c + 1) := c1
    rw [a4, bn_s, a5, bn_s, if_pos]
    exact ⟨Nat.le_of_eq d2.symm, Nat.le_of_eq c2.symm⟩
  · exact hf_cp (hf_si (hf_si (hf_sl (hp_fr_rf h) (by unfold F_CCX; omega)) (by unfold F_CCX; omega)) (by unfold F_CCX; omega)) (fun k => by unfold F_CCX; omega)
  · rw [hp_l_cp]; simp [hp_l_si, hp_l_sl]
  · rw [hp_i_cp, if_neg (by omega)]; simp [hp_i_si]
  · rw [hp_i_cp, if_neg (by omega)]; simp [hp_i_si]
  · rw [hp_i_cp, if_pos rfl, pk_cpy_in (by omega) (by omega)]
    rw [show 0 + (i - 0) = i by omega, hp_i_si, if_neg (by omega), hp_i_si, if_neg (by omega)]
    exact e4 i hi
theorem M_box1 {b : Nat} {h : HP} (hb : b < 3) : f_M_isBox (nI b) h = some (nI 1, h) := by
  simp (disch := omega) only [f_M_isBox, ↓xx_lE, ↓reduceIte, ↓bn_si, ↓bn_sl, ↓bn_s, ↓bn_ms, hp_i_si, hp_l_si, hp_r_si, hp_n_si, hp_i_sl, hp_l_sl, hp_r_sl, hp_n_sl, hp_i_sr, hp_l_sr, hp_r_sr, hp_n_sr, iL, nI_clamp, hp_in_nI, nI_add, pk_mul, pk_sub, c_le, c_nle, c_lt, c_nlt, c_ne, c_m1, c_m1', ad_ne, ad_ne', ad_ne2, nar0, nar1, true_and, false_and, and_true, and_false, Nat.add_zero, Nat.zero_add]
theorem M_box0 {b : Nat} {h : HP} (hb : 3 ≤ b) (hb2 : b < 2 ^ 31) : f_M_isBox (nI b) h = some (nI 0, h) := by
  simp (disch := omega) only [f_M_isBox, ↓xx_lE, ↓reduceIte, ↓bn_si, ↓bn_sl, ↓bn_s, ↓bn_ms, hp_i_si, hp_l_si, hp_r_si, hp_n_si, hp_i_sl, hp_l_sl, hp_r_sl, hp_n_sl, hp_i_sr, hp_l_sr, hp_r_sr, hp_n_sr, iL, nI_clamp, hp_in_nI, nI_add, pk_mul, pk_sub, c_le, c_nle, c_lt, c_nlt, c_ne, c_m1, c_m1', ad_ne, ad_ne', ad_ne2, nar0, nar1, true_and, false_and, and_true, and_false, Nat.add_zero, Nat.zero_add]
def F_BM2 (m b : Nat) : Nat → Nat → Prop := fun a k => (a = m + 47 ∨ a = m + 48 ∨ a = m + 53 ∨ a = m + 54 ∨ a = m + 55) ∧ k = b ∨ m + 49 ≤ a ∧ a ≤ m + 52 ∧ 6 * b ≤ k ∧ k < 6 * b + 6
def F_BX2 (x m b : Nat) : Nat → Nat → Prop := fun a k => (a = x + (28 + 2 * b) ∨ a = x + (28 + 2 * b) + 1) ∨ F_BM2 m b a k
theorem BX_ag2 {P : PT} {x m b : Nat} {h h' : HP} (H : ∀ a k, F_BX2 x m b a k → hp_i h' a k = hp_i h a k ∧ hp_l h' a k = hp_l h a k) (hp : BXE P x m b h) : BXE P x m b h' := by
  unfold F_BX2 F_BM2 at H
  rcases hp with ⟨h1, h2⟩ | ⟨h1, h2, N, td, ov, bu, h3, h4, ⟨g1, g2, g3, g4, g5⟩⟩
  · exact .inl ⟨by rw [(H _ _ (by omega)).1]; exact h1, by rw [(H _ _ (by omega)).1]; exact h2⟩
  · refine .inr ⟨by rw [(H _ _ (by omega)).1]; exact h1, by rw [(H _ _ (by omega)).1]; exact h2, N, td, ov, bu, h3, ?_, ?_, ?_, ?_, ?_, fun i hi => ⟨?_, ?_, ?_, ?_⟩⟩
    · exact CCX_ag (fun a k hk => H a k (by unfold F_CCX at hk; omega)) h4
    all_goals rw [(H _ _ (by omega)).1]
    · exact g1
    · exact g2
    · exact g3
    · exact g4
    · exact (g5 i hi).1
    · exact (g5 i hi).2.1
    · exact (g5 i hi).2.2.1
    · exact (g5 i hi).2.2.2
def S_il (m b : Nat) : Nat → Nat → Prop := fun a k => m + 49 ≤ a ∧ a ≤ m + 52 ∧ 6 * b ≤ k ∧ k < 6 * b + 6
theorem M_image_l {m b N td ov : Nat} {bu : Nat → Nat} {h : HP} (hs : MS m h) (hb : b < 3) (hc : CMM m N td ov bu h) : pw (f_M_image_58 m (nI b) (nI 0) h) (fun r => r.1 = nI td ∧ hp_fr (S_il m b) h r.2 ∧ ∀ i, i < 6 → hp_i r.2 (m + 50) (6 * b + i) = nI (hd N i) ∧ hp_i r.2 (m + 51) (6 * b + i) = nI (vs N i) ∧ hp_i r.2 (m + 49) (6 * b + i) = nI (be N i) ∧ hp_i r.2 (m + 52) (6 * b + i) = nI (bu i)) := by
  unfold f_M_image_58
  obtain ⟨⟨y1, y2, y3⟩, y4, y5, y6⟩ := hc
  refine pw_cnt 6 (fun i s => s.1 = nI i ∧ hp_fr (S_il m b) h s.2 ∧ ∀ k, k < i → hp_i s.2 (m + 50) (6 * b + k) = nI (hd N k) ∧ hp_i s.2 (m + 51) (6 * b + k) = nI (vs N k) ∧ hp_i s.2 (m + 49) (6 * b + k) = nI (be N k) ∧ hp_i s.2 (m + 52) (6 * b + k) = nI (bu k)) ?_ ?_ 0 _ (by omega) ⟨rfl, hp_fr_rf h, fun k hk => by omega⟩
  · rintro i ⟨w, g⟩ hi ⟨rfl, H, e⟩
    dsimp only at H e ⊢
    have hg := MS_fr H hs
    obtain ⟨z1, z2, z3⟩ := y3 i hi
    have a1 : hp_i g (m + 20) i = nI (hd N i) := by rw [hf_i H (by unfold S_il; omega)]; exact z1
    have a2 : hp_i g (m + 21) i = nI (vs N i) := by rw [hf_i H (by unfold S_il; omega)]; exact z2
    have a3 : hp_i g (m + 23) i = nI (be N i) := by rw [hf_i H (by unfold S_il; omega)]; exact z3
    have a4 : hp_i g (m + 22) i = nI (bu i) := by rw [hf_i H (by unfold S_il; omega)]; exact y6 i hi
    have hbe := be_lt N i
    refine pw_L (s := (nI (i + 1), hp_si (hp_si (hp_si (hp_si g (m + 50) (6 * b + i) (nI (hd N i))) (m + 51) (6 * b + i) (nI (vs N i))) (m + 49) (6 * b + i) (nI (be N i))) (m + 52) (6 * b + i) (nI (bu i)))) ?_ ⟨rfl, ?_, fun k hk => ?_⟩
    · simp (disch := omega) only [f_M_image_58b, ↓xx_lE, ↓reduceIte, ↓bn_si, ↓bn_sl, ↓bn_s, ↓bn_ms, hp_i_si, hp_l_si, hp_r_si, hp_n_si, hp_i_sl, hp_l_sl, hp_r_sl, hp_n_sl, hp_i_sr, hp_l_sr, hp_r_sr, hp_n_sr, iL, nI_clamp, hp_in_nI, nI_add, pk_mul, pk_sub, c_le, c_nle, c_lt, c_nlt, c_ne, c_m1, c_m1', ad_ne, ad_ne', ad_ne2, nar0, nar1, true_and, false_and, and_true, and_false, Nat.add_zero, Nat.zero_add, ↓mb_90 hg, ↓mb_47 hg, ↓mb_91 hg, ↓mb_48 hg, ↓mb_89 hg, ↓mb_50 hg, ↓mb_92 hg, ↓mb_49 hg, mn_50 hg, mn_20 hg, mn_51 hg, mn_21 hg, mn_49 hg, mn_23 hg, mn_52 hg, mn_22 hg, a1, a2, a3, a4, nar_lt]
    · exact hf_si (hf_si (hf_si (hf_si H (by unfold S_il; omega)) (by unfold S_il; omega)) (by unfold S_il; omega)) (by unfold S_il; omega)
    · by_cases hk2 : k = i
      · subst hk2; simp [hp_i_si]
      · have := e k (by omega)
        simpa [hp_i_si, hk2] using this
  · rintro ⟨w, g⟩ ⟨rfl, H, e⟩
    dsimp only at H e ⊢
    have a4 : hp_i g m 55 = nI td := by rw [hf_i H (by unfold S_il; omega)]; exact y4
    refine pw_R (t := (nI td, g)) ?_ ⟨rfl, H, e⟩
    simp (disch := omega) only [f_M_image_58b, ↓xx_lE, ↓reduceIte, ↓bn_si, ↓bn_sl, ↓bn_s, ↓bn_ms, hp_i_si, hp_l_si, hp_r_si, hp_n_si, hp_i_sl, hp_l_sl, hp_r_sl, hp_n_sl, hp_i_sr, hp_l_sr, hp_r_sr, hp_n_sr, iL, nI_clamp, hp_in_nI, nI_add, pk_mul, pk_sub, c_le, c_nle, c_lt, c_nlt, c_ne, c_m1, c_m1', ad_ne, ad_ne', ad_ne2, nar0, nar1, true_and, false_and, and_true, and_false, Nat.add_zero, Nat.zero_add, a4]
theorem op_image {x m : Nat} (v : Int32) : EZ (fun h => f_X_image x v h) (fun h => f_M_image m v h) x m := by
  intro P q h hb
  have hm := bm hb
  have hxs := bxs hb
  obtain ⟨N, td, ov, bu, hc, hcx, hcm⟩ := bC hb
  obtain ⟨n1, n2, n3, n4, n5, n6⟩ := id hc
  rcases i_cases v with hv | ⟨b, hb0, rfl⟩
  · exact EZ_id hb (v := -1) (by unfold f_X_image; rw [if_pos hv]) (by unfold f_M_image f_M_isBox; rw [if_pos hv]; rfl)
  · by_cases hb3 : b < 3
    · obtain ⟨r1, r2, r3⟩ := box_r hxs hb3
      unfold f_X_image
      dsimp only
      rw [if_neg (nI_pos (by omega)), if_pos (show nI b < (3 : Int32) from nI_lt (b := 3) hb3 (by decide)), xb_0_6 hxs, xn_27 hxs, if_pos (hp_in_nI hb3 (by omega)), nI_clamp (by omega), bn_o r1, xb_0_5 hxs]
      refine pw_bind (pw_mono (Co_copy r2 r3 (xr_25_4 hxs) (xn_26 hxs) (by omega) n5 hcx) ?_)
      rintro g1 ⟨H1, e1⟩
      have hx1 := XS_fr H1 hxs
      obtain ⟨r1', r2', r3'⟩ := box_r hx1 hb3
      rw [xb_0_6 hx1, xn_27 hx1, if_pos (hp_in_nI hb3 (by omega)), bn_o r1', xx_lE]
      let g2 := hp_si g1 (x + (28 + 2 * b)) 3 1
      have H2 : hp_fr (fun a _ => a = x + (28 + 2 * b) ∨ a = x + (28 + 2 * b) + 1) h g2 := hf_si (hp_fr_mo H1 (by unfold F_CCX; omega)) (by omega)
      have hx2 := XS_fr H2 hxs
      have hs2 := MS_fr H2 (bms hb)
      show pw ((hp_r g2 x 5).bind _) _
      rw [xb_0_5 hx2]
      have t1 : hp_i g2 (x + 25) 1 = nI td := by rw [hf_i H2 (by omega)]; exact hcx.2.1
      rw [t1]
      refine pw_some ?_
      dsimp only
      have cm2 : CMM m N td ov bu g2 := CMM_ag (fun a k hk => hf_i H2 (by unfold F_CMM at hk; omega)) hcm
      obtain ⟨⟨y1, y2, y3⟩, y4, y5, y6⟩ := id cm2
      let g3 := hp_si (hp_si (hp_si (hp_si (hp_si g2 (m + 47) b (nI 1)) (m + 48) b (nI ov)) (m + 53) b (nI (lm N))) (m + 54) b (nI (dy N))) (m + 55) b (nI td)
      have H3 : hp_fr (fun a k => (a = m + 47 ∨ a = m + 48 ∨ a = m + 53 ∨ a = m + 54 ∨ a = m + 55) ∧ k = b) g2 g3 := hf_si (hf_si (hf_si (hf_si (hf_si (hp_fr_rf g2) (by omega)) (by omega)) (by omega)) (by omega)) (by omega)
      have e3 : f_M_image m (nI b) g2 = f_M_image_58 m (nI b) (nI 0) g3 := by
        simp (disch := omega) only [f_M_image, ↓xx_lE, ↓reduceIte, ↓bn_si, ↓bn_sl, ↓bn_s, ↓bn_ms, hp_i_si, hp_l_si, hp_r_si, hp_n_si, hp_i_sl, hp_l_sl, hp_r_sl, hp_n_sl, hp_i_sr, hp_l_sr, hp_r_sr, hp_n_sr, iL, nI_clamp, hp_in_nI, nI_add, pk_mul, pk_sub, c_le, c_nle, c_lt, c_nlt, c_ne, c_m1, c_m1', ad_ne, ad_ne', ad_ne2, nar0, nar1, true_and, false_and, and_true, and_false, Nat.add_zero, Nat.zero_add, ↓bn_o (M_box1 hb3), ↓mb_87 hs2, ↓mb_88 hs2, ↓mb_93 hs2, ↓mb_94 hs2, ↓mb_95 hs2, mn_47 hs2, mn_48 hs2, mn_53 hs2, mn_54 hs2, mn_55 hs2, y1, y2, y4, y5, nar_lt, g3]
      rw [e3]
      have cm3 : CMM m N td ov bu g3 := CMM_ag (fun a k hk => hf_i H3 (by unfold F_CMM at hk; omega)) cm2
      refine pw_mono (M_image_l (MS_fr H3 hs2) hb3 cm3) ?_
      rintro ⟨r, g4⟩ ⟨rfl, H4, e4⟩
      dsimp only at H4 e4 ⊢
      have H34 : hp_fr (F_BM2 m b) g2 g4 := hp_fr_tr (hp_fr_mo H3 (by unfold F_BM2; omega)) (hp_fr_mo H4 (by unfold F_BM2 S_il; omega))
      have H : hp_fr (F_BX2 x m b) h g4 := hp_fr_tr (hp_fr_mo H2 (by unfold F_BX2; omega)) (hp_fr_mo H34 (fun a k hk => .inr hk))
      refine ⟨rfl, ?_, hp_fr_mo H (by unfold S_ez F_BX2 F_BM2; omega)⟩
      refine BAS_mk hb H (by unfold F_core F_PM F_BX2 F_BM2; omega) (TP_fr H (by unfold F_TP F_BX2 F_BM2; omega) (bT hb)) (FL_fr H (by unfold F_FL F_BX2 F_BM2; omega) (bF hb)) (CR_fr H (by unfold F_CCX F_CMM F_BX2 F_BM2; omega) (bC hb)) (fun b' hb' => ?_) (LG_fr H (by unfold F_LG F_BX2 F_BM2; omega) (bL hb))
      by_cases hbb : b' = b
      · subst hbb
        refine .inr ⟨?_, ?_, N, td, ov, bu, hc, ?_, ?_, ?_, ?_, ?_, e4⟩
        · rw [hf_i H34 (by unfold F_BM2; omega)]; simp only [g2]; rw [hp_i_si, if_pos ⟨rfl, rfl⟩]; rfl
        · rw [hf_i H4 (by unfold S_il; omega)]; simp [g3, hp_i_si]
        · refine CCX_ag (h := g1) (fun a k hk => ⟨?_, ?_⟩) e1
          · unfold F_CCX at hk; rw [hf_i H34 (by unfold F_BM2; omega)]; simp only [g2]; rw [hp_i_si, if_neg (by omega)]
          · unfold F_CCX at hk; rw [hf_l H34 (by unfold F_BM2; omega)]; rfl
        · rw [hf_i H4 (by unfold S_il; omega)]; simp [g3, hp_i_si]
        · rw [hf_i H4 (by unfold S_il; omega)]; simp [g3, hp_i_si]
        · rw [hf_i H4 (by unfold S_il; omega)]; simp [g3, hp_i_si]
        · rw [hf_i H4 (by unfold S_il; omega)]; simp [g3, hp_i_si]
      · exact BX_ag2 (fun a k hk => ⟨hf_i H (by unfold F_BX2 F_BM2 at *; omega), hf_l H (by unfold F_BX2 F_BM2 at *; omega)⟩) (bB hb b' hb')
    · exact EZ_id hb (v := -nI 1) (by simp (disch := omega) only [f_X_image, ↓xx_lE, ↓reduceIte, ↓bn_si, ↓bn_sl, ↓bn_s, ↓bn_ms, hp_i_si, hp_l_si, hp_r_si, hp_n_si, hp_i_sl, hp_l_sl, hp_r_sl, hp_n_sl, hp_i_sr, hp_l_sr, hp_r_sr, hp_n_sr, iL, nI_clamp, hp_in_nI, nI_add, pk_mul, pk_sub, c_le, c_nle, c_lt, c_nlt, c_ne, c_m1, c_m1', ad_ne, ad_ne', ad_ne2, nar0, nar1, true_and, false_and, and_true, and_false, Nat.add_zero, Nat.zero_add]) (by simp (disch := omega) only [f_M_image, ↓xx_lE, ↓reduceIte, ↓bn_si, ↓bn_sl, ↓bn_s, ↓bn_ms, hp_i_si, hp_l_si, hp_r_si, hp_n_si, hp_i_sl, hp_l_sl, hp_r_sl, hp_n_sl, hp_i_sr, hp_l_sr, hp_r_sr, hp_n_sr, iL, nI_clamp, hp_in_nI, nI_add, pk_mul, pk_sub, c_le, c_nle, c_lt, c_nlt, c_ne, c_m1, c_m1', ad_ne, ad_ne', ad_ne2, nar0, nar1, true_and, false_and, and_true, and_false, Nat.add_zero, Nat.zero_add, ↓bn_o (M_box0 (show 3 ≤ b by omega) hb0)])
def S_kl (m : Nat) : Nat → Nat → Prop := fun a _ => m + 20 ≤ a ∧ a ≤ m + 23
theorem M_back_l {m b N td ov : Nat} {bu : Nat → Nat} {h : HP} (hs : MS m h) (hb : b < 3) (hc : BMM m b N td ov bu h) (ht : hp_i h m 55 = nI td) : pw (f_M_back_60 m (nI b) (nI 0) h) (fun r => r.1 = nI td ∧ hp_fr (S_kl m) h r.2 ∧ ∀ i, i < 6 → hp_i r.2 (m + 20) i = nI (hd N i) ∧ hp_i r.2 (m + 21) i = nI (vs N i) ∧ hp_i r.2 (m + 23) i = nI (be N i) ∧ hp_i r.2 (m + 22) i = nI (bu i)) := by
  unfold f_M_back_60
  obtain ⟨_, _, _, _, y3⟩ := hc
  refine pw_cnt 6 (fun i s => s.1 = nI i ∧ hp_fr (S_kl m) h s.2 ∧ ∀ k, k < i → hp_i s.2 (m + 20) k = nI (hd N k) ∧ hp_i s.2 (m + 21) k = nI (vs N k) ∧ hp_i s.2 (m + 23) k = nI (be N k) ∧ hp_i s.2 (m + 22) k = nI (bu k)) ?_ ?_ 0 _ (by omega) ⟨rfl, hp_fr_rf h, fun k hk => by omega⟩
  · rintro i ⟨w, g⟩ hi ⟨rfl, H, e⟩
    dsimp only at H e ⊢
    have hg := MS_fr H hs
    obtain ⟨z1, z2, z3, z4⟩ := y3 i hi
    have a1 : hp_i g (m + 50) (6 * b + i) = nI (hd N i) := by rw [hf_i H (by unfold S_kl; omega)]; exact z1
    have a2 : hp_i g (m + 51) (6 * b + i) = nI (vs N i) := by rw [hf_i H (by unfold S_kl; omega)]; exact z2
    have a3 : hp_i g (m + 49) (6 * b + i) = nI (be N i) := by rw [hf_i H (by unfold S_kl; omega)]; exact z3
    have a4 : hp_i g (m + 52) (6 * b + i) = nI (bu i) := by rw [hf_i H (by unfold S_kl; omega)]; exact z4
    have hbe := be_lt N i
    refine pw_L (s := (nI (i + 1), hp_si (hp_si (hp_si (hp_si g (m + 20) i (nI (hd N i))) (m + 21) i (nI (vs N i))) (m + 23) i (nI (be N i))) (m + 22) i (nI (bu i)))) ?_ ⟨rfl, ?_, fun k hk => ?_⟩
    · simp (disch := omega) only [f_M_back_60b, ↓xx_lE, ↓reduceIte, ↓bn_si, ↓bn_sl, ↓bn_s, ↓bn_ms, hp_i_si, hp_l_si, hp_r_si, hp_n_si, hp_i_sl, hp_l_sl, hp_r_sl, hp_n_sl, hp_i_sr, hp_l_sr, hp_r_sr, hp_n_sr, iL, nI_clamp, hp_in_nI, nI_add, pk_mul, pk_sub, c_le, c_nle, c_lt, c_nlt, c_ne, c_m1, c_m1', ad_ne, ad_ne', ad_ne2, nar0, nar1, true_and, false_and, and_true, and_false, Nat.add_zero, Nat.zero_add, ↓mb_90 hg, ↓mb_47 hg, ↓mb_91 hg, ↓mb_48 hg, ↓mb_89 hg, ↓mb_50 hg, ↓mb_92 hg, ↓mb_49 hg, mn_50 hg, mn_20 hg, mn_51 hg, mn_21 hg, mn_49 hg, mn_23 hg, mn_52 hg, mn_22 hg, a1, a2, a3, a4, nar_lt]
    · exact hf_si (hf_si (hf_si (hf_si H (by unfold S_kl; omega)) (by unfold S_kl; omega)) (by unfold S_kl; omega)) (by unfold S_kl; omega)
    · by_cases hk2 : k = i
      · subst hk2; simp [hp_i_si]
      · have := e k (by omega)
        simpa [hp_i_si, hk2] using this
  · rintro ⟨w, g⟩ ⟨rfl, H, e⟩
    dsimp only at H e ⊢
    have a4 : hp_i g m 55 = nI td := by rw [hf_i H (by unfold S_kl; omega)]; exact ht
    refine pw_R (t := (nI td, g)) ?_ ⟨rfl, H, e⟩
    simp (disch := omega) only [f_M_back_60b, ↓xx_lE, ↓reduceIte, ↓bn_si, ↓bn_sl, ↓bn_s, ↓bn_ms, hp_i_si, hp_l_si, hp_r_si, hp_n_si, hp_i_sl, hp_l_sl, hp_r_sl, hp_n_sl, hp_i_sr, hp_l_sr, hp_r_sr, hp_n_sr, iL, nI_clamp, hp_in_nI, nI_add, pk_mul, pk_sub, c_le, c_nle, c_lt, c_nlt, c_ne, c_m1, c_m1', ad_ne, ad_ne', ad_ne2, nar0, nar1, true_and, false_and, and_true, and_false, Nat.add_zero, Nat.zero_add, a4]
theorem op_back {x m : Nat} (v : Int32) : EZ (fun h => f_X_back x v h) (fun h => f_M_back m v h) x m := by
  intro P q h hb
  have hm := bm hb
  have hxs := bxs hb
  have hms := bms hb
  rcases i_cases v with hv | ⟨b, hb0, rfl⟩
  · exact EZ_id hb (v := -1) (by unfold f_X_back; rw [if_pos hv]) (by unfold f_M_back f_M_isBox; rw [if_pos hv]; rfl)
  · by_cases hb3 : b < 3
    · obtain ⟨r1, r2, r3⟩ := box_r hxs hb3
      rcases bB hb b hb3 with ⟨k1, k2⟩ | ⟨k1, k2, N, td, ov, bu, hc, hcx, hbm⟩
      · exact EZ_id hb (v := -nI 1) (by simp (disch := omega) only [f_X_back, ↓xx_lE, ↓reduceIte, ↓bn_si, ↓bn_sl, ↓bn_s, ↓bn_ms, hp_i_si, hp_l_si, hp_r_si, hp_n_si, hp_i_sl, hp_l_sl, hp_r_sl, hp_n_sl, hp_i_sr, hp_l_sr, hp_r_sr, hp_n_sr, iL, nI_clamp, hp_in_nI, nI_add, pk_mul, pk_sub, c_le, c_nle, c_lt, c_nlt, c_ne, c_m1, c_m1', ad_ne, ad_ne', ad_ne2, nar0, nar1, true_and, false_and, and_true, and_false, Nat.add_zero, Nat.zero_add, ↓xb_0_6 hxs, xn_27 hxs, ↓bn_o r1, k1]) (by simp (disch := omega) only [f_M_back, ↓xx_lE, ↓reduceIte, ↓bn_si, ↓bn_sl, ↓bn_s, ↓bn_ms, hp_i_si, hp_l_si, hp_r_si, hp_n_si, hp_i_sl, hp_l_sl, hp_r_sl, hp_n_sl, hp_i_sr, hp_l_sr, hp_r_sr, hp_n_sr, iL, nI_clamp, hp_in_nI, nI_add, pk_mul, pk_sub, c_le, c_nle, c_lt, c_nlt, c_ne, c_m1, c_m1', ad_ne, ad_ne', ad_ne2, nar0, nar1, true_and, false_and, and_true, and_false, Nat.add_zero, Nat.zero_add, ↓bn_o (M_box1 hb3), ↓mb_87 hms, mn_47 hms, k2])
      · obtain ⟨n1, n2, n3, n4, n5, n6⟩ := id hc
        unfold f_X_back
        dsimp only
        rw [if_neg (nI_pos (by omega)), if_neg (show ¬ (3 : Int32) ≤ nI b from nI_ge (b := 3) hb3 (by decide)), xb_0_6 hxs, xn_27 hxs, if_pos (hp_in_nI hb3 (by omega)), nI_clamp (by omega), bn_o r1, k1, if_neg (show ¬ nI 1 = (0 : Int32) by decide), xb_0_5 hxs, xb_0_6 hxs, xn_27 hxs, if_pos (hp_in_nI hb3 (by omega)), bn_o r1]
        refine pw_bind (pw_mono (Co_copy (xr_25_4 hxs) (xn_26 hxs) r2 r3 (by omega) n5 hcx) ?_)
        rintro g1 ⟨H1, e1⟩
        have hx1 := XS_fr H1 hxs
        have hs1 := MS_fr H1 hms
        rw [xb_0_5 hx1, e1.2.1]
        refine pw_some ?_
        dsimp only
        have bm1 : BMM m b N td ov bu g1 := BMM_ag (fun a k hk => hf_i H1 (by unfold F_BMM at hk; unfold F_CCX; omega)) hbm
        obtain ⟨y1, y2, y3, y4, y5⟩ := id bm1
        have k2' : hp_i g1 (m + 47) b = nI 1 := by rw [hf_i H1 (by unfold F_CCX; omega)]; exact k2
        let g3 := hp_si (hp_si (hp_si (hp_si g1 m 56 (nI ov)) m 51 (nI (lm N))) m 52 (nI (dy N))) m 55 (nI td)
        have H3 : hp_fr (fun a k => a = m ∧ (k = 56 ∨ k = 51 ∨ k = 52 ∨ k = 55)) g1 g3 := hf_si (hf_si (hf_si (hf_si (hp_fr_rf g1) (by omega)) (by omega)) (by omega)) (by omega)
        have e3 : f_M_back m (nI b) g1 = f_M_back_60 m (nI b) (nI 0) g3 := by
          simp (disch := omega) only [f_M_back, ↓xx_lE, ↓reduceIte, ↓bn_si, ↓bn_sl, ↓bn_s, ↓bn_ms, hp_i_si, hp_l_si, hp_r_si, hp_n_si, hp_i_sl, hp_l_sl, hp_r_sl, hp_n_sl, hp_i_sr, hp_l_sr, hp_r_sr, hp_n_sr, iL, nI_clamp, hp_in_nI, nI_add, pk_mul, pk_sub, c_le, c_nle, c_lt, c_nlt, c_ne, c_m1, c_m1', ad_ne, ad_ne', ad_ne2, nar0, nar1, true_and, false_and, and_true, and_false, Nat.add_zero, Nat.zero_add, ↓bn_o (M_box1 hb3), ↓mb_87 hs1, ↓mb_88 hs1, ↓mb_93 hs1, ↓mb_94 hs1, ↓mb_95 hs1, mn_47 hs1, mn_48 hs1, mn_53 hs1, mn_54 hs1, mn_55 hs1, y1, y2, y3, y4, k2', z01, g3]
        rw [e3]
        have bm3 : BMM m b N td ov bu g3 := BMM_ag (fun a k hk => hf_i H3 (by unfold F_BMM at hk; omega)) bm1
        refine pw_mono (M_back_l (MS_fr H3 hs1) hb3 bm3 (by simp [g3, hp_i_si])) ?_
        rintro ⟨r, g4⟩ ⟨rfl, H4, e4⟩
        dsimp only at H4 e4 ⊢
        have H34 : hp_fr (F_CMM m) g1 g4 := hp_fr_tr (hp_fr_mo H3 (by unfold F_CMM; omega)) (hp_fr_mo H4 (by unfold F_CMM S_kl; omega))
        have H : hp_fr (fun a k => F_CCX (x + 25) a k ∨ F_CMM m a k) h g4 := hp_fr_tr (hp_fr_mo H1 (fun a k hk => .inl hk)) (hp_fr_mo H34 (fun a k hk => .inr hk))
        refine ⟨rfl, ?_, hp_fr_mo H (by unfold S_ez F_CCX F_CMM; omega)⟩
        refine BAS_mk hb H (by unfold F_core F_PM F_CCX F_CMM; omega) (TP_fr H (by unfold F_TP F_CCX F_CMM; omega) (bT hb)) (FL_fr H (by unfold F_FL F_CCX F_CMM; omega) (bF hb)) ⟨N, td, ov, bu, hc, ?_, ⟨?_, ?_, fun i hi => ⟨(e4 i hi).1, (e4 i hi).2.1, (e4 i hi).2.2.1⟩⟩, ?_, ?_, fun i hi => (e4 i hi).2.2.2⟩ (BX_fr H (by unfold F_BX F_CCX F_CMM; omega) (bB hb)) (LG_fr H (by unfold F_LG F_CCX F_CMM; omega) (bL hb))
        · exact CCX_ag (fun a k hk => ⟨hf_i H34 (by unfold F_CCX at hk; unfold F_CMM; omega), hf_l H34 (by unfold F_CCX at hk; unfold F_CMM; omega)⟩) e1
        · rw [hf_i H4 (by unfold S_kl; omega)]; simp [g3, hp_i_si]
        · rw [hf_i H4 (by unfold S_kl; omega)]; simp [g3, hp_i_si]
        · rw [hf_i H4 (by unfold S_kl; omega)]; simp [g3, hp_i_si]
        · rw [hf_i H4 (by unfold S_kl; omega)]; simp [g3, hp_i_si]
    · exact EZ_id hb (v := -nI 1) (by simp (disch := omega) only [f_X_back, ↓xx_lE, ↓reduceIte, ↓bn_si, ↓bn_sl, ↓bn_s, ↓bn_ms, hp_i_si, hp_l_si, hp_r_si, hp_n_si, hp_i_sl, hp_l_sl, hp_r_sl, hp_n_sl, hp_i_sr, hp_l_sr, hp_r_sr, hp_n_sr, iL, nI_clamp, hp_in_nI, nI_add, pk_mul, pk_sub, c_le, c_nle, c_lt, c_nlt, c_ne, c_m1, c_m1', ad_ne, ad_ne', ad_ne2, nar0, nar1, true_and, false_and, and_true, and_false, Nat.add_zero, Nat.zero_add]) (by simp (disch := omega) only [f_M_back, ↓xx_lE, ↓reduceIte, ↓bn_si, ↓bn_sl, ↓bn_s, ↓bn_ms, hp_i_si, hp_l_si, hp_r_si, hp_n_si, hp_i_sl, hp_l_sl, hp_r_sl, hp_n_sl, hp_i_sr, hp_l_sr, hp_r_sr, hp_n_sr, iL, nI_clamp, hp_in_nI, nI_add, pk_mul, pk_sub, c_le, c_nle, c_lt, c_nlt, c_ne, c_m1, c_m1', ad_ne, ad_ne', ad_ne2, nar0, nar1, true_and, false_and, and_true, and_false, Nat.add_zero, Nat.zero_add, ↓bn_o (M_box0 (show 3 ≤ b by omega) hb0)])
