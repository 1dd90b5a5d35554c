/-! lead -/
def chg (P : PT) (N i : Nat) : Nat := if oL P N i = se P N then 0 else 1
def S_lo (c q : Nat) : Nat → Nat → Prop := fun a k => F_CCX c a k ∨ S_oc q a k
theorem bit256 {a : Nat} (h : a < 1024) : (nI a &&& (256 : Int32)) = 0 ↔ a / 256 % 2 = 0 := by
  have : ∀ a, a < 1024 → ((nI a &&& (256 : Int32)) = 0 ↔ a / 256 % 2 = 0) := by decide +kernel
  exact this a h
theorem bit128 {a : Nat} (h : a < 1024) : (nI a &&& (128 : Int32)) = 0 ↔ a / 128 % 2 = 0 := by
  have : ∀ a, a < 1024 → ((nI a &&& (128 : Int32)) = 0 ↔ a / 128 % 2 = 0) := by decide +kernel
  exact this a h
theorem X_leadOut {P : PT} {q c i N td : Nat} {bu : Nat → Nat} {h : HP} (hs : PSH q h) (ok : POK P) (hp : PX P q h) (hi : i < p_nm P) (hcq : c + 1 < q ∨ q + 8 < c) (h1 : hp_r h c 4 = some (c + 1)) (h2 : hp_n h (c + 1) = 6) (hN : N < 2 ^ 54) (hc : CCX c N td 0 bu h) : pw (f_Co_leadOut c q (nI i) h) (fun r => r.1 = nI (rs3 P N i) ∧ hp_fr (S_lo c q) h r.2 ∧ CCX c (gn P N i) (td + 1) (if oS P N i = 0 then 0 else 1) (upN bu i (bu i + chg P N i)) r.2) := by
  have hnm := ok.2.2.2.2.2.1
  have hi6 : i < 6 := by omega
  obtain ⟨c1, c2, c3, c4⟩ := hc
  have hoc := oc_lt ok N i
  obtain ⟨_, _, o3, o4, _⟩ := oc_mod ok N i
  have hos := oS_lt ok N i
  unfold f_Co_leadOut
  rw [c1]
  refine pw_bind (pw_mono (X_outcome hs ok hp hi hN) ?_)
  rintro ⟨v, g⟩ ⟨rfl, H⟩
  dsimp only at H ⊢
  have c1g : hp_l g c 0 = lN N := by rw [hf_l H (by unfold S_oc; omega)]; exact c1
  have c2g : hp_i g c 1 = nI td := by rw [hf_i H (by unfold S_oc; omega)]; exact c2
  have c3g : hp_i g c 2 = nI 0 := by rw [hf_i H (by unfold S_oc; omega)]; exact c3
  have hpg : PX P q g := PX_ag (fun a k hk => hf_i H (by unfold F_PX at hk; unfold S_oc; omega)) hp
  have h1g : hp_r g c 4 = some (c + 1) := by rw [hp_fr_r H]; exact h1
  have h2g : hp_n g (c + 1) = 6 := by rw [hp_fr_n H]; exact h2
  have H' : hp_fr (S_lo c q) h g := hp_fr_mo H (fun a k hk => .inr hk)
  rw [c1g, bn_o (X_after ok hpg hi6 hN)]
  simp only [xx_lE]
  have e1 : hp_i (hp_sl g c 0 (lN (gn P N i))) c 1 = nI td := c2g
  rw [e1, show (1 : Int32) = nI 1 from rfl, nI_add]
  let g3 := hp_si (hp_sl g c 0 (lN (gn P N i))) c 1 (nI (td + 1))
  have h52 : ∀ g4, hp_fr (S_lo c q) h g4 → hp_l g4 c 0 = lN (gn P N i) → hp_i g4 c 1 = nI (td + 1) → hp_i g4 c 2 = nI 0 → (∀ j, j < 6 → hp_i g4 (c + 1) j = nI (upN bu i (bu i + chg P N i) j)) → PX P q g4 → pw (f_Co_leadOut_52 c q (nI (oc P N i)) g4) (fun r => r.1 = nI (rs3 P N i) ∧ hp_fr (S_lo c q) h r.2 ∧ CCX c (gn P N i) (td + 1) (if oS P N i = 0 then 0 else 1) (upN bu i (bu i + chg P N i)) r.2) := by
    intro g4 G a1 a2 a3 a4 hp4
    unfold f_Co_leadOut_52
    by_cases hz : oS P N i = 0
    · rw [if_pos ((bit128 hoc).mpr (by omega))]
      exact pw_some ⟨by unfold rs3; rw [if_pos hz]; rfl, G, a1, a2, by rw [if_pos hz]; exact a3, a4⟩
    · rw [if_neg (fun z => by have := (bit128 hoc).mp z; omega), xx_lE]
      have hp5 : PX P q (hp_si g4 c 2 1) := PX_ag (fun a k hk => by unfold F_PX at hk; rw [hp_i_si, if_neg (by omega)]) hp4
      rw [show hp_l (hp_si g4 c 2 1) c 0 = lN (gn P N i) from a1, bn_o (X_all ok hp5 (gn_lt ok N i))]
      have hrs : rs3 P N i = if ab P (gn P N i) then 1 else 2 := by unfold rs3; rw [if_neg hz]
      have hfin : hp_fr (S_lo c q) h (hp_si g4 c 2 1) ∧ CCX c (gn P N i) (td + 1) (if oS P N i = 0 then 0 else 1) (upN bu i (bu i + chg P N i)) (hp_si g4 c 2 1) := by
        refine ⟨hf_si G (by unfold S_lo F_CCX; omega), a1, ?_, ?_, fun j hj => ?_⟩
        · rw [hp_i_si, if_neg (by omega)]; exact a2
        · rw [hp_i_si, if_pos ⟨rfl, rfl⟩, if_neg hz]; rfl
        · rw [hp_i_si, if_neg (by omega)]; exact a4 j hj
      rw [hrs]
      by_cases ha : ab P (gn P N i) = true
      · rw [if_pos ha, if_pos ha]
        exact pw_f (show ¬ nI 1 = (0 : Int32) by decide) (pw_some ⟨rfl, hfin⟩)
      · rw [if_neg ha, if_neg ha]
        exact pw_t rfl (pw_some ⟨rfl, hfin⟩)
  have G3 : hp_fr (S_lo c q) h g3 := hf_si (hf_sl H' (by unfold S_lo F_CCX; omega)) (by unfold S_lo F_CCX; omega)
  have b4 : ∀ j, j < 6 → hp_i g3 (c + 1) j = nI (bu j) := fun j hj => by
    have : hp_i g3 (c + 1) j = hp_i g (c + 1) j := by simp only [g3]; rw [hp_i_si, if_neg (by omega)]; rfl
    rw [this, hf_i H (by unfold S_oc; omega)]; exact c4 j hj
  have hp3 : PX P q g3 := PX_ag (fun a k hk => by unfold F_PX at hk; simp only [g3]; rw [hp_i_si, if_neg (by omega)]; rfl) hpg
  have b1 : hp_l g3 c 0 = lN (gn P N i) := by simp [g3, hp_l_si, hp_l_sl]
  have b2 : hp_i g3 c 1 = nI (td + 1) := by simp [g3, hp_i_si]
  have b3 : hp_i g3 c 2 = nI 0 := by simp only [g3]; rw [hp_i_si, if_neg (by omega)]; exact c3g
  show pw (if (nI (oc P N i) &&& (256 : Int32)) = 0 then f_Co_leadOut_52 c q (nI (oc P N i)) g3 else _) _
  by_cases hd : oL P N i = se P N
  · have hc0 : chg P N i = 0 := by unfold chg; rw [if_pos hd]
    rw [if_pos hd] at o4
    rw [if_pos ((bit256 hoc).mpr o4)]
    refine h52 g3 G3 b1 b2 b3 (fun j hj => ?_) hp3
    rw [hc0, b4 j hj]; unfold upN; split
    · rename_i e; rw [e]; rfl
    · rfl
  · have hc1 : chg P N i = 1 := by unfold chg; rw [if_neg hd]
    rw [if_neg hd] at o4
    rw [if_neg (fun z => by have := (bit256 hoc).mp z; omega)]
    rw [show hp_r (hp_si (hp_sl g c 0 (lN (gn P N i))) c 1 (nI (td + 1))) c 4 = some (c + 1) from h1g, bn_s]
    rw [show hp_n (hp_si (hp_sl g c 0 (lN (gn P N i))) c 1 (nI (td + 1))) (c + 1) = 6 from h2g, if_pos (hp_in_nI hi6 (by omega)), if_pos (hp_in_nI hi6 (by omega)), nI_clamp (by omega)]
    show pw (f_Co_leadOut_52 c q (nI (oc P N i)) (hp_si g3 (c + 1) i (hp_i g3 (c + 1) i + nI 1))) _
    rw [b4 i hi6, nI_add]
    refine h52 _ (hf_si G3 (by unfold S_lo F_CCX; omega)) b1 ?_ ?_ (fun j hj => ?_) ?_
    · rw [hp_i_si, if_neg (by omega)]; exact b2
    · rw [hp_i_si, if_neg (by omega)]; exact b3
    · rw [hc1, hp_i_si]; unfold upN
      by_cases hji : j = i
      · rw [if_pos ⟨rfl, hji⟩, if_pos hji]
      · rw [if_neg (by omega), if_neg hji]; exact b4 j hj
    · exact PX_ag (fun a k hk => by unfold F_PX at hk; rw [hp_i_si, if_neg (by omega)]) hp3
theorem op_lead {x m : Nat} (v : Int32) : EZ (fun h => f_X_lead x v h) (fun h => f_M_lead m v h) x m := by
  intro P q h hb
  have hm := bm hb
  obtain ⟨_, hq⟩ := BAS_q hb
  have ok := bok hb
  have hnm := ok.2.2.2.2.2.1
  have hcy := ok.2.1
  have px5 := (bpx hb).2.2.2.2.2.1
  have pm5 := (bpm hb).2.2.2.2.2.1
  obtain ⟨N, td, ov, bu, hc, hcx, hcm⟩ := bC hb
  obtain ⟨n1, n2, n3, n4, n5, n6⟩ := id hc
  obtain ⟨x1, x2, x3, x4⟩ := id hcx
  obtain ⟨y0, y4, y5, y6⟩ := id hcm
  rcases man_cases P ok v with ⟨i, hi, rfl⟩ | ⟨k1, k2⟩
  · have hi6 : i < 6 := by omega
    have hov : ov = 0 ∨ ov = 1 := by omega
    rcases hov with rfl | rfl
    · by_cases htd : td < 10000
      · unfold f_X_lead f_M_lead
        dsimp only
        rw [bn_o (br3 hb), bn_o (X_man ok hi px5), if_neg (show ¬ nI 1 = (0 : Int32) by decide), xb_0_5 (bxs hb), x3, if_pos (show nI 0 = (0 : Int32) from rfl), xb_0_5 (bxs hb), x2, if_pos (show nI td < (10000 : Int32) from nI_lt (b := 10000) htd (by decide)), xb_0_5 (bxs hb), bn_o (br3 hb)]
        refine pw_bind (pw_mono (X_leadOut (BAS_psh hb) ok (bpx hb) hi (by omega) (xr_25_4 (bxs hb)) (xn_26 (bxs hb)) n1 hcx) ?_)
        rintro ⟨r1, g1⟩ ⟨rfl, H1, e1⟩
        refine pw_some ?_
        dsimp only at H1 e1 ⊢
        have nS : ∀ a k, S_lo (x + 25) q a k → a < m ∧ x ≤ a := fun a k hk => by unfold S_lo F_CCX S_oc at hk; omega
        have fr1 : ∀ a k, m ≤ a → hp_i g1 a k = hp_i h a k := fun a k ha => hf_i H1 (fun z => by have := nS a k z; omega)
        have pmg : PM P m g1 := PM_ag (fun a k hk => fr1 a k (by unfold F_PM at hk; omega)) (bpm hb)
        have cmg : CMM m N td 0 bu g1 := CMM_ag (fun a k hk => fr1 a k (by unfold F_CMM at hk; omega)) hcm
        obtain ⟨y0, y4, y5, y6⟩ := id cmg
        rw [bn_o (M_man ok hi pmg.2.2.2.2.2.1), if_neg (show ¬ nI 1 = (0 : Int32) by decide), y5, if_pos (show nI 0 = (0 : Int32) from rfl), y4, if_neg (show ¬ nI td = (10000 : Int32) from fun z => by have := (nI_eq (b := 10000) (by omega) (by decide)).mp z; omega)]
        refine pw_bind (pw_mono (M_go (MS_fr H1 (bms hb)) ok pmg hi y0 n3) ?_)
        rintro ⟨r2, g2⟩ ⟨rfl, H2, e2, e3, e4⟩
        dsimp only at H2 e2 e3 e4 ⊢
        have hs2 := MS_fr H2 (MS_fr H1 (bms hb))
        have z6 : hp_i g2 (m + 22) i = nI (bu i) := by rw [hf_i H2 (by unfold S_go; omega)]; exact y6 i hi6
        have z5 : hp_i g2 m 55 = nI td := by rw [hf_i H2 (by unfold S_go; omega)]; exact y4
        rw [bn_o (mr_49 hs2), mn_22 hs2, if_pos (hp_in_nI hi6 (by omega)), nI_clamp (by omega), z6, e3]
        have hlt : rs3 P N i < 3 := by unfold rs3; split; decide; split <;> decide
        let ov' := if oS P N i = 0 then 0 else 1
        let g3 := hp_si (hp_si (hp_si g2 (m + 22) i (nI (bu i + chg P N i))) m 55 (nI (td + 1))) m 56 (nI ov')
        have fin : f_M_lead_52 m (nI (rs3 P N i)) (nI (chg P N i)) (nI (bu i)) (nI i) (m + 22) g2 = some (nI (rs3 P N i), g3) := by
          have ez : rs3 P N i = 0 ↔ oS P N i = 0 := by unfold rs3; by_cases z : oS P N i = 0 <;> simp [z]; split <;> decide
          by_cases z : oS P N i = 0
          · have := ez.mpr z
            simp (disch := omega) only [f_M_lead_52, ↓xx_lE, ↓reduceIte, ↓bn_si, ↓bn_sl, ↓bn_s, ↓bn_ms, hp_i_si, hp_l_si, hp_r_si, hp_n_si, hp_i_sl, hp_l_sl, hp_r_sl, hp_n_sl, hp_i_sr, hp_l_sr, hp_r_sr, hp_n_sr, iL, nI_clamp, hp_in_nI, nI_add, pk_mul, pk_sub, c_le, c_nle, c_lt, c_nlt, c_ne, c_m1, c_m1', ad_ne, ad_ne', ad_ne2, nar0, nar1, true_and, false_and, and_true, and_false, Nat.add_zero, Nat.zero_add, mn_22 hs2, this, z5, g3, ov', z]
          · have := fun w => z (ez.mp w)
            simp (disch := omega) only [f_M_lead_52, ↓xx_lE, ↓reduceIte, ↓bn_si, ↓bn_sl, ↓bn_s, ↓bn_ms, hp_i_si, hp_l_si, hp_r_si, hp_n_si, hp_i_sl, hp_l_sl, hp_r_sl, hp_n_sl, hp_i_sr, hp_l_sr, hp_r_sr, hp_n_sr, iL, nI_clamp, hp_in_nI, nI_add, pk_mul, pk_sub, c_le, c_nle, c_lt, c_nlt, c_ne, c_m1, c_m1', ad_ne, ad_ne', ad_ne2, nar0, nar1, true_and, false_and, and_true, and_false, Nat.add_zero, Nat.zero_add, mn_22 hs2, this, z5, g3, ov', z]
        have fin2 : pw (if nI (if oL P N i = se P N then 0 else 1) = 0 then f_M_lead_52 m (nI (rs3 P N i)) 0 (nI (bu i)) (nI i) (m + 22) g2 else f_M_lead_52 m (nI (rs3 P N i)) 1 (nI (bu i)) (nI i) (m + 22) g2) (fun r => r = (nI (rs3 P N i), g3)) := by
          unfold chg at fin
          by_cases hd : oL P N i = se P N
          · rw [if_pos hd, if_pos (show nI 0 = (0 : Int32) from rfl)]; rw [if_pos hd] at fin; exact pw_eq fin rfl
          · rw [if_neg hd, if_neg (show ¬ nI 1 = (0 : Int32) by decide)]; rw [if_neg hd] at fin; exact pw_eq fin rfl
        refine pw_mono fin2 ?_
        rintro _ rfl
        dsimp only
        have H3 : hp_fr (fun a k => S_go m a k ∨ a = m + 22 ∨ a = m ∧ (k = 55 ∨ k = 56)) g1 g3 := hf_si (hf_si (hf_si (hp_fr_mo H2 (fun a k hk => .inl hk)) (by omega)) (by omega)) (by omega)
        have H : hp_fr (fun a k => S_lo (x + 25) q a k ∨ S_go m a k ∨ a = m + 22 ∨ a = m ∧ (k = 55 ∨ k = 56)) h g3 := hp_fr_tr (hp_fr_mo H1 (fun a k hk => .inl hk)) (hp_fr_mo H3 (fun a k hk => .inr hk))
        refine ⟨rfl, ?_, ?_⟩
        · have hcr : CRS P (gn P N i) (td + 1) ov' (upN bu i (bu i + chg P N i)) := by
            refine ⟨gn_lt ok N i, ?_, ?_, by omega, ?_, fun j hj => ?_⟩
            · rw [gn_lm ok]; unfold oL; split
              · exact Nat.mod_lt _ (Nat.two_pow_pos _)
              · unfold se; split
                · exact Nat.two_pow_pos _
                · exact n2
            · rw [gn_dy ok]; split <;> omega
            · simp only [ov']; split <;> decide
            · have := n6 i hi6
              have := n6 j hj
              have : chg P N i ≤ 1 := by unfold chg; split <;> decide
              unfold upN; split <;> omega
          refine BAS_mk hb H (by unfold F_core F_PM S_lo S_go F_CCX S_oc; omega) (TP_fr H (by unfold F_TP S_lo S_go F_CCX S_oc; omega) (bT hb)) (FL_fr H (by unfold F_FL S_lo S_go F_CCX S_oc; omega) (bF hb)) ⟨gn P N i, td + 1, ov', upN bu i (bu i + chg P N i), hcr, ?_, ?_, ?_, ?_, fun j hj => ?_⟩ (BX_fr H (by unfold F_BX S_lo S_go F_CCX S_oc; omega) (bB hb)) (LG_fr H (by unfold F_LG S_lo S_go F_CCX S_oc; omega) (bL hb))
          · exact CCX_ag (fun a k hk => ⟨hf_i H3 (by unfold F_CCX at hk; unfold S_go; omega), hf_l H3 (by unfold F_CCX at hk; unfold S_go; omega)⟩) e1
          · exact CM_ag (fun a k hk => by unfold F_CM at hk; simp only [g3]; rw [hp_i_si, if_neg (by omega), hp_i_si, if_neg (by omega), hp_i_si, if_neg (by omega)]) e2
          · simp only [g3]; rw [hp_i_si, if_neg (by omega), hp_i_si, if_pos ⟨rfl, rfl⟩]
          · simp only [g3]; rw [hp_i_si, if_pos ⟨rfl, rfl⟩]
          · simp only [g3]; rw [hp_i_si, if_neg (by omega), hp_i_si, if_neg (by omega), hp_i_si]; unfold upN
            by_cases hji : j = i
            · rw [if_pos ⟨rfl, hji⟩, if_pos hji]
            · rw [if_neg (by omega), if_neg hji, hf_i H2 (by unfold S_go; omega)]; exact y6 j hj
        · exact hp_fr_mo H (by unfold S_ez S_lo S_go F_CCX S_oc; omega)
      · have htd : td = 10000 := by omega
        subst htd
        exact EZ_id hb (v := -nI 1) (by simp (disch := omega) only [f_X_lead, ↓xx_lE, ↓reduceIte, ↓bn_si, ↓bn_sl, ↓bn_s, ↓bn_ms, hp_i_si, hp_l_si, hp_r_si, hp_n_si, hp_i_sl, hp_l_sl, hp_r_sl, hp_n_sl, hp_i_sr, hp_l_sr, hp_r_sr, hp_n_sr, iL, nI_clamp, hp_in_nI, nI_add, pk_mul, pk_sub, c_le, c_nle, c_lt, c_nlt, c_ne, c_m1, c_m1', ad_ne, ad_ne', ad_ne2, nar0, nar1, true_and, false_and, and_true, and_false, Nat.add_zero, Nat.zero_add, ↓bn_o (br3 hb), ↓bn_o (X_man ok hi px5), ↓xb_0_5 (bxs hb), x3, x2]) (by simp (disch := omega) only [f_M_lead, ↓xx_lE, ↓reduceIte, ↓bn_si, ↓bn_sl, ↓bn_s, ↓bn_ms, hp_i_si, hp_l_si, hp_r_si, hp_n_si, hp_i_sl, hp_l_sl, hp_r_sl, hp_n_sl, hp_i_sr, hp_l_sr, hp_r_sr, hp_n_sr, iL, nI_clamp, hp_in_nI, nI_add, pk_mul, pk_sub, c_le, c_nle, c_lt, c_nlt, c_ne, c_m1, c_m1', ad_ne, ad_ne', ad_ne2, nar0, nar1, true_and, false_and, and_true, and_false, Nat.add_zero, Nat.zero_add, ↓bn_o (M_man ok hi pm5), y5, y4])
    · exact EZ_id hb (v := -nI 1) (by simp (disch := omega) only [f_X_lead, ↓xx_lE, ↓reduceIte, ↓bn_si, ↓bn_sl, ↓bn_s, ↓bn_ms, hp_i_si, hp_l_si, hp_r_si, hp_n_si, hp_i_sl, hp_l_sl, hp_r_sl, hp_n_sl, hp_i_sr, hp_l_sr, hp_r_sr, hp_n_sr, iL, nI_clamp, hp_in_nI, nI_add, pk_mul, pk_sub, c_le, c_nle, c_lt, c_nlt, c_ne, c_m1, c_m1', ad_ne, ad_ne', ad_ne2, nar0, nar1, true_and, false_and, and_true, and_false, Nat.add_zero, Nat.zero_add, ↓bn_o (br3 hb), ↓bn_o (X_man ok hi px5), ↓xb_0_5 (bxs hb), x3]) (by simp (disch := omega) only [f_M_lead, ↓xx_lE, ↓reduceIte, ↓bn_si, ↓bn_sl, ↓bn_s, ↓bn_ms, hp_i_si, hp_l_si, hp_r_si, hp_n_si, hp_i_sl, hp_l_sl, hp_r_sl, hp_n_sl, hp_i_sr, hp_l_sr, hp_r_sr, hp_n_sr, iL, nI_clamp, hp_in_nI, nI_add, pk_mul, pk_sub, c_le, c_nle, c_lt, c_nlt, c_ne, c_m1, c_m1', ad_ne, ad_ne', ad_ne2, nar0, nar1, true_and, false_and, and_true, and_false, Nat.add_zero, Nat.zero_add, ↓bn_o (M_man ok hi pm5), y5])
  · exact EZ_id hb (v := -nI 1) (by simp (disch := omega) only [f_X_lead, ↓xx_lE, ↓reduceIte, ↓bn_si, ↓bn_sl, ↓bn_s, ↓bn_ms, hp_i_si, hp_l_si, hp_r_si, hp_n_si, hp_i_sl, hp_l_sl, hp_r_sl, hp_n_sl, hp_i_sr, hp_l_sr, hp_r_sr, hp_n_sr, iL, nI_clamp, hp_in_nI, nI_add, pk_mul, pk_sub, c_le, c_nle, c_lt, c_nlt, c_ne, c_m1, c_m1', ad_ne, ad_ne', ad_ne2, nar0, nar1, true_and, false_and, and_true, and_false, Nat.add_zero, Nat.zero_add, ↓bn_o (br3 hb), ↓bn_o (k1 q h px5)]) (by simp (disch := omega) only [f_M_lead, ↓xx_lE, ↓reduceIte, ↓bn_si, ↓bn_sl, ↓bn_s, ↓bn_ms, hp_i_si, hp_l_si, hp_r_si, hp_n_si, hp_i_sl, hp_l_sl, hp_r_sl, hp_n_sl, hp_i_sr, hp_l_sr, hp_r_sr, hp_n_sr, iL, nI_clamp, hp_in_nI, nI_add, pk_mul, pk_sub, c_le, c_nle, c_lt, c_nlt, c_ne, c_m1, c_m1', ad_ne, ad_ne', ad_ne2, nar0, nar1, true_and, false_and, and_true, and_false, Nat.add_zero, Nat.zero_add, ↓bn_o (k2 m h pm5)])
