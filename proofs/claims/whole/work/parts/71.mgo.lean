/-! go: the reference's side -/
theorem MS_of {m : Nat} {h h' : HP} (e : h'.2.2 = h.2.2) (hs : MS m h) : MS m h' := fun q hq => by
  have := hs q hq
  unfold hp_r hp_n at *
  rw [e]; exact this
theorem M_isAll {P : PT} {m N : Nat} {h : HP} (hs : MS m h) (ok : POK P) (hp : hp_i h m 33 = nI (p_nm P)) (hc : ∀ i, i < 6 → hp_i h (m + 23) i = nI (be N i)) : f_M_isAll m h = some (nI (if ab P N then 1 else 0), h) := by
  have hnm := ok.2.2.2.2.2.1
  have k : pw (f_M_isAll m h) (fun x => x = (nI (if ab P N then 1 else 0), h)) := by
    unfold f_M_isAll f_M_isAll_4
    refine pw_cnt (p_nm P) (fun i s => s.2.1 = nI i ∧ s.2.2 = h ∧ ((s.1 = nI 1 ∧ ∀ k, k < i → be N k = 1) ∨ (s.1 = nI 0 ∧ ab P N = false))) ?_ ?_ 0 _ (by omega) ⟨rfl, rfl, .inl ⟨rfl, fun k hk => by omega⟩⟩
    · rintro i ⟨v, w, g⟩ hi ⟨rfl, rfl, hz⟩
      dsimp only at *
      have hb2 := be_lt N i
      have hci := hc i (by omega)
      rcases hz with ⟨rfl, hb⟩ | ⟨rfl, hb⟩
      · have : be N i = 0 ∨ be N i = 1 := by omega
        rcases this with hx | hx
        · rw [hx] at hci
          refine pw_L (s := (nI 0, nI (i + 1), g)) ?_ ⟨rfl, rfl, .inr ⟨rfl, ab_no hi hx⟩⟩
          simp (disch := omega) only [f_M_isAll_4b, f_M_isAll_29, f_M_isAll_30, ↓xx_lE, ↓reduceIte, ↓bn_si, ↓bn_sl, ↓bn_s, ↓bn_ms, hp_i_si, hp_l_si, hp_r_si, hp_n_si, hp_i_sl, hp_l_sl, hp_r_sl, hp_n_sl, hp_i_sr, hp_l_sr, hp_r_sr, hp_n_sr, iL, nI_clamp, hp_in_nI, nI_add, pk_mul, pk_sub, c_le, c_nle, c_lt, c_nlt, c_ne, c_m1, c_m1', ad_ne, ad_ne', ad_ne2, nar0, nar1, true_and, false_and, and_true, and_false, Nat.add_zero, Nat.zero_add, hp, ↓mb_50 hs, mn_23 hs, hci]
        · rw [hx] at hci
          refine pw_L (s := (nI 1, nI (i + 1), g)) ?_ ⟨rfl, rfl, .inl ⟨rfl, fun k hk => ?_⟩⟩
          · simp (disch := omega) only [f_M_isAll_4b, f_M_isAll_29, f_M_isAll_30, ↓xx_lE, ↓reduceIte, ↓bn_si, ↓bn_sl, ↓bn_s, ↓bn_ms, hp_i_si, hp_l_si, hp_r_si, hp_n_si, hp_i_sl, hp_l_sl, hp_r_sl, hp_n_sl, hp_i_sr, hp_l_sr, hp_r_sr, hp_n_sr, iL, nI_clamp, hp_in_nI, nI_add, pk_mul, pk_sub, c_le, c_nle, c_lt, c_nlt, c_ne, c_m1, c_m1', ad_ne, ad_ne', ad_ne2, nar0, nar1, true_and, false_and, and_true, and_false, Nat.add_zero, Nat.zero_add, hp, ↓mb_50 hs, mn_23 hs, hci]
          · by_cases hk2 : k = i
            · rw [hk2]; exact hx
            · exact hb k (by omega)
      · refine pw_L (s := (nI 0, nI (i + 1), g)) ?_ ⟨rfl, rfl, .inr ⟨rfl, hb⟩⟩
        simp (disch := omega) only [f_M_isAll_4b, f_M_isAll_29, f_M_isAll_30, ↓xx_lE, ↓reduceIte, ↓bn_si, ↓bn_sl, ↓bn_s, ↓bn_ms, hp_i_si, hp_l_si, hp_r_si, hp_n_si, hp_i_sl, hp_l_sl, hp_r_sl, hp_n_sl, hp_i_sr, hp_l_sr, hp_r_sr, hp_n_sr, iL, nI_clamp, hp_in_nI, nI_add, pk_mul, pk_sub, c_le, c_nle, c_lt, c_nlt, c_ne, c_m1, c_m1', ad_ne, ad_ne', ad_ne2, nar0, nar1, true_and, false_and, and_true, and_false, Nat.add_zero, Nat.zero_add, hp]
    · rintro ⟨v, w, g⟩ ⟨rfl, rfl, hz⟩
      dsimp only at *
      rcases hz with ⟨rfl, hb⟩ | ⟨rfl, hb⟩
      · refine pw_R (t := (nI 1, g)) ?_ (by rw [ab_all hb]; rfl)
        simp (disch := omega) only [f_M_isAll_4b, ↓xx_lE, ↓reduceIte, ↓bn_si, ↓bn_sl, ↓bn_s, ↓bn_ms, hp_i_si, hp_l_si, hp_r_si, hp_n_si, hp_i_sl, hp_l_sl, hp_r_sl, hp_n_sl, hp_i_sr, hp_l_sr, hp_r_sr, hp_n_sr, iL, nI_clamp, hp_in_nI, nI_add, pk_mul, pk_sub, c_le, c_nle, c_lt, c_nlt, c_ne, c_m1, c_m1', ad_ne, ad_ne', ad_ne2, nar0, nar1, true_and, false_and, and_true, and_false, Nat.add_zero, Nat.zero_add, hp, z01]
      · refine pw_R (t := (nI 0, g)) ?_ (by rw [hb]; rfl)
        simp (disch := omega) only [f_M_isAll_4b, ↓xx_lE, ↓reduceIte, ↓bn_si, ↓bn_sl, ↓bn_s, ↓bn_ms, hp_i_si, hp_l_si, hp_r_si, hp_n_si, hp_i_sl, hp_l_sl, hp_r_sl, hp_n_sl, hp_i_sr, hp_l_sr, hp_r_sr, hp_n_sr, iL, nI_clamp, hp_in_nI, nI_add, pk_mul, pk_sub, c_le, c_nle, c_lt, c_nlt, c_ne, c_m1, c_m1', ad_ne, ad_ne', ad_ne2, nar0, nar1, true_and, false_and, and_true, and_false, Nat.add_zero, Nat.zero_add, hp, z01]
  obtain ⟨y, hy, rfl⟩ := k
  exact hy
def S_do (m : Nat) : Nat → Nat → Prop := fun a k => a = m ∧ (k = 51 ∨ k = 53) ∨ a = m + 19 ∨ a = m + 20
/-- what doRules leaves -/
def Q_do (P : PT) (m N i : Nat) (h : HP) (x : Int32 × HP) : Prop := x.1 = nI (oS P N i) ∧ hp_fr (S_do m) h x.2 ∧ hp_i x.2 m 51 = nI (oL P N i) ∧ hp_i x.2 m 53 = nI (if oL P N i = se P N then 0 else 1) ∧ hp_i x.2 (m + 20) i = nI (oH P N i) ∧ ∀ j, j < 6 → j ≠ i → hp_i x.2 (m + 20) j = hp_i h (m + 20) j
theorem M_do57 {P : PT} {m i r N : Nat} {h : HP} (hs : MS m h) (ok : POK P) (hp : PM P m h) (hi : i < 6) (hr : r < p_nu P) (hru : rul P N i = r) (e1 : hp_i h m 51 = nI (se P N)) (e2 : hp_i h (m + 20) i = nI (hd N i)) (e3 : hp_i h m 52 = nI (dy N)) (e4 : hp_i h (m + 21) i = nI (vs N i)) : pw (f_M_doRules_57 m (nI i) (nI r) h) (Q_do P m N i h) := by
  have hnu := ok.2.2.2.2.2.2.1
  have p7 := hp.2.2.2.2.2.2.1
  unfold f_M_doRules_57
  simp only [xx_lE]
  have H0 : hp_fr (S_do m) h (hp_si h m 53 0) := hf_si (hp_fr_rf h) (by unfold S_do; omega)
  have hp0 : PM P m (hp_si h m 53 0) := PM_ag (fun a k hk => by unfold F_PM at hk; rw [hp_i_si, if_neg (by omega)]) hp
  generalize hg0 : hp_si h m 53 0 = g0 at *
  have hs0 := MS_fr H0 hs
  have a1 : hp_i g0 m 51 = nI (se P N) := by rw [← hg0, hp_i_si, if_neg (by omega)]; exact e1
  have a2 : hp_i g0 (m + 20) i = nI (hd N i) := by rw [← hg0, hp_i_si, if_neg (by omega)]; exact e2
  have a3 : hp_i g0 m 52 = nI (dy N) := by rw [← hg0, hp_i_si, if_neg (by omega)]; exact e3
  have a4 : hp_i g0 (m + 21) i = nI (vs N i) := by rw [← hg0, hp_i_si, if_neg (by omega)]; exact e4
  rw [hp0.2.2.2.2.2.2.1, if_neg (fun z => by have := (nI_eq (by omega) (by omega)).mp z; omega)]
  refine pw_bind (pw_mono (M_worth (e := env P N i) (w := 1) hs0 ok hp0 hr (by decide) hi a1 a2 a3 a4 rfl) ?_)
  rintro ⟨v1, g1⟩ ⟨hv1, H1⟩
  dsimp only at hv1 H1 ⊢
  have hs1 := MS_fr H1 hs0
  have hp1 : PM P m g1 := PM_ag (fun a k hk => hf_i H1 (by unfold F_PM at hk; unfold S_pile; omega)) hp0
  have b1 : hp_i g1 m 51 = nI (se P N) := by rw [hf_i H1 (by unfold S_pile; omega)]; exact a1
  have b2 : hp_i g1 (m + 20) i = nI (hd N i) := by rw [hf_i H1 (by unfold S_pile; omega)]; exact a2
  have b3 : hp_i g1 m 52 = nI (dy N) := by rw [hf_i H1 (by unfold S_pile; omega)]; exact a3
  have b4 : hp_i g1 (m + 21) i = nI (vs N i) := by rw [hf_i H1 (by unfold S_pile; omega)]; exact a4
  have hmk : ((1 : Int32) <<< ((hp_i g1 m 28) &&& 31)) - (1 : Int32) = nI (al P) := by
    rw [hp1.1]; unfold al
    rcases ok.1 with h1 | h1 <;> rw [h1] <;> decide
  have hol : v1 &&& nI (al P) = nI (oL P N i) := by
    rw [va_mask ok, hv1]; unfold oL; rw [hru, if_pos hr]
  rw [hmk, hol]
  refine pw_bind (pw_mono (M_worth (e := env P N i) (w := 2) hs1 ok hp1 hr (by decide) hi b1 b2 b3 b4 rfl) ?_)
  rintro ⟨v2, g2⟩ ⟨hv2, H2⟩
  dsimp only at hv2 H2 ⊢
  have hs2 := MS_fr H2 hs1
  have hp2 : PM P m g2 := PM_ag (fun a k hk => hf_i H2 (by unfold F_PM at hk; unfold S_pile; omega)) hp1
  have c1 : hp_i g2 m 51 = nI (se P N) := by rw [hf_i H2 (by unfold S_pile; omega)]; exact b1
  have HH : hp_fr (S_do m) h g2 := hp_fr_tr H0 (hp_fr_tr (hp_fr_mo H1 (by unfold S_pile S_do; omega)) (hp_fr_mo H2 (by unfold S_pile S_do; omega)))
  have hoh : (if v2 < 0 then 0 else if v2 ≤ 31 then v2 else 31) = nI (oH P N i) := by
    rw [← clp_v, hv2]; unfold oH; rw [hru, if_pos hr]
  have hos : oS P N i = p_rs P r := by unfold oS; rw [hru, if_pos hr]
  have l1 := oL_lt ok N i
  have l3 := oS_lt ok N i
  have l4 := se_lt P N
  have p12 := hp2.2.2.2.2.2.2.2.2.2.2.2.1 r hr
  rw [c1]
  have fin : ∀ b, b < 2 → b = (if oL P N i = se P N then 0 else 1) → pw (f_M_doRules_112 m (nI i) (nI r) (nI (oL P N i)) v2 (nI b) m g2) (Q_do P m N i h) := by
    intro b hb hbe
    refine pw_eq (x := (nI (oS P N i), hp_si (hp_si (hp_si g2 m 53 (nI b)) m 51 (nI (oL P N i))) (m + 20) i (nI (oH P N i)))) ?_ ⟨rfl, ?_, ?_, ?_, ?_, fun j h1 h2 => ?_⟩
    · unfold f_M_doRules_112
      rw [if_pos (z01 hb)]
      simp only [xx_lE, bn_si]
      rw [bn_o (mr_47 hs2)]
      have hrs : p_rs P r < 2 := by omega
      by_cases d1 : v2 < 0
      · rw [if_pos d1] at hoh
        rw [if_neg (fun z => (fa_of_lt d1).2.1 z)]
        simp (disch := omega) only [↓xx_lE, ↓reduceIte, ↓bn_si, ↓bn_sl, ↓bn_s, ↓bn_ms, hp_i_si, hp_l_si, hp_r_si, hp_n_si, hp_i_sl, hp_l_sl, hp_r_sl, hp_n_sl, hp_i_sr, hp_l_sr, hp_r_sr, hp_n_sr, iL, nI_clamp, hp_in_nI, nI_add, pk_mul, pk_sub, c_le, c_nle, c_lt, c_nlt, c_ne, c_m1, c_m1', ad_ne, ad_ne', ad_ne2, nar0, nar1, true_and, false_and, and_true, and_false, Nat.add_zero, Nat.zero_add, mn_20 hs2, ↓mb_18 hs2, mn_10 hs2, p12, z01, hos, ← hoh]
      · rw [if_neg d1] at hoh
        rw [if_pos (fa_of_nlt d1)]
        by_cases d2 : v2 ≤ 31
        · rw [if_pos d2] at hoh ⊢
          simp (disch := omega) only [↓xx_lE, ↓reduceIte, ↓bn_si, ↓bn_sl, ↓bn_s, ↓bn_ms, hp_i_si, hp_l_si, hp_r_si, hp_n_si, hp_i_sl, hp_l_sl, hp_r_sl, hp_n_sl, hp_i_sr, hp_l_sr, hp_r_sr, hp_n_sr, iL, nI_clamp, hp_in_nI, nI_add, pk_mul, pk_sub, c_le, c_nle, c_lt, c_nlt, c_ne, c_m1, c_m1', ad_ne, ad_ne', ad_ne2, nar0, nar1, true_and, false_and, and_true, and_false, Nat.add_zero, Nat.zero_add, mn_20 hs2, ↓mb_18 hs2, mn_10 hs2, p12, z01, hos, ← hoh]
        · rw [if_neg d2] at hoh ⊢
          simp (disch := omega) only [↓xx_lE, ↓reduceIte, ↓bn_si, ↓bn_sl, ↓bn_s, ↓bn_ms, hp_i_si, hp_l_si, hp_r_si, hp_n_si, hp_i_sl, hp_l_sl, hp_r_sl, hp_n_sl, hp_i_sr, hp_l_sr, hp_r_sr, hp_n_sr, iL, nI_clamp, hp_in_nI, nI_add, pk_mul, pk_sub, c_le, c_nle, c_lt, c_nlt, c_ne, c_m1, c_m1', ad_ne, ad_ne', ad_ne2, nar0, nar1, true_and, false_and, and_true, and_false, Nat.add_zero, Nat.zero_add, mn_20 hs2, ↓mb_18 hs2, mn_10 hs2, p12, z01, hos, ← hoh]
    · exact hf_si (hf_si (hf_si HH (by unfold S_do; omega)) (by unfold S_do; omega)) (by unfold S_do; omega)
    · simp [hp_i_si]
    · simp [hp_i_si, hbe]
    · simp [hp_i_si]
    · show hp_i (hp_si (hp_si (hp_si g2 m 53 (nI b)) m 51 (nI (oL P N i))) (m + 20) i (nI (oH P N i))) (m + 20) j = hp_i h (m + 20) j
      rw [hp_i_si, if_neg (by omega), hp_i_si, if_neg (by omega), hp_i_si, if_neg (by omega), hf_i H2 (by unfold S_pile; omega), hf_i H1 (by unfold S_pile; omega), ← hg0, hp_i_si, if_neg (by omega)]
  by_cases d : oL P N i = se P N
  · rw [if_pos (by rw [d])]; exact fin 0 (by decide) (by rw [if_pos d])
  · rw [if_neg (fun z => d ((nI_eq (by omega) (by omega)).mp z))]; exact fin 1 (by decide) (by rw [if_neg d])
theorem M_do {P : PT} {m i N : Nat} {h : HP} (hs : MS m h) (ok : POK P) (hp : PM P m h) (hi : i < p_nm P) (hc : CM m N h) : pw (f_M_doRules m (nI i) h) (Q_do P m N i h) := by
  have hnm := ok.2.2.2.2.2.1
  have hnu := ok.2.2.2.2.2.2.1
  have hfl := ok.2.2.1
  have hdy := dy_lt N
  have hi6 : i < 6 := by omega
  obtain ⟨c1, c2, c3⟩ := hc
  obtain ⟨d1, d2, d3⟩ := c3 i hi6
  have ent : ∃ g, f_M_doRules m (nI i) h = f_M_doRules_16 m (nI i) g ∧ hp_i g m 51 = nI (se P N) ∧ hp_fr (fun a k => a = m ∧ k = 51) h g := by
    unfold f_M_doRules
    rw [c2, hp.2.2.1]
    unfold se
    by_cases e : dy N = p_fl P
    · refine ⟨hp_si h m 51 0, ?_, ?_, hf_si (hp_fr_rf h) ⟨rfl, rfl⟩⟩
      · rw [if_pos (by rw [e]), xx_lE]
      · rw [if_pos e]; simp [hp_i_si]; rfl
    · refine ⟨h, ?_, ?_, hp_fr_rf h⟩
      · rw [if_neg (fun z => e ((nI_eq (by omega) (by omega)).mp z))]
      · rw [if_neg e]; exact c1
  obtain ⟨g, e0, e1, G⟩ := ent
  rw [e0]
  have G' : hp_fr (S_do m) h g := hp_fr_mo G (by unfold S_do; omega)
  have hp0 : PM P m g := PM_ag (fun a k hk => hf_i G (by unfold F_PM at hk; omega)) hp
  have e2 : hp_i g (m + 20) i = nI (hd N i) := by rw [hf_i G (by omega)]; exact d1
  have e3 : hp_i g m 52 = nI (dy N) := by rw [hf_i G (by omega)]; exact c2
  have e4 : hp_i g (m + 21) i = nI (vs N i) := by rw [hf_i G (by omega)]; exact d2
  unfold f_M_doRules_16 f_M_doRules_18
  refine pw_cnt (p_nu P) (fun r s => s.1 = nI r ∧ hp_fr (S_pile m) g s.2 ∧ ∀ k, k < r → rok P N i k = false) ?_ ?_ 0 _ (by omega) ⟨rfl, hp_fr_rf g, fun k hk => by omega⟩
  · rintro r ⟨v, g1⟩ hr ⟨rfl, H, hno⟩
    dsimp only at H ⊢
    have H' : hp_fr (S_do m) g g1 := hp_fr_mo H (by unfold S_pile S_do; omega)
    have hs1 := MS_fr H (MS_fr G hs)
    have hp1 : PM P m g1 := PM_ag (fun a k hk => hf_i H (by unfold F_PM at hk; unfold S_pile; omega)) hp0
    have b1 : hp_i g1 m 51 = nI (se P N) := by rw [hf_i H (by unfold S_pile; omega)]; exact e1
    have b2 : hp_i g1 (m + 20) i = nI (hd N i) := by rw [hf_i H (by unfold S_pile; omega)]; exact e2
    have b3 : hp_i g1 m 52 = nI (dy N) := by rw [hf_i H (by unfold S_pile; omega)]; exact e3
    have b4 : hp_i g1 (m + 21) i = nI (vs N i) := by rw [hf_i H (by unfold S_pile; omega)]; exact e4
    have p7 := hp1.2.2.2.2.2.2.1
    have p9 := hp1.2.2.2.2.2.2.2.2.1 i hi
    have p11 := hp1.2.2.2.2.2.2.2.2.2.2.1 r hr
    have hrr := (ok.2.2.2.2.2.2.2.2.2.2.1 r hr).1
    have hri := ok.2.2.2.2.2.2.2.2.2.1 i hi
    have hnr := ok.2.2.2.2.1
    unfold f_M_doRules_18b
    rw [p7, if_neg (nI_ge hr (by omega)), bn_o (mr_16 hs1), mn_8 hs1, if_pos (hp_in_nI (by omega) (by omega)), bn_o (mr_14 hs1), mn_6 hs1, if_pos (hp_in_nI hi6 (by omega)), nI_clamp (by omega), nI_clamp (by omega), p11, p9]
    refine pw_if (fun hc => ?_) (fun hc => ?_)
    · have hc : p_rr P r = p_ro P i := (nI_eq (by omega) (by omega)).mp hc
      refine pw_bind (pw_mono (M_worth (e := env P N i) (w := 0) hs1 ok hp1 hr (by decide) hi6 b1 b2 b3 b4 rfl) ?_)
      rintro ⟨v0, g0⟩ ⟨hv0, H0⟩
      dsimp only at hv0 H0 ⊢
      have hs0 := MS_fr H0 hs1
      have hpp : PM P m g0 := PM_ag (fun a k hk => hf_i H0 (by unfold F_PM at hk; unfold S_pile; omega)) hp1
      refine pw_if (fun hz => ?_) (fun hz => ?_)
      · refine pw_L (s := (nI (r + 1), g0)) ?_ ⟨rfl, hp_fr_tr H H0, fun k hk => ?_⟩
        · simp only [f_M_doRules_51, xx_lE, ← nI_succ]
        · by_cases hk2 : k = r
          · subst hk2; rw [hv0] at hz; simp only [Nat.add_zero] at hz; unfold rok; simp [hz]
          · exact hno k (by omega)
      · have hru : rul P N i = r := first_eq hr (by rw [hv0] at hz; simp only [Nat.add_zero] at hz; unfold rok; simp [hc, hz]) hno
        refine pw_map (pw_mono (M_do57 hs0 ok hpp hi6 hr hru (by rw [hf_i H0 (by unfold S_pile; omega)]; exact b1) (by rw [hf_i H0 (by unfold S_pile; omega)]; exact b2) (by rw [hf_i H0 (by unfold S_pile; omega)]; exact b3) (by rw [hf_i H0 (by unfold S_pile; omega)]; exact b4)) ?_)
        rintro ⟨v2, g2⟩ ⟨h1, h2, h3, h4, h5, h6⟩
        refine ⟨h1, hp_fr_tr G' (hp_fr_tr H' (hp_fr_tr (hp_fr_mo H0 (by unfold S_pile S_do; omega)) h2)), h3, h4, h5, fun j j1 j2 => ?_⟩
        rw [h6 j j1 j2, hf_i H0 (by unfold S_pile; omega), hf_i H (by unfold S_pile; omega), hf_i G (by omega)]
    · refine pw_L (s := (nI (r + 1), g1)) ?_ ⟨rfl, H, fun k hk => ?_⟩
      · simp only [f_M_doRules_51, xx_lE, ← nI_succ]
      · by_cases hk2 : k = r
        · subst hk2; rw [nI_eq (by omega) (by omega)] at hc; unfold rok; simp [hc]
        · exact hno k (by omega)
  · rintro ⟨v, g1⟩ ⟨rfl, H, hno⟩
    dsimp only at H ⊢
    have H' : hp_fr (S_do m) g g1 := hp_fr_mo H (by unfold S_pile S_do; omega)
    have p7 : hp_i g1 m 34 = nI (p_nu P) := by rw [hf_i H (by unfold S_pile; omega)]; exact hp0.2.2.2.2.2.2.1
    have hru : ¬ rul P N i < p_nu P := by unfold rul; rw [first_no hno]; omega
    refine pw_R (t := (nI 0, hp_si g1 m 53 0)) ?_ ⟨?_, hf_si (hp_fr_tr G' H') (by unfold S_do; omega), ?_, ?_, ?_, fun j j1 j2 => ?_⟩
    · unfold f_M_doRules_18b f_M_doRules_57
      rw [p7, if_pos (nI_le (Nat.le_refl _) (by omega))]
      simp only [xx_lE]
      rw [if_pos (by rw [hp_i_si, if_neg (by omega)]; exact p7.symm)]; rfl
    · unfold oS; rw [if_neg hru]
    · rw [hp_i_si, if_neg (by omega), hf_i H (by unfold S_pile; omega), e1]; unfold oL; rw [if_neg hru]
    · unfold oL; rw [if_neg hru, if_pos rfl]; simp [hp_i_si]; rfl
    · rw [hp_i_si, if_neg (by omega), hf_i H (by unfold S_pile; omega), e2]; unfold oH; rw [if_neg hru]
    · rw [hp_i_si, if_neg (by omega), hf_i H (by unfold S_pile; omega), hf_i G (by omega)]
def S_go (m : Nat) : Nat → Nat → Prop := fun a k => a = m ∧ (k = 51 ∨ k = 52 ∨ k = 53 ∨ k = 54) ∨ a = m + 19 ∨ a = m + 20 ∨ a = m + 21 ∨ a = m + 23
def rs3 (P : PT) (N i : Nat) : Nat := if oS P N i = 0 then 0 else if ab P (gn P N i) then 1 else 2
theorem gn_lm {P : PT} (ok : POK P) (N i : Nat) : lm (gn P N i) = oL P N i := ex_lm (oL_lt ok N i)
theorem gn_dy {P : PT} (ok : POK P) (N i : Nat) : dy (gn P N i) = if dy N + 1 < p_cy P then dy N + 1 else 0 := ex_dy (oL_lt ok N i) (dy1_lt ok N)
theorem gn_ow {P : PT} (ok : POK P) (N i : Nat) {j : Nat} (hj : j < 6) : ow (gn P N i) j = upN (ow N) i (oH P N i + 32 * (if vs N i < 3 then vs N i + 1 else 3) + 128) j := ex_ow (oL_lt ok N i) (dy1_lt ok N) (upN_lt (fun j _ => ow_lt N j) (by have := oH_lt P N i; have := vs1_lt N i; omega)) hj
theorem gn_ne {P : PT} (ok : POK P) (N i : Nat) {j : Nat} (hj : j < 6) (hn : j ≠ i) : hd (gn P N i) j = hd N j ∧ vs (gn P N i) j = vs N j ∧ be (gn P N i) j = be N j := by
  unfold hd vs be
  rw [gn_ow ok N i hj, upN_n hn]
  exact ⟨rfl, rfl, rfl⟩
theorem gn_self {P : PT} (ok : POK P) (N : Nat) {i : Nat} (hi : i < 6) : hd (gn P N i) i = oH P N i ∧ vs (gn P N i) i = (if vs N i < 3 then vs N i + 1 else 3) ∧ be (gn P N i) i = 1 := by
  have h2 := oH_lt P N i; have h3 := vs1_lt N i
  unfold hd be
  have e := gn_ow ok N i hi
  rw [upN_s] at e
  rw [e]
  refine ⟨by omega, ?_, by omega⟩
  show ow (gn P N i) i / 32 % 4 = _
  rw [e]; omega
theorem M_go {P : PT} {m i N : Nat} {h : HP} (hs : MS m h) (ok : POK P) (hp : PM P m h) (hi : i < p_nm P) (hc : CM m N h) (hdc : dy N < p_cy P) : pw (f_M_go m (nI i) h) (fun x => x.1 = nI (rs3 P N i) ∧ hp_fr (S_go m) h x.2 ∧ CM m (gn P N i) x.2 ∧ hp_i x.2 m 53 = nI (if oL P N i = se P N then 0 else 1) ∧ hp_i x.2 m 54 = nI (if oH P N i = hd N i then 0 else 1)) := by
  have hnm := ok.2.2.2.2.2.1
  have hcy := ok.2.1
  have hi6 : i < 6 := by omega
  obtain ⟨c1, c2, c3⟩ := id hc
  obtain ⟨d1, d2, d3⟩ := c3 i hi6
  have l1 := oH_lt P N i
  have l2 := hd_lt N i
  have l3 := vs_lt N i
  have l4 := oS_lt ok N i
  unfold f_M_go
  rw [bn_o (mr_47 hs), mn_20 hs, if_pos (hp_in_nI hi6 (by omega)), nI_clamp (by omega), d1, xx_lE]
  refine pw_bind (pw_mono (M_do hs ok hp hi hc) ?_)
  rintro ⟨v, g⟩ ⟨hv, H, q1, q2, q3, q4⟩
  dsimp only at hv H q1 q2 q3 q4 ⊢
  have hs1 := MS_fr H hs
  have hp1 : PM P m g := PM_ag (fun a k hk => hf_i H (by unfold F_PM at hk; unfold S_do; omega)) hp
  have r1 : hp_i g (m + 21) i = nI (vs N i) := by rw [hf_i H (by unfold S_do; omega)]; exact d2
  have r2 : hp_i g m 52 = nI (dy N) := by rw [hf_i H (by unfold S_do; omega)]; exact c2
  rw [bn_o (mr_47 hs1), mn_20 hs1, if_pos (hp_in_nI hi6 (by omega)), q3]
  have p2 := hp1.2.1
  have p6 := hp1.2.2.2.2.2.1
  have fin : ∀ b, b < 2 → b = (if oH P N i = hd N i then 0 else 1) → pw (f_M_go_29 m (nI i) v (nI b) m g) (fun x => x.1 = nI (rs3 P N i) ∧ hp_fr (S_go m) h x.2 ∧ CM m (gn P N i) x.2 ∧ hp_i x.2 m 53 = nI (if oL P N i = se P N then 0 else 1) ∧ hp_i x.2 m 54 = nI (if oH P N i = hd N i then 0 else 1)) := by
    intro b hb hbe
    let g4 := hp_si (hp_si (hp_si (hp_si g m 54 (nI b)) (m + 21) i (nI (if vs N i < 3 then vs N i + 1 else 3))) (m + 23) i (nI 1)) m 52 (nI (if dy N + 1 < p_cy P then dy N + 1 else 0))
    have hdv : nI (dy N + 1) - nI (dy N + 1) / nI (p_cy P) * nI (p_cy P) = nI (if dy N + 1 < p_cy P then dy N + 1 else 0) := by
      rw [pk_rem (by omega) (by omega) (by omega)]
      congr 1
      by_cases e : dy N + 1 < p_cy P
      · rw [if_pos e, Nat.mod_eq_of_lt e]
      · rw [if_neg e, show dy N + 1 = p_cy P by omega, Nat.mod_self]
    have hg4 : hp_fr (S_go m) h g4 := by
      have H' : hp_fr (S_go m) h g := hp_fr_mo H (by unfold S_do S_go; omega)
      exact hf_si (hf_si (hf_si (hf_si H' (by unfold S_go; omega)) (by unfold S_go; omega)) (by unfold S_go; omega)) (by unfold S_go; omega)
    have hcm : CM m (gn P N i) g4 := by
      refine ⟨?_, ?_, fun j hj => ?_⟩
      · rw [gn_lm ok, ← q1]; simp [g4, hp_i_si]
      · rw [gn_dy ok]; simp [g4, hp_i_si]
      · obtain ⟨s1, s2, s3⟩ := c3 j hj
        by_cases hji : j = i
        · subst hji
          obtain ⟨t1, t2, t3⟩ := gn_self ok N hj
          rw [t1, t2, t3]
          refine ⟨?_, ?_, ?_⟩
          · rw [← q3]; simp [g4, hp_i_si]
          · simp [g4, hp_i_si]
          · simp [g4, hp_i_si]
        · obtain ⟨t1, t2, t3⟩ := gn_ne ok N i hj hji
          rw [t1, t2, t3]
          refine ⟨?_, ?_, ?_⟩
          · rw [← s1, ← q4 j hj hji]; simp [g4, hp_i_si]
          · rw [← s2]; simp [g4, hp_i_si, hji]; rw [hf_i H (by unfold S_do; omega)]
          · rw [← s3]; simp [g4, hp_i_si, hji]; rw [hf_i H (by unfold S_do; omega)]
    have hall : f_M_isAll m g4 = some (nI (if ab P (gn P N i) then 1 else 0), g4) := M_isAll (MS_fr hg4 hs) ok (by rw [hf_i hg4 (by unfold S_go; omega)]; exact hp.2.2.2.2.2.1) (fun j hj => (hcm.2.2 j hj).2.2)
    have h59 : ∀ s0, s0 = nI (if vs N i < 3 then vs N i + 1 else 3) → pw (f_M_go_59 m (nI i) v s0 (nI i) (m + 21) (hp_si g m 54 (nI b))) (fun x => x.1 = nI (rs3 P N i) ∧ x.2 = g4) := by
      intro s0 hs0
      unfold f_M_go_59
      rw [hp_n_si, mn_21 hs1, if_pos (hp_in_nI hi6 (by omega)), nI_clamp (by omega), xx_lE, bn_si, bn_si, bn_o (mr_50 hs1)]
      rw [hp_n_si, hp_n_si, mn_23 hs1, if_pos (hp_in_nI hi6 (by omega)), xx_lE]
      have z1 : hp_i (hp_si (hp_si (hp_si g m 54 (nI b)) (m + 21) i s0) (m + 23) i (vp_nar .boolean 1)) m 29 = nI (p_cy P) := by rw [← p2]; simp [hp_i_si]
      have z2 : hp_i (hp_si (hp_si (hp_si g m 54 (nI b)) (m + 21) i s0) (m + 23) i (vp_nar .boolean 1)) m 52 = nI (dy N) := by rw [← r2]; simp [hp_i_si]
      rw [z1, z2, if_pos (by rw [show (0 : Int32) = nI 0 from rfl, c_ne (by omega) (by omega) (by decide)]; exact fun z => z), show (1 : Int32) = nI 1 from rfl, nI_add, hdv, xx_lE, nar1, hs0, hv]
      have hc2 : oS P N i = 0 ∨ oS P N i = 1 := by omega
      rcases hc2 with hc2 | hc2
      · rw [hc2, if_pos (show nI 0 = (0 : Int32) from rfl)]
        exact pw_some ⟨by unfold rs3; rw [if_pos hc2]; rfl, rfl⟩
      · rw [hc2, if_neg (by decide)]
        refine pw_bind (pw_eq hall ?_)
        have hrs : rs3 P N i = if ab P (gn P N i) then 1 else 2 := by unfold rs3; rw [if_neg (by omega)]
        rw [hrs]
        by_cases ha : ab P (gn P N i) = true
        · rw [if_pos ha, if_pos ha]
          exact pw_f (show ¬ nI 1 = (0 : Int32) by decide) (pw_some ⟨rfl, rfl⟩)
        · rw [if_neg ha, if_neg ha]
          exact pw_t rfl (pw_some ⟨rfl, rfl⟩)
    have done : pw (f_M_go_29 m (nI i) v (nI b) m g) (fun x => x.1 = nI (rs3 P N i) ∧ x.2 = g4) := by
      unfold f_M_go_29
      have z3 : hp_i (hp_si g m 54 (nI b)) (m + 21) i = nI (vs N i) := by rw [hp_i_si, if_neg (by omega)]; exact r1
      rw [if_pos (z01 hb), xx_lE, bn_si, bn_o (mr_48 hs1), bn_si, bn_o (mr_48 hs1), hp_n_si, mn_21 hs1, if_pos (hp_in_nI hi6 (by omega)), nI_clamp (by omega), z3]
      by_cases e : 3 ≤ vs N i
      · rw [if_pos (show (3 : Int32) ≤ nI (vs N i) from nI_le (a := 3) e (by omega))]
        exact h59 _ (by rw [if_neg (by omega)]; rfl)
      · rw [if_neg (show ¬ (3 : Int32) ≤ nI (vs N i) from nI_ge (b := 3) (by omega) (by decide)), bn_si, bn_o (mr_48 hs1), hp_n_si, mn_21 hs1, if_pos (hp_in_nI hi6 (by omega))]
        exact h59 _ (by rw [if_pos (by omega), nI_succ, z3])
    refine pw_mono done ?_
    rintro ⟨v, g'⟩ ⟨h1, h2⟩
    dsimp only at h1 h2
    rw [h2]
    refine ⟨h1, hg4, hcm, ?_, ?_⟩
    · rw [← q2]; simp [g4, hp_i_si]
    · rw [← hbe]; simp [g4, hp_i_si]
  by_cases d : oH P N i = hd N i
  · rw [if_pos (by rw [d])]; exact fin 0 (by decide) (by rw [if_pos d])
  · rw [if_neg (fun z => d ((nI_eq (by omega) (by omega)).mp z))]; exact fin 1 (by decide) (by rw [if_neg d])
