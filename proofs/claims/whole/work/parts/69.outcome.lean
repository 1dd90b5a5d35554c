/-! what comes of leading a man -/
theorem first_eq {p : Nat → Bool} {n r : Nat} (hr : r < n) (h1 : p r = true) (h2 : ∀ k, k < r → p k = false) : fa_first p n = r := by
  have a := fa_first_le p n
  have b := fa_first_no p n
  have c := fa_first_yes p n
  rcases Nat.lt_trichotomy (fa_first p n) r with h | h | h
  · have := c (by omega); rw [h2 _ h] at this; cases this
  · exact h
  · have := b r h; rw [h1] at this; cases this
theorem first_no {p : Nat → Bool} {n : Nat} (h2 : ∀ k, k < n → p k = false) : fa_first p n = n := by
  have a := fa_first_le p n
  have c := fa_first_yes p n
  rcases Nat.lt_or_eq_of_le a with h | h
  · have := c h; rw [h2 _ h] at this; cases this
  · exact h
def se (P : PT) (N : Nat) : Nat := if dy N = p_fl P then 0 else lm N
def env (P : PT) (N i : Nat) : Nat → Nat := fun j => if j = 1 then se P N else if j = 2 then hd N i else if j = 3 then dy N else if j = 4 then vs N i else p_nm P
def rok (P : PT) (N i : Nat) (r : Nat) : Bool := decide (p_rr P r = p_ro P i) && !decide (va P (env P N i) (3 * r) = 0)
def rul (P : PT) (N i : Nat) : Nat := fa_first (rok P N i) (p_nu P)
def al (P : PT) : Nat := if p_lc P = 2 then 3 else 1
def clp (v : Int32) : Nat := if v < 0 then 0 else if v ≤ 31 then v.toNatClampNeg else 31
def oL (P : PT) (N i : Nat) : Nat := if rul P N i < p_nu P then (va P (env P N i) (3 * rul P N i + 1)).toBitVec.toNat % 2 ^ p_lc P else se P N
def oH (P : PT) (N i : Nat) : Nat := if rul P N i < p_nu P then clp (va P (env P N i) (3 * rul P N i + 2)) else hd N i
def oS (P : PT) (N i : Nat) : Nat := if rul P N i < p_nu P then p_rs P (rul P N i) else 0
def oc (P : PT) (N i : Nat) : Nat := oL P N i + 4 * oH P N i + 128 * oS P N i + 256 * (if oL P N i = se P N then 0 else 1) + 512 * (if oH P N i = hd N i then 0 else 1)
def gn (P : PT) (N i : Nat) : Nat := ex (oL P N i) (if dy N + 1 < p_cy P then dy N + 1 else 0) (upN (ow N) i (oH P N i + 32 * (if vs N i < 3 then vs N i + 1 else 3) + 128))
def ab (P : PT) (N : Nat) : Bool := decide (∀ i, i < p_nm P → be N i = 1)
theorem se_lt (P : PT) (N : Nat) : se P N < 4 := by unfold se; have := lm_lt N; split <;> omega
theorem clp_lt (v : Int32) : clp v < 32 := by
  unfold clp
  by_cases h : v < 0
  · simp [h]
  · obtain ⟨j, h1, rfl⟩ := nI_of h
    rw [if_neg h, nI_clamp h1]
    by_cases h2 : nI j ≤ 31
    · rw [if_pos h2]; have := (nI_leI h1 (by decide : 31 < 2 ^ 31)).mp h2; omega
    · rw [if_neg h2]; omega
theorem clp_v (v : Int32) : nI (clp v) = if v < 0 then 0 else if v ≤ 31 then v else 31 := by
  unfold clp
  by_cases h : v < 0
  · simp only [h, if_true]; rfl
  · obtain ⟨j, h1, rfl⟩ := nI_of h
    rw [if_neg h, if_neg h, nI_clamp h1]
    by_cases h2 : nI j ≤ 31
    · rw [if_pos h2, if_pos h2]
    · rw [if_neg h2, if_neg h2]; rfl
theorem p_lc2 {P : PT} (ok : POK P) : 2 ^ p_lc P = al P + 1 ∧ (p_lc P = 1 ∨ p_lc P = 2) := by
  unfold al
  rcases ok.1 with h | h <;> rw [h] <;> exact ⟨by decide, by omega⟩
theorem oL_lt {P : PT} (ok : POK P) (N i : Nat) : oL P N i < 4 := by
  unfold oL
  have := se_lt P N
  split
  · have h := Nat.mod_lt (va P (env P N i) (3 * rul P N i + 1)).toBitVec.toNat (Nat.two_pow_pos (p_lc P))
    rcases ok.1 with h1 | h1 <;> rw [h1] at h ⊢ <;> omega
  · exact this
theorem oH_lt (P : PT) (N i : Nat) : oH P N i < 32 := by
  unfold oH; have := hd_lt N i; have := clp_lt (va P (env P N i) (3 * rul P N i + 2)); split <;> assumption
theorem oS_lt {P : PT} (ok : POK P) (N i : Nat) : oS P N i < 2 := by
  unfold oS
  split
  · rename_i h; exact (ok.2.2.2.2.2.2.2.2.2.2.1 _ h).2
  · decide
theorem oc_lt {P : PT} (ok : POK P) (N i : Nat) : oc P N i < 1024 := by
  have := oL_lt ok N i; have := oH_lt P N i; have := oS_lt ok N i
  unfold oc; split <;> split <;> omega
theorem va_mask {P : PT} (ok : POK P) (v : Int32) : v &&& nI (al P) = nI (v.toBitVec.toNat % 2 ^ p_lc P) := by
  refine pk_and v (p_lc P) ?_
  unfold al
  rcases ok.1 with h | h <;> rw [h] <;> decide
theorem X_allOn {P : PT} {q : Nat} {h : HP} (ok : POK P) (hp : PX P q h) : f_Pl_allOn q h = some (nI (al P), h) := by
  have p1 := hp.1
  unfold al
  rcases ok.1 with h1 | h1 <;> (rw [h1] at p1 ⊢; simp (disch := omega) only [f_Pl_allOn, ↓xx_lE, ↓reduceIte, ↓bn_si, ↓bn_sl, ↓bn_s, ↓bn_ms, hp_i_si, hp_l_si, hp_r_si, hp_n_si, hp_i_sl, hp_l_sl, hp_r_sl, hp_n_sl, hp_i_sr, hp_l_sr, hp_r_sr, hp_n_sr, iL, nI_clamp, hp_in_nI, nI_add, pk_mul, pk_sub, c_le, c_nle, c_lt, c_nlt, c_ne, c_m1, c_m1', ad_ne, ad_ne', ad_ne2, nar0, nar1, true_and, false_and, and_true, and_false, Nat.add_zero, Nat.zero_add, p1, Nat.reduceEqDiff])
theorem X_roleOf {P : PT} {q i : Nat} {h : HP} (hs : PSH q h) (ok : POK P) (hp : PX P q h) (hi : i < p_nm P) : f_Pl_roleOf q (nI i) h = some (nI (p_ro P i), h) := by
  have hnm := ok.2.2.2.2.2.1
  have p10 := hp.2.2.2.2.2.2.2.2.2.1 i hi
  simp (disch := omega) only [f_Pl_roleOf, ↓xx_lE, ↓reduceIte, ↓bn_si, ↓bn_sl, ↓bn_s, ↓bn_ms, hp_i_si, hp_l_si, hp_r_si, hp_n_si, hp_i_sl, hp_l_sl, hp_r_sl, hp_n_sl, hp_i_sr, hp_l_sr, hp_r_sr, hp_n_sr, iL, nI_clamp, hp_in_nI, nI_add, pk_mul, pk_sub, c_le, c_nle, c_lt, c_nlt, c_ne, c_m1, c_m1', ad_ne, ad_ne', ad_ne2, nar0, nar1, true_and, false_and, and_true, and_false, Nat.add_zero, Nat.zero_add, ↓pb_9 hs, pn_2 hs, p10]
theorem oc_bits : ∀ a, a < 4 → ∀ b, b < 32 → ∀ c, c < 2 → ∀ d, d < 2 → ∀ e, e < 2 → ((((nI (128 * c) ||| nI (256 * d)) ||| nI (512 * e)) ||| (nI b <<< ((2 : Int32) &&& 31))) ||| nI a) = nI (a + 4 * b + 128 * c + 256 * d + 512 * e) := by decide +kernel
theorem oc_bits0 : ∀ a, a < 4 → ∀ b, b < 32 → ((nI b <<< ((2 : Int32) &&& 31)) ||| nI a) = nI (a + 4 * b) := by decide +kernel
def S_oc (q : Nat) : Nat → Nat → Prop := fun a _ => a = q + 7 ∨ a = q + 8
theorem X_fin {P : PT} {q i r N : Nat} {h : HP} (hs : PSH q h) (ok : POK P) (hp : PX P q h) (hr : r < p_nu P) (hru : rul P N i = r) (he : ∀ j, 0 < j → j < 6 → hp_i h (q + 7) (j - 1) = nI (env P N i j)) : pw (f_Pl_outcome_118 q (nI (se P N)) (nI (hd N i)) (nI r) h) (fun x => x.1 = nI (oc P N i) ∧ hp_fr (S_oc q) h x.2) := by
  have hnu := ok.2.2.2.2.2.2.1
  unfold f_Pl_outcome_118
  refine pw_bind (pw_mono (X_value hs ok hp hr (w := 1) (by decide) he) ?_)
  rintro ⟨v1, g1⟩ ⟨hv1, H1⟩
  dsimp only at hv1 H1 ⊢
  have hp1 : PX P q g1 := PX_ag (fun a k hk => hf_i H1 (by unfold F_PX at hk; unfold S_st; omega)) hp
  rw [X_allOn ok hp1, Option.bind_some]
  simp only [xx_lE]
  refine pw_bind (pw_mono (X_value (PSH_fr H1 hs) ok hp1 hr (w := 2) (by decide) (fun j h1 h2 => by rw [hf_i H1 (by unfold S_st; omega)]; exact he j h1 h2)) ?_)
  rintro ⟨v2, g2⟩ ⟨hv2, H2⟩
  dsimp only at hv2 H2 ⊢
  have hg := PSH_fr H2 (PSH_fr H1 hs)
  have hp2 : PX P q g2 := PX_ag (fun a k hk => hf_i H2 (by unfold F_PX at hk; unfold S_st; omega)) hp1
  have p12 := hp2.2.2.2.2.2.2.2.2.2.2.2.1 r hr
  have hol : v1 &&& nI (al P) = nI (oL P N i) := by
    rw [va_mask ok, hv1]; unfold oL; rw [hru, if_pos hr]
  have hoh : (if (0 : Int32) < (if v2 < (31 : Int32) then v2 else (31 : Int32)) then (if v2 < (31 : Int32) then v2 else (31 : Int32)) else (0 : Int32)) = nI (oH P N i) := by
    unfold oH; rw [hru, if_pos hr, clp_v, ← hv2]
    simp only [Int32.lt_iff_toInt_lt, Int32.le_iff_toInt_le, show (31 : Int32).toInt = 31 from rfl, show (0 : Int32).toInt = 0 from rfl]
    by_cases c1 : v2.toInt < 0
    · rw [if_pos (show v2.toInt < 31 by omega), if_pos c1, if_neg (by omega)]
    · rw [if_neg c1]
      by_cases c2 : v2.toInt < 31
      · rw [if_pos c2, if_pos (show v2.toInt ≤ 31 by omega)]
        by_cases c3 : 0 < v2.toInt
        · rw [if_pos c3]
        · rw [if_neg c3]; exact Int32.toInt_inj.mp (by show (0 : Int) = _; omega)
      · rw [if_neg c2, if_pos (by decide)]
        by_cases c3 : v2.toInt ≤ 31
        · rw [if_pos c3]; exact Int32.toInt_inj.mp (by show (31 : Int) = _; omega)
        · rw [if_neg c3]
  rw [hol, hoh]
  have hos : oS P N i = p_rs P r := by unfold oS; rw [hru, if_pos hr]
  have l1 := oL_lt ok N i
  have l2 := oH_lt P N i
  have l3 := oS_lt ok N i
  have l4 := se_lt P N
  have l5 := hd_lt N i
  have HH : hp_fr (S_oc q) h g2 := hp_fr_mo (hp_fr_tr H1 H2) (by unfold S_st S_oc; omega)
  have key : ∀ c d e, c < 2 → d < 2 → e < 2 → oS P N i = c → (if oL P N i = se P N then 0 else 1) = d → (if oH P N i = hd N i then 0 else 1) = e → ((((nI (128 * c) ||| nI (256 * d)) ||| nI (512 * e)) ||| (nI (oH P N i) <<< ((2 : Int32) &&& 31))) ||| nI (oL P N i)) = nI (oc P N i) := by
    intro c d e hc hd he h1 h2 h3
    rw [oc_bits _ l1 _ l2 _ hc _ hd _ he]
    unfold oc; rw [h1, h2, h3]
  refine pw_eq (x := (nI (oc P N i), g2)) ?_ ⟨rfl, HH⟩
  rw [bn_o (pr_11 hg), pn_4 hg, if_pos (hp_in_nI (by omega) (by omega)), nI_clamp (by omega), p12]
  unfold f_Pl_outcome_167 f_Pl_outcome_181
  simp only [show (0 : Int32) = nI 0 from rfl, i_eq (show oL P N i < 2 ^ 31 by omega) (show se P N < 2 ^ 31 by omega), i_eq (show oH P N i < 2 ^ 31 by omega) (show hd N i < 2 ^ 31 by omega)]
  have hrs : p_rs P r = 0 ∨ p_rs P r = 1 := by omega
  rcases hrs with hrs | hrs <;> by_cases c2 : oL P N i = se P N <;> by_cases c3 : oH P N i = hd N i <;> (first | rw [hrs, if_pos rfl] | rw [hrs, if_neg (by decide)]) <;> (first | rw [if_pos c2] | rw [if_neg c2]) <;> (first | rw [if_pos c3] | rw [if_neg c3]) <;> congr 2
  · exact key 0 0 0 (by decide) (by decide) (by decide) (by omega) (by simp [c2]) (by simp [c3])
  · exact key 0 0 1 (by decide) (by decide) (by decide) (by omega) (by simp [c2]) (by simp [c3])
  · exact key 0 1 0 (by decide) (by decide) (by decide) (by omega) (by simp [c2]) (by simp [c3])
  · exact key 0 1 1 (by decide) (by decide) (by decide) (by omega) (by simp [c2]) (by simp [c3])
  · exact key 1 0 0 (by decide) (by decide) (by decide) (by omega) (by simp [c2]) (by simp [c3])
  · exact key 1 0 1 (by decide) (by decide) (by decide) (by omega) (by simp [c2]) (by simp [c3])
  · exact key 1 1 0 (by decide) (by decide) (by decide) (by omega) (by simp [c2]) (by simp [c3])
  · exact key 1 1 1 (by decide) (by decide) (by decide) (by omega) (by simp [c2]) (by simp [c3])
theorem X_outcome {P : PT} {q i N : Nat} {h : HP} (hs : PSH q h) (ok : POK P) (hp : PX P q h) (hi : i < p_nm P) (hN : N < 2 ^ 54) : pw (f_Pl_outcome q (lN N) (nI i) h) (fun x => x.1 = nI (oc P N i) ∧ hp_fr (S_oc q) h x.2) := by
  have hnm := ok.2.2.2.2.2.1
  have hnu := ok.2.2.2.2.2.2.1
  have l4 := se_lt P N
  have l5 := hd_lt N i
  have hdy := dy_lt N
  have ent : f_Pl_outcome q (lN N) (nI i) h = f_Pl_outcome_30 q (lN N) (nI i) (nI (p_ro P i)) (nI (dy N)) (nI (se P N)) h := by
    unfold f_Pl_outcome se
    rw [X_roleOf hs ok hp hi, bn_s, X_day hN, bn_s, hp.2.2.1, X_lamps, bn_s]
    by_cases hf : p_fl P = 99
    · rw [if_pos hf, if_neg (by rw [show (-1 : Int32) = -nI 1 from rfl, c_m1 (by decide) (by omega) (by decide)]; exact fun z => z), if_neg (by omega)]
    · have := ok.2.2.1
      rw [if_neg hf]
      by_cases hc : dy N = p_fl P
      · rw [if_pos (by rw [hc]), if_pos hc]; rfl
      · rw [if_neg (by rw [nI_eq (by omega) (by omega)]; exact hc), if_neg hc]
  rw [ent]
  have p6 := hp.2.2.2.2.2.1
  unfold f_Pl_outcome_30 f_Pl_outcome_87
  have hi6 : i < 6 := by omega
  simp (disch := omega) only [↓xx_lE, ↓reduceIte, ↓bn_si, ↓bn_sl, ↓bn_s, ↓bn_ms, hp_i_si, hp_l_si, hp_r_si, hp_n_si, hp_i_sl, hp_l_sl, hp_r_sl, hp_n_sl, hp_i_sr, hp_l_sr, hp_r_sr, hp_n_sr, iL, nI_clamp, hp_in_nI, nI_add, pk_mul, pk_sub, c_le, c_nle, c_lt, c_nlt, c_ne, c_m1, c_m1', ad_ne, ad_ne', ad_ne2, nar0, nar1, true_and, false_and, and_true, and_false, Nat.add_zero, Nat.zero_add, X_held hN hi6, X_vis hN hi6, ↓pb_15 hs, pn_7 hs, p6]
  refine pw_cnt (p_nu P) (fun r s => s.1 = nI r ∧ hp_fr (S_oc q) h s.2 ∧ (∀ j, 0 < j → j < 6 → hp_i s.2 (q + 7) (j - 1) = nI (env P N i j)) ∧ ∀ k, k < r → rok P N i k = false) ?_ ?_ 0 _ (by omega) ?_
  · rintro r ⟨v, g⟩ hr ⟨rfl, H, he, hno⟩
    dsimp only at H he ⊢
    have hg := PSH_fr H hs
    have hpg : PX P q g := PX_ag (fun a k hk => hf_i H (by unfold F_PX at hk; unfold S_oc; omega)) hp
    have p7 := hpg.2.2.2.2.2.2.1
    have p11 := hpg.2.2.2.2.2.2.2.2.2.2.1 r hr
    have hrr := (ok.2.2.2.2.2.2.2.2.2.2.1 r hr).1
    have hri := ok.2.2.2.2.2.2.2.2.2.1 i hi
    have hnr := ok.2.2.2.2.1
    unfold f_Pl_outcome_87b
    rw [p7, if_neg (nI_ge hr (by omega)), bn_o (pr_10 hg), pn_3 hg, if_pos (hp_in_nI (by omega) (by omega)), nI_clamp (by omega), p11]
    refine pw_if (fun hc => ?_) (fun hc => ?_)
    · have hc : p_rr P r = p_ro P i := (nI_eq (by omega) (by omega)).mp hc
      refine pw_bind (pw_mono (X_value hg ok hpg hr (w := 0) (by decide) he) ?_)
      rintro ⟨v0, g0⟩ ⟨hv0, H0⟩
      dsimp only at hv0 H0 ⊢
      have H0' : hp_fr (S_oc q) g g0 := hp_fr_mo H0 (by unfold S_st S_oc; omega)
      have hp0 : PX P q g0 := PX_ag (fun a k hk => hf_i H0 (by unfold F_PX at hk; unfold S_st; omega)) hpg
      have he0 : ∀ j, 0 < j → j < 6 → hp_i g0 (q + 7) (j - 1) = nI (env P N i j) := fun j h1 h2 => by rw [hf_i H0 (by unfold S_st; omega)]; exact he j h1 h2
      refine pw_if (fun hz => ?_) (fun hz => ?_)
      · refine pw_L (s := (nI (r + 1), g0)) ?_ ⟨rfl, hp_fr_tr H H0', he0, fun k hk => ?_⟩
        · simp only [f_Pl_outcome_206, xx_lE, ← nI_succ]
        · by_cases hk2 : k = r
          · subst hk2; rw [hv0] at hz; simp only [Nat.add_zero] at hz; unfold rok; simp [hz]
          · exact hno k (by omega)
      · have hru : rul P N i = r := first_eq hr (by rw [hv0] at hz; simp only [Nat.add_zero] at hz; unfold rok; simp [hc, hz]) hno
        refine pw_map (pw_mono (X_fin (PSH_fr H0 hg) ok hp0 hr hru he0) ?_)
        rintro ⟨v2, g2⟩ ⟨h1, h2⟩
        exact ⟨h1, hp_fr_tr H (hp_fr_tr H0' h2)⟩
    · refine pw_L (s := (nI (r + 1), g)) ?_ ⟨rfl, H, he, fun k hk => ?_⟩
      · simp only [f_Pl_outcome_206, xx_lE, ← nI_succ]
      · by_cases hk2 : k = r
        · subst hk2; rw [nI_eq (by omega) (by omega)] at hc; unfold rok; simp [hc]
        · exact hno k (by omega)
  · rintro ⟨v, g⟩ ⟨rfl, H, he, hno⟩
    dsimp only at H he ⊢
    have p7 : hp_i g q 6 = nI (p_nu P) := by rw [hf_i H (by unfold S_oc; omega)]; exact hp.2.2.2.2.2.2.1
    have hru : ¬ rul P N i < p_nu P := by unfold rul; rw [first_no hno]; omega
    refine pw_R (t := (nI (oc P N i), g)) ?_ ⟨rfl, H⟩
    unfold f_Pl_outcome_87b
    rw [p7, if_pos (nI_le (Nat.le_refl _) (by omega)), oc_bits0 _ l4 _ l5]
    unfold oc oL oH oS
    simp only [if_neg hru, if_true, Nat.mul_zero, Nat.add_zero]
  · refine ⟨rfl, ?_, fun j h1 h2 => ?_, fun k hk => by omega⟩
    · exact hf_si (hf_si (hf_si (hf_si (hf_si (hp_fr_rf h) (by unfold S_oc; omega)) (by unfold S_oc; omega)) (by unfold S_oc; omega)) (by unfold S_oc; omega)) (by unfold S_oc; omega)
    · have hj : j = 1 ∨ j = 2 ∨ j = 3 ∨ j = 4 ∨ j = 5 := by omega
      rcases hj with rfl | rfl | rfl | rfl | rfl <;> simp [hp_i_si, env]
