/-! logged, last -/
theorem LG_x {P : PT} {n tm x m : Nat} {dd mm tt uu : Nat → Nat} {h : HP} (hl : LGE P n tm dd mm tt uu x m h) (ok : POK P) : n ≤ 60 ∧ (∀ j, j < n → dd j < 100 ∧ mm j < 6 ∧ uu j < 2 ^ 30) ∧ LGX n dd mm tt uu x h ∧ LGM n dd mm tt uu m h ∧ ∀ j, j < n → mm j < p_nm P := by
  have hnm := ok.2.2.2.2.2.1
  obtain ⟨l1, l2, l3, l4, l5, l6, l7⟩ := hl
  refine ⟨l1, fun j hj => ?_, ⟨l3, fun k hk => ?_⟩, ⟨l5, fun k hk => ?_⟩, fun j hj => (l7 j hj).2.1⟩
  · obtain ⟨a1, a2, a3, a4, _⟩ := l7 j hj
    exact ⟨a1, by omega, by omega⟩
  · obtain ⟨a1, a2, a3, a4, a5, a6, a7, a8, a9, a10, a11, a12⟩ := l7 k hk
    exact ⟨a5, a6, a7, a8⟩
  · obtain ⟨a1, a2, a3, a4, a5, a6, a7, a8, a9, a10, a11, a12⟩ := l7 k hk
    exact ⟨a9, a10, a11, a12⟩
theorem LGM_fr {n x m : Nat} {dd mm tt uu : Nat → Nat} {h h' : HP} (hm : m = x + 41) (H : hp_fr (S_ga x) h h') (hl : LGM n dd mm tt uu m h) : LGM n dd mm tt uu m h' := by
  refine ⟨?_, fun k hk => ?_⟩
  · rw [hf_i H (by unfold S_ga; omega)]; exact hl.1
  · obtain ⟨k1, k2, k3, k4⟩ := hl.2 k hk
    refine ⟨?_, ?_, ?_, ?_⟩
    all_goals rw [hf_i H (by unfold S_ga; omega)]
    all_goals assumption
theorem mO_lt {dd mm tt uu : Nat → Nat} {v : Int32} {d b : Nat} : ∀ n, (∀ j, j < n → mm j < b) → mO dd mm tt uu v d n ≤ b := by
  intro n
  induction n with
  | zero => intro _; exact Nat.zero_le _
  | succ n ih =>
    intro hm
    rw [mO_s]
    split
    · exact hm n (by omega)
    · exact ih (fun j hj => hm j (by omega))
def S_lg (x m : Nat) : Nat → Nat → Prop := fun a k => S_ga x a k ∨ S_ll m a k
theorem lg_keep {P : PT} {q x m : Nat} {h h' : HP} (hb : BAS P q x m h) (H : hp_fr (S_lg x m) h h') : BAS P q x m h' ∧ hp_fr (S_ez x m) h h' := by
  have hm := bm hb
  refine ⟨BAS_mk hb H (by unfold F_core F_PM S_lg S_ga S_ll; omega) (TP_fr H (by unfold F_TP S_lg S_ga S_ll; omega) (bT hb)) (FL_fr H (by unfold F_FL S_lg S_ga S_ll; omega) (bF hb)) (CR_fr H (by unfold F_CCX F_CMM S_lg S_ga S_ll; omega) (bC hb)) (BX_fr H (by unfold F_BX S_lg S_ga S_ll; omega) (bB hb)) (LG_fr H (by unfold F_LG S_lg S_ga S_ll; omega) (bL hb)), hp_fr_mo H (by unfold S_ez S_lg S_ga S_ll; omega)⟩
/-- whom all days up to d tell of, as bits -/
def sn (mo : Nat → Nat) : Nat → Nat
  | 0 => 0
  | d + 1 => if mo d = 0 then sn mo d else sn mo d ||| 2 ^ (mo d - 1)
theorem sn_lt {mo : Nat → Nat} (h : ∀ d, mo d ≤ 6) : ∀ d, sn mo d < 64 := by
  intro d
  induction d with
  | zero => show 0 < 64; decide
  | succ d ih =>
    unfold sn
    split
    · exact ih
    · have := h d
      exact Nat.or_lt_two_pow (n := 6) ih (Nat.pow_lt_pow_right (by decide) (by omega))
def wn (mo : Nat → Nat) (W : Nat) : Nat := fa_first (fun d => decide (sn mo (d + 1) = W)) 100
theorem two_sub {a : Nat} (h : a < 31) : nI (2 ^ a) - nI 1 = nI (2 ^ a - 1) := pk_sub (Nat.one_le_two_pow)
theorem X_day53 {x d W : Nat} {mo : Nat → Nat} {g : HP} {A : Nat} (hA : A < 2 ^ 31) (hW : W < 2 ^ 31) : f_Lo_dayByWhichAll_53 x (nI W) (nI A) (nI d) g = some (if A = W then .inr (nI d, g) else .inl (nI A, nI (d + 1), g)) := by
  by_cases h : A = W
  · subst h; simp (disch := omega) only [f_Lo_dayByWhichAll_53, ↓xx_lE, ↓reduceIte, ↓bn_si, ↓bn_sl, ↓bn_s, ↓bn_ms, hp_i_si, hp_l_si, hp_r_si, hp_n_si, hp_i_sl, hp_l_sl, hp_r_sl, hp_n_sl, hp_i_sr, hp_l_sr, hp_r_sr, hp_n_sr, iL, nI_clamp, hp_in_nI, nI_add, pk_mul, pk_sub, c_le, c_nle, c_lt, c_nlt, c_ne, c_m1, c_m1', ad_ne, ad_ne', ad_ne2, nar0, nar1, true_and, false_and, and_true, and_false, Nat.add_zero, Nat.zero_add]
  · simp (disch := omega) only [f_Lo_dayByWhichAll_53, ↓xx_lE, ↓reduceIte, ↓bn_si, ↓bn_sl, ↓bn_s, ↓bn_ms, hp_i_si, hp_l_si, hp_r_si, hp_n_si, hp_i_sl, hp_l_sl, hp_r_sl, hp_n_sl, hp_i_sr, hp_l_sr, hp_r_sr, hp_n_sr, iL, nI_clamp, hp_in_nI, nI_add, pk_mul, pk_sub, c_le, c_nle, c_lt, c_nlt, c_ne, c_m1, c_m1', ad_ne, ad_ne', ad_ne2, nar0, nar1, true_and, false_and, and_true, and_false, Nat.add_zero, Nat.zero_add, h]
theorem X_when {x nm : Nat} {mo : Nat → Nat} {g : HP} (hs : XS x g) (hnm : nm ≤ 6) (hmo : ∀ d, mo d ≤ 6) (e : ∀ d, d < 100 → hp_i g (x + 39) d = utv (mo d)) : f_Lo_dayByWhichAll_17 (x + 34) (nI (2 ^ nm - 1)) (nI 0) (nI 0) g = some (if nm = 0 then -nI 1 else if wn mo (2 ^ nm - 1) < 100 then nI (wn mo (2 ^ nm - 1)) else -nI 1, g) := by
  have hW : 2 ^ nm ≤ 64 := Nat.pow_le_pow_right (n := 2) (by decide) hnm
  have hW1 : 1 ≤ 2 ^ nm := Nat.one_le_two_pow
  have key : pw (f_Lo_dayByWhichAll_17 (x + 34) (nI (2 ^ nm - 1)) (nI 0) (nI 0) g) (fun r => r = (if nm = 0 then -nI 1 else if wn mo (2 ^ nm - 1) < 100 then nI (wn mo (2 ^ nm - 1)) else -nI 1, g)) := by
    unfold f_Lo_dayByWhichAll_17
    by_cases h0 : nm = 0
    · subst h0
      refine pw_inr (t := (-nI 1, g)) ?_ (by rw [if_pos rfl])
      simp (disch := omega) only [f_Lo_dayByWhichAll_17b, ↓xx_lE, ↓reduceIte, ↓bn_si, ↓bn_sl, ↓bn_s, ↓bn_ms, hp_i_si, hp_l_si, hp_r_si, hp_n_si, hp_i_sl, hp_l_sl, hp_r_sl, hp_n_sl, hp_i_sr, hp_l_sr, hp_r_sr, hp_n_sr, iL, nI_clamp, hp_in_nI, nI_add, pk_mul, pk_sub, c_le, c_nle, c_lt, c_nlt, c_ne, c_m1, c_m1', ad_ne, ad_ne', ad_ne2, nar0, nar1, true_and, false_and, and_true, and_false, Nat.add_zero, Nat.zero_add, Nat.pow_zero, Nat.sub_self]
    · have hW2 : 2 ≤ 2 ^ nm := by
        have := Nat.pow_le_pow_right (n := 2) (by decide) (show 1 ≤ nm by omega)
        omega
      refine pw_cnt 100 (fun d s => s = (nI (sn mo d), nI d, g) ∧ ∀ k, k < d → sn mo (k + 1) ≠ 2 ^ nm - 1) ?_ ?_ 0 _ (by omega) ⟨rfl, fun k hk => by omega⟩
      · rintro d s hd ⟨rfl, hk⟩
        have hsn := sn_lt hmo d
        have hsn1 := sn_lt hmo (d + 1)
        have hm6 := hmo d
        have st : f_Lo_dayByWhichAll_17b (x + 34) (nI (2 ^ nm - 1)) (nI (sn mo d)) (nI d) g = f_Lo_dayByWhichAll_53 (x + 34) (nI (2 ^ nm - 1)) (nI (sn mo (d + 1))) (nI d) g := by
          have e1 := e d hd
          by_cases hm : mo d = 0
          · rw [hm, utv0] at e1
            have : sn mo (d + 1) = sn mo d := by rw [sn, if_pos hm]
            rw [this]
            simp (disch := omega) only [f_Lo_dayByWhichAll_17b, ↓xx_lE, ↓reduceIte, ↓bn_si, ↓bn_sl, ↓bn_s, ↓bn_ms, hp_i_si, hp_l_si, hp_r_si, hp_n_si, hp_i_sl, hp_l_sl, hp_r_sl, hp_n_sl, hp_i_sr, hp_l_sr, hp_r_sr, hp_n_sr, iL, nI_clamp, hp_in_nI, nI_add, pk_mul, pk_sub, c_le, c_nle, c_lt, c_nlt, c_ne, c_m1, c_m1', ad_ne, ad_ne', ad_ne2, nar0, nar1, true_and, false_and, and_true, and_false, Nat.add_zero, Nat.zero_add, ↓xb_34_6 hs, xn_39 hs, e1]
          · rw [utv_s (by omega)] at e1
            have : sn mo (d + 1) = sn mo d ||| 2 ^ (mo d - 1) := by rw [sn, if_neg hm]
            rw [this]
            simp (disch := omega) only [f_Lo_dayByWhichAll_17b, ↓xx_lE, ↓reduceIte, ↓bn_si, ↓bn_sl, ↓bn_s, ↓bn_ms, hp_i_si, hp_l_si, hp_r_si, hp_n_si, hp_i_sl, hp_l_sl, hp_r_sl, hp_n_sl, hp_i_sr, hp_l_sr, hp_r_sr, hp_n_sr, iL, nI_clamp, hp_in_nI, nI_add, pk_mul, pk_sub, c_le, c_nle, c_lt, c_nlt, c_ne, c_m1, c_m1', ad_ne, ad_ne', ad_ne2, nar0, nar1, true_and, false_and, and_true, and_false, Nat.add_zero, Nat.zero_add, ↓xb_34_6 hs, xn_39 hs, e1, sh1, fa_or]
        refine pw_rw st (pw_rw (X_day53 (mo := mo) (by omega) (by omega)) (pw_some ?_))
        by_cases hw : sn mo (d + 1) = 2 ^ nm - 1
        · rw [if_pos hw]
          have hf : wn mo (2 ^ nm - 1) = d := first_eq (n := 100) hd (decide_eq_true hw) (fun k hk2 => decide_eq_false (hk k hk2))
          show _ = _
          rw [if_neg h0, hf, if_pos hd]
        · rw [if_neg hw]
          exact ⟨rfl, fun k hk2 => by
            by_cases hkd : k = d
            · rw [hkd]; exact hw
            · exact hk k (by omega)⟩
      · rintro s ⟨rfl, hk⟩
        refine pw_R (t := (-nI 1, g)) ?_ ?_
        · simp (disch := omega) only [f_Lo_dayByWhichAll_17b, ↓xx_lE, ↓reduceIte, ↓bn_si, ↓bn_sl, ↓bn_s, ↓bn_ms, hp_i_si, hp_l_si, hp_r_si, hp_n_si, hp_i_sl, hp_l_sl, hp_r_sl, hp_n_sl, hp_i_sr, hp_l_sr, hp_r_sr, hp_n_sr, iL, nI_clamp, hp_in_nI, nI_add, pk_mul, pk_sub, c_le, c_nle, c_lt, c_nlt, c_ne, c_m1, c_m1', ad_ne, ad_ne', ad_ne2, nar0, nar1, true_and, false_and, and_true, and_false, Nat.add_zero, Nat.zero_add]
        · have hf : wn mo (2 ^ nm - 1) = 100 := first_no (fun k hk2 => decide_eq_false (hk k hk2))
          rw [if_neg h0, hf, if_neg (by omega)]
  obtain ⟨y, hy, rfl⟩ := key
  exact hy
theorem M_69 {m d nm A B : Nat} {g : HP} (h33 : hp_i g m 33 = nI nm) (hnm : nm ≤ 6) (hA : A ||| B < 2 ^ 31) : f_M_logged_69 m (nI d) (nI B) (nI A) g = some (if (A ||| B) = 2 ^ nm - 1 then .inr (nI d, g) else .inl (nI (A ||| B), nI (d + 1), g)) := by
  have hW : 2 ^ nm ≤ 64 := Nat.pow_le_pow_right (n := 2) (by decide) hnm
  have hW1 : 1 ≤ 2 ^ nm := Nat.one_le_two_pow
  by_cases h : (A ||| B) = 2 ^ nm - 1
  · simp (disch := omega) only [f_M_logged_69, ↓xx_lE, ↓reduceIte, ↓bn_si, ↓bn_sl, ↓bn_s, ↓bn_ms, hp_i_si, hp_l_si, hp_r_si, hp_n_si, hp_i_sl, hp_l_sl, hp_r_sl, hp_n_sl, hp_i_sr, hp_l_sr, hp_r_sr, hp_n_sr, iL, nI_clamp, hp_in_nI, nI_add, pk_mul, pk_sub, c_le, c_nle, c_lt, c_nlt, c_ne, c_m1, c_m1', ad_ne, ad_ne', ad_ne2, nar0, nar1, true_and, false_and, and_true, and_false, Nat.add_zero, Nat.zero_add, h33, sh1, fa_or, h, two_sub]
  · simp (disch := omega) only [f_M_logged_69, ↓xx_lE, ↓reduceIte, ↓bn_si, ↓bn_sl, ↓bn_s, ↓bn_ms, hp_i_si, hp_l_si, hp_r_si, hp_n_si, hp_i_sl, hp_l_sl, hp_r_sl, hp_n_sl, hp_i_sr, hp_l_sr, hp_r_sr, hp_n_sr, iL, nI_clamp, hp_in_nI, nI_add, pk_mul, pk_sub, c_le, c_nle, c_lt, c_nlt, c_ne, c_m1, c_m1', ad_ne, ad_ne', ad_ne2, nar0, nar1, true_and, false_and, and_true, and_false, Nat.add_zero, Nat.zero_add, h33, sh1, fa_or, h, two_sub]
theorem M_when {m nm : Nat} {mo : Nat → Nat} {g : HP} (hs : MS m g) (h33 : hp_i g m 33 = nI nm) (hnm : nm ≤ 6) (hmo : ∀ d, mo d ≤ 6) (e : ∀ d, d < 100 → hp_i g (m + 45) d = utv (mo d)) : f_M_logged_30 m (nI 0) (nI 0) g = some (if nm = 0 then -nI 1 else if wn mo (2 ^ nm - 1) < 100 then nI (wn mo (2 ^ nm - 1)) else -nI 1, g) := by
  have hW : 2 ^ nm ≤ 64 := Nat.pow_le_pow_right (n := 2) (by decide) hnm
  have hW1 : 1 ≤ 2 ^ nm := Nat.one_le_two_pow
  have key : pw (f_M_logged_30 m (nI 0) (nI 0) g) (fun r => r = (if nm = 0 then -nI 1 else if wn mo (2 ^ nm - 1) < 100 then nI (wn mo (2 ^ nm - 1)) else -nI 1, g)) := by
    unfold f_M_logged_30
    by_cases h0 : nm = 0
    · subst h0
      refine pw_inr (t := (-nI 1, g)) ?_ (by rw [if_pos rfl])
      simp (disch := omega) only [f_M_logged_30b, ↓xx_lE, ↓reduceIte, ↓bn_si, ↓bn_sl, ↓bn_s, ↓bn_ms, hp_i_si, hp_l_si, hp_r_si, hp_n_si, hp_i_sl, hp_l_sl, hp_r_sl, hp_n_sl, hp_i_sr, hp_l_sr, hp_r_sr, hp_n_sr, iL, nI_clamp, hp_in_nI, nI_add, pk_mul, pk_sub, c_le, c_nle, c_lt, c_nlt, c_ne, c_m1, c_m1', ad_ne, ad_ne', ad_ne2, nar0, nar1, true_and, false_and, and_true, and_false, Nat.add_zero, Nat.zero_add, h33]
    · refine pw_cnt 100 (fun d s => s = (nI (sn mo d), nI d, g) ∧ ∀ k, k < d → sn mo (k + 1) ≠ 2 ^ nm - 1) ?_ ?_ 0 _ (by omega) ⟨rfl, fun k hk => by omega⟩
      · rintro d s hd ⟨rfl, hk⟩
        have hsn := sn_lt hmo d
        have hsn1 := sn_lt hmo (d + 1)
        have hm6 := hmo d
        have st : f_M_logged_30b m (nI (sn mo d)) (nI d) g = some (if sn mo (d + 1) = 2 ^ nm - 1 then .inr (nI d, g) else .inl (nI (sn mo (d + 1)), nI (d + 1), g)) := by
          have e1 := e d hd
          by_cases hm : mo d = 0
          · rw [hm, utv0] at e1
            have : sn mo (d + 1) = sn mo d ||| 0 := by rw [sn, if_pos hm, Nat.or_zero]
            rw [this] at hsn1 ⊢
            rw [← M_69 h33 hnm (by omega)]
            simp (disch := omega) only [f_M_logged_30b, ↓xx_lE, ↓reduceIte, ↓bn_si, ↓bn_sl, ↓bn_s, ↓bn_ms, hp_i_si, hp_l_si, hp_r_si, hp_n_si, hp_i_sl, hp_l_sl, hp_r_sl, hp_n_sl, hp_i_sr, hp_l_sr, hp_r_sr, hp_n_sr, iL, nI_clamp, hp_in_nI, nI_add, pk_mul, pk_sub, c_le, c_nle, c_lt, c_nlt, c_ne, c_m1, c_m1', ad_ne, ad_ne', ad_ne2, nar0, nar1, true_and, false_and, and_true, and_false, Nat.add_zero, Nat.zero_add, ↓mb_83 hs, mn_45 hs, h33, e1, ng_lt0]
          · rw [utv_s (by omega)] at e1
            have : sn mo (d + 1) = sn mo d ||| 2 ^ (mo d - 1) := by rw [sn, if_neg hm]
            rw [this] at hsn1 ⊢
            rw [← M_69 h33 hnm (by omega)]
            simp (disch := omega) only [f_M_logged_30b, ↓xx_lE, ↓reduceIte, ↓bn_si, ↓bn_sl, ↓bn_s, ↓bn_ms, hp_i_si, hp_l_si, hp_r_si, hp_n_si, hp_i_sl, hp_l_sl, hp_r_sl, hp_n_sl, hp_i_sr, hp_l_sr, hp_r_sr, hp_n_sr, iL, nI_clamp, hp_in_nI, nI_add, pk_mul, pk_sub, c_le, c_nle, c_lt, c_nlt, c_ne, c_m1, c_m1', ad_ne, ad_ne', ad_ne2, nar0, nar1, true_and, false_and, and_true, and_false, Nat.add_zero, Nat.zero_add, ↓mb_83 hs, mn_45 hs, h33, e1, sh1]
        refine pw_rw st (pw_some ?_)
        by_cases hw : sn mo (d + 1) = 2 ^ nm - 1
        · rw [if_pos hw]
          have hf : wn mo (2 ^ nm - 1) = d := first_eq (n := 100) hd (decide_eq_true hw) (fun k hk2 => decide_eq_false (hk k hk2))
          show _ = _
          rw [if_neg h0, hf, if_pos hd]
        · rw [if_neg hw]
          exact ⟨rfl, fun k hk2 => by
            by_cases hkd : k = d
            · rw [hkd]; exact hw
            · exact hk k (by omega)⟩
      · rintro s ⟨rfl, hk⟩
        refine pw_R (t := (-nI 1, g)) ?_ ?_
        · simp (disch := omega) only [f_M_logged_30b, ↓xx_lE, ↓reduceIte, ↓bn_si, ↓bn_sl, ↓bn_s, ↓bn_ms, hp_i_si, hp_l_si, hp_r_si, hp_n_si, hp_i_sl, hp_l_sl, hp_r_sl, hp_n_sl, hp_i_sr, hp_l_sr, hp_r_sr, hp_n_sr, iL, nI_clamp, hp_in_nI, nI_add, pk_mul, pk_sub, c_le, c_nle, c_lt, c_nlt, c_ne, c_m1, c_m1', ad_ne, ad_ne', ad_ne2, nar0, nar1, true_and, false_and, and_true, and_false, Nat.add_zero, Nat.zero_add]
        · have hf : wn mo (2 ^ nm - 1) = 100 := first_no (fun k hk2 => decide_eq_false (hk k hk2))
          rw [if_neg h0, hf, if_neg (by omega)]
  obtain ⟨y, hy, rfl⟩ := key
  exact hy
theorem X_clash {x : Nat} {a : Nat → Nat} {g : HP} (hs : XS x g) (ha : ∀ d, d < 100 → a d < 64) (e : ∀ d, d < 100 → hp_i g (x + 40) d = nI (a d)) : f_Lo_clashes_9 (x + 34) (nI 0) (nI 0) g = some (nI (fb_ct (fun d => decide (1 < bc (a d))) 100), g) := by
  let p : Nat → Bool := fun d => decide (1 < bc (a d))
  have key : pw (f_Lo_clashes_9 (x + 34) (nI 0) (nI 0) g) (fun r => r = (nI (fb_ct p 100), g)) := by
    unfold f_Lo_clashes_9
    refine pw_cnt 100 (fun d s => s = (nI (fb_ct p d), nI d, g)) ?_ ?_ 0 _ (by omega) rfl
    · rintro d s hd rfl
      have hct := fb_ct_le p d
      have hbc : bc (a d) ≤ 6 := by unfold bc; omega
      refine pw_L (s := (nI (fb_ct p (d + 1)), nI (d + 1), g)) ?_ rfl
      rw [fb_ct_succ]
      have e1 := e d hd
      by_cases hk : 1 < bc (a d)
      · have hp : p d = true := by simp only [p]; exact decide_eq_true hk
        simp (disch := omega) only [f_Lo_clashes_9b, f_Lo_clashes_31, ↓xx_lE, ↓reduceIte, ↓bn_si, ↓bn_sl, ↓bn_s, ↓bn_ms, hp_i_si, hp_l_si, hp_r_si, hp_n_si, hp_i_sl, hp_l_sl, hp_r_sl, hp_n_sl, hp_i_sr, hp_l_sr, hp_r_sr, hp_n_sr, iL, nI_clamp, hp_in_nI, nI_add, pk_mul, pk_sub, c_le, c_nle, c_lt, c_nlt, c_ne, c_m1, c_m1', ad_ne, ad_ne', ad_ne2, nar0, nar1, true_and, false_and, and_true, and_false, Nat.add_zero, Nat.zero_add, ↓xb_34_7 hs, xn_40 hs, e1, ↓bn_o (In_bc (ha d hd) g), hp]
      · have hp : p d = false := by simp only [p]; exact decide_eq_false hk
        simp (disch := omega) only [f_Lo_clashes_9b, f_Lo_clashes_31, ↓xx_lE, ↓reduceIte, ↓bn_si, ↓bn_sl, ↓bn_s, ↓bn_ms, hp_i_si, hp_l_si, hp_r_si, hp_n_si, hp_i_sl, hp_l_sl, hp_r_sl, hp_n_sl, hp_i_sr, hp_l_sr, hp_r_sr, hp_n_sr, iL, nI_clamp, hp_in_nI, nI_add, pk_mul, pk_sub, c_le, c_nle, c_lt, c_nlt, c_ne, c_m1, c_m1', ad_ne, ad_ne', ad_ne2, nar0, nar1, true_and, false_and, and_true, and_false, Nat.add_zero, Nat.zero_add, ↓xb_34_7 hs, xn_40 hs, e1, ↓bn_o (In_bc (ha d hd) g), hp, Bool.false_eq_true]
    · rintro s rfl
      refine pw_R (t := (nI (fb_ct p 100), g)) ?_ rfl
      simp (disch := omega) only [f_Lo_clashes_9b, ↓xx_lE, ↓reduceIte, ↓bn_si, ↓bn_sl, ↓bn_s, ↓bn_ms, hp_i_si, hp_l_si, hp_r_si, hp_n_si, hp_i_sl, hp_l_sl, hp_r_sl, hp_n_sl, hp_i_sr, hp_l_sr, hp_r_sr, hp_n_sr, iL, nI_clamp, hp_in_nI, nI_add, pk_mul, pk_sub, c_le, c_nle, c_lt, c_nlt, c_ne, c_m1, c_m1', ad_ne, ad_ne', ad_ne2, nar0, nar1, true_and, false_and, and_true, and_false, Nat.add_zero, Nat.zero_add]
  obtain ⟨y, hy, rfl⟩ := key
  exact hy
theorem op_logged {x m : Nat} (v w : Int32) : EZ (fun h => f_X_logged x v w h) (fun h => f_M_logged m v w h) x m := by
  intro P q h hb
  have hm := bm hb
  have ok := bok hb
  have hnm := ok.2.2.2.2.2.1
  have hxs := bxs hb
  obtain ⟨n, tm, dd, mm, tt, uu, hl⟩ := bL hb
  obtain ⟨l1, l2, l3, l4, l5⟩ := LG_x hl ok
  let mo : Nat → Nat := fun d => mO dd mm tt uu w d n
  have hmo : ∀ d, mo d ≤ 6 := fun d => mO_lt n (fun j hj => (l2 j hj).2.1)
  have h0 : ∀ {u : Int32}, u < 0 → ¬ u = 0 ∧ ¬ u = 1 := fun {u} hu => ⟨fun z => by rw [z] at hu; exact absurd hu (by decide), fun z => by rw [z] at hu; exact absurd hu (by decide)⟩
  rcases i_cases v with hv | ⟨c, hc, rfl⟩
  · exact EZ_id hb (v := -1) (by unfold f_X_logged; rw [if_neg (h0 hv).1, if_neg (h0 hv).2]) (by unfold f_M_logged; rw [if_pos hv])
  · by_cases hc1 : c ≤ 1
    · have hc2 : c = 0 ∨ c = 1 := by omega
      have Mf : ∀ g1, hp_fr (S_ga x) h g1 → pw (f_M_layLogs m w g1) (fun r => r.1 = nI (fb_ct (fun d => decide (kO dd mm tt uu w d n = 1)) 100) ∧ hp_fr (S_ll m) g1 r.2 ∧ ∀ d, d < 100 → hp_i r.2 (m + 45) d = utv (mO dd mm tt uu w d n)) := fun g1 H1 => M_layLogs (MS_fr H1 (bms hb)) l1 l2 (LGM_fr hm H1 l4)
      rcases hc2 with rfl | rfl
      · unfold f_X_logged f_M_logged f_Lo_dayByWhichAll
        dsimp only
        rw [if_pos (show nI 0 = (0 : Int32) from rfl), xb_0_7 hxs, bn_o (br3 hb), (bpx hb).2.2.2.2.2.1]
        refine pw_bind (pw_bind (pw_mono (Lo_gather hxs l1 l2 l3) ?_))
        rintro g1 ⟨H1, e1⟩
        rw [xx_lE]
        have ew : ((1 : Int32) <<< (nI (p_nm P) &&& 31)) - (1 : Int32) = nI (2 ^ p_nm P - 1) := by
          have := sh1 (show p_nm P < 31 by omega)
          rw [show (1 : Int32) = nI 1 from rfl, show (31 : Int32) = nI 31 from rfl, this, two_sub (by omega)]
        rw [ew]
        refine pw_eq (X_when (XS_fr H1 hxs) hnm hmo (fun d hd => (e1 d hd).1)) (pw_some ?_)
        dsimp only
        rw [if_neg (show ¬ nI 0 < (0 : Int32) by decide), if_pos (show nI 0 ≤ (1 : Int32) by decide)]
        refine pw_bind (pw_mono (Mf g1 H1) ?_)
        rintro ⟨r, g2⟩ ⟨rfl, H2, e2⟩
        dsimp only at H2 e2 ⊢
        rw [if_neg (show ¬ nI 0 = (1 : Int32) by decide)]
        have h33 : hp_i g2 m 33 = nI (p_nm P) := by rw [hf_i H2 (by unfold S_ll; omega), hf_i H1 (by unfold S_ga; omega)]; exact (bpm hb).2.2.2.2.2.1
        refine pw_eq (M_when (MS_fr H2 (MS_fr H1 (bms hb))) h33 hnm hmo e2) ⟨rfl, ?_⟩
        exact lg_keep hb (hp_fr_tr (hp_fr_mo H1 (fun a k hk => .inl hk)) (hp_fr_mo H2 (fun a k hk => .inr hk)))
      · unfold f_X_logged f_M_logged f_Lo_clashes
        dsimp only
        rw [if_neg (show ¬ nI 1 = (0 : Int32) by decide), if_pos (show nI 1 = (1 : Int32) from rfl), xb_0_7 hxs]
        refine pw_bind (pw_bind (pw_mono (Lo_gather hxs l1 l2 l3) ?_))
        rintro g1 ⟨H1, e1⟩
        have hR : ∀ d, R3 (mO dd mm tt uu w d n) (aO dd mm tt uu w d n) (kO dd mm tt uu w d n) = true := fun d => R3_all n (fun i hi => (l2 i (by omega)).2.1)
        refine pw_eq (X_clash (XS_fr H1 hxs) (fun d _ => (R3_mo (hR d)).2.1) (fun d hd => (e1 d hd).2)) (pw_some ?_)
        dsimp only
        rw [if_neg (show ¬ nI 1 < (0 : Int32) by decide), if_pos (show nI 1 ≤ (1 : Int32) by decide)]
        refine pw_bind (pw_mono (Mf g1 H1) ?_)
        rintro ⟨r, g2⟩ ⟨rfl, H2, e2⟩
        dsimp only at H2 e2 ⊢
        rw [if_pos (show nI 1 = (1 : Int32) from rfl)]
        refine pw_some ⟨?_, ?_⟩
        · dsimp only
          refine congrArg nI (fb_ct_cong (fun d _ => by
            have := R3_k (hR d)
            by_cases hk : 1 < bc (aO dd mm tt uu w d n)
            · rw [decide_eq_true hk, decide_eq_true (this.mpr hk)]
            · rw [decide_eq_false hk, decide_eq_false (fun z => hk (this.mp z))]))
        · exact lg_keep hb (hp_fr_tr (hp_fr_mo H1 (fun a k hk => .inl hk)) (hp_fr_mo H2 (fun a k hk => .inr hk)))
    · exact EZ_id hb (v := -nI 1) (by simp (disch := omega) only [f_X_logged, ↓xx_lE, ↓reduceIte, ↓bn_si, ↓bn_sl, ↓bn_s, ↓bn_ms, hp_i_si, hp_l_si, hp_r_si, hp_n_si, hp_i_sl, hp_l_sl, hp_r_sl, hp_n_sl, hp_i_sr, hp_l_sr, hp_r_sr, hp_n_sr, iL, nI_clamp, hp_in_nI, nI_add, pk_mul, pk_sub, c_le, c_nle, c_lt, c_nlt, c_ne, c_m1, c_m1', ad_ne, ad_ne', ad_ne2, nar0, nar1, true_and, false_and, and_true, and_false, Nat.add_zero, Nat.zero_add]) (by simp (disch := omega) only [f_M_logged, ↓xx_lE, ↓reduceIte, ↓bn_si, ↓bn_sl, ↓bn_s, ↓bn_ms, hp_i_si, hp_l_si, hp_r_si, hp_n_si, hp_i_sl, hp_l_sl, hp_r_sl, hp_n_sl, hp_i_sr, hp_l_sr, hp_r_sr, hp_n_sr, iL, nI_clamp, hp_in_nI, nI_add, pk_mul, pk_sub, c_le, c_nle, c_lt, c_nlt, c_ne, c_m1, c_m1', ad_ne, ad_ne', ad_ne2, nar0, nar1, true_and, false_and, and_true, and_false, Nat.add_zero, Nat.zero_add])
/-- the latest day that tells of a man, one more; none: 0 -/
def lt1 (mo : Nat → Nat) (i : Nat) : Nat → Nat
  | 0 => 0
  | d + 1 => if mo d = i + 1 then d + 1 else lt1 mo i d
theorem lt1_le (mo : Nat → Nat) (i : Nat) : ∀ d, lt1 mo i d ≤ d := by
  intro d
  induction d with
  | zero => exact Nat.le_refl _
  | succ d ih => unfold lt1; split <;> omega
theorem utv_i {u i : Nat} (hu : u ≤ 100) (hi : i < 100) : (utv u = nI i) = (u = i + 1) := by
  by_cases h : u = 0
  · subst h; rw [utv0]; exact (c_m1' (by decide) (by omega) (by decide)).trans (eq_false (by omega)).symm
  · rw [utv_s (by omega), i_eq (by omega) (by omega)]; exact propext ⟨fun z => by omega, fun z => by omega⟩
theorem X_latest {x i : Nat} {mo : Nat → Nat} {g : HP} (hs : XS x g) (hi : i < 6) (hmo : ∀ d, mo d ≤ 6) (e : ∀ d, d < 100 → hp_i g (x + 39) d = utv (mo d)) : f_Lo_latestOf_10 (x + 34) (nI i) (-nI 1) (nI 0) g = some (utv (lt1 mo i 100), g) := by
  have key : pw (f_Lo_latestOf_10 (x + 34) (nI i) (-nI 1) (nI 0) g) (fun r => r = (utv (lt1 mo i 100), g)) := by
    unfold f_Lo_latestOf_10
    refine pw_cnt 100 (fun d s => s = (utv (lt1 mo i d), nI d, g)) ?_ ?_ 0 _ (by omega) rfl
    · rintro d s hd rfl
      have hm6 := hmo d
      refine pw_L (s := (utv (lt1 mo i (d + 1)), nI (d + 1), g)) ?_ rfl
      rw [lt1]
      have e1 := e d hd
      by_cases hk : mo d = i + 1
      · simp (disch := omega) only [f_Lo_latestOf_10b, f_Lo_latestOf_31, ↓xx_lE, ↓reduceIte, ↓bn_si, ↓bn_sl, ↓bn_s, ↓bn_ms, hp_i_si, hp_l_si, hp_r_si, hp_n_si, hp_i_sl, hp_l_sl, hp_r_sl, hp_n_sl, hp_i_sr, hp_l_sr, hp_r_sr, hp_n_sr, iL, nI_clamp, hp_in_nI, nI_add, pk_mul, pk_sub, c_le, c_nle, c_lt, c_nlt, c_ne, c_m1, c_m1', ad_ne, ad_ne', ad_ne2, nar0, nar1, true_and, false_and, and_true, and_false, Nat.add_zero, Nat.zero_add, ↓xb_34_6 hs, xn_39 hs, e1, utv_i, hk, utv_s, Nat.add_sub_cancel]
      · simp (disch := omega) only [f_Lo_latestOf_10b, f_Lo_latestOf_31, ↓xx_lE, ↓reduceIte, ↓bn_si, ↓bn_sl, ↓bn_s, ↓bn_ms, hp_i_si, hp_l_si, hp_r_si, hp_n_si, hp_i_sl, hp_l_sl, hp_r_sl, hp_n_sl, hp_i_sr, hp_l_sr, hp_r_sr, hp_n_sr, iL, nI_clamp, hp_in_nI, nI_add, pk_mul, pk_sub, c_le, c_nle, c_lt, c_nlt, c_ne, c_m1, c_m1', ad_ne, ad_ne', ad_ne2, nar0, nar1, true_and, false_and, and_true, and_false, Nat.add_zero, Nat.zero_add, ↓xb_34_6 hs, xn_39 hs, e1, utv_i, hk]
    · rintro s rfl
      refine pw_R (t := (utv (lt1 mo i 100), g)) ?_ rfl
      simp (disch := omega) only [f_Lo_latestOf_10b, ↓xx_lE, ↓reduceIte, ↓bn_si, ↓bn_sl, ↓bn_s, ↓bn_ms, hp_i_si, hp_l_si, hp_r_si, hp_n_si, hp_i_sl, hp_l_sl, hp_r_sl, hp_n_sl, hp_i_sr, hp_l_sr, hp_r_sr, hp_n_sr, iL, nI_clamp, hp_in_nI, nI_add, pk_mul, pk_sub, c_le, c_nle, c_lt, c_nlt, c_ne, c_m1, c_m1', ad_ne, ad_ne', ad_ne2, nar0, nar1, true_and, false_and, and_true, and_false, Nat.add_zero, Nat.zero_add]
  obtain ⟨y, hy, rfl⟩ := key
  exact hy
theorem M_latest {m i c : Nat} {mo : Nat → Nat} {g : HP} (hs : MS m g) (hc : c ≤ 100) (hi : i < 6) (hmo : ∀ d, mo d ≤ 6) (e : ∀ d, d < 100 → hp_i g (m + 45) d = utv (mo d)) : f_M_last_22 m (nI i) (nI c) (-nI 1) (nI 0) g = some (utv (lt1 mo i 100), g) := by
  have key : pw (f_M_last_22 m (nI i) (nI c) (-nI 1) (nI 0) g) (fun r => r = (utv (lt1 mo i 100), g)) := by
    unfold f_M_last_22
    refine pw_cnt 100 (fun d s => s = (utv (lt1 mo i d), nI d, g)) ?_ ?_ 0 _ (by omega) rfl
    · rintro d s hd rfl
      have hm6 := hmo d
      refine pw_L (s := (utv (lt1 mo i (d + 1)), nI (d + 1), g)) ?_ rfl
      rw [lt1]
      have e1 := e d hd
      by_cases hk : mo d = i + 1
      · simp (disch := omega) only [f_M_last_22b, f_M_last_47, ↓xx_lE, ↓reduceIte, ↓bn_si, ↓bn_sl, ↓bn_s, ↓bn_ms, hp_i_si, hp_l_si, hp_r_si, hp_n_si, hp_i_sl, hp_l_sl, hp_r_sl, hp_n_sl, hp_i_sr, hp_l_sr, hp_r_sr, hp_n_sr, iL, nI_clamp, hp_in_nI, nI_add, pk_mul, pk_sub, c_le, c_nle, c_lt, c_nlt, c_ne, c_m1, c_m1', ad_ne, ad_ne', ad_ne2, nar0, nar1, true_and, false_and, and_true, and_false, Nat.add_zero, Nat.zero_add, ↓mb_83 hs, mn_45 hs, e1, utv_i, hk, utv_s, Nat.add_sub_cancel]
      · simp (disch := omega) only [f_M_last_22b, f_M_last_47, ↓xx_lE, ↓reduceIte, ↓bn_si, ↓bn_sl, ↓bn_s, ↓bn_ms, hp_i_si, hp_l_si, hp_r_si, hp_n_si, hp_i_sl, hp_l_sl, hp_r_sl, hp_n_sl, hp_i_sr, hp_l_sr, hp_r_sr, hp_n_sr, iL, nI_clamp, hp_in_nI, nI_add, pk_mul, pk_sub, c_le, c_nle, c_lt, c_nlt, c_ne, c_m1, c_m1', ad_ne, ad_ne', ad_ne2, nar0, nar1, true_and, false_and, and_true, and_false, Nat.add_zero, Nat.zero_add, ↓mb_83 hs, mn_45 hs, e1, utv_i, hk]
    · rintro s rfl
      refine pw_R (t := (utv (lt1 mo i 100), g)) ?_ rfl
      simp (disch := omega) only [f_M_last_22b, f_M_last_55, ↓xx_lE, ↓reduceIte, ↓bn_si, ↓bn_sl, ↓bn_s, ↓bn_ms, hp_i_si, hp_l_si, hp_r_si, hp_n_si, hp_i_sl, hp_l_sl, hp_r_sl, hp_n_sl, hp_i_sr, hp_l_sr, hp_r_sr, hp_n_sr, iL, nI_clamp, hp_in_nI, nI_add, pk_mul, pk_sub, c_le, c_nle, c_lt, c_nlt, c_ne, c_m1, c_m1', ad_ne, ad_ne', ad_ne2, nar0, nar1, true_and, false_and, and_true, and_false, Nat.add_zero, Nat.zero_add]
  obtain ⟨y, hy, rfl⟩ := key
  exact hy
theorem op_last {x m : Nat} (v w : Int32) : EZ (fun h => f_X_last x v w h) (fun h => f_M_last m v w h) x m := by
  intro P q h hb
  have hm := bm hb
  have ok := bok hb
  have hnm := ok.2.2.2.2.2.1
  have hxs := bxs hb
  have px5 := (bpx hb).2.2.2.2.2.1
  have pm5 := (bpm hb).2.2.2.2.2.1
  obtain ⟨n, tm, dd, mm, tt, uu, hl⟩ := bL hb
  obtain ⟨l1, l2, l3, l4, l5⟩ := LG_x hl ok
  have hmo : ∀ d, mO dd mm tt uu w d n ≤ 6 := fun d => mO_lt n (fun j hj => (l2 j hj).2.1)
  rcases man_cases P ok v with ⟨i, hi, rfl⟩ | ⟨k1, k2⟩
  · unfold f_X_last f_M_last f_Lo_latestOf
    dsimp only
    rw [bn_o (br3 hb), bn_o (X_man ok hi px5), if_neg (show ¬ nI 1 = (0 : Int32) by decide), xb_0_7 hxs]
    refine pw_bind (pw_bind (pw_mono (Lo_gather hxs l1 l2 l3) ?_))
    rintro g1 ⟨H1, e1⟩
    refine pw_eq (X_latest (mo := fun d => mO dd mm tt uu w d n) (XS_fr H1 hxs) (by omega) hmo (fun d hd => (e1 d hd).1)) (pw_some ?_)
    dsimp only
    have h33 : hp_i g1 m 33 = nI (p_nm P) := by rw [hf_i H1 (by unfold S_ga; omega)]; exact pm5
    rw [bn_o (M_man ok hi h33), if_neg (show ¬ nI 1 = (0 : Int32) by decide)]
    refine pw_bind (pw_mono (M_layLogs (MS_fr H1 (bms hb)) l1 l2 (LGM_fr hm H1 l4)) ?_)
    rintro ⟨r, g2⟩ ⟨rfl, H2, e2⟩
    dsimp only at H2 e2 ⊢
    refine pw_eq (M_latest (mo := fun d => mO dd mm tt uu w d n) (MS_fr H2 (MS_fr H1 (bms hb))) (fb_ct_le _ _) (by omega) hmo e2) ⟨rfl, ?_⟩
    exact lg_keep hb (hp_fr_tr (hp_fr_mo H1 (fun a k hk => .inl hk)) (hp_fr_mo H2 (fun a k hk => .inr hk)))
  · exact EZ_id hb (v := -nI 1) (by simp (disch := omega) only [f_X_last, ↓xx_lE, ↓reduceIte, ↓bn_si, ↓bn_sl, ↓bn_s, ↓bn_ms, hp_i_si, hp_l_si, hp_r_si, hp_n_si, hp_i_sl, hp_l_sl, hp_r_sl, hp_n_sl, hp_i_sr, hp_l_sr, hp_r_sr, hp_n_sr, iL, nI_clamp, hp_in_nI, nI_add, pk_mul, pk_sub, c_le, c_nle, c_lt, c_nlt, c_ne, c_m1, c_m1', ad_ne, ad_ne', ad_ne2, nar0, nar1, true_and, false_and, and_true, and_false, Nat.add_zero, Nat.zero_add, ↓bn_o (br3 hb), ↓bn_o (k1 q h px5)]) (by simp (disch := omega) only [f_M_last, ↓xx_lE, ↓reduceIte, ↓bn_si, ↓bn_sl, ↓bn_s, ↓bn_ms, hp_i_si, hp_l_si, hp_r_si, hp_n_si, hp_i_sl, hp_l_sl, hp_r_sl, hp_n_sl, hp_i_sr, hp_l_sr, hp_r_sr, hp_n_sr, iL, nI_clamp, hp_in_nI, nI_add, pk_mul, pk_sub, c_le, c_nle, c_lt, c_nlt, c_ne, c_m1, c_m1', ad_ne, ad_ne', ad_ne2, nar0, nar1, true_and, false_and, and_true, and_false, Nat.add_zero, Nat.zero_add, ↓bn_o (k2 m h pm5)])
