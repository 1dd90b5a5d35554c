/-! put, bring; agrees -/
def KM (m N : Nat) (h : HP) : Prop := hp_i h m 60 = nI (lm N) ∧ hp_i h m 61 = nI (dy N) ∧ ∀ i, i < 6 → hp_i h (m + 24) i = nI (hd N i) ∧ hp_i h (m + 25) i = nI (vs N i) ∧ hp_i h (m + 26) i = nI (be N i)
def F_KM (m : Nat) : Nat → Nat → Prop := fun a k => a = m ∧ (k = 60 ∨ k = 61) ∨ a = m + 24 ∨ a = m + 25 ∨ a = m + 26
theorem KM_ag {m N : Nat} {h h' : HP} (H : ∀ a k, F_KM m a k → hp_i h' a k = hp_i h a k) (hp : KM m N h) : KM m N h' := by
  unfold F_KM at H
  refine ⟨?_, ?_, fun i hi => ⟨?_, ?_, ?_⟩⟩
  all_goals rw [H _ _ (by omega)]
  · exact hp.1
  · exact hp.2.1
  · exact (hp.2.2 i hi).1
  · exact (hp.2.2 i hi).2.1
  · exact (hp.2.2 i hi).2.2
theorem M_put {m N : Nat} {h : HP} (hs : MS m h) (hc : CM m N h) : pw (f_M_put m h) (fun h' => hp_fr (F_KM m) h h' ∧ KM m N h') := by
  obtain ⟨c1, c2, c3⟩ := hc
  have e0 : f_M_put m h = f_M_put_18 m (nI 0) (hp_si (hp_si h m 60 (nI (lm N))) m 61 (nI (dy N))) := by
    simp (disch := omega) only [f_M_put, ↓xx_lE, ↓reduceIte, ↓bn_si, ↓bn_sl, ↓bn_s, ↓bn_ms, hp_i_si, hp_l_si, hp_r_si, hp_n_si, hp_i_sl, hp_l_sl, hp_r_sl, hp_n_sl, hp_i_sr, hp_l_sr, hp_r_sr, hp_n_sr, iL, nI_clamp, hp_in_nI, nI_add, pk_mul, pk_sub, c_le, c_nle, c_lt, c_nlt, c_ne, c_m1, c_m1', ad_ne, ad_ne', ad_ne2, nar0, nar1, true_and, false_and, and_true, and_false, Nat.add_zero, Nat.zero_add, c1, c2, Nat.reduceEqDiff]
  rw [e0]
  unfold f_M_put_18
  refine pw_cnt 6 (fun i s => s.1 = nI i ∧ hp_fr (F_KM m) h s.2 ∧ hp_i s.2 m 60 = nI (lm N) ∧ hp_i s.2 m 61 = nI (dy N) ∧ ∀ k, k < i → hp_i s.2 (m + 24) k = nI (hd N k) ∧ hp_i s.2 (m + 25) k = nI (vs N k) ∧ hp_i s.2 (m + 26) k = nI (be N k)) ?_ ?_ 0 _ (by omega) ⟨rfl, hf_si (hf_si (hp_fr_rf h) (by unfold F_KM; omega)) (by unfold F_KM; omega), by simp [hp_i_si], by simp [hp_i_si], fun k hk => by omega⟩
  · rintro i ⟨w, g⟩ hi ⟨rfl, H, e1, e2, e⟩
    dsimp only at H e1 e2 e ⊢
    have hg := MS_fr H hs
    obtain ⟨z1, z2, z3⟩ := c3 i hi
    have a1 : hp_i g (m + 20) i = nI (hd N i) := by rw [hf_i H (by unfold F_KM; omega)]; exact z1
    have a2 : hp_i g (m + 21) i = nI (vs N i) := by rw [hf_i H (by unfold F_KM; omega)]; exact z2
    have a3 : hp_i g (m + 23) i = nI (be N i) := by rw [hf_i H (by unfold F_KM; omega)]; exact z3
    have hbe := be_lt N i
    refine pw_L (s := (nI (i + 1), hp_si (hp_si (hp_si g (m + 24) i (nI (hd N i))) (m + 25) i (nI (vs N i))) (m + 26) i (nI (be N i)))) ?_ ⟨rfl, ?_, ?_, ?_, fun k hk => ?_⟩
    · simp (disch := omega) only [f_M_put_18b, ↓xx_lE, ↓reduceIte, ↓bn_si, ↓bn_sl, ↓bn_s, ↓bn_ms, hp_i_si, hp_l_si, hp_r_si, hp_n_si, hp_i_sl, hp_l_sl, hp_r_sl, hp_n_sl, hp_i_sr, hp_l_sr, hp_r_sr, hp_n_sr, iL, nI_clamp, hp_in_nI, nI_add, pk_mul, pk_sub, c_le, c_nle, c_lt, c_nlt, c_ne, c_m1, c_m1', ad_ne, ad_ne', ad_ne2, nar0, nar1, true_and, false_and, and_true, and_false, Nat.add_zero, Nat.zero_add, ↓mb_57 hg, ↓mb_47 hg, ↓mb_58 hg, ↓mb_48 hg, ↓mb_59 hg, ↓mb_50 hg, mn_24 hg, mn_20 hg, mn_25 hg, mn_21 hg, mn_26 hg, mn_23 hg, a1, a2, a3, nar_lt]
    · exact hf_si (hf_si (hf_si H (by unfold F_KM; omega)) (by unfold F_KM; omega)) (by unfold F_KM; omega)
    · simpa [hp_i_si] using e1
    · simpa [hp_i_si] using e2
    · by_cases hk2 : k = i
      · subst hk2; simp [hp_i_si]
      · have := e k (by omega)
        simpa [hp_i_si, hk2] using this
  · rintro ⟨w, g⟩ ⟨rfl, H, e1, e2, e⟩
    refine pw_R (t := g) ?_ ⟨H, e1, e2, e⟩
    simp (disch := omega) only [f_M_put_18b, ↓xx_lE, ↓reduceIte, ↓bn_si, ↓bn_sl, ↓bn_s, ↓bn_ms, hp_i_si, hp_l_si, hp_r_si, hp_n_si, hp_i_sl, hp_l_sl, hp_r_sl, hp_n_sl, hp_i_sr, hp_l_sr, hp_r_sr, hp_n_sr, iL, nI_clamp, hp_in_nI, nI_add, pk_mul, pk_sub, c_le, c_nle, c_lt, c_nlt, c_ne, c_m1, c_m1', ad_ne, ad_ne', ad_ne2, nar0, nar1, true_and, false_and, and_true, and_false, Nat.add_zero, Nat.zero_add]
theorem M_bring {m N : Nat} {h : HP} (hs : MS m h) (hc : KM m N h) : pw (f_M_bring m h) (fun h' => hp_fr (F_CM m) h h' ∧ CM m N h') := by
  obtain ⟨c1, c2, c3⟩ := hc
  have e0 : f_M_bring m h = f_M_bring_18 m (nI 0) (hp_si (hp_si h m 51 (nI (lm N))) m 52 (nI (dy N))) := by
    simp (disch := omega) only [f_M_bring, ↓xx_lE, ↓reduceIte, ↓bn_si, ↓bn_sl, ↓bn_s, ↓bn_ms, hp_i_si, hp_l_si, hp_r_si, hp_n_si, hp_i_sl, hp_l_sl, hp_r_sl, hp_n_sl, hp_i_sr, hp_l_sr, hp_r_sr, hp_n_sr, iL, nI_clamp, hp_in_nI, nI_add, pk_mul, pk_sub, c_le, c_nle, c_lt, c_nlt, c_ne, c_m1, c_m1', ad_ne, ad_ne', ad_ne2, nar0, nar1, true_and, false_and, and_true, and_false, Nat.add_zero, Nat.zero_add, c1, c2, Nat.reduceEqDiff]
  rw [e0]
  unfold f_M_bring_18
  refine pw_cnt 6 (fun i s => s.1 = nI i ∧ hp_fr (F_CM m) h s.2 ∧ hp_i s.2 m 51 = nI (lm N) ∧ hp_i s.2 m 52 = nI (dy N) ∧ ∀ k, k < i → hp_i s.2 (m + 20) k = nI (hd N k) ∧ hp_i s.2 (m + 21) k = nI (vs N k) ∧ hp_i s.2 (m + 23) k = nI (be N k)) ?_ ?_ 0 _ (by omega) ⟨rfl, hf_si (hf_si (hp_fr_rf h) (by unfold F_CM; omega)) (by unfold F_CM; omega), by simp [hp_i_si], by simp [hp_i_si], fun k hk => by omega⟩
  · rintro i ⟨w, g⟩ hi ⟨rfl, H, e1, e2, e⟩
    dsimp only at H e1 e2 e ⊢
    have hg := MS_fr H hs
    obtain ⟨z1, z2, z3⟩ := c3 i hi
    have a1 : hp_i g (m + 24) i = nI (hd N i) := by rw [hf_i H (by unfold F_CM; omega)]; exact z1
    have a2 : hp_i g (m + 25) i = nI (vs N i) := by rw [hf_i H (by unfold F_CM; omega)]; exact z2
    have a3 : hp_i g (m + 26) i = nI (be N i) := by rw [hf_i H (by unfold F_CM; omega)]; exact z3
    have hbe := be_lt N i
    refine pw_L (s := (nI (i + 1), hp_si (hp_si (hp_si g (m + 20) i (nI (hd N i))) (m + 21) i (nI (vs N i))) (m + 23) i (nI (be N i)))) ?_ ⟨rfl, ?_, ?_, ?_, fun k hk => ?_⟩
    · simp (disch := omega) only [f_M_bring_18b, ↓xx_lE, ↓reduceIte, ↓bn_si, ↓bn_sl, ↓bn_s, ↓bn_ms, hp_i_si, hp_l_si, hp_r_si, hp_n_si, hp_i_sl, hp_l_sl, hp_r_sl, hp_n_sl, hp_i_sr, hp_l_sr, hp_r_sr, hp_n_sr, iL, nI_clamp, hp_in_nI, nI_add, pk_mul, pk_sub, c_le, c_nle, c_lt, c_nlt, c_ne, c_m1, c_m1', ad_ne, ad_ne', ad_ne2, nar0, nar1, true_and, false_and, and_true, and_false, Nat.add_zero, Nat.zero_add, ↓mb_57 hg, ↓mb_47 hg, ↓mb_58 hg, ↓mb_48 hg, ↓mb_59 hg, ↓mb_50 hg, mn_24 hg, mn_20 hg, mn_25 hg, mn_21 hg, mn_26 hg, mn_23 hg, a1, a2, a3, nar_lt]
    · exact hf_si (hf_si (hf_si H (by unfold F_CM; omega)) (by unfold F_CM; omega)) (by unfold F_CM; omega)
    · simpa [hp_i_si] using e1
    · simpa [hp_i_si] using e2
    · by_cases hk2 : k = i
      · subst hk2; simp [hp_i_si]
      · have := e k (by omega)
        simpa [hp_i_si, hk2] using this
  · rintro ⟨w, g⟩ ⟨rfl, H, e1, e2, e⟩
    refine pw_R (t := g) ?_ ⟨H, e1, e2, e⟩
    simp (disch := omega) only [f_M_bring_18b, ↓xx_lE, ↓reduceIte, ↓bn_si, ↓bn_sl, ↓bn_s, ↓bn_ms, hp_i_si, hp_l_si, hp_r_si, hp_n_si, hp_i_sl, hp_l_sl, hp_r_sl, hp_n_sl, hp_i_sr, hp_l_sr, hp_r_sr, hp_n_sr, iL, nI_clamp, hp_in_nI, nI_add, pk_mul, pk_sub, c_le, c_nle, c_lt, c_nlt, c_ne, c_m1, c_m1', ad_ne, ad_ne', ad_ne2, nar0, nar1, true_and, false_and, and_true, and_false, Nat.add_zero, Nat.zero_add]
/-- the latest day told of, one more -/
def la (mo : Nat → Nat) : Nat → Nat
  | 0 => 0
  | d + 1 => if mo d = 0 then la mo d else d + 1
theorem la_le (mo : Nat → Nat) : ∀ d, la mo d ≤ d := by
  intro d
  induction d with
  | zero => exact Nat.le_refl _
  | succ d ih => unfold la; split <;> omega
theorem la_no (mo : Nat → Nat) : ∀ n d, la mo n ≤ d → d < n → mo d = 0 := by
  intro n
  induction n with
  | zero => intro d _ h; omega
  | succ n ih =>
    intro d h1 h2
    rw [la] at h1
    by_cases hn : mo n = 0
    · rw [if_pos hn] at h1
      by_cases hd : d = n
      · rw [hd]; exact hn
      · exact ih d h1 (by omega)
    · rw [if_neg hn] at h1; omega
def told (mo : Nat → Nat) (d : Nat) : Bool := !decide (mo d = 0)
theorem la_all (mo : Nat → Nat) (n : Nat) : fb_ct (told mo) n = la mo n ↔ ∀ d, d < la mo n → mo d ≠ 0 := by
  have h1 := la_le mo n
  have e : fb_ct (told mo) n = fb_ct (told mo) (la mo n) := by
    have := fb_ct_split (told mo) (la mo n) (n - la mo n)
    rw [show la mo n + (n - la mo n) = n by omega] at this
    rw [this, (fb_ct_zero (p := fun k => told mo (la mo n + k)) (n := n - la mo n)).mpr (fun k hk => by unfold told; rw [decide_eq_true (la_no mo n _ (by omega) (by omega))]; rfl), Nat.add_zero]
  rw [e, fb_ct_all]
  unfold told
  constructor
  · intro z d hd
    have := z d hd
    simpa using this
  · intro z d hd
    have := z d hd
    simpa using this
theorem X_gap {x : Nat} {mo : Nat → Nat} {g : HP} (hs : XS x g) (hmo : ∀ d, mo d ≤ 6) (e : ∀ d, d < 100 → hp_i g (x + 39) d = utv (mo d)) : f_Lo_latestWithoutGap_12 (x + 34) (-nI 1) (nI 0) (nI 0) g = some (if fb_ct (told mo) 100 = la mo 100 then utv (la mo 100) else -nI 1, g) := by
  have key : pw (f_Lo_latestWithoutGap_12 (x + 34) (-nI 1) (nI 0) (nI 0) g) (fun r => r = (if fb_ct (told mo) 100 = la mo 100 then utv (la mo 100) else -nI 1, g)) := by
    unfold f_Lo_latestWithoutGap_12
    refine pw_cnt 100 (fun d s => s = (utv (la mo d), nI (fb_ct (told mo) d), nI d, g)) ?_ ?_ 0 _ (by omega) rfl
    · rintro d s hd rfl
      have hct := fb_ct_le (told mo) d
      have hm6 := hmo d
      refine pw_L (s := (utv (la mo (d + 1)), nI (fb_ct (told mo) (d + 1)), nI (d + 1), g)) ?_ rfl
      rw [la, fb_ct_succ]
      have e1 := e d hd
      by_cases hk : mo d = 0
      · have ht : told mo d = false := by unfold told; rw [decide_eq_true hk]; rfl
        rw [hk, utv0] at e1
        simp (disch := omega) only [f_Lo_latestWithoutGap_12b, f_Lo_latestWithoutGap_36, ↓xx_lE, ↓reduceIte, ↓bn_si, ↓bn_sl, ↓bn_s, ↓bn_ms, hp_i_si, hp_l_si, hp_r_si, hp_n_si, hp_i_sl, hp_l_sl, hp_r_sl, hp_n_sl, hp_i_sr, hp_l_sr, hp_r_sr, hp_n_sr, iL, nI_clamp, hp_in_nI, nI_add, pk_mul, pk_sub, c_le, c_nle, c_lt, c_nlt, c_ne, c_m1, c_m1', ad_ne, ad_ne', ad_ne2, nar0, nar1, true_and, false_and, and_true, and_false, Nat.add_zero, Nat.zero_add, ↓xb_34_6 hs, xn_39 hs, e1, hk, ht, Bool.false_eq_true]
      · have ht : told mo d = true := by unfold told; rw [decide_eq_false hk]; rfl
        rw [utv_s (by omega)] at e1
        simp (disch := omega) only [f_Lo_latestWithoutGap_12b, f_Lo_latestWithoutGap_36, ↓xx_lE, ↓reduceIte, ↓bn_si, ↓bn_sl, ↓bn_s, ↓bn_ms, hp_i_si, hp_l_si, hp_r_si, hp_n_si, hp_i_sl, hp_l_sl, hp_r_sl, hp_n_sl, hp_i_sr, hp_l_sr, hp_r_sr, hp_n_sr, iL, nI_clamp, hp_in_nI, nI_add, pk_mul, pk_sub, c_le, c_nle, c_lt, c_nlt, c_ne, c_m1, c_m1', ad_ne, ad_ne', ad_ne2, nar0, nar1, true_and, false_and, and_true, and_false, Nat.add_zero, Nat.zero_add, ↓xb_34_6 hs, xn_39 hs, e1, hk, ht, utv_s, Nat.add_sub_cancel]
    · rintro s rfl
      have hct := fb_ct_le (told mo) 100
      have hla := la_le mo 100
      have e2 : utv (la mo 100) + nI 1 = nI (la mo 100) := by
        by_cases hz : la mo 100 = 0
        · rw [hz]; decide
        · rw [utv_s (by omega), nI_add]; congr 1; omega
      refine pw_R (t := (if fb_ct (told mo) 100 = la mo 100 then utv (la mo 100) else -nI 1, g)) ?_ rfl
      by_cases hz : fb_ct (told mo) 100 = la mo 100
      · rw [if_pos hz]
        simp (disch := omega) only [f_Lo_latestWithoutGap_12b, f_Lo_latestWithoutGap_42, ↓xx_lE, ↓reduceIte, ↓bn_si, ↓bn_sl, ↓bn_s, ↓bn_ms, hp_i_si, hp_l_si, hp_r_si, hp_n_si, hp_i_sl, hp_l_sl, hp_r_sl, hp_n_sl, hp_i_sr, hp_l_sr, hp_r_sr, hp_n_sr, iL, nI_clamp, hp_in_nI, nI_add, pk_mul, pk_sub, c_le, c_nle, c_lt, c_nlt, c_ne, c_m1, c_m1', ad_ne, ad_ne', ad_ne2, nar0, nar1, true_and, false_and, and_true, and_false, Nat.add_zero, Nat.zero_add, e2, hz]
      · rw [if_neg hz]
        simp (disch := omega) only [f_Lo_latestWithoutGap_12b, f_Lo_latestWithoutGap_42, ↓xx_lE, ↓reduceIte, ↓bn_si, ↓bn_sl, ↓bn_s, ↓bn_ms, hp_i_si, hp_l_si, hp_r_si, hp_n_si, hp_i_sl, hp_l_sl, hp_r_sl, hp_n_sl, hp_i_sr, hp_l_sr, hp_r_sr, hp_n_sr, iL, nI_clamp, hp_in_nI, nI_add, pk_mul, pk_sub, c_le, c_nle, c_lt, c_nlt, c_ne, c_m1, c_m1', ad_ne, ad_ne', ad_ne2, nar0, nar1, true_and, false_and, and_true, and_false, Nat.add_zero, Nat.zero_add, e2]
  obtain ⟨y, hy, rfl⟩ := key
  exact hy
/-- the states that logs go through -/
def nq (P : PT) (l : Nat) (mo : Nat → Nat) : Nat → Nat
  | 0 => fs P l
  | d + 1 => gn P (nq P l mo d) (mo d - 1)
theorem nq_lt {P : PT} (ok : POK P) {l : Nat} (hl : l < 4) (mo : Nat → Nat) : ∀ d, nq P l mo d < 2 ^ 54 := by
  intro d
  cases d with
  | zero => exact fs_lt ok hl
  | succ d => exact gn_lt ok _ _
theorem nq_dy {P : PT} (ok : POK P) {l : Nat} (hl : l < 4) (mo : Nat → Nat) : ∀ d, dy (nq P l mo d) < p_cy P := by
  have := ok.2.1
  intro d
  cases d with
  | zero => unfold nq fs; rw [ex_dy hl (by decide)]; omega
  | succ d => unfold nq; rw [gn_dy ok]; split <;> omega
def sy (P : PT) (l : Nat) (mo : Nat → Nat) (d : Nat) : Bool := !decide (oS P (nq P l mo d) (mo d - 1) = 0)
/-- whether it agrees: K the latest day -/
def agv (P : PT) (l K : Nat) (mo : Nat → Nat) : Nat := if fa_first (sy P l mo) (K + 1) ≤ K then (if fa_first (sy P l mo) (K + 1) = K ∧ ab P (nq P l mo (K + 1)) = true then 1 else 0) else 1
def S_ag (x q : Nat) : Nat → Nat → Prop := fun a k => S_ga x a k ∨ S_oc q a k
theorem X_agree {P : PT} {x q l K : Nat} {mo : Nat → Nat} {h : HP} (hx : XS x h) (hq : q = x + 7 ∨ q = x + 16) (hs : PSH q h) (ok : POK P) (hp : PX P q h) (hl : l < 4) (hK : K < 100) (hmo : ∀ d, d ≤ K → mo d ≠ 0 ∧ mo d ≤ p_nm P) (e : ∀ d, d < 100 → hp_i h (x + 39) d = utv (mo d)) : pw (f_Lo_agreement_25 (x + 34) q (nI K) (lN (fs P l)) (nI 0) h) (fun r => r.1 = nI (agv P l K mo) ∧ hp_fr (S_oc q) h r.2) := by
  unfold f_Lo_agreement_25
  have hnm := ok.2.2.2.2.2.1
  refine pw_cnt (K + 1) (fun d s => s.1 = lN (nq P l mo d) ∧ s.2.1 = nI d ∧ hp_fr (S_oc q) h s.2.2 ∧ ∀ k, k < d → sy P l mo k = false) ?_ ?_ 0 _ (by omega) ⟨rfl, rfl, hp_fr_rf h, fun k hk => by omega⟩
  · rintro d ⟨z, w, g⟩ hd ⟨rfl, rfl, H, hk⟩
    dsimp only at H ⊢
    obtain ⟨m1, m2⟩ := hmo d (by omega)
    have hi : mo d - 1 < p_nm P := by omega
    have hxg := XS_fr H hx
    have hsg := PSH_fr H hs
    have hpg : PX P q g := PX_ag (fun a k hk => hf_i H (by unfold F_PX at hk; unfold S_oc; omega)) hp
    have eg : hp_i g (x + 39) d = nI (mo d - 1) := by rw [hf_i H (by unfold S_oc; omega), e d (by omega), utv_s (by omega)]
    have hN := nq_lt ok hl mo d
    unfold f_Lo_agreement_25b
    rw [if_neg (nI_nlt (by omega) (by omega)), xb_34_6 hxg, xn_39 hxg, if_pos (hp_in_nI (by omega) (by omega)), nI_clamp (by omega), eg]
    refine pw_bind (pw_mono (X_outcome hsg ok hpg hi hN) ?_)
    rintro ⟨v, g2⟩ ⟨rfl, H2⟩
    dsimp only at H2 ⊢
    have H02 := hp_fr_tr H H2
    have hx2 := XS_fr H02 hx
    have hp2 : PX P q g2 := PX_ag (fun a k hk => hf_i H2 (by unfold F_PX at hk; unfold S_oc; omega)) hpg
    have eg2 : hp_i g2 (x + 39) d = nI (mo d - 1) := by rw [hf_i H2 (by unfold S_oc; omega)]; exact eg
    rw [xb_34_6 hx2, xn_39 hx2, if_pos (hp_in_nI (by omega) (by omega)), eg2, bn_o (X_after ok hp2 (by omega) hN)]
    have hoc := oc_lt ok (nq P l mo d) (mo d - 1)
    have hos := oS_lt ok (nq P l mo d) (mo d - 1)
    obtain ⟨_, _, o3, _, _⟩ := oc_mod ok (nq P l mo d) (mo d - 1)
    by_cases hz : oS P (nq P l mo d) (mo d - 1) = 0
    · rw [if_pos ((bit128 hoc).mpr (by omega)), xx_lE]
      refine pw_some ⟨rfl, (nI_1 d), H02, fun k hk2 => ?_⟩
      by_cases hkd : k = d
      · rw [hkd]; unfold sy; rw [decide_eq_true hz]; rfl
      · exact hk k (by omega)
    · rw [if_neg (fun z => by have := (bit128 hoc).mp z; omega)]
      refine pw_mapR ?_
      have hf : fa_first (sy P l mo) (K + 1) = d := first_eq hd (by unfold sy; rw [decide_eq_false hz]; rfl) hk
      have hag : agv P l K mo = if d = K ∧ ab P (nq P l mo (K + 1)) = true then 1 else 0 := by unfold agv; rw [hf, if_pos (by omega)]
      rw [hag]
      unfold f_Lo_agreement_73
      by_cases hdK : d = K
      · subst hdK
        rw [if_pos rfl, bn_o (X_all ok hp2 (gn_lt ok _ _))]
        dsimp only
        by_cases ha : ab P (nq P l mo (d + 1)) = true
        · have e5 : nI (if ab P (gn P (nq P l mo d) (mo d - 1)) = true then 1 else 0) = nI 1 := congrArg nI (if_pos ha)
          have e6 : (if d = d ∧ ab P (nq P l mo (d + 1)) = true then 1 else 0) = 1 := if_pos ⟨rfl, ha⟩
          rw [e5, e6]
          exact pw_f (show ¬ nI 1 = (0 : Int32) by decide) (pw_some ⟨rfl, H02⟩)
        · have e5 : nI (if ab P (gn P (nq P l mo d) (mo d - 1)) = true then 1 else 0) = nI 0 := congrArg nI (if_neg ha)
          have e6 : (if d = d ∧ ab P (nq P l mo (d + 1)) = true then 1 else 0) = 0 := if_neg (fun z => ha z.2)
          rw [e5, e6]
          exact pw_t rfl (pw_some ⟨rfl, H02⟩)
      · rw [if_neg (fun z => hdK ((nI_eq (by omega) (by omega)).mp z)), if_neg (fun z => hdK z.1)]
        exact pw_some ⟨rfl, H02⟩
  · rintro ⟨z, w, g⟩ ⟨rfl, rfl, H, hk⟩
    dsimp only at H ⊢
    have hf : fa_first (sy P l mo) (K + 1) = K + 1 := first_no hk
    have hag : agv P l K mo = 1 := by unfold agv; rw [hf, if_neg (by omega)]
    rw [hag]
    refine pw_R (t := (nI 1, g)) ?_ ⟨rfl, H⟩
    simp (disch := omega) only [f_Lo_agreement_25b, ↓xx_lE, ↓reduceIte, ↓bn_si, ↓bn_sl, ↓bn_s, ↓bn_ms, hp_i_si, hp_l_si, hp_r_si, hp_n_si, hp_i_sl, hp_l_sl, hp_r_sl, hp_n_sl, hp_i_sr, hp_l_sr, hp_r_sr, hp_n_sr, iL, nI_clamp, hp_in_nI, nI_add, pk_mul, pk_sub, c_le, c_nle, c_lt, c_nlt, c_ne, c_m1, c_m1', ad_ne, ad_ne', ad_ne2, nar0, nar1, true_and, false_and, and_true, and_false, Nat.add_zero, Nat.zero_add]
def S_mg (m : Nat) : Nat → Nat → Prop := fun a k => S_go m a k
theorem M_180 {m N u : Nat} {g : HP} (hs : MS m g) (hu : u < 2) (hk : KM m N g) : pw (f_M_agrees_180 m (nI u) g) (fun r => r.1 = nI u ∧ hp_fr (F_CM m) g r.2 ∧ CM m N r.2) := by
  unfold f_M_agrees_180
  refine pw_bind (pw_mono (M_bring hs hk) ?_)
  rintro g2 ⟨H, hc⟩
  have : u = 0 ∨ u = 1 := by omega
  rcases this with rfl | rfl
  · exact pw_t rfl (pw_some ⟨rfl, H, hc⟩)
  · exact pw_f (by decide) (pw_some ⟨rfl, H, hc⟩)
theorem M_agree {P : PT} {m l K N : Nat} {mo : Nat → Nat} {h : HP} (hs : MS m h) (ok : POK P) (hp : PM P m h) (hl : l < 4) (hK : K < 100) (hmo : ∀ d, d ≤ K → mo d ≠ 0 ∧ mo d ≤ p_nm P) (e : ∀ d, d < 100 → hp_i h (m + 45) d = utv (mo d)) (hk : KM m N h) (hc : CM m (fs P l) h) : pw (f_M_agrees_124 m (nI K) (nI 1) (nI 0) h) (fun r => r.1 = nI (agv P l K mo) ∧ hp_fr (S_go m) h r.2 ∧ CM m N r.2) := by
  unfold f_M_agrees_124
  have hnm := ok.2.2.2.2.2.1
  have kg : ∀ g, hp_fr (S_go m) h g → KM m N g := fun g H => KM_ag (fun a k hk => hf_i H (by unfold F_KM at hk; unfold S_go; omega)) hk
  have fin : ∀ g u, hp_fr (S_go m) h g → u < 2 → u = agv P l K mo → pw (f_M_agrees_180 m (nI u) g) (fun r => r.1 = nI (agv P l K mo) ∧ hp_fr (S_go m) h r.2 ∧ CM m N r.2) := fun g u H hu he => by
    refine pw_mono (M_180 (MS_fr H hs) hu (kg g H)) ?_
    rintro r ⟨r1, r2, r3⟩
    exact ⟨by rw [r1, he], hp_fr_tr H (hp_fr_mo r2 (by unfold F_CM S_go; omega)), r3⟩
  have hag2 : agv P l K mo < 2 := by unfold agv; split <;> (try split) <;> decide
  refine pw_cnt (K + 2) (fun d s => s.2.1 = nI d ∧ hp_fr (S_go m) h s.2.2 ∧ (d ≤ K + 1 ∧ s.1 = nI 1 ∧ CM m (nq P l mo d) s.2.2 ∧ (∀ k, k < d → sy P l mo k = false) ∨ 0 < d ∧ fa_first (sy P l mo) (K + 1) = d - 1 ∧ d - 1 ≤ K ∧ s.1 = nI (agv P l K mo))) ?_ ?_ 0 (nI 1, nI 0, h) (by omega) ?_
  · rintro d ⟨u, w, g⟩ hd ⟨rfl, H, hcase⟩
    dsimp only at H hcase ⊢
    rcases hcase with ⟨_, rfl, hcm, hk⟩ | ⟨h0, hf, hdK, rfl⟩
    · by_cases hdK : d ≤ K
      · obtain ⟨m1, m2⟩ := hmo d hdK
        have hi : mo d - 1 < p_nm P := by omega
        have hsg := MS_fr H hs
        have hpg : PM P m g := PM_ag (fun a k hk => hf_i H (by unfold F_PM at hk; unfold S_go; omega)) hp
        have eg : hp_i g (m + 45) d = nI (mo d - 1) := by rw [hf_i H (by unfold S_go; omega), e d (by omega), utv_s (by omega)]
        unfold f_M_agrees_124b
        rw [if_neg (nI_nlt (by omega) (by omega)), if_neg (show ¬ nI 1 = (0 : Int32) by decide), mb_83 hsg, mn_45 hsg, if_pos (hp_in_nI (by omega) (by omega)), nI_clamp (by omega), eg]
        refine pw_bind (pw_mono (M_go hsg ok hpg hi hcm (nq_dy ok hl mo d)) ?_)
        rintro ⟨v, g2⟩ ⟨rfl, H2, c2, _, _⟩
        dsimp only at H2 c2 ⊢
        have H02 := hp_fr_tr H H2
        by_cases hz : oS P (nq P l mo d) (mo d - 1) = 0
        · have hr : rs3 P (nq P l mo d) (mo d - 1) = 0 := by unfold rs3; rw [if_pos hz]
          rw [hr, if_pos (show nI 0 = (0 : Int32) from rfl)]
          unfold f_M_agrees_167 f_M_agrees_172
          rw [xx_lE]
          refine pw_some ⟨(nI_1 d), H02, .inl ⟨by omega, rfl, c2, fun k hk2 => ?_⟩⟩
          by_cases hkd : k = d
          · rw [hkd]; unfold sy; rw [decide_eq_true hz]; rfl
          · exact hk k (by omega)
        · have hf : fa_first (sy P l mo) (K + 1) = d := first_eq (by omega) (by unfold sy; rw [decide_eq_false hz]; rfl) hk
          have hag : agv P l K mo = if d = K ∧ ab P (nq P l mo (K + 1)) = true then 1 else 0 := by unfold agv; rw [hf, if_pos (by omega)]
          have hr : rs3 P (nq P l mo d) (mo d - 1) = if ab P (nq P l mo (d + 1)) then 1 else 2 := by unfold rs3; rw [if_neg hz]; rfl
          unfold f_M_agrees_167 f_M_agrees_171 f_M_agrees_172
          simp only [xx_lE]
          by_cases ha : ab P (nq P l mo (d + 1)) = true
          · rw [hr, if_pos ha, if_neg (show ¬ nI 1 = (0 : Int32) by decide), if_pos (show nI 1 = (1 : Int32) from rfl)]
            by_cases hdK2 : d = K
            · subst hdK2
              rw [if_pos rfl]
              refine pw_some ⟨(nI_1 d), H02, .inr ⟨by omega, by omega, by omega, ?_⟩⟩
              rw [hag, if_pos ⟨rfl, ha⟩]; rfl
            · rw [if_neg (fun z => hdK2 ((nI_eq (by omega) (by omega)).mp z))]
              refine pw_some ⟨(nI_1 d), H02, .inr ⟨by omega, by omega, by omega, ?_⟩⟩
              rw [hag, if_neg (fun z => hdK2 z.1)]; rfl
          · rw [hr, if_neg ha, if_neg (show ¬ nI 2 = (0 : Int32) by decide), if_neg (show ¬ nI 2 = (1 : Int32) by decide)]
            refine pw_some ⟨(nI_1 d), H02, .inr ⟨by omega, by omega, by omega, ?_⟩⟩
            rw [hag, if_neg (fun z => ha (by rw [z.1]; exact z.2))]; rfl
      · have hdK3 : d = K + 1 := by omega
        subst hdK3
        have hf : fa_first (sy P l mo) (K + 1) = K + 1 := first_no hk
        have hag : agv P l K mo = 1 := by unfold agv; rw [hf, if_neg (by omega)]
        unfold f_M_agrees_124b
        rw [if_pos (nI_lt (by omega) (by omega))]
        exact pw_mapR (fin g 1 H (by decide) hag.symm)
    · unfold f_M_agrees_124b
      by_cases hdK2 : d = K + 1
      · subst hdK2
        rw [if_pos (nI_lt (by omega) (by omega))]
        exact pw_mapR (fin g _ H hag2 rfl)
      · rw [if_neg (nI_nlt (by omega) (by omega))]
        have hz : agv P l K mo = 0 := by unfold agv; rw [hf, if_pos hdK, if_neg (by omega)]
        rw [hz, if_pos (show nI 0 = (0 : Int32) from rfl)]
        rw [← hz]
        exact pw_mapR (fin g _ H hag2 rfl)
  · rintro ⟨u, w, g⟩ ⟨rfl, H, hcase⟩
    rcases hcase with ⟨h1, _⟩ | ⟨_, _, h1, _⟩ <;> omega
  · exact ⟨rfl, hp_fr_rf h, .inl ⟨by omega, rfl, hc, fun k hk => by omega⟩⟩
theorem M_gap {m u : Nat} {v : Int32} {mo : Nat → Nat} {g : HP} {Q : Int32 × HP → Prop} (hs : MS m g) (hmo : ∀ d, mo d ≤ 6) (e : ∀ d, d < 100 → hp_i g (m + 45) d = utv (mo d)) (hr : pw (f_M_agrees_85 m v (nI u) (utv (la mo 100)) (nI (if ∀ d, d < la mo 100 → mo d ≠ 0 then 1 else 0)) g) Q) : pw (f_M_agrees_15 m v (nI u) (nI 1) (-nI 1) (nI 0) g) Q := by
  unfold f_M_agrees_15
  refine pw_cnt 100 (fun d s => s = (utv (la mo d), nI d, g)) ?_ ?_ 0 _ (by omega) rfl
  · rintro d s hd rfl
    have hm6 := hmo d
    refine pw_L (s := (utv (la mo (d + 1)), nI (d + 1), g)) ?_ rfl
    rw [la]
    have e1 := e d hd
    by_cases hk : mo d = 0
    · rw [hk, utv0] at e1
      simp (disch := omega) only [f_M_agrees_15b, f_M_agrees_39, ↓xx_lE, ↓reduceIte, ↓bn_si, ↓bn_sl, ↓bn_s, ↓bn_ms, hp_i_si, hp_l_si, hp_r_si, hp_n_si, hp_i_sl, hp_l_sl, hp_r_sl, hp_n_sl, hp_i_sr, hp_l_sr, hp_r_sr, hp_n_sr, iL, nI_clamp, hp_in_nI, nI_add, pk_mul, pk_sub, c_le, c_nle, c_lt, c_nlt, c_ne, c_m1, c_m1', ad_ne, ad_ne', ad_ne2, nar0, nar1, true_and, false_and, and_true, and_false, Nat.add_zero, Nat.zero_add, ↓mb_83 hs, mn_45 hs, e1, ng_lt0, hk]
    · rw [utv_s (by omega)] at e1
      simp (disch := omega) only [f_M_agrees_15b, f_M_agrees_39, ↓xx_lE, ↓reduceIte, ↓bn_si, ↓bn_sl, ↓bn_s, ↓bn_ms, hp_i_si, hp_l_si, hp_r_si, hp_n_si, hp_i_sl, hp_l_sl, hp_r_sl, hp_n_sl, hp_i_sr, hp_l_sr, hp_r_sr, hp_n_sr, iL, nI_clamp, hp_in_nI, nI_add, pk_mul, pk_sub, c_le, c_nle, c_lt, c_nlt, c_ne, c_m1, c_m1', ad_ne, ad_ne', ad_ne2, nar0, nar1, true_and, false_and, and_true, and_false, Nat.add_zero, Nat.zero_add, ↓mb_83 hs, mn_45 hs, e1, hk, utv_s, Nat.add_sub_cancel]
  · rintro s rfl
    have hla := la_le mo 100
    have e0 : f_M_agrees_15b m v (nI u) (nI 1) (utv (la mo 100)) (nI 100) g = (f_M_agrees_47 m v (nI u) (utv (la mo 100)) (nI 1) g).map .inr := by
      simp (disch := omega) only [f_M_agrees_15b, ↓xx_lE, ↓reduceIte, ↓bn_si, ↓bn_sl, ↓bn_s, ↓bn_ms, hp_i_si, hp_l_si, hp_r_si, hp_n_si, hp_i_sl, hp_l_sl, hp_r_sl, hp_n_sl, hp_i_sr, hp_l_sr, hp_r_sr, hp_n_sr, iL, nI_clamp, hp_in_nI, nI_add, pk_mul, pk_sub, c_le, c_nle, c_lt, c_nlt, c_ne, c_m1, c_m1', ad_ne, ad_ne', ad_ne2, nar0, nar1, true_and, false_and, and_true, and_false, Nat.add_zero, Nat.zero_add]
    rw [e0]
    refine pw_mapR ?_
    unfold f_M_agrees_47 f_M_agrees_50
    let al2 : Nat → Nat := fun d => if ∀ k, k < d → mo k ≠ 0 then 1 else 0
    refine pw_cnt (la mo 100) (fun d s => s = (nI (al2 d), nI d, g)) ?_ ?_ 0 _ (by omega) (by show (nI 1, nI 0, g) = (nI (al2 0), nI 0, g); simp [al2])
    · rintro d s hd rfl
      have hm6 := hmo d
      have e1 := e d (by omega)
      have hz : utv (la mo 100) = nI (la mo 100 - 1) := utv_s (by omega)
      refine pw_L (s := (nI (al2 (d + 1)), nI (d + 1), g)) ?_ rfl
      by_cases h1 : ∀ k, k < d → mo k ≠ 0
      · have a1 : al2 d = 1 := by simp only [al2]; rw [if_pos h1]
        by_cases hk : mo d = 0
        · have a2 : al2 (d + 1) = 0 := by simp only [al2]; rw [if_neg (fun z => z d (by omega) hk)]
          rw [hk, utv0] at e1
          simp (disch := omega) only [f_M_agrees_50b, f_M_agrees_76, f_M_agrees_77, ↓xx_lE, ↓reduceIte, ↓bn_si, ↓bn_sl, ↓bn_s, ↓bn_ms, hp_i_si, hp_l_si, hp_r_si, hp_n_si, hp_i_sl, hp_l_sl, hp_r_sl, hp_n_sl, hp_i_sr, hp_l_sr, hp_r_sr, hp_n_sr, iL, nI_clamp, hp_in_nI, nI_add, pk_mul, pk_sub, c_le, c_nle, c_lt, c_nlt, c_ne, c_m1, c_m1', ad_ne, ad_ne', ad_ne2, nar0, nar1, true_and, false_and, and_true, and_false, Nat.add_zero, Nat.zero_add, ↓mb_83 hs, mn_45 hs, e1, ng_lt0, a1, a2, hz]
        · have a2 : al2 (d + 1) = 1 := by
            simp only [al2]; rw [if_pos (fun k hk2 => by
              by_cases hkd : k = d
              · rw [hkd]; exact hk
              · exact h1 k (by omega))]
          rw [utv_s (by omega)] at e1
          simp (disch := omega) only [f_M_agrees_50b, f_M_agrees_76, f_M_agrees_77, ↓xx_lE, ↓reduceIte, ↓bn_si, ↓bn_sl, ↓bn_s, ↓bn_ms, hp_i_si, hp_l_si, hp_r_si, hp_n_si, hp_i_sl, hp_l_sl, hp_r_sl, hp_n_sl, hp_i_sr, hp_l_sr, hp_r_sr, hp_n_sr, iL, nI_clamp, hp_in_nI, nI_add, pk_mul, pk_sub, c_le, c_nle, c_lt, c_nlt, c_ne, c_m1, c_m1', ad_ne, ad_ne', ad_ne2, nar0, nar1, true_and, false_and, and_true, and_false, Nat.add_zero, Nat.zero_add, ↓mb_83 hs, mn_45 hs, e1, ng_lt0, a1, a2, hz]
      · have a1 : al2 d = 0 := by simp only [al2]; rw [if_neg h1]
        have a2 : al2 (d + 1) = 0 := by simp only [al2]; rw [if_neg (fun z => h1 (fun k hk => z k (by omega)))]
        simp (disch := omega) only [f_M_agrees_50b, f_M_agrees_76, f_M_agrees_77, ↓xx_lE, ↓reduceIte, ↓bn_si, ↓bn_sl, ↓bn_s, ↓bn_ms, hp_i_si, hp_l_si, hp_r_si, hp_n_si, hp_i_sl, hp_l_sl, hp_r_sl, hp_n_sl, hp_i_sr, hp_l_sr, hp_r_sr, hp_n_sr, iL, nI_clamp, hp_in_nI, nI_add, pk_mul, pk_sub, c_le, c_nle, c_lt, c_nlt, c_ne, c_m1, c_m1', ad_ne, ad_ne', ad_ne2, nar0, nar1, true_and, false_and, and_true, and_false, Nat.add_zero, Nat.zero_add, a1, a2, hz]
    · rintro s rfl
      have e2 : f_M_agrees_50b m v (nI u) (utv (la mo 100)) (nI (al2 (la mo 100))) (nI (la mo 100)) g = (f_M_agrees_85 m v (nI u) (utv (la mo 100)) (nI (al2 (la mo 100))) g).map .inr := by
        by_cases hz : la mo 100 = 0
        · rw [hz, utv0]
          unfold f_M_agrees_50b; rw [if_pos (by decide)]
        · rw [utv_s (by omega)]
          unfold f_M_agrees_50b; rw [if_pos (nI_lt (by omega) (by omega))]
      rw [e2]
      exact pw_mapR hr
def agr (P : PT) (l : Nat) (mo : Nat → Nat) : Int32 := if la mo 100 = 0 then -nI 1 else if ∀ d, d < la mo 100 → mo d ≠ 0 then nI (agv P l (la mo 100 - 1) mo) else -nI 1
def S_85 (m : Nat) : Nat → Nat → Prop := fun a k => F_KM m a k ∨ S_go m a k
theorem M_85 {P : PT} {m l u N : Nat} {mo : Nat → Nat} {g : HP} (hs : MS m g) (ok : POK P) (hp : PM P m g) (hl : l < 2 ^ p_lc P) (hu : u ≤ 100) (hmo : ∀ d, mo d ≤ p_nm P) (e : ∀ d, d < 100 → hp_i g (m + 45) d = utv (mo d)) (hc : CM m N g) : pw (f_M_agrees_85 m (nI l) (nI u) (utv (la mo 100)) (nI (if ∀ d, d < la mo 100 → mo d ≠ 0 then 1 else 0)) g) (fun r => r.1 = agr P l mo ∧ hp_fr (S_85 m) g r.2 ∧ CM m N r.2) := by
  have hla := la_le mo 100
  have hl4 := lam_lt4 ok hl
  unfold f_M_agrees_85
  rw [bn_o (M_lam ok hl hp.1), if_neg (show ¬ nI 1 = (0 : Int32) by decide)]
  by_cases h0 : la mo 100 = 0
  · have ha : agr P l mo = -nI 1 := by unfold agr; rw [if_pos h0]
    rw [ha, h0, utv0, if_pos (by decide)]
    exact pw_some ⟨rfl, hp_fr_rf g, hc⟩
  · rw [utv_s (by omega), if_neg (nI_pos (by omega))]
    by_cases hall : ∀ d, d < la mo 100 → mo d ≠ 0
    · have ha : agr P l mo = nI (agv P l (la mo 100 - 1) mo) := by unfold agr; rw [if_neg h0, if_pos hall]
      rw [ha, if_pos hall, if_neg (show ¬ nI 1 = (0 : Int32) by decide), if_pos (nI_pos' (by omega))]
      refine pw_bind (pw_mono (M_put hs hc) ?_)
      rintro g1 ⟨H1, k1⟩
      have hs1 := MS_fr H1 hs
      have hp1 : PM P m g1 := PM_ag (fun a k hk => hf_i H1 (by unfold F_PM at hk; unfold F_KM; omega)) hp
      refine pw_bind (pw_mono (M_fresh hs1 ok hp1 hl4) ?_)
      rintro g2 ⟨H2, c2⟩
      have hs2 := MS_fr H2 hs1
      have hp2 : PM P m g2 := PM_ag (fun a k hk => hf_i H2 (by unfold F_PM at hk; unfold S_fr; omega)) hp1
      have k2 : KM m N g2 := KM_ag (fun a k hk => hf_i H2 (by unfold F_KM at hk; unfold S_fr; omega)) k1
      have e2 : ∀ d, d < 100 → hp_i g2 (m + 45) d = utv (mo d) := fun d hd => by rw [hf_i H2 (by unfold S_fr; omega), hf_i H1 (by unfold F_KM; omega)]; exact e d hd
      refine pw_mono (M_agree hs2 ok hp2 hl4 (by omega) (fun d hd => ⟨hall d (by omega), hmo d⟩) e2 k2 c2) ?_
      rintro r ⟨r1, r2, r3⟩
      exact ⟨r1, hp_fr_tr (hp_fr_mo H1 (fun a k hk => .inl hk)) (hp_fr_tr (hp_fr_mo H2 (by unfold S_fr S_85 S_go; omega)) (hp_fr_mo r2 (fun a k hk => .inr hk))), r3⟩
    · have ha : agr P l mo = -nI 1 := by unfold agr; rw [if_neg h0, if_neg hall]
      rw [ha, if_neg hall, if_pos (show nI 0 = (0 : Int32) from rfl)]
      exact pw_some ⟨rfl, hp_fr_rf g, hc⟩
theorem op_agrees {x m : Nat} (v w : Int32) : EZ (fun h => f_X_agrees x v w h) (fun h => f_M_agrees m v w h) x m := by
  intro P q h hb
  have hm := bm hb
  have ok := bok hb
  have hnm := ok.2.2.2.2.2.1
  have hxs := bxs hb
  obtain ⟨_, hq⟩ := BAS_q hb
  obtain ⟨n, tm, dd, mm, tt, uu, hl⟩ := bL hb
  obtain ⟨l1, l2, l3, l4, l5⟩ := LG_x hl ok
  have hmo : ∀ d, mO dd mm tt uu w d n ≤ 6 := fun d => mO_lt n (fun j hj => (l2 j hj).2.1)
  have hmo2 : ∀ d, mO dd mm tt uu w d n ≤ p_nm P := fun d => mO_lt n l5
  obtain ⟨N, td, ov, bu, hc, hcx, hcm⟩ := bC hb
  have Mf : ∀ g1, hp_fr (S_ag x q) h g1 → pw (f_M_layLogs m w g1) (fun r => r.1 = nI (fb_ct (fun d => decide (kO dd mm tt uu w d n = 1)) 100) ∧ hp_fr (S_ll m) g1 r.2 ∧ ∀ d, d < 100 → hp_i r.2 (m + 45) d = utv (mO dd mm tt uu w d n)) := fun g1 H1 => by
    refine M_layLogs (MS_fr H1 (bms hb)) l1 l2 ⟨?_, fun k hk => ?_⟩
    · rw [hf_i H1 (by unfold S_ag S_ga S_oc; omega)]; exact l4.1
    · obtain ⟨k1, k2, k3, k4⟩ := l4.2 k hk
      refine ⟨?_, ?_, ?_, ?_⟩
      all_goals rw [hf_i H1 (by unfold S_ag S_ga S_oc; omega)]
      all_goals assumption
  rcases lam_cases P ok v with ⟨l, hl2, rfl⟩ | ⟨k1, k2⟩
  · have hl4 := lam_lt4 ok hl2
    have Mall : ∀ g1, hp_fr (S_ag x q) h g1 → pw (f_M_agrees m (nI l) w g1) (fun s => agr P l (fun d => mO dd mm tt uu w d n) = s.1 ∧ BAS P q x m s.2 ∧ hp_fr (S_ez x m) h s.2) := by
      intro g1 H1
      unfold f_M_agrees
      refine pw_bind (pw_mono (Mf g1 H1) ?_)
      rintro ⟨r, g2⟩ ⟨rfl, H2, e2⟩
      dsimp only at H2 e2 ⊢
      have hs2 := MS_fr H2 (MS_fr H1 (bms hb))
      have H12 : hp_fr (fun a k => S_ag x q a k ∨ S_ll m a k) h g2 := hp_fr_tr (hp_fr_mo H1 (fun a k hk => .inl hk)) (hp_fr_mo H2 (fun a k hk => .inr hk))
      have pm2 : PM P m g2 := PM_ag (fun a k hk => hf_i H12 (by unfold F_PM at hk; unfold S_ag S_ga S_oc S_ll; omega)) (bpm hb)
      have cm2 : CM m N g2 := CM_ag (fun a k hk => hf_i H12 (by unfold F_CM at hk; unfold S_ag S_ga S_oc S_ll; omega)) hcm.1
      refine M_gap (mo := fun d => mO dd mm tt uu w d n) hs2 hmo e2 (pw_mono (M_85 hs2 ok pm2 hl2 (fb_ct_le _ _) hmo2 e2 cm2) ?_)
      rintro ⟨r, g3⟩ ⟨r1, H3, c3⟩
      dsimp only at r1 H3 c3 ⊢
      have H : hp_fr (fun a k => (S_ag x q a k ∨ S_ll m a k) ∨ S_85 m a k) h g3 := hp_fr_tr (hp_fr_mo H12 (fun a k hk => .inl hk)) (hp_fr_mo H3 (fun a k hk => .inr hk))
      refine ⟨r1.symm, ?_, hp_fr_mo H (by unfold S_ez S_ag S_ga S_oc S_ll S_85 F_KM S_go; omega)⟩
      refine BAS_mk hb H (by unfold F_core F_PM S_ag S_ga S_oc S_ll S_85 F_KM S_go; omega) (TP_fr H (by unfold F_TP S_ag S_ga S_oc S_ll S_85 F_KM S_go; omega) (bT hb)) (FL_fr H (by unfold F_FL S_ag S_ga S_oc S_ll S_85 F_KM S_go; omega) (bF hb)) ⟨N, td, ov, bu, hc, CCX_ag (fun a k hk => ⟨hf_i H (by unfold F_CCX at hk; unfold S_ag S_ga S_oc S_ll S_85 F_KM S_go; omega), hf_l H (by unfold F_CCX at hk; unfold S_ag S_ga S_oc S_ll S_85 F_KM S_go; omega)⟩) hcx, c3, ?_, ?_, fun i hi => ?_⟩ (BX_fr H (by unfold F_BX S_ag S_ga S_oc S_ll S_85 F_KM S_go; omega) (bB hb)) (LG_fr H (by unfold F_LG S_ag S_ga S_oc S_ll S_85 F_KM S_go; omega) (bL hb))
      · rw [hf_i H (by unfold S_ag S_ga S_oc S_ll S_85 F_KM S_go; omega)]; exact hcm.2.1
      · rw [hf_i H (by unfold S_ag S_ga S_oc S_ll S_85 F_KM S_go; omega)]; exact hcm.2.2.1
      · rw [hf_i H (by unfold S_ag S_ga S_oc S_ll S_85 F_KM S_go; omega)]; exact hcm.2.2.2 i hi
    unfold f_X_agrees f_Lo_agreement f_Lo_latestWithoutGap
    dsimp only
    rw [bn_o (br3 hb), bn_o (X_lam ok hl2 (bpx hb)), if_neg (show ¬ nI 1 = (0 : Int32) by decide), xb_0_7 hxs, bn_o (br3 hb)]
    refine pw_bind (pw_bind (pw_bind (pw_mono (Lo_gather hxs l1 l2 l3) ?_)))
    rintro g1 ⟨H1, e1⟩
    refine pw_eq (X_gap (mo := fun d => mO dd mm tt uu w d n) (XS_fr H1 hxs) hmo (fun d hd => (e1 d hd).1)) ?_
    dsimp only
    have hal := la_all (fun d => mO dd mm tt uu w d n) 100
    have hla := la_le (fun d => mO dd mm tt uu w d n) 100
    have H1' : hp_fr (S_ag x q) h g1 := hp_fr_mo H1 (fun a k hk => .inl hk)
    by_cases hyes : la (fun d => mO dd mm tt uu w d n) 100 ≠ 0 ∧ fb_ct (told (fun d => mO dd mm tt uu w d n)) 100 = la (fun d => mO dd mm tt uu w d n) 100
    · obtain ⟨y1, y2⟩ := hyes
      rw [if_pos y2, utv_s (by omega), if_neg (i_m1lt (by omega))]
      have ps1 := PSH_fr H1 (BAS_psh hb)
      have px1 : PX P q g1 := PX_ag (fun a k hk => hf_i H1 (by unfold F_PX at hk; unfold S_ga; omega)) (bpx hb)
      rw [bn_o (X_first ps1 ok px1 hl4)]
      have ha : agr P l (fun d => mO dd mm tt uu w d n) = nI (agv P l (la (fun d => mO dd mm tt uu w d n) 100 - 1) (fun d => mO dd mm tt uu w d n)) := by unfold agr; rw [if_neg y1, if_pos (hal.mp y2)]
      refine pw_mono (X_agree (XS_fr H1 hxs) hq ps1 ok px1 hl4 (by omega) (fun d hd => ⟨hal.mp y2 d (by omega), hmo2 d⟩) (fun d hd => (e1 d hd).1)) ?_
      rintro ⟨r, g2⟩ ⟨r1, H2⟩
      dsimp only at r1 H2 ⊢
      refine pw_some ?_
      dsimp only
      rw [r1, ← ha]
      exact Mall g2 (hp_fr_tr H1' (hp_fr_mo H2 (fun a k hk => .inr hk)))
    · have e3 : (if fb_ct (told (fun d => mO dd mm tt uu w d n)) 100 = la (fun d => mO dd mm tt uu w d n) 100 then utv (la (fun d => mO dd mm tt uu w d n) 100) else -nI 1) = -1 := by
        by_cases y2 : fb_ct (told (fun d => mO dd mm tt uu w d n)) 100 = la (fun d => mO dd mm tt uu w d n) 100
        · rw [if_pos y2, show la (fun d => mO dd mm tt uu w d n) 100 = 0 from Decidable.of_not_not (fun z => hyes ⟨z, y2⟩)]; rfl
        · rw [if_neg y2]; rfl
      have ha : agr P l (fun d => mO dd mm tt uu w d n) = -1 := by
        unfold agr
        by_cases y1 : la (fun d => mO dd mm tt uu w d n) 100 = 0
        · rw [if_pos y1]; rfl
        · rw [if_neg y1, if_neg (fun z => hyes ⟨y1, hal.mpr z⟩)]; rfl
      rw [e3, if_pos rfl]
      refine pw_some (pw_some ?_)
      dsimp only
      rw [← ha]
      exact Mall g1 H1'
  · refine pw_eq (x := (-nI 1, h)) (by simp (disch := omega) only [f_X_agrees, ↓xx_lE, ↓reduceIte, ↓bn_si, ↓bn_sl, ↓bn_s, ↓bn_ms, hp_i_si, hp_l_si, hp_r_si, hp_n_si, hp_i_sl, hp_l_sl, hp_r_sl, hp_n_sl, hp_i_sr, hp_l_sr, hp_r_sr, hp_n_sr, iL, nI_clamp, hp_in_nI, nI_add, pk_mul, pk_sub, c_le, c_nle, c_lt, c_nlt, c_ne, c_m1, c_m1', ad_ne, ad_ne', ad_ne2, nar0, nar1, true_and, false_and, and_true, and_false, Nat.add_zero, Nat.zero_add, ↓bn_o (br3 hb), ↓bn_o (k1 q h (bpx hb))]) ?_
    dsimp only
    unfold f_M_agrees
    refine pw_bind (pw_mono (Mf h (hp_fr_rf h)) ?_)
    rintro ⟨r, g2⟩ ⟨rfl, H2, e2⟩
    dsimp only at H2 e2 ⊢
    have e28 : hp_i g2 m 28 = nI (p_lc P) := by rw [hf_i H2 (by unfold S_ll; omega)]; exact (bpm hb).1
    refine M_gap (mo := fun d => mO dd mm tt uu w d n) (MS_fr H2 (bms hb)) hmo e2 ?_
    unfold f_M_agrees_85
    rw [bn_o (k2 m g2 e28), if_pos (show nI 0 = (0 : Int32) from rfl)]
    exact pw_some ⟨rfl, lg_keep hb (hp_fr_mo H2 (fun a k hk => .inr hk))⟩
