/-! class and reference side by side, caches apart -/
def CRE (P : PT) (x m : Nat) (h : HP) : Prop := ∃ N td ov bu, CRS P N td ov bu ∧ CCX (x + 25) N td ov bu h ∧ CMM m N td ov bu h
def BAS (P : PT) (q x m : Nat) (h : HP) : Prop := m = x + 41 ∧ XS x h ∧ MS m h ∧ m + 56 ≤ hp_z h ∧ hp_r h x 3 = some q ∧ (q = x + 7 ∧ hp_r h x 4 = some (x + 16) ∨ q = x + 16 ∧ hp_r h x 4 = some (x + 7)) ∧ POK P ∧ PX P q h ∧ PM P m h ∧ (∃ T t, TPE T t x m h) ∧ FLE x m h ∧ CRE P x m h ∧ (∀ b, b < 3 → BXE P x m b h) ∧ ∃ n tm dd mm tt uu, LGE P n tm dd mm tt uu x m h
theorem PSH_7 {x : Nat} {h : HP} (hs : XS x h) : PSH (x + 7) h := ⟨xr_7_8 hs, xr_7_9 hs, xr_7_10 hs, xr_7_11 hs, xr_7_12 hs, xr_7_13 hs, xr_7_15 hs, xr_7_16 hs, xn_8 hs, xn_9 hs, xn_10 hs, xn_11 hs, xn_12 hs, xn_13 hs, xn_14 hs, xn_15 hs⟩
theorem PSH_16 {x : Nat} {h : HP} (hs : XS x h) : PSH (x + 16) h := ⟨xr_16_8 hs, xr_16_9 hs, xr_16_10 hs, xr_16_11 hs, xr_16_12 hs, xr_16_13 hs, xr_16_15 hs, xr_16_16 hs, xn_17 hs, xn_18 hs, xn_19 hs, xn_20 hs, xn_21 hs, xn_22 hs, xn_23 hs, xn_24 hs⟩
theorem BAS_psh {P : PT} {q x m : Nat} {h : HP} (hb : BAS P q x m h) : PSH q h := by
  rcases hb.2.2.2.2.2.1 with ⟨h1, _⟩ | ⟨h1, _⟩
  · rw [h1]; exact PSH_7 hb.2.1
  · rw [h1]; exact PSH_16 hb.2.1
theorem BAS_q {P : PT} {q x m : Nat} {h : HP} (hb : BAS P q x m h) : m = x + 41 ∧ (q = x + 7 ∨ q = x + 16) := by
  rcases hb.2.2.2.2.2.1 with ⟨h1, _⟩ | ⟨h1, _⟩
  · exact ⟨hb.1, .inl h1⟩
  · exact ⟨hb.1, .inr h1⟩
/-- what an easy call may change -/
def S_ez (x m : Nat) : Nat → Nat → Prop := fun a k => x ≤ a ∧ a < m + 56 ∧ ¬ (a = x ∧ 8 ≤ k)
/-- the cells of plans -/
def F_core (x m : Nat) : Nat → Nat → Prop := fun a k => x + 7 ≤ a ∧ a < x + 14 ∨ x + 16 ≤ a ∧ a < x + 23 ∨ F_PM m a k
theorem BAS_mk {P : PT} {q x m : Nat} {h h' : HP} {S : Nat → Nat → Prop} (hb : BAS P q x m h) (H : hp_fr S h h') (hS : ∀ a k, S a k → ¬ F_core x m a k) (h1 : ∃ T t, TPE T t x m h') (h2 : FLE x m h') (h3 : CRE P x m h') (h4 : ∀ b, b < 3 → BXE P x m b h') (h5 : ∃ n tm dd mm tt uu, LGE P n tm dd mm tt uu x m h') : BAS P q x m h' := by
  obtain ⟨a1, a2, a3, a4, a5, a6, a7, a8, a9, _⟩ := id hb
  obtain ⟨_, hq⟩ := BAS_q hb
  refine ⟨a1, XS_fr H a2, MS_fr H a3, by rw [hp_fr_z H]; exact a4, by rw [hp_fr_r H]; exact a5, by rw [hp_fr_r H]; exact a6, a7, ?_, ?_, h1, h2, h3, h4, h5⟩
  · refine PX_ag (fun a k hk => hf_i H (fun z => hS a k z ?_)) a8
    unfold F_PX at hk; unfold F_core; omega
  · exact PM_ag (fun a k hk => hf_i H (fun z => hS a k z (.inr (.inr hk)))) a9
theorem TP_fr {S : Nat → Nat → Prop} {x m : Nat} {h h' : HP} (H : hp_fr S h h') (hS : ∀ a k, S a k → ¬ F_TP x m a k) (ht : ∃ T t, TPE T t x m h) : ∃ T t, TPE T t x m h' := by
  obtain ⟨T, t, ht⟩ := ht
  exact ⟨T, t, TP_ag (fun a k hk => hf_i H (fun z => hS a k z hk)) ht⟩
theorem FL_fr {S : Nat → Nat → Prop} {x m : Nat} {h h' : HP} (H : hp_fr S h h') (hS : ∀ a k, S a k → ¬ F_FL x m a k) (ht : FLE x m h) : FLE x m h' := FL_ag (fun a k hk => hf_i H (fun z => hS a k z hk)) ht
theorem CR_fr {P : PT} {S : Nat → Nat → Prop} {x m : Nat} {h h' : HP} (H : hp_fr S h h') (hS : ∀ a k, S a k → ¬ F_CCX (x + 25) a k ∧ ¬ F_CMM m a k) (ht : CRE P x m h) : CRE P x m h' := by
  obtain ⟨N, td, ov, bu, h1, h2, h3⟩ := ht
  exact ⟨N, td, ov, bu, h1, CCX_ag (fun a k hk => ⟨hf_i H (fun z => (hS a k z).1 hk), hf_l H (fun z => (hS a k z).1 hk)⟩) h2, CMM_ag (fun a k hk => hf_i H (fun z => (hS a k z).2 hk)) h3⟩
theorem BX_fr {P : PT} {S : Nat → Nat → Prop} {x m : Nat} {h h' : HP} (H : hp_fr S h h') (hS : ∀ a k, S a k → ¬ F_BX x m a k) (ht : ∀ b, b < 3 → BXE P x m b h) : ∀ b, b < 3 → BXE P x m b h' := fun b hb => BX_ag hb (fun a k hk => ⟨hf_i H (fun z => hS a k z hk), hf_l H (fun z => hS a k z hk)⟩) (ht b hb)
theorem LG_fr {P : PT} {S : Nat → Nat → Prop} {x m : Nat} {h h' : HP} (H : hp_fr S h h') (hS : ∀ a k, S a k → ¬ F_LG x m a k) (ht : ∃ n tm dd mm tt uu, LGE P n tm dd mm tt uu x m h) : ∃ n tm dd mm tt uu, LGE P n tm dd mm tt uu x m h' := by
  obtain ⟨n, tm, dd, mm, tt, uu, ht⟩ := ht
  exact ⟨n, tm, dd, mm, tt, uu, LG_ag (fun a k hk => hf_i H (fun z => hS a k z hk)) ht⟩
/-- an easy call: both answer alike, and all is side by side again -/
def EZ (fx fm : HP → Option (Int32 × HP)) (x m : Nat) : Prop := ∀ (P : PT) (q : Nat) (h : HP), BAS P q x m h → pw (fx h) (fun r => pw (fm r.2) (fun s => r.1 = s.1 ∧ BAS P q x m s.2 ∧ hp_fr (S_ez x m) h s.2))
theorem EZ_id {fx fm : HP → Option (Int32 × HP)} {x m q : Nat} {P : PT} {h : HP} {v : Int32} (hb : BAS P q x m h) (e1 : fx h = some (v, h)) (e2 : fm h = some (v, h)) : pw (fx h) (fun r => pw (fm r.2) (fun s => r.1 = s.1 ∧ BAS P q x m s.2 ∧ hp_fr (S_ez x m) h s.2)) := pw_eq e1 (pw_eq e2 ⟨rfl, hb, hp_fr_rf h⟩)
theorem i_cases (v : Int32) : v < 0 ∨ ∃ n : Nat, n < 2 ^ 31 ∧ v = nI n := by
  by_cases h : v < 0
  · exact .inl h
  · exact .inr (nI_of h)
theorem man_cases (P : PT) (ok : POK P) (v : Int32) : (∃ i : Nat, i < p_nm P ∧ v = nI i) ∨ ((∀ q h, hp_i h q 5 = nI (p_nm P) → f_Pl_hasMan q v h = some (nI 0, h)) ∧ ∀ m h, hp_i h m 33 = nI (p_nm P) → f_M_isMan m v h = some (nI 0, h)) := by
  have hnm := ok.2.2.2.2.2.1
  rcases i_cases v with hv | ⟨n, hn, rfl⟩
  · exact .inr ⟨fun q h _ => by unfold f_Pl_hasMan; rw [if_pos hv]; rfl, fun m h _ => by unfold f_M_isMan; rw [if_pos hv]; rfl⟩
  · by_cases hc : n < p_nm P
    · exact .inl ⟨n, hc, rfl⟩
    · refine .inr ⟨fun q h e => ?_, fun m h e => ?_⟩
      · simp (disch := omega) only [f_Pl_hasMan, ↓xx_lE, ↓reduceIte, ↓bn_si, ↓bn_sl, ↓bn_s, ↓bn_ms, hp_i_si, hp_l_si, hp_r_si, hp_n_si, hp_i_sl, hp_l_sl, hp_r_sl, hp_n_sl, hp_i_sr, hp_l_sr, hp_r_sr, hp_n_sr, iL, nI_clamp, hp_in_nI, nI_add, pk_mul, pk_sub, c_le, c_nle, c_lt, c_nlt, c_ne, c_m1, c_m1', ad_ne, ad_ne', ad_ne2, nar0, nar1, true_and, false_and, and_true, and_false, Nat.add_zero, Nat.zero_add, e]
      · simp (disch := omega) only [f_M_isMan, ↓xx_lE, ↓reduceIte, ↓bn_si, ↓bn_sl, ↓bn_s, ↓bn_ms, hp_i_si, hp_l_si, hp_r_si, hp_n_si, hp_i_sl, hp_l_sl, hp_r_sl, hp_n_sl, hp_i_sr, hp_l_sr, hp_r_sr, hp_n_sr, iL, nI_clamp, hp_in_nI, nI_add, pk_mul, pk_sub, c_le, c_nle, c_lt, c_nlt, c_ne, c_m1, c_m1', ad_ne, ad_ne', ad_ne2, nar0, nar1, true_and, false_and, and_true, and_false, Nat.add_zero, Nat.zero_add, e]
theorem X_man {P : PT} (ok : POK P) {i q : Nat} {h : HP} (hi : i < p_nm P) (e : hp_i h q 5 = nI (p_nm P)) : f_Pl_hasMan q (nI i) h = some (nI 1, h) := by
  have hnm := ok.2.2.2.2.2.1
  simp (disch := omega) only [f_Pl_hasMan, ↓xx_lE, ↓reduceIte, ↓bn_si, ↓bn_sl, ↓bn_s, ↓bn_ms, hp_i_si, hp_l_si, hp_r_si, hp_n_si, hp_i_sl, hp_l_sl, hp_r_sl, hp_n_sl, hp_i_sr, hp_l_sr, hp_r_sr, hp_n_sr, iL, nI_clamp, hp_in_nI, nI_add, pk_mul, pk_sub, c_le, c_nle, c_lt, c_nlt, c_ne, c_m1, c_m1', ad_ne, ad_ne', ad_ne2, nar0, nar1, true_and, false_and, and_true, and_false, Nat.add_zero, Nat.zero_add, e]
theorem M_man {P : PT} (ok : POK P) {i m : Nat} {h : HP} (hi : i < p_nm P) (e : hp_i h m 33 = nI (p_nm P)) : f_M_isMan m (nI i) h = some (nI 1, h) := by
  have hnm := ok.2.2.2.2.2.1
  simp (disch := omega) only [f_M_isMan, ↓xx_lE, ↓reduceIte, ↓bn_si, ↓bn_sl, ↓bn_s, ↓bn_ms, hp_i_si, hp_l_si, hp_r_si, hp_n_si, hp_i_sl, hp_l_sl, hp_r_sl, hp_n_sl, hp_i_sr, hp_l_sr, hp_r_sr, hp_n_sr, iL, nI_clamp, hp_in_nI, nI_add, pk_mul, pk_sub, c_le, c_nle, c_lt, c_nlt, c_ne, c_m1, c_m1', ad_ne, ad_ne', ad_ne2, nar0, nar1, true_and, false_and, and_true, and_false, Nat.add_zero, Nat.zero_add, e]
theorem lc_sh {P : PT} (ok : POK P) : (nI 1) <<< (nI (p_lc P) &&& nI 31) = nI (2 ^ p_lc P) := by
  rcases ok.1 with h | h <;> rw [h] <;> decide
theorem lam_cases (P : PT) (ok : POK P) (v : Int32) : (∃ l : Nat, l < 2 ^ p_lc P ∧ v = nI l) ∨ ((∀ q h, PX P q h → f_Pl_canBeLamps q v h = some (nI 0, h)) ∧ ∀ m h, hp_i h m 28 = nI (p_lc P) → f_M_isLight m v h = some (nI 0, h)) := by
  obtain ⟨k1, k2⟩ := p_lc2 ok
  have hal : al P ≤ 3 := by unfold al; split <;> omega
  rcases i_cases v with hv | ⟨n, hn, rfl⟩
  · exact .inr ⟨fun q h _ => by unfold f_Pl_canBeLamps; rw [if_pos hv]; rfl, fun m h _ => by unfold f_M_isLight; rw [if_pos hv]; rfl⟩
  · by_cases hc : n < 2 ^ p_lc P
    · exact .inl ⟨n, hc, rfl⟩
    · rw [k1] at hc
      refine .inr ⟨fun q h e => ?_, fun m h e => ?_⟩
      · simp (disch := omega) only [f_Pl_canBeLamps, ↓xx_lE, ↓reduceIte, ↓bn_si, ↓bn_sl, ↓bn_s, ↓bn_ms, hp_i_si, hp_l_si, hp_r_si, hp_n_si, hp_i_sl, hp_l_sl, hp_r_sl, hp_n_sl, hp_i_sr, hp_l_sr, hp_r_sr, hp_n_sr, iL, nI_clamp, hp_in_nI, nI_add, pk_mul, pk_sub, c_le, c_nle, c_lt, c_nlt, c_ne, c_m1, c_m1', ad_ne, ad_ne', ad_ne2, nar0, nar1, true_and, false_and, and_true, and_false, Nat.add_zero, Nat.zero_add, ↓bn_o (X_allOn ok e)]
      · simp (disch := omega) only [f_M_isLight, ↓xx_lE, ↓reduceIte, ↓bn_si, ↓bn_sl, ↓bn_s, ↓bn_ms, hp_i_si, hp_l_si, hp_r_si, hp_n_si, hp_i_sl, hp_l_sl, hp_r_sl, hp_n_sl, hp_i_sr, hp_l_sr, hp_r_sr, hp_n_sr, iL, nI_clamp, hp_in_nI, nI_add, pk_mul, pk_sub, c_le, c_nle, c_lt, c_nlt, c_ne, c_m1, c_m1', ad_ne, ad_ne', ad_ne2, nar0, nar1, true_and, false_and, and_true, and_false, Nat.add_zero, Nat.zero_add, e, lc_sh ok, k1]
theorem X_lam {P : PT} (ok : POK P) {l q : Nat} {h : HP} (hl : l < 2 ^ p_lc P) (e : PX P q h) : f_Pl_canBeLamps q (nI l) h = some (nI 1, h) := by
  obtain ⟨k1, k2⟩ := p_lc2 ok
  have hal : al P ≤ 3 := by unfold al; split <;> omega
  rw [k1] at hl
  simp (disch := omega) only [f_Pl_canBeLamps, ↓xx_lE, ↓reduceIte, ↓bn_si, ↓bn_sl, ↓bn_s, ↓bn_ms, hp_i_si, hp_l_si, hp_r_si, hp_n_si, hp_i_sl, hp_l_sl, hp_r_sl, hp_n_sl, hp_i_sr, hp_l_sr, hp_r_sr, hp_n_sr, iL, nI_clamp, hp_in_nI, nI_add, pk_mul, pk_sub, c_le, c_nle, c_lt, c_nlt, c_ne, c_m1, c_m1', ad_ne, ad_ne', ad_ne2, nar0, nar1, true_and, false_and, and_true, and_false, Nat.add_zero, Nat.zero_add, ↓bn_o (X_allOn ok e)]
theorem M_lam {P : PT} (ok : POK P) {l m : Nat} {h : HP} (hl : l < 2 ^ p_lc P) (e : hp_i h m 28 = nI (p_lc P)) : f_M_isLight m (nI l) h = some (nI 1, h) := by
  obtain ⟨k1, k2⟩ := p_lc2 ok
  have hal : al P ≤ 3 := by unfold al; split <;> omega
  rw [k1] at hl
  simp (disch := omega) only [f_M_isLight, ↓xx_lE, ↓reduceIte, ↓bn_si, ↓bn_sl, ↓bn_s, ↓bn_ms, hp_i_si, hp_l_si, hp_r_si, hp_n_si, hp_i_sl, hp_l_sl, hp_r_sl, hp_n_sl, hp_i_sr, hp_l_sr, hp_r_sr, hp_n_sr, iL, nI_clamp, hp_in_nI, nI_add, pk_mul, pk_sub, c_le, c_nle, c_lt, c_nlt, c_ne, c_m1, c_m1', ad_ne, ad_ne', ad_ne2, nar0, nar1, true_and, false_and, and_true, and_false, Nat.add_zero, Nat.zero_add, e, lc_sh ok, k1]
theorem lam_lt4 {P : PT} (ok : POK P) {l : Nat} (hl : l < 2 ^ p_lc P) : l < 4 := by
  rcases ok.1 with h | h <;> rw [h] at hl <;> omega
