/-! the reference: fresh, beginWith -/
def S_fr (m : Nat) : Nat → Nat → Prop := fun a k => a = m ∧ (k = 51 ∨ k = 52) ∨ a = m + 20 ∨ a = m + 21 ∨ a = m + 23
theorem M_fresh {P : PT} {m l : Nat} {h : HP} (hs : MS m h) (ok : POK P) (hp : PM P m h) (hl : l < 4) : pw (f_M_fresh m (nI l) h) (fun h' => hp_fr (S_fr m) h h' ∧ CM m (fs P l) h') := by
  unfold f_M_fresh f_M_fresh_12
  simp only [xx_l]
  have hnm : p_nm P ≤ 6 := ok.2.2.2.2.2.1
  obtain ⟨_, _, _, _, _, p6, _, _, _, p10, _⟩ := hp
  have o1 := ok.2.2.2.2.2.2.2.2.1
  have o2 := ok.2.2.2.2.2.2.2.2.2.1
  have hlt : ∀ i, i < 6 → (if i < p_nm P then p_hf P (p_ro P i) else 0) < 32 := by
    intro i _
    by_cases hi : i < p_nm P
    · simp only [hi, if_true]; have := o1 _ (o2 i hi); omega
    · simp [hi]
  have how : ∀ i, i < 6 → ow (fs P l) i = (if i < p_nm P then p_hf P (p_ro P i) else 0) := fun i hi => ex_ow hl (by decide) (fun j hj => by have := hlt j hj; omega) hi
  refine pw_cnt 6 (fun i s => s.1 = nI i ∧ hp_fr (S_fr m) h s.2 ∧ hp_i s.2 m 51 = nI l ∧ hp_i s.2 m 52 = nI 0 ∧ ∀ k, k < i → hp_i s.2 (m + 20) k = nI (hd (fs P l) k) ∧ hp_i s.2 (m + 21) k = nI (vs (fs P l) k) ∧ hp_i s.2 (m + 23) k = nI (be (fs P l) k)) ?_ ?_ 0 _ (by decide) ?_
  · rintro i ⟨v, g⟩ hi ⟨rfl, H, e1, e2, e3⟩
    have hg := MS_fr H hs
    have q6 : hp_i g m 33 = nI (p_nm P) := by rw [hf_i H (by unfold S_fr; omega)]; exact p6
    have q10 : i < p_nm P → hp_i g (m + 7) i = nI (p_hf P (p_ro P i)) := fun z => by rw [hf_i H (by unfold S_fr; omega)]; exact p10 i z
    have fin : f_M_fresh_12b m (nI i) g = some (.inl (nI (i + 1), hp_si (hp_si (hp_si g (m + 20) i (nI (hd (fs P l) i))) (m + 21) i (nI 0)) (m + 23) i (nI 0))) := by
      have e41 : hd (fs P l) i = if i < p_nm P then p_hf P (p_ro P i) else 0 := by
        unfold hd; rw [how i hi, Nat.mod_eq_of_lt (hlt i hi)]
      by_cases hc : p_nm P ≤ i
      · rw [if_neg (by omega)] at e41
        simp (disch := omega) only [f_M_fresh_12b, f_M_fresh_41, ↓xx_lE, ↓reduceIte, ↓bn_si, ↓bn_sl, ↓bn_s, ↓bn_ms, hp_i_si, hp_l_si, hp_r_si, hp_n_si, hp_i_sl, hp_l_sl, hp_r_sl, hp_n_sl, hp_i_sr, hp_l_sr, hp_r_sr, hp_n_sr, iL, nI_clamp, hp_in_nI, nI_add, pk_mul, pk_sub, c_le, c_nle, c_lt, c_nlt, c_ne, c_m1, c_m1', ad_ne, ad_ne', ad_ne2, nar0, nar1, true_and, false_and, and_true, and_false, Nat.add_zero, Nat.zero_add, q6, ↓mb_47 hg, ↓mb_48 hg, ↓mb_50 hg, ↓mb_15 hg, mn_20 hg, mn_21 hg, mn_23 hg, mn_7 hg, e41]
      · rw [if_pos (by omega)] at e41
        simp (disch := omega) only [f_M_fresh_12b, f_M_fresh_41, ↓xx_lE, ↓reduceIte, ↓bn_si, ↓bn_sl, ↓bn_s, ↓bn_ms, hp_i_si, hp_l_si, hp_r_si, hp_n_si, hp_i_sl, hp_l_sl, hp_r_sl, hp_n_sl, hp_i_sr, hp_l_sr, hp_r_sr, hp_n_sr, iL, nI_clamp, hp_in_nI, nI_add, pk_mul, pk_sub, c_le, c_nle, c_lt, c_nlt, c_ne, c_m1, c_m1', ad_ne, ad_ne', ad_ne2, nar0, nar1, true_and, false_and, and_true, and_false, Nat.add_zero, Nat.zero_add, q6, q10, ↓mb_47 hg, ↓mb_48 hg, ↓mb_50 hg, ↓mb_15 hg, mn_20 hg, mn_21 hg, mn_23 hg, mn_7 hg, e41]
    refine pw_L fin ⟨rfl, ?_, ?_, ?_, fun k hk => ?_⟩
    · exact hf_si (hf_si (hf_si H (by unfold S_fr; omega)) (by unfold S_fr; omega)) (by unfold S_fr; omega)
    · simpa [hp_i_si] using e1
    · simpa [hp_i_si] using e2
    · by_cases hk2 : k = i
      · subst hk2
        have e4 : vs (fs P l) k = 0 := by unfold vs; rw [how k hi]; have := hlt k hi; omega
        have e5 : be (fs P l) k = 0 := by unfold be; rw [how k hi]; have := hlt k hi; omega
        simp [hp_i_si, e4, e5]
      · have := e3 k (by omega)
        simpa [hp_i_si, hk2] using this
  · rintro ⟨v, g⟩ ⟨rfl, H, e1, e2, e3⟩
    refine pw_R (t := g) ?_ ⟨H, ?_, ?_, fun k hk => e3 k hk⟩
    · simp (disch := omega) only [f_M_fresh_12b, ↓xx_lE, ↓reduceIte, ↓bn_si, ↓bn_sl, ↓bn_s, ↓bn_ms, hp_i_si, hp_l_si, hp_r_si, hp_n_si, hp_i_sl, hp_l_sl, hp_r_sl, hp_n_sl, hp_i_sr, hp_l_sr, hp_r_sr, hp_n_sr, iL, nI_clamp, hp_in_nI, nI_add, pk_mul, pk_sub, c_le, c_nle, c_lt, c_nlt, c_ne, c_m1, c_m1', ad_ne, ad_ne', ad_ne2, nar0, nar1, true_and, false_and, and_true, and_false, Nat.add_zero, Nat.zero_add]
    · rw [e1]; unfold fs; rw [ex_lm hl]
    · rw [e2]; unfold fs; rw [ex_dy hl (by decide)]
  · refine ⟨rfl, hf_si (hf_si (hp_fr_rf h) (by unfold S_fr; omega)) (by unfold S_fr; omega), by simp [hp_i_si], by simp [hp_i_si]; rfl, fun k hk => by omega⟩
def S_bw (m : Nat) : Nat → Nat → Prop := fun a k => a = m ∧ (k = 51 ∨ k = 52 ∨ k = 55 ∨ k = 56) ∨ a = m + 20 ∨ a = m + 21 ∨ a = m + 22 ∨ a = m + 23
theorem M_beginWith {P : PT} {m l : Nat} {h : HP} (hs : MS m h) (ok : POK P) (hp : PM P m h) (hl : l < 4) : pw (f_M_beginWith m (nI l) h) (fun h' => hp_fr (S_bw m) h h' ∧ CM m (fs P l) h' ∧ hp_i h' m 55 = nI 0 ∧ hp_i h' m 56 = nI 0 ∧ ∀ i, i < 6 → hp_i h' (m + 22) i = nI 0) := by
  unfold f_M_beginWith f_M_beginWith_17
  refine pw_bind (pw_mono (M_fresh hs ok hp hl) ?_)
  rintro g ⟨H, hc⟩
  simp only [xx_l]
  have H2 : hp_fr (S_bw m) h g := hp_fr_mo H (by unfold S_fr S_bw; omega)
  refine pw_cnt 6 (fun i s => s.1 = nI i ∧ hp_fr (S_bw m) h s.2 ∧ CM m (fs P l) s.2 ∧ hp_i s.2 m 55 = nI 0 ∧ hp_i s.2 m 56 = nI 0 ∧ ∀ k, k < i → hp_i s.2 (m + 22) k = nI 0) ?_ ?_ 0 _ (by decide) ?_
  · rintro i ⟨v, g⟩ hi ⟨rfl, H, e1, e2, e3, e4⟩
    have hg := MS_fr H hs
    refine pw_L (s := (nI (i + 1), hp_si g (m + 22) i (nI 0))) ?_ ⟨rfl, hf_si H (by unfold S_bw; omega), ?_, ?_, ?_, fun k hk => ?_⟩
    · simp (disch := omega) only [f_M_beginWith_17b, ↓xx_lE, ↓reduceIte, ↓bn_si, ↓bn_sl, ↓bn_s, ↓bn_ms, hp_i_si, hp_l_si, hp_r_si, hp_n_si, hp_i_sl, hp_l_sl, hp_r_sl, hp_n_sl, hp_i_sr, hp_l_sr, hp_r_sr, hp_n_sr, iL, nI_clamp, hp_in_nI, nI_add, pk_mul, pk_sub, c_le, c_nle, c_lt, c_nlt, c_ne, c_m1, c_m1', ad_ne, ad_ne', ad_ne2, nar0, nar1, true_and, false_and, and_true, and_false, Nat.add_zero, Nat.zero_add, ↓mb_49 hg, mn_22 hg]
    · exact CM_ag (fun a k hk => by unfold F_CM at hk; rw [hp_i_si, if_neg (by omega)]) e1
    · simpa [hp_i_si] using e2
    · simpa [hp_i_si] using e3
    · by_cases hk2 : k = i
      · simp [hp_i_si, hk2]
      · have := e4 k (by omega)
        simpa [hp_i_si, hk2] using this
  · rintro ⟨v, g⟩ ⟨rfl, H, e1, e2, e3, e4⟩
    refine pw_R (t := g) ?_ ⟨H, e1, e2, e3, e4⟩
    simp (disch := omega) only [f_M_beginWith_17b, ↓xx_lE, ↓reduceIte, ↓bn_si, ↓bn_sl, ↓bn_s, ↓bn_ms, hp_i_si, hp_l_si, hp_r_si, hp_n_si, hp_i_sl, hp_l_sl, hp_r_sl, hp_n_sl, hp_i_sr, hp_l_sr, hp_r_sr, hp_n_sr, iL, nI_clamp, hp_in_nI, nI_add, pk_mul, pk_sub, c_le, c_nle, c_lt, c_nlt, c_ne, c_m1, c_m1', ad_ne, ad_ne', ad_ne2, nar0, nar1, true_and, false_and, and_true, and_false, Nat.add_zero, Nat.zero_add]
  · refine ⟨rfl, hf_si (hf_si H2 (by unfold S_bw; omega)) (by unfold S_bw; omega), ?_, by simp [hp_i_si]; rfl, by simp [hp_i_si]; rfl, fun k hk => by omega⟩
    exact CM_ag (fun a k hk => by unfold F_CM at hk; rw [hp_i_si, if_neg (by omega), hp_i_si, if_neg (by omega)]) hc
