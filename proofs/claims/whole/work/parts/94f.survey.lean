/-! the survey of the plan, when it is asked for -/
theorem FAX_sr {fa b j : Nat} {v : Option Nat} {h : HP} (h1 : b ≠ fa) (h2 : b ≠ fa + 2) (hs : FAX fa h) : FAX fa (hp_sr h b j v) := by
  obtain ⟨a1, a2, a3, a4, a5, a6, a7⟩ := hs
  refine ⟨?_, ?_, a3, ?_, ?_, a6, a7⟩
  · rw [hp_r_sr, if_neg (by omega)]; exact a1
  · rw [hp_r_sr, if_neg (by omega)]; exact a2
  · rw [hp_r_sr, if_neg (by omega)]; exact a4
  · rw [hp_r_sr, if_neg (by omega)]; exact a5
theorem CHX_sr {ch c b j : Nat} {v : Option Nat} {h : HP} (h1 : b ≠ ch) (hs : CHX ch c h) : CHX ch c (hp_sr h b j v) := by
  obtain ⟨a0, a1, a2, a3, a4, a5, a6⟩ := hs
  refine ⟨a0, ?_, ?_, ?_, ?_, ?_, a6⟩
  · rw [hp_r_sr, if_neg (by omega)]; exact a1
  · rw [hp_r_sr, if_neg (by omega)]; exact a2
  · rw [hp_r_sr, if_neg (by omega)]; exact a3
  · rw [hp_r_sr, if_neg (by omega)]; exact a4
  · rw [hp_r_sr, if_neg (by omega)]; exact a5
theorem ROY_sr {r b j : Nat} {v : Option Nat} {h : HP} (h1 : b ≠ r) (hs : ROY r h) : ROY r (hp_sr h b j v) := by
  obtain ⟨a1, a2, a3, a4, a5, a6, a7⟩ := hs
  refine ⟨?_, ?_, ?_, ?_, ?_, ?_, a7⟩
  · rw [hp_r_sr, if_neg (by omega)]; exact a1
  · rw [hp_r_sr, if_neg (by omega)]; exact a2
  · rw [hp_r_sr, if_neg (by omega)]; exact a3
  · rw [hp_r_sr, if_neg (by omega)]; exact a4
  · rw [hp_r_sr, if_neg (by omega)]; exact a5
  · rw [hp_r_sr, if_neg (by omega)]; exact a6
theorem op_p {a : Nat} (h : a ≠ 0) : op_ a = some a := by unfold op_; rw [if_neg h]
theorem op_0 : op_ 0 = none := rfl
/-- surveyed: what may be read -/
def SVD (P : PT) (q x sv : Nat) (h : HP) : Prop := hp_i h x 11 = 1 ∧ SVQ P sv q h ∧ SVJ P sv (BF P 3) (8 * (BF P 3).1) h
theorem X_s18 {P : PT} {q x m sv ro fa ch ZT ST : Nat} {h : HP} (hb : BAS P q x m h) (hc : CCH P q x m sv ro fa ch h) (hr : RM ZT ST sv ro fa ch h) (hs : sv ≠ 0) : pw (f_X_surveyOfPlan_18 x h) (fun r => r.1 = sv ∧ BAS P q x m r.2 ∧ CCH P q x m sv ro fa ch r.2 ∧ RM ZT ST sv ro fa ch r.2 ∧ SVD P q x sv r.2) := by
  obtain ⟨hm, hq⟩ := BAS_q hb
  obtain ⟨c1, c2, c3, c4, c5, c6, c7, c8, c9⟩ := id hc
  obtain ⟨k1, k2, k3⟩ := c6 hs
  have hsv := c4.2.1 hs
  have hps := BAS_psh hb
  have hr8 : hp_r h x 8 = some sv := by rw [c1, op_p hs]
  unfold f_X_surveyOfPlan_18
  rcases k3 with z | ⟨z1, z2, z3, z4⟩
  · rw [z, if_pos rfl, xx_lE]
    obtain ⟨h1, hh1⟩ : ∃ h1, hp_si h x 11 1 = h1 := ⟨_, rfl⟩
    rw [hh1]
    have H1 : hp_fr (fun a k => a = x ∧ k = 11) h h1 := by rw [← hh1]; exact hf_si (hp_fr_rf h) ⟨rfl, rfl⟩
    have e11 : hp_i h1 x 11 = 1 := by rw [← hh1, hp_i_si, if_pos ⟨rfl, rfl⟩]
    rw [bn_o (by rw [hp_fr_r H1]; exact hr8), bn_o (by rw [hp_fr_r H1]; exact hb.2.2.2.2.1)]
    have px1 : PX P q h1 := PX_ag (fun a k hk => hf_i H1 (by unfold F_PX at hk; omega)) hb.2.2.2.2.2.2.2.1
    refine pw_bind (pw_mono (X_explore hb.2.2.2.2.2.2.1 (by omega) (PSH_fr H1 hps) px1 (SVZ_fr H1 k1)) ?_)
    rintro g ⟨G, gq, gj, g15⟩
    have gr : ∀ a k, ¬ (a = sv ∧ k = 4) → hp_r g a k = hp_r h a k := fun a k hk => by rw [hp_fr_r G, hp_r_sr, if_neg hk, hp_fr_r H1]
    have gn : ∀ a, hp_n g a = hp_n h a := fun a => by rw [hp_fr_n G, hp_n_sr, hp_fr_n H1]
    have gi : ∀ a k, ¬ S_ex sv q a k → ¬ (a = x ∧ k = 11) → hp_i g a k = hp_i h a k := fun a k q1 q2 => by rw [hf_i G q1, hp_i_sr, hf_i H1 q2]
    have gl : ∀ a k, ¬ S_ex sv q a k → ¬ (a = x ∧ k = 11) → hp_l g a k = hp_l h a k := fun a k q1 q2 => by rw [hf_l G q1, hp_l_sr, hf_l H1 q2]
    have gz : hp_z g = hp_z h := by rw [hp_fr_z G, hp_z_sr, hp_fr_z H1]
    have gs : hp_s g = hp_s h := by rw [hp_fr_s G, hp_s_sr, hp_fr_s H1]
    have g11 : hp_i g x 11 = 1 := by rw [hf_i G (by unfold S_ex S_sv S_oc; omega), hp_i_sr]; exact e11
    rw [bn_o (by rw [gr _ _ (by omega)]; exact hr8)]
    refine pw_some ⟨rfl, ?_, ⟨?_, ?_, ?_, by rw [gz]; exact c4, fun w => absurd w hs, fun _ => ⟨?_, ?_, .inr ⟨g11, gq.2.2.2.2.2.2.2.1, gj, .inl g15⟩⟩, fun w => ?_, fun w => ?_, fun w => ?_⟩, ?_, g11, gq, gj⟩
    · refine BAS_gen hb (fun a k q1 q2 => ⟨gi a k ?_ ?_, gl a k ?_ ?_⟩) (fun a k q1 q2 => gr a k (by omega)) (fun a _ => gn a) (Nat.le_of_eq gz.symm) (fun N hN => CM_ag (fun a k hk => gi a k ?_ ?_) hN)
      · exact fun z => q2 (by unfold S_ex S_sv S_oc at z; unfold S_sc; omega)
      · exact fun z => q2 (.inl ⟨z.1, by omega⟩)
      · exact fun z => q2 (by unfold S_ex S_sv S_oc at z; unfold S_sc; omega)
      · exact fun z => q2 (.inl ⟨z.1, by omega⟩)
      · unfold F_CM at hk; unfold S_ex S_sv S_oc; omega
      · unfold F_CM at hk; omega
    · rw [gr _ _ (by omega)]; exact c1
    · rw [gr _ _ (by omega)]; exact c2
    · rw [gr _ _ (by omega)]; exact c3
    · exact SVZ_fr G (SVZ_sr (SVZ_fr H1 k1))
    · rw [gr _ _ (by omega)]; exact k2
    · have := c4.2.2.1 w
      exact ROY_fr G (ROY_sr (by omega) (ROY_fr H1 (c7 w)))
    · have := c4.2.2.2.1 w
      obtain ⟨y1, y2⟩ := c8 w
      refine ⟨FAX_fr G (FAX_sr (by omega) (by omega) (FAX_fr H1 y1)), fun F hF => .inl ?_⟩
      rw [gi _ _ (by unfold S_ex S_sv S_oc; omega) (by omega)]
      rcases y2 F hF with y | ⟨y, _⟩
      · exact y
      · rw [z] at y; exact absurd y (by decide)
    · have := c4.2.2.2.2.1 w
      obtain ⟨⟨c, y1⟩, y2⟩ := c9 w
      refine ⟨⟨c, CHX_fr G (CHX_sr (by omega) (CHX_fr H1 y1))⟩, .inr (fun l hl => ?_)⟩
      rw [gi _ _ (by unfold S_ex S_sv S_oc; omega) (by omega)]
      rcases y2 with ⟨y, _⟩ | y
      · rw [z] at y; exact absurd y (by decide)
      · exact y l hl
    · unfold RM; rw [gz, gs]; exact hr
  · rw [z1, if_neg (show ¬ (1 : Int32) = 0 by decide), bn_o hr8]
    exact pw_some ⟨rfl, hb, hc, hr, z1, ⟨hps, hb.2.2.2.2.2.2.2.1, SVS_of k1 z2⟩, z3⟩
