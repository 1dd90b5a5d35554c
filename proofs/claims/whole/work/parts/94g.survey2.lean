/-! the survey made when there is none -/
theorem X_survey {P : PT} {q x m sv ro fa ch ZT ST : Nat} {h : HP} (hb : BAS P q x m h) (hc : CCH P q x m sv ro fa ch h) (hr : RM ZT ST sv ro fa ch h) : pw (f_X_surveyOfPlan x h) (fun r => ∃ sv', r.1 = sv' ∧ sv' ≠ 0 ∧ BAS P q x m r.2 ∧ CCH P q x m sv' ro fa ch r.2 ∧ RM ZT ST sv' ro fa ch r.2 ∧ SVD P q x sv' r.2) := by
  obtain ⟨hm, hq⟩ := BAS_q hb
  obtain ⟨c1, c2, c3, c4, c5, c6, c7, c8, c9⟩ := id hc
  unfold f_X_surveyOfPlan
  by_cases hs : sv = 0
  · subst hs
    obtain ⟨rfl, rfl, rfl⟩ := c4.1 rfl
    rw [c1, op_0, if_pos rfl, xx_lE, xx_lE]
    obtain ⟨sv, hsv⟩ : ∃ sv, hp_z h = sv := ⟨_, rfl⟩
    have hz := hb.2.2.2.1
    obtain ⟨h2, hh2⟩ : ∃ h2, hp_nw h 9 0 (ly_nf 9) = h2 := ⟨_, rfl⟩
    rw [hh2, hsv]
    have z2 : hp_z h2 = sv + 1 := by rw [← hh2, hp_z_nw, hsv]
    have A2 : afr sv h h2 := by rw [← hh2]; exact afr_nw (afr_rf sv h) (by omega)
    have i2 : ∀ k, hp_i h2 sv k = 0 := fun k => by rw [← hh2, hp_i_nw, if_pos hsv.symm]
    have r2 : ∀ k, hp_r h2 sv k = none := fun k => by rw [← hh2, hp_r_nw, if_pos hsv.symm]
    obtain ⟨g, eg, gz, gs, gsv, g14, gi, gA⟩ := A_svn z2
    rw [eg, bn_s, xx_lE]
    have AA : ∀ a, a < sv → (∀ k, hp_i g a k = hp_i h a k ∧ hp_l g a k = hp_l h a k ∧ hp_r g a k = hp_r h a k) ∧ hp_n g a = hp_n h a := fun a ha => ⟨fun k => ⟨((gA a ha).1 k).1.trans ((A2 a ha).1 k).1, ((gA a ha).1 k).2.1.trans ((A2 a ha).1 k).2.1, ((gA a ha).1 k).2.2.trans ((A2 a ha).1 k).2.2⟩, (gA a ha).2.trans (A2 a ha).2⟩
    obtain ⟨g2, hg2⟩ : ∃ g2, hp_sr g x 8 (some sv) = g2 := ⟨_, rfl⟩
    rw [hg2]
    have ri : ∀ a k, hp_i g2 a k = hp_i g a k := fun a k => by rw [← hg2, hp_i_sr]
    have rl : ∀ a k, hp_l g2 a k = hp_l g a k := fun a k => by rw [← hg2, hp_l_sr]
    have rn : ∀ a, hp_n g2 a = hp_n g a := fun a => by rw [← hg2, hp_n_sr]
    have rr : ∀ a k, ¬ (a = x ∧ k = 8) → hp_r g2 a k = hp_r g a k := fun a k hk => by rw [← hg2, hp_r_sr, if_neg hk]
    have rz : hp_z g2 = sv + 10 := by rw [← hg2, hp_z_sr]; exact gz
    have hb2 : BAS P q x m g2 := BAS_gen hb (fun a k q1 _ => by rw [ri, rl]; exact ⟨((AA a (by omega)).1 k).1, ((AA a (by omega)).1 k).2.1⟩) (fun a k q1 q2 => by rw [rr a k (by omega)]; exact ((AA a (by omega)).1 k).2.2) (fun a q1 => by rw [rn]; exact (AA a (by omega)).2) (by omega) (fun N hN => CM_ag (fun a k hk => by rw [ri]; exact ((AA a (by unfold F_CM at hk; omega)).1 k).1) hN)
    have hs0 : sv ≠ 0 := by omega
    have hz2 : SVZ sv g2 := by
      obtain ⟨b1, b2, b3, b4, b5, b6, b7, b8, b9, b10, b11, b12, b13, b14, b15, b16⟩ := gsv
      refine ⟨?_, ?_, ?_, ?_, ?_, ?_, ?_, ?_, ?_, ?_, ?_, ?_, ?_, ?_, ?_, ?_⟩
      · rw [rr _ _ (by omega)]; exact b1
      · rw [rr _ _ (by omega)]; exact b2
      · rw [rr _ _ (by omega)]; exact b3
      · rw [rr _ _ (by omega)]; exact b4
      · rw [rr _ _ (by omega)]; exact b5
      · rw [rr _ _ (by omega)]; exact b6
      · rw [rr _ _ (by omega)]; exact b7
      · rw [rr _ _ (by omega)]; exact b8
      · rw [rr _ _ (by omega)]; exact b9
      · rw [rn]; exact b10
      · rw [rn]; exact b11
      · rw [rn]; exact b12
      · rw [rn]; exact b13
      · rw [rn]; exact b14
      · rw [rn]; exact b15
      · rw [rn]; exact b16
    have hx : x < sv := by omega
    have e11 : hp_i g2 x 11 = 0 := by rw [ri, ((AA x hx).1 11).1]; exact c5 rfl
    have hc2 : CCH P q x m sv 0 0 0 g2 := by
      refine ⟨by rw [op_p hs0, ← hg2]; exact sr_at, by rw [rr _ _ (by omega), ((AA x hx).1 9).2.2]; exact c2, by rw [rr _ _ (by omega), ((AA x hx).1 10).2.2]; exact c3, ?_, fun w => absurd w hs0, fun _ => ⟨hz2, by rw [rr _ _ (by omega), g14, r2]; rfl, .inl e11⟩, fun w => absurd rfl w, fun w => absurd rfl w, fun w => absurd rfl w⟩
      unfold LAYO
      rw [rz]
      refine ⟨fun w => absurd w hs0, fun _ => ⟨by omega, by omega⟩, fun w => absurd rfl w, fun w => absurd rfl w, fun w => absurd rfl w, fun w => absurd rfl w, fun w => absurd rfl w, fun w => absurd rfl w⟩
    have hr2 : RM ZT ST sv 0 0 0 g2 := by
      obtain ⟨t1, t2⟩ := hr
      have gs2 : hp_s g2 = hp_s h + svS := by
        rw [← hg2, hp_s_sr, gs, ← hh2, hp_s_nw]
        unfold svS
        generalize ly_nf 9 = u
        generalize ly_nf 8 = v
        generalize ly_nf 7 = w
        omega
      unfold RM
      rw [rz, gs2, if_neg hs0, if_neg hs0]
      rw [if_pos rfl] at t1 t2
      constructor
      · omega
      · omega
    refine pw_mono (X_s18 hb2 hc2 hr2 hs0) ?_
    rintro r ⟨w1, w2⟩
    exact ⟨sv, w1, hs0, w2⟩
  · rw [c1, op_p hs, if_neg (by simp)]
    refine pw_mono (X_s18 hb hc hr hs) ?_
    rintro r ⟨w1, w2⟩
    exact ⟨sv, w1, hs, w2⟩
