/-! the class's rounds made when there are none -/
theorem X_rounds {P : PT} {q x m sv ro fa ch ZT ST : Nat} {g : HP} (hb : BAS P q x m g) (hc : CCH P q x m sv ro fa ch g) (hr : RM ZT ST sv ro fa ch g) (hs : sv ≠ 0) (hd : SVD P q x sv g) (h0 : (BF P 3).2.2 = false) : pw (f_Sv_statesInRounds sv g) (fun r => r.1 = nI (enl P) ∧ ∃ ro', BAS P q x m r.2 ∧ CCH P q x m sv ro' fa ch r.2 ∧ RM ZT ST sv ro' fa ch r.2) := by
  obtain ⟨hm, hq⟩ := BAS_q hb
  obtain ⟨c1, c2, c3, c4, c5, c6, c7, c8, c9⟩ := id hc
  obtain ⟨k1, k2, k3⟩ := c6 hs
  have hsv := c4.2.1 hs
  unfold f_Sv_statesInRounds
  by_cases hro : ro = 0
  · subst hro
    rw [k2, op_0, if_pos rfl, xx_lE, xx_lE]
    obtain ⟨r, hrz⟩ : ∃ r, hp_z g = r := ⟨_, rfl⟩
    rw [hrz] at hsv
    obtain ⟨h2, hh2⟩ : ∃ h2, hp_nw g 6 0 (ly_nf 6) = h2 := ⟨_, rfl⟩
    rw [hh2, hrz]
    have z2 : hp_z h2 = r + 1 := by rw [← hh2, hp_z_nw, hrz]
    have A2 : afr r g h2 := by rw [← hh2]; exact afr_nw (afr_rf r g) (by omega)
    obtain ⟨k, ek, kz, ks, kY, _, _, kA⟩ := A_ron z2
    rw [ek, bn_s, xx_lE]
    obtain ⟨k', hk'⟩ : ∃ k', hp_sr k sv 14 (some r) = k' := ⟨_, rfl⟩
    rw [hk']
    have H : agb r sv g k' := by
      rw [← hk']
      refine ⟨fun a j ha => ?_, fun a j ha hn => ?_, fun a ha => ?_⟩
      · rw [hp_i_sr, hp_l_sr]; exact ⟨((kA a ha).1 j).1.trans ((A2 a ha).1 j).1, ((kA a ha).1 j).2.1.trans ((A2 a ha).1 j).2.1⟩
      · rw [hp_r_sr, if_neg hn]; exact ((kA a ha).1 j).2.2.trans ((A2 a ha).1 j).2.2
      · rw [hp_n_sr]; exact (kA a ha).2.trans (A2 a ha).2
    obtain ⟨hi, hrr, hn⟩ := id H
    have rz : hp_z k' = r + 7 := by rw [← hk', hp_z_sr]; exact kz
    have gs2 : hp_s k' = hp_s g + roS := by
      rw [← hk', hp_s_sr, ks, ← hh2, hp_s_nw]
      unfold roS
      generalize ly_nf 6 = u
      omega
    have hr0 : r ≠ 0 := by omega
    have hj : SVJ P sv (BF P 3) (8 * (BF P 3).1) k' := SVJ_ag (Nat.le_refl _) (fun a j q1 q2 _ => (hi a j (by omega)).1) (fun a j q1 q2 => (hi a j (by omega)).2) (fun a j q1 q2 q3 => hrr a j (by omega) q3) (fun a q1 q2 => hn a (by omega)) hd.2.2
    have hb' : BAS P q x m k' := BAS_gen hb (fun a j q1 _ => hi a j (by omega)) (fun a j q1 _ => hrr a j (by omega) (by omega)) (fun a q1 => hn a (by omega)) (by omega) (fun N hN => CM_ag (fun a j hk => (hi a j (by unfold F_CM at hk; omega)).1) hN)
    have hz' := SVZ_agb H (by omega) k1
    have hr14 : hp_r k' sv 14 = op_ r := by rw [op_p hr0, ← hk']; exact sr_at
    have hc' : CCH P q x m sv r fa ch k' := by
      refine ⟨by rw [hrr _ _ (by omega) (by omega)]; exact c1, by rw [hrr _ _ (by omega) (by omega)]; exact c2, by rw [hrr _ _ (by omega) (by omega)]; exact c3, ?_, fun w => absurd w hs, fun _ => ⟨hz', hr14, ?_⟩, fun _ => ?_, fun w => ?_, fun w => ?_⟩
      · obtain ⟨l1, l2, l3, l4, l5, l6, l7, l8⟩ := c4
        rw [hrz] at l2 l4 l5
        rw [rz]
        refine ⟨fun w => absurd w hs, fun _ => by omega, fun _ => by omega, fun w => by have := l4 w; omega, fun w => by have := l5 w; omega, fun _ w => by have := l4 w; omega, fun _ w => by have := l5 w; omega, l8⟩
      · rw [(hi x 11 (by omega)).1, (hi sv 15 (by omega)).1]
        rcases k3 with z | ⟨z1, z2', z3, z4⟩
        · exact .inl z
        · exact .inr ⟨z1, by rw [hrr _ _ (by omega) (by omega)]; exact z2', hj, z4⟩
      · rw [← hk']; exact ROY_sr (by omega) kY
      · have := c4.2.2.2.1 w
        exact KFA_agb H (by omega) (by omega) (by omega) (c8 w)
      · have := c4.2.2.2.2.1 w
        exact KCH_agb H (by omega) (by omega) (by omega) (c9 w)
    have hr' : RM ZT ST sv r fa ch k' := by
      obtain ⟨t1, t2⟩ := hr
      unfold RM
      rw [rz, gs2, if_neg hr0, if_neg hr0]
      rw [if_pos (show (0 : Nat) = 0 from rfl)] at t1 t2
      rw [hrz] at t1
      constructor <;> omega
    have hd' : SVD P q x sv k' := ⟨by rw [(hi x 11 (by omega)).1]; exact hd.1, ⟨BAS_psh hb', hb'.2.2.2.2.2.2.2.1, SVS_of hz' (by rw [hrr _ _ (by omega) (by omega)]; exact hd.2.1.2.2.2.2.2.2.2.1)⟩, hj⟩
    refine pw_mono (X_rd18 hb' hc' hr' hs hd' h0 hr0) ?_
    rintro t ⟨t1, t2⟩
    exact ⟨t1, r, t2⟩
  · rw [k2, op_p hro, if_neg (by simp)]
    refine pw_mono (X_rd18 hb hc hr hs hd h0 hro) ?_
    rintro t ⟨t1, t2⟩
    exact ⟨t1, ro, t2⟩
