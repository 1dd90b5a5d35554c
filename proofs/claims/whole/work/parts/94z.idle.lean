/-! most, idle -/
theorem hd_pk {E i : Nat} (hE : E < 2 ^ 55) (hi : i < 6) : ((lN (pk E) >>> ((nI (7 + 8 * i)).toInt64 &&& 63)) &&& (31 : Int64)).toInt32 = nI (hd (E % 2 ^ 54) i) := by
  have hN : E % 2 ^ 54 < 2 ^ 54 := Nat.mod_lt _ (by decide)
  have ht : E / 2 ^ 54 < 2 := by simp only [Nat.reducePow] at *; omega
  have h1 := v_ow hN ht hi
  rw [cd_of] at h1
  have h2 := pk_lt55 hE
  rw [sra (by simp only [Nat.reducePow] at *; omega) (by omega), show (31 : Int64) = lN (2 ^ 5 - 1) from rfl, fb_maskL, lN_i]
  congr 1
  unfold hd
  rw [← h1]
  generalize pk E / 2 ^ (7 + 8 * i) = X
  omega
theorem M_most25 {m i : Nat} {B : BT} {h : HP} (hs : MS m h) (hB : MB m B h) (hi : i < 6) : f_M_most_25 m (nI i) 0 0 h = some (nI (mxh B.2.1 i B.1), h) := by
  obtain ⟨b1, b2, b3, _⟩ := hB.1
  have key : pw (f_M_most_25 m (nI i) 0 0 h) (fun r => r = (nI (mxh B.2.1 i B.1), h)) := by
    unfold f_M_most_25
    refine pw_cnt B.1 (fun s t => t = (nI (mxh B.2.1 i s), nI s, h)) ?_ ?_ 0 _ (by omega) rfl
    · rintro s t hs' rfl
      obtain ⟨e1, e2⟩ := b3 s hs'
      have hm := mxh_lt B.2.1 i s
      have hh := hd_lt (B.2.1 s % 2 ^ 54) i
      refine pw_L (s := (nI (mxh B.2.1 i (s + 1)), nI (s + 1), h)) ?_ rfl
      unfold f_M_most_25b f_M_most_66
      dsimp only
      rw [b2, if_neg (nI_ge hs' (by omega)), mb_62 hs, mn_27 hs, if_pos (hp_in_nI (by omega) (by omega)), nI_clamp (by omega), e2, sh7, hd_pk e1 hi, xx_lE, mxh]
      by_cases z : mxh B.2.1 i s < hd (B.2.1 s % 2 ^ 54) i
      · rw [if_neg (nI_ge z (by omega)), xx_lE, nI_1, if_pos z]
      · rw [if_pos (nI_le (by omega) (by omega)), xx_lE, nI_1, if_neg z]
    · rintro t rfl
      refine pw_R (t := (nI (mxh B.2.1 i B.1), h)) ?_ rfl
      unfold f_M_most_25b
      dsimp only
      rw [b2, if_pos (nI_le (Nat.le_refl _) (by omega))]
  obtain ⟨r, hr, rfl⟩ := key
  exact hr
theorem op_most (x m : Nat) (v : Int32) : OK2 (f_X_most x v) (f_M_most m v) x m := by
  rintro P ZT ST h ⟨q, sv, ro, fa, ch, hb, hc, hr⟩
  have ok := hb.2.2.2.2.2.2.1
  have hX := hb.2.2.2.2.2.2.2.1
  have hM := hb.2.2.2.2.2.2.2.2.1
  have hn6 := ok.2.2.2.2.2.1
  unfold f_X_most
  rw [bn_o hb.2.2.2.2.1]
  rcases man_cases P ok v with ⟨i, hi, rfl⟩ | ⟨k1, k2⟩
  rotate_left
  · rw [bn_o (k1 q h hX.2.2.2.2.2.1), if_pos (show nI 0 = (0 : Int32) from rfl)]
    refine pw_some ?_
    unfold f_M_most
    rw [bn_o (k2 m h hM.2.2.2.2.2.1), if_pos (show nI 0 = (0 : Int32) from rfl)]
    exact pw_some ⟨rfl, q, sv, ro, fa, ch, hb, hc, hr⟩
  rw [bn_o (X_man ok hi hX.2.2.2.2.2.1), if_neg (show ¬ nI 1 = (0 : Int32) by decide)]
  refine pw_bind (pw_mono (X_survey hb hc hr) ?_)
  rintro ⟨sv', g⟩ ⟨_, rfl, hs, b1, b2, b3, d⟩
  dsimp only at b1 b2 b3 d ⊢
  have hM2 := b1.2.2.2.2.2.2.2.2.1
  rcases d.2.2 with ⟨z0, hI⟩ | ⟨z0, h5⟩
  · have e7 := hI.2.2.2.2.1 i hi
    have hr3 := d.2.1.2.2.2.2.2.2.1
    have hn7 := d.2.1.2.2.2.2.2.2.2.2.2.2.2.2.1
    rw [if_neg (by omega), show 8 * (BF P 3).1 / 8 = (BF P 3).1 by omega] at e7
    rw [hI.2.1, if_pos (show nI 0 = (0 : Int32) from rfl), bn_o hr3, hn7, if_pos (hp_in_nI (by omega) (by omega)), nI_clamp (by omega), e7]
    refine pw_some ?_
    dsimp only
    unfold f_M_most
    rw [bn_o (M_man ok hi hM2.2.2.2.2.2.1), if_neg (show ¬ nI 1 = (0 : Int32) by decide)]
    refine pw_bind (pw_mono (M_plan (F := 3) b1 b2 b3 (by decide)) ?_)
    rintro r ⟨r1, r2, r3, r4, _⟩
    have e1 := r1.1
    rw [z0] at e1
    rw [e1, if_neg (show ¬ nI (if false = true then 0 else 1) = (0 : Int32) by decide), M_most25 r2.2.2.1 r1.2.1 (by omega)]
    exact pw_some ⟨rfl, q, _, _, _, _, r2, r3, r4⟩
  · rw [h5, if_neg (show ¬ nI 1 = (0 : Int32) by decide)]
    refine pw_some ?_
    unfold f_M_most
    rw [bn_o (M_man ok hi hM2.2.2.2.2.2.1), if_neg (show ¬ nI 1 = (0 : Int32) by decide)]
    refine pw_bind (pw_mono (M_plan (F := 3) b1 b2 b3 (by decide)) ?_)
    rintro r ⟨r1, r2, r3, r4, _⟩
    have e1 := r1.1
    rw [z0] at e1
    rw [e1, if_pos (show nI (if true = true then 0 else 1) = (0 : Int32) from rfl)]
    exact pw_some ⟨rfl, q, _, _, _, _, r2, r3, r4⟩
theorem idl_skip {P : PT} {f : Nat → Nat} {s : Nat} : ∀ d, p_nm P + d ≤ 8 → idl P f (8 * s + p_nm P + d) = idl P f (8 * s + p_nm P) := by
  intro d
  induction d with
  | zero => intro _; rfl
  | succ d ih =>
    intro h
    rw [← Nat.add_assoc, idl, if_neg (fun z => by have := z.1; omega)]
    exact ih (by omega)
theorem nm_sh {n : Nat} (hn : n ≤ 6) : ((1 : Int32) <<< (nI n &&& 31)) - (1 : Int32) = nI (2 ^ n - 1) := by
  rcases (show n = 0 ∨ n = 1 ∨ n = 2 ∨ n = 3 ∨ n = 4 ∨ n = 5 ∨ n = 6 by omega) with rfl | rfl | rfl | rfl | rfl | rfl | rfl <;> decide
def S_id (m : Nat) : Nat → Nat → Prop := fun a k => a = m ∧ (k = 51 ∨ k = 52 ∨ k = 53 ∨ k = 54 ∨ k = 67) ∨ a = m + 19 ∨ a = m + 20 ∨ a = m + 21 ∨ a = m + 23
theorem M_idle28 {P : PT} {m N : Nat} {B : BT} {h : HP} (hs : MS m h) (ok : POK P) (hp : PM P m h) (hB : MB m B h) (hG : GB P B) (hk : KM m N h) : pw (f_M_idle_28 m (idl P B.2.1 0) 0 h) (fun r => r.1 = idl P B.2.1 (8 * B.1) ∧ hp_fr (S_id m) h r.2 ∧ CM m N r.2) := by
  obtain ⟨b1, b2, b3, _⟩ := hB.1
  have hn6 := ok.2.2.2.2.2.1
  have pm : ∀ g, hp_fr (S_id m) h g → MS m g ∧ PM P m g ∧ hp_i g m 65 = nI B.1 ∧ ∀ j, j < B.1 → hp_l g (m + 27) j = lN (pk (B.2.1 j)) := fun g H => ⟨MS_fr H hs, PM_ag (fun a k hk => hf_i H (by unfold F_PM at hk; unfold S_id; omega)) hp, by rw [hf_i H (by unfold S_id; omega)]; exact b2, fun j hj => by rw [hf_l H (by unfold S_id; omega)]; exact (b3 j hj).2⟩
  unfold f_M_idle_28
  refine pw_cnt B.1 (fun s t => t.1 = idl P B.2.1 (8 * s) ∧ t.2.1 = nI s ∧ hp_fr (S_id m) h t.2.2) ?_ ?_ 0 (idl P B.2.1 0, 0, h) (by omega) ⟨rfl, rfl, hp_fr_rf h⟩
  · rintro s ⟨_, _, g⟩ hs' ⟨rfl, rfl, H⟩
    dsimp only at H ⊢
    obtain ⟨p1, p2, p3, p4⟩ := pm g H
    unfold f_M_idle_28b f_M_idle_39
    rw [p3, if_neg (nI_ge hs' (by omega))]
    refine pw_cnt (p_nm P) (fun i t => t.1 = idl P B.2.1 (8 * s + i) ∧ t.2.1 = nI i ∧ hp_fr (S_id m) h t.2.2) ?_ ?_ 0 (idl P B.2.1 (8 * s), 0, g) (by omega) ⟨rfl, rfl, H⟩
    · rintro i ⟨_, _, g⟩ hi ⟨rfl, rfl, H⟩
      dsimp only at H ⊢
      obtain ⟨p1, p2, p3, p4⟩ := pm g H
      obtain ⟨e1, _⟩ := b3 s hs'
      obtain ⟨_, e3⟩ := hG.2.2 s hs'
      have hN : B.2.1 s % 2 ^ 54 < 2 ^ 54 := Nat.mod_lt _ (by decide)
      have ht : B.2.1 s / 2 ^ 54 < 2 := by simp only [Nat.reducePow] at *; omega
      have hun := M_unpack (m := m) (h := g) p1 hN ht
      rw [cd_of] at hun
      unfold f_M_idle_39b
      rw [p2.2.2.2.2.2.1, if_neg (nI_ge hi (by omega)), mb_62 p1, mn_27 p1, if_pos (hp_in_nI (by omega) (by omega)), nI_clamp (by omega), p4 s hs']
      refine pw_bind (pw_mono hun ?_)
      rintro g2 ⟨H2, c2, _⟩
      have H2' : hp_fr (S_id m) h g2 := hp_fr_tr H (hp_fr_mo H2 (by unfold F_CU S_id; omega))
      obtain ⟨q1, q2, q3, q4⟩ := pm g2 H2'
      refine pw_bind (pw_mono (M_go q1 ok q2 hi c2 e3) ?_)
      rintro r ⟨_, H3, _, g53, g54⟩
      have H3' : hp_fr (S_id m) h r.2 := hp_fr_tr H2' (hp_fr_mo H3 (by unfold S_go S_id; omega))
      have step : ∀ w : Int32, w = idl P B.2.1 (8 * s + (i + 1)) → pw (f_M_idle_88 m w (nI s) (nI i) r.2) (xx_L2 (fun t : Int32 × Int32 × HP => t.1 = idl P B.2.1 (8 * s + (i + 1)) ∧ t.2.1 = nI (i + 1) ∧ hp_fr (S_id m) h t.2.2) (xx_L2 (fun t : Int32 × Int32 × HP => t.1 = idl P B.2.1 (8 * (s + 1)) ∧ t.2.1 = nI (s + 1) ∧ hp_fr (S_id m) h t.2.2) (fun r : Int32 × HP => r.1 = idl P B.2.1 (8 * B.1) ∧ hp_fr (S_id m) h r.2 ∧ CM m N r.2))) := by
        intro w hw
        unfold f_M_idle_88
        rw [xx_lE]
        exact pw_L rfl ⟨hw, nI_1 i, H3'⟩
      have ei : idl P B.2.1 (8 * s + (i + 1)) = if ¬ (oL P (B.2.1 s % 2 ^ 54) i = se P (B.2.1 s % 2 ^ 54) ∧ oH P (B.2.1 s % 2 ^ 54) i = hd (B.2.1 s % 2 ^ 54) i) then idl P B.2.1 (8 * s + i) &&& (((1 : Int32) <<< (nI i &&& 31)) ^^^ (-1 : Int32)) else idl P B.2.1 (8 * s + i) := by
        rw [← Nat.add_assoc, idl, show (8 * s + i) % 8 = i by omega, show (8 * s + i) / 8 = s by omega]
        by_cases z : ¬ (oL P (B.2.1 s % 2 ^ 54) i = se P (B.2.1 s % 2 ^ 54) ∧ oH P (B.2.1 s % 2 ^ 54) i = hd (B.2.1 s % 2 ^ 54) i)
        · rw [if_pos ⟨hi, z⟩, if_pos z]
        · rw [if_neg (fun w => z w.2), if_neg z]
      have no : ¬ (oL P (B.2.1 s % 2 ^ 54) i = se P (B.2.1 s % 2 ^ 54) ∧ oH P (B.2.1 s % 2 ^ 54) i = hd (B.2.1 s % 2 ^ 54) i) → pw (f_M_idle_79 m (idl P B.2.1 (8 * s + i)) (nI s) (nI i) r.2) (xx_L2 (fun t : Int32 × Int32 × HP => t.1 = idl P B.2.1 (8 * s + (i + 1)) ∧ t.2.1 = nI (i + 1) ∧ hp_fr (S_id m) h t.2.2) (xx_L2 (fun t : Int32 × Int32 × HP => t.1 = idl P B.2.1 (8 * (s + 1)) ∧ t.2.1 = nI (s + 1) ∧ hp_fr (S_id m) h t.2.2) (fun r : Int32 × HP => r.1 = idl P B.2.1 (8 * B.1) ∧ hp_fr (S_id m) h r.2 ∧ CM m N r.2))) := by
        intro z
        unfold f_M_idle_79
        rw [xx_lE]
        exact step _ (by rw [ei, if_pos z])
      by_cases y1 : oL P (B.2.1 s % 2 ^ 54) i = se P (B.2.1 s % 2 ^ 54)
      · rw [g53, if_pos y1, if_pos (show nI 0 = (0 : Int32) from rfl), g54]
        by_cases y2 : oH P (B.2.1 s % 2 ^ 54) i = hd (B.2.1 s % 2 ^ 54) i
        · rw [if_pos y2, if_pos (show nI 0 = (0 : Int32) from rfl)]
          exact step _ (by rw [ei, if_neg (fun z => z ⟨y1, y2⟩)])
        · rw [if_neg y2, if_neg (show ¬ nI 1 = (0 : Int32) by decide)]
          exact no (fun z => y2 z.2)
      · rw [g53, if_neg y1, if_neg (show ¬ nI 1 = (0 : Int32) by decide)]
        exact no (fun z => y1 z.1)
    · rintro ⟨_, _, g⟩ ⟨rfl, rfl, H⟩
      dsimp only at H ⊢
      obtain ⟨p1, p2, p3, p4⟩ := pm g H
      unfold f_M_idle_39b f_M_idle_94
      rw [p2.2.2.2.2.2.1, if_pos (nI_le (Nat.le_refl _) (by omega)), xx_lE]
      refine pw_mapR (pw_L rfl ⟨?_, nI_1 s, H⟩)
      have := idl_skip (P := P) (f := B.2.1) (s := s) (8 - p_nm P) (by omega)
      rw [show 8 * s + p_nm P + (8 - p_nm P) = 8 * (s + 1) by omega] at this
      exact this.symm
  · rintro ⟨_, _, g⟩ ⟨rfl, rfl, H⟩
    dsimp only at H ⊢
    obtain ⟨p1, p2, p3, p4⟩ := pm g H
    unfold f_M_idle_28b f_M_idle_100
    rw [p3, if_pos (nI_le (Nat.le_refl _) (by omega))]
    refine pw_mapR (pw_bind (pw_mono (M_bring p1 (KM_ag (fun a k hk => hf_i H (by unfold F_KM at hk; unfold S_id; omega)) hk)) ?_))
    rintro g2 ⟨H2, c2⟩
    exact pw_some ⟨rfl, hp_fr_tr H (hp_fr_mo H2 (by unfold F_CM S_id; omega)), c2⟩
theorem op_idle (x m : Nat) : OK2 (f_X_idle x) (f_M_idle m) x m := by
  rintro P ZT ST h ⟨q, sv, ro, fa, ch, hb, hc, hr⟩
  have ok := hb.2.2.2.2.2.2.1
  have hn6 := ok.2.2.2.2.2.1
  unfold f_X_idle
  refine pw_bind (pw_mono (X_survey hb hc hr) ?_)
  rintro ⟨sv', g⟩ ⟨_, rfl, hs, b1, b2, b3, d⟩
  dsimp only at b1 b2 b3 d ⊢
  rcases d.2.2 with ⟨z0, hI⟩ | ⟨z0, h5⟩
  · rw [hI.2.1, if_pos (show nI 0 = (0 : Int32) from rfl), hI.2.2.2.1]
    refine pw_some ?_
    dsimp only
    unfold f_M_idle
    refine pw_bind (pw_mono (M_plan (F := 3) b1 b2 b3 (by decide)) ?_)
    rintro r ⟨r1, r2, r3, r4, _⟩
    have e1 := r1.1
    rw [z0] at e1
    have hp := r2.2.2.2.2.2.2.2.2.1
    rw [e1, if_neg (show ¬ nI (if false = true then 0 else 1) = (0 : Int32) by decide), hp.2.2.2.2.2.1, nm_sh hn6, xx_lE]
    have go : ∀ N, CM m N r.2 → pw ((f_M_put m r.2).bind fun x_3 => f_M_idle_28 m (nI (2 ^ p_nm P - 1)) 0 x_3) (fun s => s.1 = idl P (BF P 3).2.1 (8 * (BF P 3).1) ∧ hp_fr (S_lp m) r.2 s.2 ∧ CM m N s.2) := by
      intro N hN
      refine pw_bind (pw_mono (M_put r2.2.2.1 hN) ?_)
      rintro g2 ⟨H2, k2⟩
      have hB : MB m (BF P 3) g2 := by
        obtain ⟨⟨u1, u2, u3, sl, u4, u5⟩, u6⟩ := r1.2.1
        exact ⟨⟨u1, by rw [hf_i H2 (by unfold F_KM; omega)]; exact u2, fun j hj => ⟨(u3 j hj).1, by rw [hf_l H2 (by unfold F_KM; omega)]; exact (u3 j hj).2⟩, sl, u4, fun p hp => by rw [hf_i H2 (by unfold F_KM; omega)]; exact u5 p hp⟩, by rw [hf_i H2 (by unfold F_KM; omega)]; exact u6⟩
      refine pw_mono (M_idle28 (MS_fr H2 r2.2.2.1) ok (PM_ag (fun a k hk => hf_i H2 (by unfold F_PM at hk; unfold F_KM; omega)) hp) hB (BF_G ok 3) k2) ?_
      rintro s ⟨s1, s2, s3⟩
      exact ⟨s1, hp_fr_tr (hp_fr_mo H2 (fun a k z => .inr z)) (hp_fr_mo s2 (fun a k z => .inl (by unfold S_id at z; unfold S_lay; omega))), s3⟩
    obtain ⟨N, td, ov, bu, _, _, c3⟩ := r2.2.2.2.2.2.2.2.2.2.2.2.1
    obtain ⟨s, es, s1, s2, s3⟩ := go N c3.1
    obtain ⟨w1, w2, w3⟩ := KEEP_m r2 r3 r4 s2 (fun a k z => .inl z) (fun N' hN' => by
      obtain ⟨s', es', _, _, w⟩ := go N' hN'
      rw [es] at es'
      rw [Option.some.inj es']; exact w)
    exact ⟨s, es, s1.symm, q, _, _, _, _, w1, w2, w3⟩
  · rw [h5, if_neg (show ¬ nI 1 = (0 : Int32) by decide)]
    refine pw_some ?_
    unfold f_M_idle
    refine pw_bind (pw_mono (M_plan (F := 3) b1 b2 b3 (by decide)) ?_)
    rintro r ⟨r1, r2, r3, r4, _⟩
    have e1 := r1.1
    rw [z0] at e1
    rw [e1, if_pos (show nI (if true = true then 0 else 1) = (0 : Int32) from rfl)]
    exact pw_some ⟨rfl, q, _, _, _, _, r2, r3, r4⟩
