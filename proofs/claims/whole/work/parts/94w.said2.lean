/-! said: the chance made when there is none -/
theorem X_said_ {P : PT} {q x m sv ro fa ch ZT ST l D k p : Nat} {g : HP} (hb : BAS P q x m g) (hc : CCH P q x m sv ro fa ch g) (hr : RM ZT ST sv ro fa ch g) (hs : sv ≠ 0) (hd : SVD P q x sv g) (h0 : (BF P 3).2.2 = false) (hl : l < 4) (hi : ist P l = true) (hD : D ≤ 12) (hk : k < 2) (hp : p < 2) (hnm : p_nm P ≠ 0) : pw (if hp_r g x 10 = none then
  (xx_l (hp_z g) fun q_5 => xx_l (hp_nw g 0 0 (ly_nf 0)) fun h_6 =>
  (f_Ch_new q_5 h_6).bind fun x_7 =>
  xx_l (hp_sr x_7 x 10 (some q_5)) fun h_8 =>
  f_X_said_91 x (nI l) (nI D) (nI k) (nI p) sv h_8)
  else
  (f_X_said_91 x (nI l) (nI D) (nI k) (nI p) sv g)) (fun r => r.1 = lN (sdv (brr P) (bnx P) (p_nm P) (BF P 3).1 (sx P l) D k p) ∧ ∃ ch', BAS P q x m r.2 ∧ CCH P q x m sv ro fa ch' r.2 ∧ RM ZT ST sv ro fa ch' r.2) := by
  obtain ⟨hm, hq⟩ := BAS_q hb
  obtain ⟨c1, c2, c3, c4, c5, c6, c7, c8, c9⟩ := id hc
  have hsv := c4.2.1 hs
  by_cases hch : ch = 0
  · subst hch
    rw [c3, op_0, if_pos rfl, xx_lE, xx_lE]
    obtain ⟨r, hrz⟩ : ∃ r, hp_z g = r := ⟨_, rfl⟩
    rw [hrz] at hsv
    obtain ⟨h2, hh2⟩ : ∃ h2, hp_nw g 0 0 (ly_nf 0) = h2 := ⟨_, rfl⟩
    rw [hh2, hrz]
    have z2 : hp_z h2 = r + 1 := by rw [← hh2, hp_z_nw, hrz]
    have A2 : afr r g h2 := by rw [← hh2]; exact afr_nw (afr_rf r g) (by omega)
    obtain ⟨k₂, ek, kz, ks, kY, _, k3, kA⟩ := A_chn z2
    rw [ek, bn_s, xx_lE]
    obtain ⟨k', hk'⟩ : ∃ k', hp_sr k₂ x 10 (some r) = k' := ⟨_, rfl⟩
    rw [hk']
    have hii : ∀ a j, a < hp_z g → hp_i k' a j = hp_i g a j ∧ hp_l k' a j = hp_l g a j := fun a j ha => by
      rw [hrz] at ha
      rw [← hk', hp_i_sr, hp_l_sr]; exact ⟨((kA a ha).1 j).1.trans ((A2 a ha).1 j).1, ((kA a ha).1 j).2.1.trans ((A2 a ha).1 j).2.1⟩
    have hrr : ∀ a j, a < hp_z g → ¬ (a = x ∧ j = 10) → hp_r k' a j = hp_r g a j := fun a j ha hn => by
      rw [hrz] at ha
      rw [← hk', hp_r_sr, if_neg hn]; exact ((kA a ha).1 j).2.2.trans ((A2 a ha).1 j).2.2
    have hn : ∀ a, a < hp_z g → hp_n k' a = hp_n g a := fun a ha => by
      rw [hrz] at ha
      rw [← hk', hp_n_sr]; exact (kA a ha).2.trans (A2 a ha).2
    have rz : hp_z k' = r + 6 := by rw [← hk', hp_z_sr]; exact kz
    have gs2 : hp_s k' = hp_s g + chS := by
      rw [← hk', hp_s_sr, ks, ← hh2, hp_s_nw]
      unfold chS
      generalize ly_nf 0 = u
      omega
    have hr0 : r ≠ 0 := by omega
    obtain ⟨w6, w7, w8, w9⟩ := GRW (kk := 10) (by omega) hc hs hii hrr hn
    have hb' : BAS P q x m k' := BAS_gen hb (fun a j q1 _ => hii a j (by omega)) (fun a j q1 q2 => hrr a j (by omega) (by omega)) (fun a q1 => hn a (by omega)) (by omega) (fun N hN => CM_ag (fun a j hk => (hii a j (by unfold F_CM at hk; omega)).1) hN)
    have hc' : CCH P q x m sv ro fa r k' := by
      refine ⟨by rw [hrr _ _ (by omega) (by omega)]; exact c1, by rw [hrr _ _ (by omega) (by omega)]; exact c2, by rw [op_p hr0, ← hk']; exact sr_at, ?_, fun w => absurd w hs, fun _ => w6, w7, w8, fun _ => ⟨⟨0, by rw [← hk']; exact CHX_sr (by omega) kY⟩, .inr (fun l hl => by rw [← hk', hp_i_sr, k3 _ _ (by omega), if_pos (by omega)])⟩⟩
      obtain ⟨l1, l2, l3, l4, l5, l6, l7, l8⟩ := c4
      rw [hrz] at l2 l3 l4
      rw [rz]
      refine ⟨fun w => absurd w hs, fun _ => by omega, fun w => by have := l3 w; omega, fun w => by have := l4 w; omega, fun w => by omega, l6, fun w _ => by have := l3 w; omega, fun w _ => by have := l4 w; omega⟩
    have hr' : RM ZT ST sv ro fa r k' := by
      obtain ⟨t1, t2⟩ := hr
      unfold RM
      rw [rz, gs2, if_neg hr0, if_neg hr0]
      rw [if_pos (show (0 : Nat) = 0 from rfl)] at t1 t2
      rw [hrz] at t1
      constructor <;> omega
    refine pw_mono (X_said91 hb' hc' hr' hs (SVD_of hb' w6 (by rw [(hii x 11 (by omega)).1]; exact hd.1)) h0 hr0 hl hi hD hk hp hnm) ?_
    rintro t ⟨t1, t2⟩
    exact ⟨t1, r, t2⟩
  · rw [c3, op_p hch, if_neg (by simp)]
    refine pw_mono (X_said91 hb hc hr hs hd h0 hch hl hi hD hk hp hnm) ?_
    rintro t ⟨t1, t2⟩
    exact ⟨t1, ch, t2⟩
theorem M_said_ {P : PT} {q x m sv ro fa ch ZT ST l D k p : Nat} {h : HP} (hb : BAS P q x m h) (hc : CCH P q x m sv ro fa ch h) (hr : RM ZT ST sv ro fa ch h) (hl : l ≤ al P) (hi : ist P l = true) (hD : D ≤ 12) (hk : k ≤ 1) (hp : p ≤ 1) (hnm : p_nm P ≠ 0) (hst : (BF P 3).2.2 = false → sx P l < (BF P 3).1) : pw (f_M_said m (nI l) (nI D) (nI k) (nI p) h) (fun s => s.1 = (if (BF P 3).2.2 = true then -2 else lN (sdv (brr P) (bnx P) (p_nm P) (BF P 3).1 (sx P l) D k p)) ∧ INV P x m ZT ST s.2) := by
  have ok := hb.2.2.2.2.2.2.1
  have hM := hb.2.2.2.2.2.2.2.2.1
  have hn6 := ok.2.2.2.2.2.1
  have ha := al_le P
  have hlam := M_lam ok (l := l) (m := m) (h := h) (by have := (p_lc2 ok).1; omega) hM.1
  have mst := M_ist ok hM hl
  rw [hi, if_pos (show true = true from rfl)] at mst
  have part : f_M_isPart (nI p) h = some (nI 1, h) := by
    unfold f_M_isPart
    rcases (show p = 0 ∨ p = 1 by omega) with rfl | rfl
    · rw [if_pos (show nI 0 = (0 : Int32) from rfl)]; rfl
    · rw [if_neg (show ¬ nI 1 = (0 : Int32) by decide), if_pos (show nI 1 = (1 : Int32) from rfl)]; rfl
  unfold f_M_said
  rw [hM.2.2.2.2.2.1, if_neg (nI_ne0 (by omega) (by omega)), bn_o hlam, if_neg (show ¬ nI 1 = (0 : Int32) by decide), bn_o mst, if_neg (show ¬ nI 1 = (0 : Int32) by decide), if_neg (nI_pos (by omega)), if_neg (show ¬ (12 : Int32) < nI D from nI_nlt (a := 12) (by omega) (by omega)), if_neg (nI_pos (by omega)), if_neg (show ¬ (1 : Int32) < nI k from nI_nlt (a := 1) (by omega) (by omega)), bn_o part, if_neg (show ¬ nI 1 = (0 : Int32) by decide)]
  refine pw_bind (pw_mono (M_plan (F := 3) hb hc hr (by decide)) ?_)
  rintro r ⟨r1, r2, r3, r4, _⟩
  have e1 := r1.1
  cases z0 : (BF P 3).2.2
  · rw [z0] at e1
    rw [e1, if_neg (show ¬ nI (if false = true then 0 else 1) = (0 : Int32) by decide)]
    refine pw_mono (M_said69 ok r2.2.2.2.2.2.2.2.2.1 (TAB_3 ok r2.2.2.1 r2.2.2.2.2.2.2.2.2.1 r1 z0) hnm hl (hst z0) hD (by omega) (by omega)) ?_
    rintro s ⟨s1, s2⟩
    obtain ⟨w1, w2, w3⟩ := KEEP_m r2 r3 r4 s2 (fun a k z => .inr (by unfold S_sd at z; omega)) (fun N hN => CM_ag (fun a k hk => hf_i s2 (by unfold F_CM at hk; unfold S_sd; omega)) hN)
    exact ⟨by rw [s1, if_neg (by decide)], q, _, _, _, _, w1, w2, w3⟩
  · rw [z0] at e1
    rw [e1, if_pos (show nI (if true = true then 0 else 1) = (0 : Int32) from rfl)]
    exact pw_some ⟨by rw [if_pos rfl], q, _, _, _, _, r2, r3, r4⟩
theorem op_said (x m : Nat) (v1 v2 v3 v4 : Int32) : OK2L (f_X_said x v1 v2 v3 v4) (f_M_said m v1 v2 v3 v4) x m := by
  rintro P ZT ST h ⟨q, sv, ro, fa, ch, hb, hc, hr⟩
  have ok := hb.2.2.2.2.2.2.1
  have hX := hb.2.2.2.2.2.2.2.1
  have hM := hb.2.2.2.2.2.2.2.2.1
  have ha := al_le P
  have hI : INV P x m ZT ST h := ⟨q, sv, ro, fa, ch, hb, hc, hr⟩
  have hn6 := ok.2.2.2.2.2.1
  by_cases nm0 : p_nm P = 0
  · have e1 : f_M_said m v1 v2 v3 v4 h = some (-1, h) := by
      unfold f_M_said
      rw [hM.2.2.2.2.2.1, nm0, if_pos (show nI 0 = (0 : Int32) from rfl)]
    have e2 : f_X_said x v1 v2 v3 v4 h = some (-1, h) := by
      have key : ∀ w : Int32, (f_Pl_isStart q v1 h = some (w, h)) → f_X_said x v1 v2 v3 v4 h = some (-1, h) := by
        intro w hw
        unfold f_X_said
        rw [bn_o hb.2.2.2.2.1, bn_o hw]
        dsimp only
        split
        · rfl
        · split
          · rfl
          · split
            · rfl
            · split
              · rfl
              · split
                · rfl
                · split
                  · rfl
                  · split
                    · rfl
                    · rw [bn_o hb.2.2.2.2.1, hX.2.2.2.2.2.1, nm0, if_pos (show nI 0 = (0 : Int32) from rfl)]
      rcases st_no P ok v1 with ⟨l, hl, rfl⟩ | ⟨k1, _⟩
      · exact key _ (X_ist ok hX (by omega))
      · exact key _ (k1 q h hX)
    rw [e2]
    refine pw_some ?_
    dsimp only
    rw [e1]
    exact pw_some ⟨rfl, hI⟩
  unfold f_X_said
  rw [bn_o hb.2.2.2.2.1]
  have hnz : ¬ nI (p_nm P) = (0 : Int32) := nI_ne0 (by omega) (by omega)
  rcases st_no P ok v1 with ⟨l, hl, rfl⟩ | ⟨k1, k2⟩
  rotate_left
  · rw [bn_o (k1 q h hX), if_pos (show nI 0 = (0 : Int32) from rfl)]
    refine pw_some ?_
    unfold f_M_said
    rw [hM.2.2.2.2.2.1, if_neg hnz, bn_o (k2 m h hM.1), if_pos (show nI 0 = (0 : Int32) from rfl)]
    exact pw_some ⟨rfl, hI⟩
  rw [bn_o (X_ist ok hX (by omega))]
  dsimp only
  have hlam := M_lam ok (l := l) (m := m) (h := h) (by have := (p_lc2 ok).1; omega) hM.1
  have mst := M_ist ok hM hl
  cases hi : ist P l
  · rw [if_neg (show ¬ (false = true) by decide), if_pos (show nI 0 = (0 : Int32) from rfl)]
    refine pw_some ?_
    unfold f_M_said
    rw [hM.2.2.2.2.2.1, if_neg hnz, bn_o hlam, if_neg (show ¬ nI 1 = (0 : Int32) by decide), bn_o mst, hi, if_neg (show ¬ (false = true) by decide), if_pos (show nI 0 = (0 : Int32) from rfl)]
    exact pw_some ⟨rfl, hI⟩
  rw [if_pos (show true = true from rfl), if_neg (show ¬ nI 1 = (0 : Int32) by decide)]
  rw [hi, if_pos (show true = true from rfl)] at mst
  have mm : f_M_said m (nI l) v2 v3 v4 h = (if v2 < 0 then some (-1, h) else if (12 : Int32) < v2 then some (-1, h) else if v3 < 0 then some (-1, h) else if (1 : Int32) < v3 then some (-1, h) else (f_M_isPart v4 h).bind fun x_3 => if x_3.1 = 0 then some (-1, x_3.2) else (f_M_layPlan m (-1 : Int32) x_3.2).bind fun x_4 => if x_4.1 = 0 then some (-2, x_4.2) else f_M_said_69 m (nI l) v2 v3 v4 (0 : Int32) x_4.2) := by
    unfold f_M_said
    rw [hM.2.2.2.2.2.1, if_neg hnz, bn_o hlam, if_neg (show ¬ nI 1 = (0 : Int32) by decide), bn_o mst, if_neg (show ¬ nI 1 = (0 : Int32) by decide)]
  by_cases z1 : v2 < 0
  · rw [if_pos z1]; refine pw_some ?_; dsimp only; rw [mm, if_pos z1]; exact pw_some ⟨rfl, hI⟩
  rw [if_neg z1] at mm ⊢
  by_cases z2 : (12 : Int32) < v2
  · rw [if_pos z2]; refine pw_some ?_; dsimp only; rw [mm, if_pos z2]; exact pw_some ⟨rfl, hI⟩
  rw [if_neg z2] at mm ⊢
  by_cases z3 : v3 < 0
  · rw [if_pos z3]; refine pw_some ?_; dsimp only; rw [mm, if_pos z3]; exact pw_some ⟨rfl, hI⟩
  rw [if_neg z3] at mm ⊢
  by_cases z4 : (1 : Int32) < v3
  · rw [if_pos z4]; refine pw_some ?_; dsimp only; rw [mm, if_pos z4]; exact pw_some ⟨rfl, hI⟩
  rw [if_neg z4] at mm ⊢
  rcases i_rng v4 1 (by decide) with hv | ⟨p, hp, rfl⟩ | ⟨n, n1, n2, rfl⟩
  · rw [if_pos hv]
    rcases part_cases v4 with ⟨p, p1, rfl⟩ | ⟨_, j2⟩
    · exact absurd hv (nI_pos (by omega))
    · refine pw_some ?_; dsimp only; rw [mm, bn_o (j2 h), if_pos (show nI 0 = (0 : Int32) from rfl)]; exact pw_some ⟨rfl, hI⟩
  rotate_left
  · rw [if_neg (nI_pos (by omega)), if_pos (show (1 : Int32) < nI n from nI_lt (a := 1) (by omega) (by omega))]
    rcases part_cases (nI n) with ⟨p, p1, p2⟩ | ⟨_, j2⟩
    · have := (nI_eq (by omega) (by omega)).mp p2; omega
    · refine pw_some ?_; dsimp only; rw [mm, bn_o (j2 h), if_pos (show nI 0 = (0 : Int32) from rfl)]; exact pw_some ⟨rfl, hI⟩
  obtain ⟨D, hD, rfl⟩ : ∃ D, D ≤ 12 ∧ v2 = nI D := by
    rcases i_rng v2 12 (by decide) with y | y | ⟨n, n1, n2, rfl⟩
    · exact absurd y z1
    · exact y
    · exact absurd (nI_lt (a := 12) (by omega) (by omega)) z2
  obtain ⟨k, hk, rfl⟩ : ∃ k, k ≤ 1 ∧ v3 = nI k := by
    rcases i_rng v3 1 (by decide) with y | y | ⟨n, n1, n2, rfl⟩
    · exact absurd y z3
    · exact y
    · exact absurd (nI_lt (a := 1) (by omega) (by omega)) z4
  rw [if_neg (nI_pos (by omega)), if_neg (show ¬ (1 : Int32) < nI p from nI_nlt (a := 1) (by omega) (by omega)), bn_o hb.2.2.2.2.1, hX.2.2.2.2.2.1, if_neg hnz]
  refine pw_bind (pw_mono (X_survey hb hc hr) ?_)
  rintro ⟨sv', g⟩ ⟨_, rfl, hs, b1, b2, b3, d⟩
  dsimp only at b1 b2 b3 d ⊢
  rcases d.2.2 with ⟨z0, hJ⟩ | ⟨z0, h5⟩
  · rw [hJ.2.1, if_pos (show nI 0 = (0 : Int32) from rfl)]
    have hsl : sx P l < (BF P 3).1 := Nat.lt_of_lt_of_le (sx_lt ok (by omega) hi) hJ.2.2.2.2.2.2.1.2.2.2.1
    refine pw_mono (X_said_ b1 b2 b3 hs d z0 (l := l) (D := D) (k := k) (p := p) (by omega) hi hD (by omega) (by omega) nm0) ?_
    rintro t ⟨t1, ch', t2, t3, t4⟩
    refine pw_mono (M_said_ t2 t3 t4 (l := l) (D := D) (k := k) (p := p) hl hi hD hk hp nm0 (fun _ => hsl)) ?_
    rintro s ⟨s1, s2⟩
    refine ⟨?_, s2⟩
    rw [t1, s1, z0, if_neg (by decide)]
  · rw [h5, if_neg (show ¬ nI 1 = (0 : Int32) by decide)]
    refine pw_some ?_
    refine pw_mono (M_said_ b1 b2 b3 (l := l) (D := D) (k := k) (p := p) hl hi hD hk hp nm0 (fun z => by rw [z0] at z; exact absurd z (by decide))) ?_
    rintro s ⟨s1, s2⟩
    exact ⟨by rw [s1, if_pos z0], s2⟩
