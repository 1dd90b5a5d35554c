/-! bears -/
theorem SVD_of {P : PT} {q x m sv ro : Nat} {k : HP} (hb : BAS P q x m k) (hk : KSV P q x sv ro k) (h1 : hp_i k x 11 = 1) : SVD P q x sv k := by
  obtain ⟨k1, k2, k3⟩ := hk
  rcases k3 with z | ⟨z1, z2, z3, z4⟩
  · rw [h1] at z; exact absurd z (by decide)
  · exact ⟨h1, ⟨BAS_psh hb, hb.2.2.2.2.2.2.2.1, SVS_of k1 z2⟩, z3⟩
theorem X_bears_ {P : PT} {q x m sv ro fa ch ZT ST F : Nat} {g : HP} (hb : BAS P q x m g) (hc : CCH P q x m sv ro fa ch g) (hr : RM ZT ST sv ro fa ch g) (hs : sv ≠ 0) (hd : SVD P q x sv g) (h0 : (BF P 3).2.2 = false) (hF : F < 3) : pw (if hp_r g x 9 = none then
  (xx_l (hp_z g) fun q_2 => xx_l (hp_nw g 2 0 (ly_nf 2)) fun h_3 =>
  (f_Fa_new q_2 h_3).bind fun x_4 =>
  xx_l (hp_sr x_4 x 9 (some q_2)) fun h_5 =>
  f_X_bears_44 x (nI F) sv h_5)
  else
  (f_X_bears_44 x (nI F) sv g)) (fun r => r.1 = brv P F ∧ ∃ fa', BAS P q x m r.2 ∧ CCH P q x m sv ro fa' ch r.2 ∧ RM ZT ST sv ro fa' ch r.2) := by
  obtain ⟨hm, hq⟩ := BAS_q hb
  obtain ⟨c1, c2, c3, c4, c5, c6, c7, c8, c9⟩ := id hc
  have hsv := c4.2.1 hs
  by_cases hfa : fa = 0
  · subst hfa
    rw [c2, op_0, if_pos rfl, xx_lE, xx_lE]
    obtain ⟨r, hrz⟩ : ∃ r, hp_z g = r := ⟨_, rfl⟩
    rw [hrz] at hsv
    obtain ⟨h2, hh2⟩ : ∃ h2, hp_nw g 2 0 (ly_nf 2) = h2 := ⟨_, rfl⟩
    rw [hh2, hrz]
    have z2 : hp_z h2 = r + 1 := by rw [← hh2, hp_z_nw, hrz]
    have A2 : afr r g h2 := by rw [← hh2]; exact afr_nw (afr_rf r g) (by omega)
    obtain ⟨k, ek, kz, ks, kY, _, k3, kA⟩ := A_fan z2
    refine pw_bind (pw_mono ek ?_)
    rintro k₂ rfl
    rw [xx_lE]
    obtain ⟨k', hk'⟩ : ∃ k', hp_sr k₂ x 9 (some r) = k' := ⟨_, rfl⟩
    rw [hk']
    have hi : ∀ a j, a < hp_z g → hp_i k' a j = hp_i g a j ∧ hp_l k' a j = hp_l g a j := fun a j ha => by
      rw [hrz] at ha
      rw [← hk', hp_i_sr, hp_l_sr]; exact ⟨((kA a ha).1 j).1.trans ((A2 a ha).1 j).1, ((kA a ha).1 j).2.1.trans ((A2 a ha).1 j).2.1⟩
    have hrr : ∀ a j, a < hp_z g → ¬ (a = x ∧ j = 9) → hp_r k' a j = hp_r g a j := fun a j ha hn => by
      rw [hrz] at ha
      rw [← hk', hp_r_sr, if_neg hn]; exact ((kA a ha).1 j).2.2.trans ((A2 a ha).1 j).2.2
    have hn : ∀ a, a < hp_z g → hp_n k' a = hp_n g a := fun a ha => by
      rw [hrz] at ha
      rw [← hk', hp_n_sr]; exact (kA a ha).2.trans (A2 a ha).2
    have rz : hp_z k' = r + 5 := by rw [← hk', hp_z_sr]; exact kz
    have gs2 : hp_s k' = hp_s g + faS := by
      rw [← hk', hp_s_sr, ks, ← hh2, hp_s_nw]
      unfold faS
      generalize ly_nf 2 = u
      generalize ly_nf 7 = w
      omega
    have hr0 : r ≠ 0 := by omega
    obtain ⟨w6, w7, w8, w9⟩ := GRW (kk := 9) (by omega) hc hs hi hrr hn
    have hb' : BAS P q x m k' := BAS_gen hb (fun a j q1 _ => hi a j (by omega)) (fun a j q1 q2 => hrr a j (by omega) (by omega)) (fun a q1 => hn a (by omega)) (by omega) (fun N hN => CM_ag (fun a j hk => (hi a j (by unfold F_CM at hk; omega)).1) hN)
    have hc' : CCH P q x m sv ro r ch k' := by
      refine ⟨by rw [hrr _ _ (by omega) (by omega)]; exact c1, by rw [op_p hr0, ← hk']; exact sr_at, by rw [hrr _ _ (by omega) (by omega)]; exact c3, ?_, fun w => absurd w hs, fun _ => w6, w7, fun _ => ⟨by rw [← hk']; exact FAX_sr (by omega) (by omega) kY, fun F hF => .inl (by rw [← hk', hp_i_sr]; exact k3 F hF)⟩, w9⟩
      obtain ⟨l1, l2, l3, l4, l5, l6, l7, l8⟩ := c4
      rw [hrz] at l2 l3 l5
      rw [rz]
      refine ⟨fun w => absurd w hs, fun _ => by omega, fun w => by have := l3 w; omega, fun w => by omega, fun w => by have := l5 w; omega, fun w _ => by have := l3 w; omega, l7, fun _ w => by have := l5 w; omega⟩
    have hr' : RM ZT ST sv ro r ch k' := by
      obtain ⟨t1, t2⟩ := hr
      unfold RM
      rw [rz, gs2, if_neg hr0, if_neg hr0]
      rw [if_pos (show (0 : Nat) = 0 from rfl)] at t1 t2
      rw [hrz] at t1
      constructor <;> omega
    refine pw_mono (X_bears44 hb' hc' hr' hs (SVD_of hb' w6 (by rw [(hi x 11 (by omega)).1]; exact hd.1)) h0 hr0 hF) ?_
    rintro t ⟨t1, t2⟩
    exact ⟨t1, r, t2⟩
  · rw [c2, op_p hfa, if_neg (by simp)]
    refine pw_mono (X_bears44 hb hc hr hs hd h0 hfa hF) ?_
    rintro t ⟨t1, t2⟩
    exact ⟨t1, fa, t2⟩
theorem M_lead_ {P : PT} {m c F : Nat} {r : Int32 × HP} (ok : POK P) (hs : MS m r.2) (hp : PM P m r.2) (hL : LAYR m P F r) (h0 : (BF P F).2.2 = false) (hc : c = 1 ∨ c = 2) : f_M_leads m (cvv c) r.2 = some (nI (fb_ct (rgt P (BF P F).2.1 c) (8 * (BF P F).1)), r.2) := by
  obtain ⟨_, l2, l3⟩ := hL
  obtain ⟨_, n2⟩ := l3 h0
  have hn := BF_n ok F
  generalize BF P F = B at *
  exact M_leads hs ok hp.2.2.2.2.2.1 hn hc l2.1.2.1 (fun s i h1 h2 => n2 s i h1 (by have := ok.2.2.2.2.2.1; omega) h2)
theorem M_bears_ {P : PT} {q x m sv ro fa ch ZT ST F : Nat} {h : HP} (hb : BAS P q x m h) (hc : CCH P q x m sv ro fa ch h) (hr : RM ZT ST sv ro fa ch h) (hF : F < 3) : pw (f_M_bears m (nI F) h) (fun s => s.1 = brv P F ∧ INV P x m ZT ST s.2) := by
  have ok := hb.2.2.2.2.2.2.1
  have hn := BF_n ok F
  unfold f_M_bears
  rw [if_neg (nI_pos (by omega)), if_pos (show nI F ≤ (2 : Int32) from nI_le (b := 2) (by omega) (by decide))]
  have mp := M_plan (F := F) hb hc hr (by omega)
  rw [show fvv F = nI F by unfold fvv; rw [if_neg (by omega)]] at mp
  refine pw_bind (pw_mono mp ?_)
  rintro r ⟨r1, r2, r3, r4, _⟩
  have e1 := r1.1
  have hle := fb_ct_le (rgt P (BF P F).2.1 2) (8 * (BF P F).1)
  unfold brv
  cases z0 : (BF P F).2.2
  · rw [z0] at e1
    rw [e1, if_neg (show ¬ nI (if false = true then 0 else 1) = (0 : Int32) by decide), show (-3 : Int32) = cvv 2 from rfl, bn_o (M_lead_ ok r2.2.2.1 r2.2.2.2.2.2.2.2.2.1 r1 z0 (.inr rfl))]
    generalize fb_ct (rgt P (BF P F).2.1 2) (8 * (BF P F).1) = ct at *
    dsimp only
    by_cases z : ct = 0
    · rw [z, if_pos (show nI 0 = (0 : Int32) from rfl)]
      exact pw_some ⟨rfl, q, _, _, _, _, r2, r3, r4⟩
    · rw [if_neg (nI_ne0 (by omega) (by omega))]
      exact pw_some ⟨by rw [if_neg (show ¬ (false = true) by decide), if_neg z], q, _, _, _, _, r2, r3, r4⟩
  · rw [z0] at e1
    rw [e1, if_pos (show nI (if true = true then 0 else 1) = (0 : Int32) from rfl), if_pos rfl]
    exact pw_some ⟨rfl, q, _, _, _, _, r2, r3, r4⟩
theorem BF_sp3 {P : PT} (ok : POK P) {F : Nat} (h : (BF P 3).2.2 = true) : (BF P F).2.2 = true := by
  obtain ⟨g, gR, gd⟩ := BF_many ok h
  refine Decidable.of_not_not (fun z => ?_)
  have hf := bool_f z
  have hle := fb_holes (BF P F).1 5001 (fun j => idx (BF P F).2.1 (BF P F).1 (g j)) (fun j hj => BF_all ok hf (RB_3 (gR j hj))) (fun i j hij hj z => by
    have a := idx_yes (BF_all ok hf (RB_3 (F := F) (gR i (by omega))))
    have b := idx_yes (BF_all ok hf (RB_3 (F := F) (gR j hj)))
    have z : idx (BF P F).2.1 (BF P F).1 (g i) = idx (BF P F).2.1 (BF P F).1 (g j) := z
    rw [z, b] at a
    exact gd i j hij hj a.symm)
  have := BF_n ok F
  omega
theorem op_bears (x m : Nat) (v : Int32) : OK2 (f_X_bears x v) (f_M_bears m v) x m := by
  rintro P ZT ST h ⟨q, sv, ro, fa, ch, hb, hc, hr⟩
  have ok := hb.2.2.2.2.2.2.1
  unfold f_X_bears
  rcases i_rng v 2 (by decide) with hv | ⟨F, hF, rfl⟩ | ⟨n, n1, n2, rfl⟩
  · rw [if_pos hv]
    refine pw_some ?_
    unfold f_M_bears
    rw [if_pos hv]
    exact pw_some ⟨rfl, q, sv, ro, fa, ch, hb, hc, hr⟩
  · rw [if_neg (nI_pos (by omega)), if_pos (show nI F < (3 : Int32) from nI_lt (b := 3) (by omega) (by decide))]
    refine pw_bind (pw_mono (X_survey hb hc hr) ?_)
    rintro ⟨sv', g⟩ ⟨_, rfl, hs, b1, b2, b3, d⟩
    dsimp only at b1 b2 b3 d ⊢
    rcases d.2.2 with ⟨z0, hI⟩ | ⟨z0, h5⟩
    · rw [hI.2.1, if_pos (show nI 0 = (0 : Int32) from rfl)]
      refine pw_mono (X_bears_ b1 b2 b3 hs d z0 (F := F) (by omega)) ?_
      rintro t ⟨t1, fa', t2, t3, t4⟩
      refine pw_mono (M_bears_ t2 t3 t4 (F := F) (by omega)) ?_
      rintro s ⟨s1, s2⟩
      exact ⟨t1.trans s1.symm, s2⟩
    · rw [h5, if_neg (show ¬ nI 1 = (0 : Int32) by decide)]
      refine pw_some ?_
      refine pw_mono (M_bears_ b1 b2 b3 (F := F) (by omega)) ?_
      rintro s ⟨s1, s2⟩
      refine ⟨?_, s2⟩
      rw [s1]
      unfold brv
      rw [if_pos (BF_sp3 ok z0)]
  · rw [if_neg (nI_pos (by omega)), if_neg (show ¬ nI n < (3 : Int32) from nI_nlt (b := 3) (by omega) (by omega))]
    refine pw_some ?_
    unfold f_M_bears
    rw [if_neg (nI_pos (by omega)), if_neg (show ¬ nI n ≤ (2 : Int32) from nI_ge (a := 2) (by omega) (by omega))]
    exact pw_some ⟨rfl, q, sv, ro, fa, ch, hb, hc, hr⟩
