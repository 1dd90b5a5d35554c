/-! both objects stand -/
theorem X_it {x S0 i : Nat} {s : AS} {g : HP} (S : SIM x S0 s g) (hz : s_z s = 28 + 2 * i) (h6 : s_R s 0 6 = some 27) (hn : s_N s 27 = 3) (hi : i < 3) : f_X_new_67b x (nI i) g = some (.inl (nI (i + 1), ev x [(0, 1, 0, ly_nf 1), (0, 13, 6, 6), (1, 28 + 2 * i, 4, 28 + 2 * i + 1), (1, 27, i, 28 + 2 * i)] g)) := by
  have zg : hp_z g = x + (28 + 2 * i) := by rw [S.1, hz]
  have r6 : hp_r g x 6 = some (x + 27) := by
    have := ((S.2.2 0 (by omega)).1 6).1
    rw [h6] at this
    exact this
  have n27 : hp_n g (x + 27) = 3 := by rw [(S.2.2 27 (by omega)).2, hn]
  unfold f_X_new_67b f_Co_new
  rw [if_neg (show ¬ (3 : Int32) ≤ nI i from nI_ge (b := 3) hi (by decide)), bn_o r6]
  simp only [xx_lE, bn_s, hp_z_nw, zg]
  have e27 : ∀ (b j : Nat) (v : Option Nat), hp_n (hp_sr (hp_nw (hp_nw g 1 0 (ly_nf 1)) 13 6 6) b j v) (x + 27) = 3 := fun b j v => by
    rw [hp_n_sr, hp_n_nw, if_neg (by rw [hp_z_nw, zg]; omega), hp_n_nw, if_neg (by rw [zg]; omega), n27]
  rw [e27, if_pos (hp_in_nI (by omega) (by omega)), nI_clamp (by omega), nI_1]
  rfl
def sX1 : AS := av opsX1 (a1 (0, 10, 0, ly_nf 10) as0)
def sX2 : AS := av opsB2 (av opsB1 (av opsB0 sX1))
def sX3 : AS := av opsX3 sX2
def sM : AS := av opsM (a1 (0, 11, 0, ly_nf 11) as0)
theorem X_67 {x S0 : Nat} {g : HP} {Q : HP → Prop} (S : SIM x S0 sX1 g) (hq : ∀ k, SIM x S0 sX2 k → pw (f_X_new_91 x k) Q) : pw (f_X_new_67 x 0 g) Q := by
  have S1 := SIM_v opsB0 _ _ S
  have S2 := SIM_v opsB1 _ _ S1
  have S3 := SIM_v opsB2 _ _ S2
  unfold f_X_new_67
  refine pw_go ?_
  refine pw_L (X_it (i := 0) S (by decide +kernel) (by decide +kernel) (by decide +kernel) (by decide)) ?_
  refine pw_go ?_
  refine pw_L (X_it (i := 1) S1 (by decide +kernel) (by decide +kernel) (by decide +kernel) (by decide)) ?_
  refine pw_go ?_
  refine pw_L (X_it (i := 2) S2 (by decide +kernel) (by decide +kernel) (by decide +kernel) (by decide)) ?_
  refine pw_go ?_
  have e : f_X_new_67b x (nI (2 + 1)) (ev x opsB2 (ev x opsB1 (ev x opsB0 g))) = (f_X_new_91 x (ev x opsB2 (ev x opsB1 (ev x opsB0 g)))).map .inr := by
    unfold f_X_new_67b
    rw [if_pos (show (3 : Int32) ≤ nI (2 + 1) by decide)]
  show pw (f_X_new_67b x (nI (2 + 1)) (ev x opsB2 (ev x opsB1 (ev x opsB0 g)))) _
  rw [e]
  exact pw_mapR (hq _ S3)
theorem X_91_eq {x : Nat} {k : HP} (hz : hp_z k = x + 34) : f_X_new_91 x k = (f_X_startAnew x (ev x opsX3 k)).bind fun y => some y := by
  unfold f_X_new_91 f_Lo_new
  simp only [xx_lE, bn_s, hp_z_sr, hp_z_nw, hp_z_si, hz, Nat.add_assoc, Nat.reduceAdd, opsX3, ev_nw, ev_sr, ev_si, ev_nil, Nat.add_zero]
theorem sX_r : ∀ q ∈ xs_r, q.1 < s_z sX3 ∧ s_R sX3 q.1 q.2.1 = some q.2.2 := by decide +kernel
theorem sX_n : ∀ q ∈ xs_n, q.1 < s_z sX3 ∧ s_N sX3 q.1 = q.2 := by decide +kernel
theorem sM_t : ∀ q ∈ ms_t, 0 < s_z sM ∧ s_R sM 0 q.1 = some q.2.1 ∧ q.2.1 < s_z sM ∧ s_N sM q.2.1 = q.2.2 := by decide +kernel
def SX : Nat := s_S sX3
def SMM : Nat := s_S sM
def XNW (x S0 : Nat) (g : HP) : Prop := hp_z g = x + 41 ∧ hp_s g = S0 + SX ∧ XS x g ∧ hp_r g x 3 = some (x + 7) ∧ hp_r g x 4 = some (x + 16) ∧ hp_r g x 8 = none ∧ hp_r g x 9 = none ∧ hp_r g x 10 = none ∧ PX P00 (x + 7) g ∧ hp_i g x 1 = nI 0 ∧ hp_i g (x + 2) 0 = 0 ∧ hp_i g (x + 2) 1 = -1 ∧ CCX (x + 25) (fs P00 0) 0 0 (fun _ => 0) g ∧ (∀ b, b < 3 → hp_i g (x + (28 + 2 * b)) 3 = nI 0) ∧ hp_i g (x + 34) 0 = nI 0 ∧ hp_i g (x + 34) 1 = nI 0 ∧ hp_i g x 11 = 0
theorem POK_00 : POK P00 := (VAL_00 (TKL (fun _ => 0) 0)).1
theorem N_x (h0 : HP) : pw (f_X_new (hp_z h0) (hp_nw h0 10 0 (ly_nf 10))) (XNW (hp_z h0) (hp_s h0)) := by
  have S0 : SIM (hp_z h0) (hp_s h0) (a1 (0, 10, 0, ly_nf 10) as0) (hp_nw h0 10 0 (ly_nf 10)) := SIM_1 (o := (0, 10, 0, ly_nf 10)) (SIM_0 h0)
  obtain ⟨x, hx⟩ : ∃ x, hp_z h0 = x := ⟨_, rfl⟩
  obtain ⟨s0, hs0⟩ : ∃ s, hp_s h0 = s := ⟨_, rfl⟩
  rw [hx, hs0] at S0 ⊢
  rw [X_new_eq (by rw [hp_z_nw, hx])]
  refine X_67 (SIM_v opsX1 _ _ S0) ?_
  intro k Sk
  have S3 : SIM x s0 sX3 (ev x opsX3 k) := SIM_v opsX3 _ _ Sk
  rw [X_91_eq (by rw [Sk.1]; exact congrArg (x + ·) (show s_z sX2 = 34 by decide +kernel))]
  obtain ⟨h3, hh3⟩ : ∃ h3, ev x opsX3 k = h3 := ⟨_, rfl⟩
  rw [hh3] at S3 ⊢
  have z41 : s_z sX3 = 41 := by decide +kernel
  have ri : ∀ a k, a < 41 → hp_i h3 (x + a) k = s_I sX3 a k := fun a k ha => ((S3.2.2 a (by omega)).1 k).2.1
  have rr : ∀ a k, a < 41 → hp_r h3 (x + a) k = (s_R sX3 a k).map (x + ·) := fun a k ha => ((S3.2.2 a (by omega)).1 k).1
  have xs : XS x h3 := by
    refine ⟨fun q hq => ?_, fun q hq => ?_⟩
    · have e := sX_r q hq
      rw [((S3.2.2 q.1 e.1).1 q.2.1).1, e.2]; rfl
    · have e := sX_n q hq
      rw [(S3.2.2 q.1 e.1).2, e.2]
  have r3 : hp_r h3 x 3 = some (x + 7) := (rr 0 3 (by decide)).trans (congrArg (Option.map (x + ·)) (show s_R sX3 0 3 = some 7 by decide +kernel))
  have r4 : hp_r h3 x 4 = some (x + 16) := (rr 0 4 (by decide)).trans (congrArg (Option.map (x + ·)) (show s_R sX3 0 4 = some 16 by decide +kernel))
  have r8 : hp_r h3 x 8 = none := (rr 0 8 (by decide)).trans (congrArg (Option.map (x + ·)) (show s_R sX3 0 8 = none by decide +kernel))
  have r9 : hp_r h3 x 9 = none := (rr 0 9 (by decide)).trans (congrArg (Option.map (x + ·)) (show s_R sX3 0 9 = none by decide +kernel))
  have r10 : hp_r h3 x 10 = none := (rr 0 10 (by decide)).trans (congrArg (Option.map (x + ·)) (show s_R sX3 0 10 = none by decide +kernel))
  have px : PX P00 (x + 7) h3 := ⟨(ri 7 0 (by decide)).trans (show s_I sX3 7 0 = nI 1 by decide +kernel), (ri 7 1 (by decide)).trans (show s_I sX3 7 1 = nI 1 by decide +kernel), (ri 7 2 (by decide)).trans (show s_I sX3 7 2 = -1 by decide +kernel), (ri 7 3 (by decide)).trans (show s_I sX3 7 3 = nI 0 by decide +kernel), (ri 7 4 (by decide)).trans (show s_I sX3 7 4 = nI 0 by decide +kernel), (ri 7 5 (by decide)).trans (show s_I sX3 7 5 = nI 0 by decide +kernel), (ri 7 6 (by decide)).trans (show s_I sX3 7 6 = nI 0 by decide +kernel), (ri 7 7 (by decide)).trans (show s_I sX3 7 7 = nI 0 by decide +kernel), fun i hi => absurd hi (Nat.not_lt_zero _), fun i hi => absurd hi (Nat.not_lt_zero _), fun i hi => absurd hi (Nat.not_lt_zero _), fun i hi => absurd hi (Nat.not_lt_zero _), fun i hi => absurd hi (Nat.not_lt_zero _), fun i hi => absurd hi (Nat.not_lt_zero _)⟩
  refine pw_bind (pw_mono (X_anew (fa := 0) (ch := 0) xs r3 (.inl rfl) POK_00 px r9 r10 (fun z => absurd rfl z) (fun z => absurd rfl z) (fun z => absurd rfl z)) ?_)
  rintro g ⟨K, k34, kb, k11, kc, _, _⟩
  refine pw_some ⟨by rw [hp_fr_z K, S3.1, z41], by rw [hp_fr_s K]; exact S3.2.1, XS_fr K xs, by rw [hp_fr_r K]; exact r3, by rw [hp_fr_r K]; exact r4, by rw [hp_fr_r K]; exact r8, by rw [hp_fr_r K]; exact r9, by rw [hp_fr_r K]; exact r10, PX_ag (fun a k hk => hf_i K (by unfold F_PX at hk; unfold S_an; omega)) px, ?_, ?_, ?_, kc, kb, k34, ?_, k11⟩
  · rw [hf_i K (by unfold S_an; omega)]; exact (ri 0 1 (by decide)).trans (show s_I sX3 0 1 = nI 0 by decide +kernel)
  · rw [hf_i K (by unfold S_an; omega)]; exact (ri 2 0 (by decide)).trans (show s_I sX3 2 0 = 0 by decide +kernel)
  · rw [hf_i K (by unfold S_an; omega)]; exact (ri 2 1 (by decide)).trans (show s_I sX3 2 1 = -1 by decide +kernel)
  · rw [hf_i K (by unfold S_an; omega)]; exact (ri 34 1 (by decide)).trans (show s_I sX3 34 1 = nI 0 by decide +kernel)
theorem N_m {x s0 : Nat} {g : HP} (hx : XNW x s0 g) : pw (f_M_new (hp_z g) (hp_nw g 11 0 (ly_nf 11))) (fun k => INV P00 x (hp_z g) (x + 125) (s0 + SX + SMM + svS + roS + faS + chS) k ∧ hp_z g = x + 41) := by
  obtain ⟨z, sS, xs, r3, r4, r8, r9, r10, px, i1, i20, i21, cc, bb, l0, l1, i11⟩ := hx
  have S0 : SIM (hp_z g) (hp_s g) (a1 (0, 11, 0, ly_nf 11) as0) (hp_nw g 11 0 (ly_nf 11)) := SIM_1 (o := (0, 11, 0, ly_nf 11)) (SIM_0 g)
  have SM := SIM_v opsM _ _ S0
  have lo := (ev_lo opsM (hp_nw g 11 0 (ly_nf 11)) (x := hp_z g) (by rw [hp_z_nw]; omega)).2
  obtain ⟨m, hm⟩ : ∃ m, hp_z g = m := ⟨_, rfl⟩
  rw [M_new_eq (by rw [hp_z_nw])]
  obtain ⟨h3, hh3⟩ : ∃ h3, ev (hp_z g) opsM (hp_nw g 11 0 (ly_nf 11)) = h3 := ⟨_, rfl⟩
  rw [hh3] at SM lo ⊢
  have SM : SIM (hp_z g) (hp_s g) sM h3 := SM
  rw [hm] at SM lo z ⊢
  have z56 : s_z sM = 56 := by decide +kernel
  have lw : ∀ a, a < m → (∀ k, hp_i h3 a k = hp_i g a k ∧ hp_l h3 a k = hp_l g a k ∧ hp_r h3 a k = hp_r g a k) ∧ hp_n h3 a = hp_n g a := fun a ha => by
    obtain ⟨j1, j2⟩ := lo a ha
    refine ⟨fun k => ⟨(j1 k).1.trans ?_, (j1 k).2.1.trans ?_, (j1 k).2.2.trans ?_⟩, j2.trans ?_⟩
    · rw [hp_i_nw, if_neg (by omega)]
    · rw [hp_l_nw, if_neg (by omega)]
    · rw [hp_r_nw, if_neg (by omega)]
    · rw [hp_n_nw, if_neg (by omega)]
  have ms : MS m h3 := fun q hq => by
    obtain ⟨e1, e2, e3, e4⟩ := sM_t q hq
    refine ⟨?_, ?_⟩
    · exact ((SM.2.2 0 e1).1 q.1).1.trans (by rw [e2]; rfl)
    · rw [(SM.2.2 _ e3).2, e4]
  have ri : ∀ a k, a < 56 → hp_i h3 (m + a) k = s_I sM a k := fun a k ha => ((SM.2.2 a (by omega)).1 k).2.1
  have r0 : ∀ k, hp_i h3 m k = s_I sM 0 k := fun k => ri 0 k (by decide)
  unfold f_M_plain
  simp only [xx_lE, bn_s]
  obtain ⟨h4, hh4⟩ : ∃ h4, hp_si (hp_si (hp_si (hp_si h3 m 28 (1 : Int32)) m 29 (1 : Int32)) m 30 (99 : Int32)) m 31 (0 : Int32) = h4 := ⟨_, rfl⟩
  rw [hh4]
  have H4 : hp_fr (fun a k => a = m ∧ 28 ≤ k ∧ k ≤ 31) h3 h4 := by
    rw [← hh4]
    exact hf_si (hf_si (hf_si (hf_si (hp_fr_rf h3) (by omega)) (by omega)) (by omega)) (by omega)
  have c4 : ∀ k, hp_i h4 m k = if k = 31 then 0 else if k = 30 then 99 else if k = 29 then 1 else if k = 28 then 1 else hp_i h3 m k := fun k => by rw [← hh4]; simp [hp_i_si]
  have pm : PM P00 m h4 := ⟨by rw [c4]; rfl, by rw [c4]; rfl, by rw [c4]; rfl, by rw [c4]; rfl, by rw [c4]; exact (r0 32).trans (show s_I sM 0 32 = 0 by decide +kernel), by rw [c4]; exact (r0 33).trans (show s_I sM 0 33 = 0 by decide +kernel), by rw [c4]; exact (r0 34).trans (show s_I sM 0 34 = 0 by decide +kernel), by rw [c4]; exact (r0 35).trans (show s_I sM 0 35 = 0 by decide +kernel), fun i hi => absurd hi (Nat.not_lt_zero _), fun i hi => absurd hi (Nat.not_lt_zero _), fun i hi => absurd hi (Nat.not_lt_zero _), fun i hi => absurd hi (Nat.not_lt_zero _), fun i _ hi => absurd hi (Nat.not_lt_zero _), fun i hi => absurd hi (Nat.not_lt_zero _)⟩
  rw [show (0 : Int32) = nI 0 from rfl]
  refine pw_bind (pw_mono (M_beginWith (MS_fr H4 ms) POK_00 pm (by decide)) ?_)
  rintro k ⟨K, k1, k2, k3, k4⟩
  have G : hp_fr (fun a k => a = m ∧ 28 ≤ k ∧ k ≤ 56 ∨ a = m + 20 ∨ a = m + 21 ∨ a = m + 22 ∨ a = m + 23) h3 k := hp_fr_tr (hp_fr_mo H4 (fun a k z => by omega)) (hp_fr_mo K (fun a k z => by unfold S_bw at z; omega))
  have gi : ∀ a k', a < m → hp_i k a k' = hp_i g a k' := fun a k' ha => by rw [hf_i G (by omega)]; exact ((lw a ha).1 k').1
  have gl : ∀ a k', a < m → hp_l k a k' = hp_l g a k' := fun a k' ha => by rw [hf_l G (by omega)]; exact ((lw a ha).1 k').2.1
  have gr : ∀ a k', a < m → hp_r k a k' = hp_r g a k' := fun a k' ha => by rw [hp_fr_r G]; exact ((lw a ha).1 k').2.2
  have gn : ∀ a, a < m → hp_n k a = hp_n g a := fun a ha => by rw [hp_fr_n G]; exact (lw a ha).2
  have zk : hp_z k = x + 97 := by rw [hp_fr_z G, SM.1, z56]; omega
  have xs' : XS x k := by
    refine ⟨fun q hq => ?_, fun q hq => ?_⟩
    · have := (sX_r q hq).1
      rw [show s_z sX3 = 41 by decide +kernel] at this
      rw [gr _ _ (by omega)]; exact xs.1 q hq
    · have := (sX_n q hq).1
      rw [show s_z sX3 = 41 by decide +kernel] at this
      rw [gn _ (by omega)]; exact xs.2 q hq
  refine pw_some ⟨⟨x + 7, 0, 0, 0, 0, ⟨z, xs', MS_fr G ms, by omega, by rw [gr _ _ (by omega)]; exact r3, .inl ⟨rfl, by rw [gr _ _ (by omega)]; exact r4⟩, POK_00, ?_, ?_, ⟨fun _ => 0, 0, Nat.zero_le _, ?_, ?_, fun k hk => absurd hk (Nat.not_lt_zero _)⟩, ⟨?_, ?_⟩, ⟨fs P00 0, 0, 0, fun _ => 0, CRS_0 POK_00 (Nat.two_pow_pos _), ?_, k1, k2, k3, k4⟩, ?_, ⟨0, 0, fun _ => 0, fun _ => 0, fun _ => 0, fun _ => 0, Nat.zero_le _, Nat.zero_le _, ?_, ?_, ?_, ?_, fun k hk => absurd hk (Nat.not_lt_zero _)⟩⟩, ?_, ?_⟩, z⟩
  · exact PX_ag (fun a k' hk => gi a k' (by unfold F_PX at hk; omega)) px
  · exact PM_ag (fun a k' hk => hf_i K (by unfold F_PM at hk; unfold S_bw; omega)) pm
  · rw [gi _ _ (by omega)]; exact i1
  · rw [hf_i G (by omega)]; exact (r0 1).trans (show s_I sM 0 1 = 0 by decide +kernel)
  · rw [gi _ _ (by omega), i20, hf_i G (by omega)]; exact ((r0 2).trans (show s_I sM 0 2 = 0 by decide +kernel)).symm
  · rw [gi _ _ (by omega), i21, hf_i G (by omega)]; exact ((r0 3).trans (show s_I sM 0 3 = -1 by decide +kernel)).symm
  · exact CCX_ag (fun a k' hk => ⟨gi a k' (by unfold F_CCX at hk; omega), gl a k' (by unfold F_CCX at hk; omega)⟩) cc
  · intro b hb
    refine .inl ⟨by rw [gi _ _ (by omega)]; exact bb b hb, ?_⟩
    rw [hf_i G (by omega), ri 47 b (by decide)]
    rcases (show b = 0 ∨ b = 1 ∨ b = 2 by omega) with y | y | y <;> rw [y] <;> decide +kernel
  · rw [gi _ _ (by omega)]; exact l0
  · rw [gi _ _ (by omega)]; exact l1
  · rw [hf_i G (by omega)]; exact (r0 85).trans (show s_I sM 0 85 = 0 by decide +kernel)
  · rw [hf_i G (by omega)]; exact (r0 86).trans (show s_I sM 0 86 = 0 by decide +kernel)
  · refine ⟨by rw [gr _ _ (by omega)]; exact r8, by rw [gr _ _ (by omega)]; exact r9, by rw [gr _ _ (by omega)]; exact r10, ?_, fun _ => by rw [gi _ _ (by omega)]; exact i11, fun y => absurd rfl y, fun y => absurd rfl y, fun y => absurd rfl y, fun y => absurd rfl y⟩
    refine ⟨fun _ => ⟨rfl, rfl, rfl⟩, fun y => absurd rfl y, fun y => absurd rfl y, fun y => absurd rfl y, fun y => absurd rfl y, fun y => absurd rfl y, fun y => absurd rfl y, fun y => absurd rfl y⟩
  · unfold RM
    rw [if_pos rfl, if_pos rfl, if_pos rfl, if_pos rfl, if_pos rfl, if_pos rfl, if_pos rfl, if_pos rfl, zk]
    refine ⟨by omega, ?_⟩
    rw [hp_fr_s G, SM.2.1, sS]; rfl
