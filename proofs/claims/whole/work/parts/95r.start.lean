/-! start -/
theorem M_start {K : TKS} {ps : Nat → Nat} {m L F k : Nat} {T : Nat → Nat} {P : PT} {cn nk : Nat → Nat} {h : HP} (ok : TKO K) (hT : TOKS K ps m L T) (hF : F < 16) (hb : F / 2 ^ 3 % 2 = 0) (htk : t_k K k = 3) (hr : RSS K ps m L T P cn nk F k h) : pw (f_M_readStart m (hp_si h (m + 11) 3 (nI 1))) (fun h' => hp_fr (S_rf m) h h' ∧ (((4 ≤ t_k K (k + 1) ∧ t_k K (k + 1) ≤ 6) ∧ RSS K ps m L T (pu3 (t_k K (k + 1) - 4) P) cn nk (F + 2 ^ 3) (k + 2) h') ∨ (¬ (4 ≤ t_k K (k + 1) ∧ t_k K (k + 1) ≤ 6) ∧ RBX K ps m L T (ec K (k + 1)) (t_s K (k + 1)) h'))) := by
  obtain ⟨h1, hh1⟩ : ∃ h1, hp_si h (m + 11) 3 (nI 1) = h1 := ⟨_, rfl⟩
  have K1 : hp_fr (fun a k => a = m + 11 ∧ k = 3) h h1 := by rw [← hh1]; exact hf_si (hp_fr_rf h) ⟨rfl, rfl⟩
  have K1r : hp_fr (S_rf m) h h1 := hp_fr_mo K1 (fun a k z => by unfold S_rf; omega)
  have M1 : MSC K m P cn nk (F + 2 ^ 3) h1 := by rw [← hh1]; exact MSC_F hr.2 hF (by decide) hb
  have R1 : RT K ps m L T k h1 := ⟨MTC_fr K1 (fun a k z => by omega) hr.1.1, by rw [hf_i K1 (by omega)]; exact hr.1.2.1, MTK_fr K1 (fun a k z => by omega) hr.1.2.2⟩
  rw [hh1]
  unfold f_M_readStart
  refine pw_bind (pw_mono (M_tok ok hT R1 (by omega) (by omega)) ?_)
  rintro h2 ⟨K2, R2⟩
  have M2 := MSC_ln K2 M1
  have F2 := hp_fr_tr K1r (ln_rf K2)
  have w : ∀ g, MTK K ps m (k + 1) g → ∀ j, j < 20 → ∀ {T : Type} (f : Int32 × HP → Option T), (f_M_isWord m (lN (cst j)) g).bind f = f (nI (if t_k K (k + 1) = j then 1 else 0), g) := fun g hg j hj T f => bn_o (M_word ok hg hj) f
  rw [show (7300710 : Int64) = lN (cst 4) from rfl, show (28526 : Int64) = lN (cst 5) from rfl, show (6385273 : Int64) = lN (cst 6) from rfl]
  -- behind the words
  have s69 : ∀ n : Nat, t_k K (k + 1) = 4 + n → n ≤ 2 → pw (f_M_readStart_69 m (nI n) m h2) (fun h' => hp_fr (S_rf m) h h' ∧ (((4 ≤ t_k K (k + 1) ∧ t_k K (k + 1) ≤ 6) ∧ RSS K ps m L T (pu3 (t_k K (k + 1) - 4) P) cn nk (F + 2 ^ 3) (k + 2) h') ∨ (¬ (4 ≤ t_k K (k + 1) ∧ t_k K (k + 1) ≤ 6) ∧ RBX K ps m L T (ec K (k + 1)) (t_s K (k + 1)) h'))) := by
    intro n e hn
    unfold f_M_readStart_69
    rw [xx_lE]
    obtain ⟨h3, hh3⟩ : ∃ h3, hp_si h2 m 23 (nI n) = h3 := ⟨_, rfl⟩
    rw [hh3]
    have K3 : hp_fr (fun a k => a = m ∧ k = 23) h2 h3 := by rw [← hh3]; exact hf_si (hp_fr_rf _) ⟨rfl, rfl⟩
    have K3r : hp_fr (S_rf m) h2 h3 := hp_fr_mo K3 (fun a k z => by unfold S_rf; omega)
    have R3 : RT K ps m L T (k + 1) h3 := ⟨MTC_fr K3 (fun a k z => by omega) R2.1, by rw [hf_i K3 (by omega)]; exact R2.2.1, MTK_fr K3 (fun a k z => by omega) R2.2.2⟩
    have M3 : MSC K m (pu3 n P) cn nk (F + 2 ^ 3) h3 := MSC_u3 M2 K3 (by rw [← hh3, hp_i_si, if_pos ⟨rfl, rfl⟩])
    rw [if_pos R3.2.1]
    refine pw_bind (pw_mono (M_tok ok hT R3 (by omega) (by omega)) ?_)
    rintro h4 ⟨K4, R4⟩
    refine pw_some ⟨hp_fr_tr (hp_fr_tr F2 K3r) (ln_rf K4), .inl ⟨by omega, R4, ?_⟩⟩
    rw [show t_k K (k + 1) - 4 = n by omega]
    exact MSC_ln K4 M3
  have s39 : ∀ n : Nat, t_k K (k + 1) = 4 + n → n ≤ 2 → pw (f_M_readStart_39 m h2) (fun h' => hp_fr (S_rf m) h h' ∧ (((4 ≤ t_k K (k + 1) ∧ t_k K (k + 1) ≤ 6) ∧ RSS K ps m L T (pu3 (t_k K (k + 1) - 4) P) cn nk (F + 2 ^ 3) (k + 2) h') ∨ (¬ (4 ≤ t_k K (k + 1) ∧ t_k K (k + 1) ≤ 6) ∧ RBX K ps m L T (ec K (k + 1)) (t_s K (k + 1)) h'))) := by
    intro n e hn
    unfold f_M_readStart_39
    rw [show (28526 : Int64) = lN (cst 5) from rfl, show (6385273 : Int64) = lN (cst 6) from rfl, w h2 R2.2.2 5 (by decide)]
    dsimp only
    by_cases z5 : t_k K (k + 1) = 5
    · rw [if_pos z5, if_neg (show ¬ nI 1 = (0 : Int32) by decide), show (1 : Int32) = nI 1 from rfl]
      exact s69 1 z5 (by decide)
    rw [if_neg z5, if_pos (show nI 0 = (0 : Int32) from rfl), w h2 R2.2.2 6 (by decide)]
    dsimp only
    by_cases z6 : t_k K (k + 1) = 6
    · rw [if_pos z6, if_neg (show ¬ nI 1 = (0 : Int32) by decide), show (2 : Int32) = nI 2 from rfl]
      exact s69 2 z6 (by decide)
    rw [if_neg z6, if_pos (show nI 0 = (0 : Int32) from rfl), show (0 : Int32) = nI 0 from rfl]
    exact s69 0 (by omega) (by decide)
  rw [w h2 R2.2.2 4 (by decide)]
  dsimp only
  by_cases z4 : t_k K (k + 1) = 4
  · rw [if_pos z4, if_neg (show ¬ nI 1 = (0 : Int32) by decide)]; exact s39 0 z4 (by decide)
  rw [if_neg z4, if_pos (show nI 0 = (0 : Int32) from rfl), w h2 R2.2.2 5 (by decide)]
  dsimp only
  by_cases z5 : t_k K (k + 1) = 5
  · rw [if_pos z5, if_neg (show ¬ nI 1 = (0 : Int32) by decide)]; exact s39 1 z5 (by decide)
  rw [if_neg z5, if_pos (show nI 0 = (0 : Int32) from rfl), w h2 R2.2.2 6 (by decide)]
  dsimp only
  by_cases z6 : t_k K (k + 1) = 6
  · rw [if_pos z6, if_neg (show ¬ nI 1 = (0 : Int32) by decide)]; exact s39 2 z6 (by decide)
  rw [if_neg z6, if_pos (show nI 0 = (0 : Int32) from rfl), show (2 : Int32) = nI 2 from rfl]
  refine pw_bind (pw_mono (M_wrong ok R2.2.2 R2.2.1 (by decide) (by decide)) ?_)
  rintro h3 ⟨K3, he⟩
  have k3 : MTK K ps m (k + 1) h3 := MTK_fr K3 (fun a k z => by unfold S_er at z; omega) R2.2.2
  unfold f_M_readStart_39 f_M_readStart_69
  rw [show (28526 : Int64) = lN (cst 5) from rfl, show (6385273 : Int64) = lN (cst 6) from rfl, w h3 k3 5 (by decide), if_neg z5]
  dsimp only
  rw [if_pos (show nI 0 = (0 : Int32) from rfl), w h3 k3 6 (by decide), if_neg z6]
  dsimp only
  rw [if_pos (show nI 0 = (0 : Int32) from rfl), xx_lE]
  have K4 : hp_fr (fun a k => a = m ∧ k = 23) h3 (hp_si h3 m 23 0) := hf_si (hp_fr_rf _) ⟨rfl, rfl⟩
  have he4 : MER m (ec K (k + 1)) (t_s K (k + 1)) (hp_si h3 m 23 0) := ⟨he.1, he.2.1, by rw [hf_i K4 (by omega)]; exact he.2.2.1, by rw [hf_i K4 (by omega)]; exact he.2.2.2⟩
  rw [if_neg (mer_n he4).1]
  have K4r : hp_fr (S_rf m) h3 (hp_si h3 m 23 0) := hp_fr_mo K4 (fun a k z => by unfold S_rf; omega)
  have K3r : hp_fr (S_rf m) h2 h3 := hp_fr_mo K3 (fun a k z => by unfold S_er at z; unfold S_rf; omega)
  exact pw_some ⟨hp_fr_tr (hp_fr_tr F2 K3r) K4r, .inr ⟨by omega, MTC_fr K4 (fun a k z => by omega) (MTC_me K3 (fun a k z => by unfold S_er at z; omega) he R2.1), .inl he4⟩⟩
theorem L_start {K : TKS} {ps : Nat → Nat} {r pl m L F k : Nat} {T : Nat → Nat} {P : PT} {cn nk : Nat → Nat} {g : HP} (hT : TOKS K ps m L T) (hx : CTX K r pl g) (hv : VAL K P cn nk F) (hs : CS K r pl P nk F k g) (htk : t_k K k = 3) (hb : F / 2 ^ 3 % 2 = 0) : pw ((f_Rd_advance r (hp_si g r 6 (nI (F + 2 ^ 3)))).bind fun x3 => (f_Rd_readStart r x3).bind fun x => some x) (BOUT K ps r pl m L T P cn nk F k k (fun h => f_M_readStart m (hp_si h (m + 11) 3 (nI 1))) g) := by
  have hrp := hx.1
  have ok := hx.2.1
  have hF := hv.2.2.2.2.2.2
  obtain ⟨f1, f2, f3⟩ := (bits ⟨F, hF⟩ ⟨3, by decide⟩).2 hb
  dsimp only at f1 f2 f3
  obtain ⟨g1, hg1⟩ : ∃ g1, hp_si g r 6 (nI (F + 2 ^ 3)) = g1 := ⟨_, rfl⟩
  rw [hg1]
  have H1 : hp_fr (fun a k => a = r ∧ k = 6) g g1 := by rw [← hg1]; exact hf_si (hp_fr_rf g) ⟨rfl, rfl⟩
  have H1c : hp_fr (S_cl r pl) g g1 := hp_fr_mo H1 (fun a k z => by unfold S_cl; omega)
  have hx1 := S_clC H1c hx
  have s1 : CS K r pl P nk (F + 2 ^ 3) k g1 := by
    obtain ⟨⟨d1, d2, d3, d4, d5⟩, c2, c3, c4, c5⟩ := hs
    exact ⟨⟨d1, d2, by rw [hf_i H1 (by omega)]; exact d3, by rw [hf_i H1 (by omega), hf_i H1 (by omega)]; exact d4, by rw [hf_i H1 (by omega)]; exact d5⟩, PX_ag (fun a k hk => hf_i H1 (by unfold F_PX at hk; omega)) c2, by rw [hf_i H1 (by omega)]; exact c3, fun i hi => by rw [hf_l H1 (by omega)]; exact c4 i hi, by rw [← hg1, hp_i_si, if_pos ⟨rfl, rfl⟩]⟩
  have pb1 := CS_PLB (F := F + 2 ^ 3) ⟨hv.1, hv.2.1, hv.2.2.1, hv.2.2.2.1, hv.2.2.2.2.1, hv.2.2.2.2.2.1, f2⟩ s1
  have ref := fun h hr => M_start (h := h) ok hT hF hb htk (P := P) (cn := cn) (nk := nk) hr
  refine pw_bind (pw_mono (R_adv hx1 s1.1 (by omega)) ?_)
  rintro g2 ⟨H2, v⟩
  have hx2 := S_raC H2 hx1
  have F2 := hp_fr_tr H1c (ra_cl (pl := pl) H2)
  have pb2 := PLB_ra hrp H2 pb1
  -- refused there
  have ded : ∀ (c p : Nat) (g3 : HP), hp_fr (S_cl r pl) g g3 → PLB pl g3 → DED r c p g3 → (∀ h, RSS K ps m L T P cn nk F k h → pw (f_M_readStart m (hp_si h (m + 11) 3 (nI 1))) (fun h' => hp_fr (S_rf m) h h' ∧ RBX K ps m L T c p h')) → pw ((f_Rd_readStart_63 r g3).bind fun x => some x) (BOUT K ps r pl m L T P cn nk F k k (fun h => f_M_readStart m (hp_si h (m + 11) 3 (nI 1))) g) := by
    intro c p g3 H3 P3 D3 hM
    unfold f_Rd_readStart_63
    rw [bn_o (R_advD D3), bn_s]
    exact pw_some ⟨H3, .inl ⟨c, p, D3, P3, hM⟩⟩
  unfold f_Rd_readStart
  rcases v with v | ⟨v1, v2, v3⟩
  · have s2 := CS_ra hrp H2 s1 v
    have h64 := (ok.2.2.2.1 (k + 1) v.1).1
    have yes : ∀ n : Nat, t_k K (k + 1) = 4 + n → n ≤ 2 → pw (((hp_r g2 r 4).bind fun q => xx_l (hp_si g2 q 3 (nI n)) fun h_2 => f_Rd_readStart_63 r h_2).bind fun x => some x) (BOUT K ps r pl m L T P cn nk F k k (fun h => f_M_readStart m (hp_si h (m + 11) 3 (nI 1))) g) := by
      intro n e hn
      rw [bn_o hx2.2.2.1.1, xx_lE]
      obtain ⟨g3, hg3⟩ : ∃ g3, hp_si g2 pl 3 (nI n) = g3 := ⟨_, rfl⟩
      rw [hg3]
      have H3 : hp_fr (fun a k => a = pl ∧ k = 3) g2 g3 := by rw [← hg3]; exact hf_si (hp_fr_rf _) ⟨rfl, rfl⟩
      have H3c : hp_fr (S_cl r pl) g2 g3 := hp_fr_mo H3 (fun a k z => by unfold S_cl; omega)
      have hx3 := S_clC H3c hx2
      have s3 : CS K r pl (pu3 n P) nk (F + 2 ^ 3) (k + 1) g3 := by
        obtain ⟨⟨d1, d2, d3, d4, d5⟩, c2, c3, c4, c5⟩ := s2
        exact ⟨⟨d1, d2, by rw [hf_i H3 (by omega)]; exact d3, by rw [hf_i H3 (by omega), hf_i H3 (by omega)]; exact d4, by rw [hf_i H3 (by omega)]; exact d5⟩, PX_u3 c2 H3 (by rw [← hg3, hp_i_si, if_pos ⟨rfl, rfl⟩]), by rw [hf_i H3 (by omega)]; exact c3, fun i hi => by rw [hf_l H3 (by omega)]; exact c4 i hi, by rw [hf_i H3 (by omega)]; exact c5⟩
      have v3' : VAL K (pu3 n P) cn nk (F + 2 ^ 3) := VAL_u3 hv hn f2
      unfold f_Rd_readStart_63
      refine pw_bind (pw_bind (pw_mono (R_adv hx3 s3.1 (by omega)) ?_))
      rintro g4 ⟨H4, y⟩
      have F4 := hp_fr_tr (hp_fr_tr F2 H3c) (ra_cl (pl := pl) H4)
      refine pw_some (pw_some ⟨F4, ?_⟩)
      have en : t_k K (k + 1) - 4 = n := by omega
      rcases y with y | ⟨y1, y2, y3⟩
      · refine .inr ⟨pu3 n P, cn, nk, F + 2 ^ 3, k + 2, by omega, v3', CS_ra hrp H4 s3 y, fun h hr => pw_mono (ref h hr) ?_⟩
        rintro h' ⟨q1, q2⟩
        rcases q2 with q2 | q2
        · rw [en] at q2; exact ⟨q1, q2.2⟩
        · exact absurd (by omega) q2.1
      · refine .inl ⟨_, _, y3, PLB_ra hrp H4 (CS_PLB v3' s3), fun h hr => pw_mono (ref h hr) ?_⟩
        rintro h' ⟨q1, q2⟩
        rcases q2 with q2 | q2
        · exact ⟨q1, RT_bad y2 q2.2.1⟩
        · exact absurd (by omega) q2.1
    rw [v.2.2.2.2]
    have ne : ∀ j : Nat, j < 2 ^ 31 → t_k K (k + 1) ≠ j → ¬ nI (t_k K (k + 1)) = nI j := fun j hj z y => z ((nI_eq (by omega) hj).mp y)
    by_cases z4 : t_k K (k + 1) = 4
    · rw [if_pos (show nI (t_k K (k + 1)) = (4 : Int32) by rw [z4]; rfl)]; exact yes 0 z4 (by decide)
    rw [if_neg (show ¬ nI (t_k K (k + 1)) = (4 : Int32) from ne 4 (by decide) z4)]
    by_cases z5 : t_k K (k + 1) = 5
    · rw [if_pos (show nI (t_k K (k + 1)) = (5 : Int32) by rw [z5]; rfl)]; exact yes 1 z5 (by decide)
    rw [if_neg (show ¬ nI (t_k K (k + 1)) = (5 : Int32) from ne 5 (by decide) z5)]
    by_cases z6 : t_k K (k + 1) = 6
    · rw [if_pos (show nI (t_k K (k + 1)) = (6 : Int32) by rw [z6]; rfl)]; exact yes 2 z6 (by decide)
    rw [if_neg (show ¬ nI (t_k K (k + 1)) = (6 : Int32) from ne 6 (by decide) z6), show (2 : Int32) = nI 2 from rfl]
    obtain ⟨g3, eg3, H3, D3⟩ := R_ref hx2 v (c := 2) (by decide) (by decide)
    rw [bn_o eg3]
    refine ded 2 _ g3 (hp_fr_tr F2 (ra_cl H3)) (PLB_ra hrp H3 pb2) D3 (fun h hr => pw_mono (ref h hr) ?_)
    rintro h' ⟨q1, q2⟩
    have e2 : ec K (k + 1) = 2 := by unfold ec; rw [if_neg v.2.1]
    rw [e2] at q2
    rcases q2 with q2 | q2
    · omega
    · exact ⟨q1, q2.2⟩
  · rw [v3.2.2.2.2, if_neg (show ¬ (23 : Int32) = 4 by decide), if_neg (show ¬ (23 : Int32) = 5 by decide), if_neg (show ¬ (23 : Int32) = 6 by decide)]
    obtain ⟨g3, eg3, H3, D3⟩ := R_refD (v := 2) v3
    rw [bn_o eg3]
    refine ded _ _ g3 (hp_fr_tr F2 (ra_cl H3)) (PLB_ra hrp H3 pb2) D3 (fun h hr => pw_mono (ref h hr) ?_)
    rintro h' ⟨q1, q2⟩
    rcases q2 with q2 | q2
    · omega
    · exact ⟨q1, q2.2⟩
/-! settings, all four: the line -/
theorem b_as {α β γ : Type} (A : Option α) (f : α → Option β) (q : β → Option γ) : (A.bind f).bind q = A.bind fun x => (f x).bind q := Option.bind_assoc A f q
theorem L_setting {K : TKS} {ps : Nat → Nat} {r pl m L F k : Nat} {T : Nat → Nat} {P : PT} {cn nk : Nat → Nat} {g : HP} (hT : TOKS K ps m L T) (hx : CTX K r pl g) (hv : VAL K P cn nk F) (hs : CS K r pl P nk F k g) (htk : t_k K k < 4) : pw ((f_Rd_readSetting r g).bind fun x => f_Rd_readLine_90 r x) (BOUT K ps r pl m L T P cn nk F k (k + 1) (f_M_readLine m) g) := by
  have ok := hx.2.1
  have hF := hv.2.2.2.2.2.2
  obtain ⟨b1, b2⟩ := bits ⟨F, hF⟩ ⟨t_k K k, htk⟩
  dsimp only at b1 b2
  have e12 := hs.1.2.2.2.2
  have e6 := hs.2.2.2.2
  by_cases hb : F / 2 ^ (t_k K k) % 2 = 0
  · have eF := (b2 hb).1
    -- the reference's side
    have lin : ∀ h, RSS K ps m L T P cn nk F k h → f_M_readLine m h = f_M_readLine_16 m (nI (t_k K k)) (hp_si h (m + 11) (t_k K k) (nI 1)) := by
      intro h hr
      unfold f_M_readLine
      rw [bn_o (M_lineOf ok hr), show (if t_k K k < 4 ∧ F / 2 ^ (t_k K k) % 2 = 0 then nI (t_k K k) else -1) = nI (t_k K k) from if_pos ⟨htk, hb⟩]
      dsimp only
      rw [if_neg (nI_pos (by omega)), mb_19 hr.1.1.1, mn_11 hr.1.1.1, if_pos (hp_in_nI htk (by omega)), nI_clamp (by omega), xx_lE, show vp_nar .boolean (1 : Int32) = nI 1 from nar_lt (n := 1) (by decide)]
    rcases (show t_k K k = 0 ∨ t_k K k = 1 ∨ t_k K k = 2 ∨ t_k K k = 3 by omega) with t0 | t0 | t0 | t0
    · refine L_fin hT hx (fM := fun h => (f_M_token m (hp_si h (m + 11) 0 (nI 1))).bind fun x => (f_M_toldNumber m (nI 1) (nI 2) x).bind fun y => some (hp_si y.2 m (20 + 0) y.1)) ?_ ?_
      · unfold f_Rd_readSetting
        rw [e12, xx_lE, e6, if_pos (b1.mpr hb), xx_lE, eF, t0]
        simp only [if_pos (show nI 0 = (0 : Int32) from rfl), xx_lE]
        rw [t0] at hb
        exact L_num (lo := 1) (hi := 2) (up := fun n => pu0 n P) hT hx hv hs (by decide) t0 hb (by decide) (by decide) (fun n g g' _ _ h H e => PX_u0 h H e) (fun n F g g' h H e => MSC_u0 h H e) (fun n F' h1 h2 hf => VAL_u0 hv (by omega) hf) (fun n => ⟨rfl, rfl⟩)
      · intro h hr
        rw [lin h hr, t0]
        unfold f_M_readLine_16 f_M_readLine_29
        rw [if_neg (show ¬ nI 0 < (0 : Int32) by decide), if_neg (show ¬ (3 : Int32) ≤ nI 0 by decide)]
        simp only [b_as, if_pos (show nI 0 = (0 : Int32) from rfl), bn_s, xx_lE]
        rfl
    · refine L_fin hT hx (fM := fun h => (f_M_token m (hp_si h (m + 11) 1 (nI 1))).bind fun x => (f_M_toldNumber m (nI 1) (nI 12) x).bind fun y => some (hp_si y.2 m (20 + 1) y.1)) ?_ ?_
      · unfold f_Rd_readSetting
        rw [e12, xx_lE, e6, if_pos (b1.mpr hb), xx_lE, eF, t0]
        simp only [if_neg (show ¬ nI 1 = (0 : Int32) by decide), if_pos (show nI 1 = (1 : Int32) from rfl), xx_lE]
        rw [t0] at hb
        exact L_num (lo := 1) (hi := 12) (up := fun n => pu1 n P) hT hx hv hs (by decide) t0 hb (by decide) (by decide) (fun n g g' _ _ h H e => PX_u1 h H e) (fun n F g g' h H e => MSC_u1 h H e) (fun n F' h1 h2 hf => VAL_u1 hv (by omega) hf) (fun n => ⟨rfl, rfl⟩)
      · intro h hr
        rw [lin h hr, t0]
        unfold f_M_readLine_16 f_M_readLine_29
        rw [if_neg (show ¬ nI 1 < (0 : Int32) by decide), if_neg (show ¬ (3 : Int32) ≤ nI 1 by decide)]
        simp only [b_as, if_neg (show ¬ nI 1 = (0 : Int32) by decide), if_pos (show nI 1 = (1 : Int32) from rfl), bn_s, xx_lE]
        rfl
    · refine L_fin hT hx (fM := fun h => (f_M_token m (hp_si h (m + 11) 2 (nI 1))).bind fun x => (f_M_toldNumber m (nI 0) (nI 11) x).bind fun y => some (hp_si y.2 m (20 + 2) y.1)) ?_ ?_
      · unfold f_Rd_readSetting
        rw [e12, xx_lE, e6, if_pos (b1.mpr hb), xx_lE, eF, t0]
        simp only [if_neg (show ¬ nI 2 = (0 : Int32) by decide), if_neg (show ¬ nI 2 = (1 : Int32) by decide), if_pos (show nI 2 = (2 : Int32) from rfl), xx_lE]
        rw [t0] at hb
        exact L_num (lo := 0) (hi := 11) (up := fun n => pu2 n P) hT hx hv hs (by decide) t0 hb (by decide) (by decide) (fun n g g' _ h2 h H e => PX_u2 h H e h2) (fun n F g g' h H e => MSC_u2 h H e) (fun n F' h1 h2 hf => VAL_u2 hv (by omega) hf) (fun n => ⟨rfl, rfl⟩)
      · intro h hr
        rw [lin h hr, t0]
        unfold f_M_readLine_16 f_M_readLine_29
        rw [if_neg (show ¬ nI 2 < (0 : Int32) by decide), if_neg (show ¬ (3 : Int32) ≤ nI 2 by decide)]
        simp only [b_as, if_neg (show ¬ nI 2 = (0 : Int32) by decide), if_neg (show ¬ nI 2 = (1 : Int32) by decide), if_pos (show nI 2 = (2 : Int32) from rfl), bn_s, xx_lE]
        rfl
    · refine L_fin hT hx (fM := fun h => f_M_readStart m (hp_si h (m + 11) 3 (nI 1))) ?_ ?_
      · unfold f_Rd_readSetting
        rw [e12, xx_lE, e6, if_pos (b1.mpr hb), xx_lE, eF, t0]
        simp only [if_neg (show ¬ nI 3 = (0 : Int32) by decide), if_neg (show ¬ nI 3 = (1 : Int32) by decide), if_neg (show ¬ nI 3 = (2 : Int32) by decide)]
        rw [t0] at hb
        exact L_start hT hx hv hs t0 hb
      · intro h hr
        rw [lin h hr, t0]
        unfold f_M_readLine_16 f_M_readLine_29
        rw [if_neg (show ¬ nI 3 < (0 : Int32) by decide), if_pos (show (3 : Int32) ≤ nI 3 by decide), if_neg (show ¬ nI 3 = (0 : Int32) by decide), if_neg (show ¬ nI 3 = (1 : Int32) by decide), if_neg (show ¬ nI 3 = (2 : Int32) by decide), if_pos (show nI 3 = (3 : Int32) from rfl)]
  · refine L_fin hT hx (fM := fun h => f_M_wrong m (nI 2) h) ?_ (fun h hr => M_rl_bad ok hv hr (fun z => hb z.2) (fun z => by omega) (fun z => by omega))
    unfold f_Rd_readSetting
    rw [e12, xx_lE, e6, if_neg (fun z => hb (b1.mp z))]
    refine pw_bind (pw_mono (L_bad (ps := ps) (m := m) (L := L) (T := T) hx hv hs) ?_)
    intro g' q
    exact pw_some q
