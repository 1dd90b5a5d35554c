theorem CS_CDE {K : TKS} {r pl k F : Nat} {P : PT} {nk : Nat → Nat} {g : HP} (hs : CS K r pl P nk F k g) : CDE pl (cod P) (p_un P) g := by
  obtain ⟨_, c2, c3, _⟩ := hs
  refine ⟨by rw [cod_len]; exact c3, c2.2.2.2.2.2.2.2.1, fun j hj => ?_⟩
  rw [cod_len] at hj
  rw [cod_at hj]; exact c2.2.2.2.2.2.2.2.2.2.2.2.2.2 j hj
theorem MSC_OUT {K : TKS} {m F : Nat} {P : PT} {cn nk : Nat → Nat} {h : HP} (hs : MSC K m P cn nk F h) : OUT m (cod P) (p_un P) h := by
  obtain ⟨a1, a2, a3, a4, a5, a6, a7, a8, a9, a10, a11, a12, a13, a14, a15, a16, a17⟩ := hs
  refine ⟨by rw [cod_len]; exact a9, a8, fun j hj => ?_⟩
  rw [cod_len] at hj
  rw [cod_at hj]; exact a16 j hj
theorem L_rule {K : TKS} {ps : Nat → Nat} {r pl m L F k : Nat} {T : Nat → Nat} {P : PT} {cn nk : Nat → Nat} {g : HP} (hT : TOKS K ps m L T) (hx : CTX K r pl g) (hv : VAL K P cn nk F) (hs : CS K r pl P nk F k g) (h10 : t_k K k = 10) : pw ((f_Rd_readRule r g).bind fun x => f_Rd_readLine_90 r x) (BOUT K ps r pl m L T P cn nk F k (k + 1) (f_M_readLine m) g) := by
  have hrp := hx.1
  have ok := hx.2.1
  have hN := ok.1
  have okp := hv.1
  have hnr4 := okp.2.2.2.2.1
  have e6 := hs.2.1.2.2.2.2.2.2.1
  by_cases hnu : p_nu P < 16
  rotate_left
  · refine L_fin hT hx (fM := fun h => f_M_wrong m (nI 2) h) ?_ (fun h hr => M_rl_bad ok hv hr (fun z => by omega) (fun z => by omega) (fun z => hnu z.2))
    unfold f_Rd_readRule
    rw [bn_o hx.2.2.1.1, e6, if_neg (show ¬ nI (p_nu P) < (16 : Int32) from nI_nlt (b := 16) (by omega) (by have := okp.2.2.2.2.2.2.1; omega))]
    refine pw_bind (pw_mono (L_bad (ps := ps) (m := m) (L := L) (T := T) hx hv hs) ?_)
    intro g' q
    exact pw_some q
  -- refused or read to its end: then the line's end
  suffices hmain : pw (f_Rd_readRule r g) (fun g' => BOUT K ps r pl m L T P cn nk F k k (f_M_readRule m) g g' ∨ (hp_fr (S_cl r pl) g g' ∧ PLB pl g' ∧ ∃ k', ALV K r k' g' ∧ t_k K k' ≠ 59 ∧ ∀ h, RSS K ps m L T P cn nk F k h → pw (f_M_readRule m h) (fun h' => hp_fr (S_rf m) h h' ∧ RBX K ps m L T (ec K k') (t_s K k') h'))) by
    refine pw_bind (pw_mono hmain ?_)
    intro g' hg'
    rcases hg' with hb | ⟨H, pb, k', ha, hn, hM⟩
    · refine pw_mono (L_end hT hx hb) ?_
      rintro g2 ⟨H, z⟩
      refine ⟨H, ?_⟩
      rcases z with ⟨c, p, z1, z2, z3⟩ | ⟨P', cn', nk', F', k', z1, z2, z3, z4⟩
      · exact .inl ⟨c, p, z1, z2, fun h hr => by rw [M_rl_rule ok hr h10 hnu]; exact z3 h hr⟩
      · exact .inr ⟨P', cn', nk', F', k', z1, z2, z3, fun h hr => by rw [M_rl_rule ok hr h10 hnu]; exact z4 h hr⟩
    · have hx' := S_clC H hx
      unfold f_Rd_readLine_90
      rw [show (59 : Int32) = nI 59 from rfl]
      refine pw_bind (pw_mono (R_exp hx' ha (t := 59) (by decide) (by decide)) ?_)
      rintro g2 ⟨H2, v⟩
      have D2 : DED r (ec K k') (t_s K k') g2 := by
        rcases v with ⟨v1, _⟩ | ⟨v1, _⟩ | ⟨_, v2⟩
        · exact absurd v1 hn
        · exact absurd v1 hn
        · exact v2
      refine pw_some ⟨hp_fr_tr H (ra_cl H2), .inl ⟨_, _, D2, PLB_ra hrp H2 pb, fun h hr => ?_⟩⟩
      rw [M_rl_rule ok hr h10 hnu]
      refine pw_bind (pw_mono (hM h hr) ?_)
      rintro h1 ⟨K1, q⟩
      refine pw_mono (M_endB ok q) ?_
      rintro h2 ⟨K2, q2⟩
      exact ⟨hp_fr_tr K1 (ln_rf K2), q2⟩
  unfold f_Rd_readRule
  rw [bn_o hx.2.2.1.1, e6, if_pos (show nI (p_nu P) < (16 : Int32) from nI_lt (b := 16) hnu (by decide))]
  refine pw_bind (pw_mono (R_adv hx hs.1 (by omega)) ?_)
  rintro g1 ⟨H1, v⟩
  have hx1 := S_raC H1 hx
  have F1 := ra_cl (pl := pl) H1
  have pb1 := PLB_ra hrp H1 (CS_PLB hv hs)
  have bad : ∀ (c : Nat) (g2 : HP), (if t_k K (k + 1) = 20 then 5 else ec K (k + 1)) = c → ¬ (t_k K (k + 1) = 20 ∧ rid K nk (p_nr P) (k + 1) < p_nr P) → hp_fr (S_ra r) g1 g2 → DED r c (t_s K (k + 1)) g2 → BOUT K ps r pl m L T P cn nk F k k (f_M_readRule m) g g2 := by
    intro c g2 ec' hb H2 D2
    refine ⟨hp_fr_tr F1 (ra_cl H2), .inl ⟨c, _, D2, PLB_ra hrp H2 pb1, fun h hr => ?_⟩⟩
    rw [← ec']
    exact M_rule_bad ok hT hv hr h10 hb
  rcases v with v | ⟨v1, v2, v3⟩
  rotate_left
  · rw [v3.2.2.2.2, if_neg (show ¬ (23 : Int32) = 20 by decide)]
    refine pw_bind (pw_mono (R_refD v3) ?_)
    rintro g2 ⟨H2, D2⟩
    exact pw_some (.inl (bad _ g2 (if_neg (by omega)) (by omega) H2 D2))
  have s1 := CS_ra hrp H1 hs v
  have h64 := (ok.2.2.2.1 (k + 1) v.1).1
  rw [v.2.2.2.2]
  by_cases h20 : t_k K (k + 1) = 20
  rotate_left
  · rw [if_neg (show ¬ nI (t_k K (k + 1)) = (20 : Int32) from fun y => h20 ((nI_eq (b := 20) (by omega) (by decide)).mp y)), show (2 : Int32) = nI 2 from rfl]
    refine pw_bind (pw_mono (R_ref hx1 v (by decide) (by decide)) ?_)
    rintro g2 ⟨H2, D2⟩
    exact pw_some (.inl (bad 2 g2 (by rw [if_neg h20]; unfold ec; rw [if_neg v.2.1]) (by omega) H2 D2))
  have v9 := (hx1.2.2.2.2 (k + 1) v.1).2.2
  rw [if_neg (show ¬ t_k K (k + 1) = 21 by omega), if_pos (show t_k K (k + 1) ≤ 20 by omega)] at v9
  rw [if_pos (show nI (t_k K (k + 1)) = (20 : Int32) by rw [h20]; rfl), bn_o hx1.2.2.1.2.2.2.2.1, v.2.2.2.1.1, hx1.2.2.1.2.2.2.2.2.2.2.2.1, if_pos (hp_in_nI (by have := v.1; omega) (by have := v.1; omega)), nI_clamp (by have := v.1; omega), v9, bn_o (R_named (cn := cn) hx1 hv s1.2.1.2.2.2.2.1 s1.2.2.2.1 v.1 h20)]
  by_cases hid : rid K nk (p_nr P) (k + 1) < p_nr P
  rotate_left
  · rw [if_neg hid]
    dsimp only
    rw [if_pos rfl, show (5 : Int32) = nI 5 from rfl]
    refine pw_bind (pw_mono (R_ref hx1 v (by decide) (by decide)) ?_)
    rintro g2 ⟨H2, D2⟩
    exact pw_some (.inl (bad 5 g2 (if_pos h20) (fun z => hid z.2) H2 D2))
  rw [if_pos hid]
  dsimp only
  rw [if_neg (show ¬ nI (rid K nk (p_nr P) (k + 1)) = (-1 : Int32) from nI_nm1 (by omega))]
  refine pw_bind (pw_mono (R_adv hx1 v (by omega)) ?_)
  rintro g2 ⟨H2, w⟩
  have hx2 := S_raC H2 hx1
  have F2 := hp_fr_tr F1 (ra_cl (pl := pl) H2)
  have e62 : hp_i g2 pl 6 = nI (p_nu P) := by rw [hf_i H2 (by unfold S_ra; omega)]; exact s1.2.1.2.2.2.2.2.2.1
  have pb2 := PLB_ra hrp H2 pb1
  -- refused behind: the rule is written all the same, and that is all
  have ded : ∀ (c p : Nat) (g3 : HP), hp_fr (S_rr r pl (p_nu P)) g2 g3 → DED r c p g3 → DLN pl g3 → (∀ h, RSS K ps m L T P cn nk F k h → pw (f_M_readRule m h) (fun h' => hp_fr (S_rf m) h h' ∧ RBX K ps m L T c p h')) → pw (f_Rd_readRule_117 r (nI (rid K nk (p_nr P) (k + 1))) g3) (fun g' => BOUT K ps r pl m L T P cn nk F k k (f_M_readRule m) g g' ∨ (hp_fr (S_cl r pl) g g' ∧ PLB pl g' ∧ ∃ k', ALV K r k' g' ∧ t_k K k' ≠ 59 ∧ ∀ h, RSS K ps m L T P cn nk F k h → pw (f_M_readRule m h) (fun h' => hp_fr (S_rf m) h h' ∧ RBX K ps m L T (ec K k') (t_s K k') h'))) := by
    intro c p g3 H3 D3 l3 hM
    have hx3 := S_rrC H3 hx2
    have F3 : hp_fr (S_cl r pl) g2 g3 := hp_fr_mo H3 (fun a k z => by unfold S_rr S_xp S_ra at z; unfold S_cl; omega)
    have pb3 : PLB pl g3 := by
      obtain ⟨⟨a, a1, a2⟩, ⟨b, b1, b2⟩, ⟨d, d1, d2⟩, _⟩ := pb2
      exact ⟨⟨a, a1, by rw [rr_6 hrp H3 (by omega)]; exact a2⟩, ⟨b, b1, by rw [rr_6 hrp H3 (by omega)]; exact b2⟩, ⟨d, d1, by rw [rr_6 hrp H3 (by omega)]; exact d2⟩, l3⟩
    unfold f_Rd_readRule_117 f_Rd_readRule_131 f_Rd_readRule_140
    rw [D3.2.2.2.2, if_neg (show ¬ (23 : Int32) = 14 by decide), if_pos rfl, bn_o hx3.2.2.1.1, show (0 : Int32) = nI 0 from rfl]
    refine pw_bind (pw_mono (R_addRuleD hrp hx3.2.2.1 pb3 (by decide)) ?_)
    rintro g4 ⟨H4, P4⟩
    exact pw_some (.inl ⟨hp_fr_tr (hp_fr_tr F2 F3) (hp_fr_mo H4 (fun a k z => by unfold S_cl; omega)), .inl ⟨c, p, DED_fr H4 (fun j hj => by omega) D3, P4, hM⟩⟩)
  -- the reference up to the parts
  have ref : ∀ {R : HP → Prop} h, RSS K ps m L T P cn nk F k h → (∀ h8, hp_fr (S_rf m) h h8 → RSS K ps m L T P cn nk F (k + 2) h8 → hp_i h8 (m + 5) (p_nu P) = nI (rid K nk (p_nr P) (k + 1)) → pw ((grp m h8).bind fun c => ruW m c) R) → pw (f_M_readRule m h) R := by
    intro R h hr hq
    obtain ⟨h8, q1, q2, q3, q4⟩ := M_rule_eq ok hT hv hnu hr h10 h20 hid
    rw [q4]
    exact hq h8 q1 q2 q3
  have toRPS : ∀ h8, RSS K ps m L T P cn nk F (k + 2) h8 → RPS K ps m L T (p_nu P) (k + 2) (cod P) (p_un P) h8 := fun h8 q => ⟨q.1, MSC_OUT q.2, q.2.2.2.2.2.2.2.1⟩
  have rpp_rf : ∀ {a b : HP}, hp_fr (S_rpp m (p_nu P)) a b → hp_fr (S_rf m) a b := fun H => hp_fr_mo H (fun a k z => by unfold S_rpp S_me S_er S_tk S_pil S_nte at z; unfold S_rf; omega)
  rcases w with w | ⟨w1, w2, w3⟩
  rotate_left
  · have l2 : DLN pl g2 := pb2.2.2.2
    refine r68_D hnu 3 0 g2 (by decide) hx2 e62 w3 l2 (fun g3 H3 D3 l3 => ded _ _ g3 H3 D3 l3 (fun h hr => ref h hr (fun h8 K8 r8 _ => ?_)))
    have hw : pw (wpp m 0 h8) (fun h' => hp_fr (S_ln m) h8 h' ∧ MTC m L T h' ∧ MER m (ec K (k + 2)) (t_s K (k + 2)) h') := by
      unfold wpp
      refine pw_bind (pw_mono (M_want2 (j := 11) ok hT (toRPS h8 r8) (by decide)) ?_)
      rintro h9 ⟨K9, y⟩
      rcases y with ⟨y, _⟩ | ⟨_, y1, y2⟩
      · have w2' : t_k K (k + 2) = 23 := w2
        omega
      · rw [M_partE y2]
        exact pw_some ⟨K9, y1, y2⟩
    unfold grp
    refine pw_bind (pw_bind (pw_mono hw ?_))
    rintro h9 ⟨K9, q1, q2⟩
    rw [bn_o (wppE q2), wppE q2]
    refine pw_some ?_
    rw [ruWE q2]
    exact pw_some ⟨hp_fr_tr K8 (ln_rf K9), q1, .inl q2⟩
  have s2 := CS_ra hrp H2 s1 w
  have cd2 := CS_CDE s2
  have cn0 : CN 0 [] (cod P) (p_un P) := (CN_w (by decide)).mpr ⟨okp.2.2.2.2.2.2.2.1, by decide, by rw [cod_len, List.length_nil]; have := hv.2.2.2.2.1; omega, by rw [List.length_nil]; omega⟩
  have vv : ∀ j, j < (cod P).length → VE ((cod P).getD j (0, 0)) := fun j hj => by rw [cod_len] at hj; rw [cod_at hj]; exact hv.2.2.2.2.2.1 j hj
  refine L_parts hT hx2 e62 hnu ⟨w, cd2⟩ cn0 vv ?_ ?_
  · intro g3 c p H3 D3 l3 hM
    refine ded c p g3 H3 D3 l3 (fun h hr => ref h hr (fun h8 K8 r8 _ => ?_))
    refine pw_bind (pw_mono (hM h8 (toRPS h8 r8)) ?_)
    rintro h9 ⟨K9, q1, q2⟩
    rw [ruWE q2]
    exact pw_some ⟨hp_fr_tr K8 (rpp_rf K9), q1, .inl q2⟩
  · intro g3 k3 o1 o2 o3 u3 H3 hk3 x3 b1 b2 b3 cn3 j1 j2 j3 p1 p2 p3 hM
    have hx3 := S_rrC H3 hx2
    have F3 : hp_fr (S_cl r pl) g2 g3 := hp_fr_mo H3 (fun a k z => by unfold S_rr S_xp S_ra at z; unfold S_cl; omega)
    have FF := hp_fr_tr F2 F3
    have e63 : hp_i g3 pl 6 = nI (p_nu P) := by rw [rr_6 hrp H3 (by omega)]; exact e62
    have tk3 := (ok.2.2.2.1 k3 x3.1.1).1
    have pb3 : PLB pl g3 := by
      obtain ⟨⟨a, a1, a2⟩, ⟨b, b1, b2⟩, ⟨d, d1, d2⟩, _⟩ := pb2
      exact ⟨⟨a, a1, by rw [rr_6 hrp H3 (by omega)]; exact a2⟩, ⟨b, b1, by rw [rr_6 hrp H3 (by omega)]; exact b2⟩, ⟨d, d1, by rw [rr_6 hrp H3 (by omega)]; exact d2⟩, CDE_D x3.2 (cn_len cn3).2⟩
    -- the reference, where the part ends well
    have refY : aft 2 (t_k K k3) → ∀ s, (if t_k K k3 = 14 then 1 else 0) = s → ∀ h, RSS K ps m L T P cn nk F k h → pw (f_M_readRule m h) (fun h' => hp_fr (S_rf m) h h' ∧ RT K ps m L T (if t_k K k3 = 14 then k3 + 1 else k3) h' ∧ MSC K m (puU (rid K nk (p_nr P) (k + 1)) s u3 o1 o2 o3 P) cn nk F h') := by
      intro ha s hs' h hr
      refine ref h hr (fun h8 K8 r8 e5 => ?_)
      refine pw_bind (pw_mono (hM h8 (toRPS h8 r8)) ?_)
      rintro h9 ⟨K9, _, q2⟩
      rcases q2 with ⟨_, q3, q4, q5, q6⟩ | ⟨q3, _⟩
      · refine pw_mono (M_ruW ok hT q3 hnu ha) ?_
        rintro h10 ⟨K10, y1, y2, y3, y4, y5⟩
        refine ⟨hp_fr_tr (hp_fr_tr K8 (rpp_rf K9)) (hp_fr_mo K10 (fun a k z => by unfold S_tk at z; unfold S_rf; omega)), y1, ?_⟩
        rw [hs'] at y5
        refine MSC_U r8.2 (hp_fr_tr (hp_fr_mo K9 (fun a k z => .inl z)) (hp_fr_mo K10 (fun a k z => ?_))) y3 y2 e5 y5 ?_ ?_ ?_ y4
        · rcases z with z | z
          · exact .inl (.inl (.inr (.inl z)))
          · exact .inr z
        · rw [hf_i K10 (by unfold S_tk; omega), q4, cod_len]
        · rw [hf_i K10 (by unfold S_tk; omega)]; exact q5
        · rw [hf_i K10 (by unfold S_tk; omega)]; exact q6
      · exact absurd ha q3
    -- the class, where the rule is written at k4
    have wr : ∀ (s k4 : Nat) (g4 : HP), s < 2 → k < k4 → hp_fr (S_ra r) g3 g4 → (if t_k K k3 = 14 then 1 else 0) = s → aft 2 (t_k K k3) → (ALV K r k4 g4 ∧ (if t_k K k3 = 14 then k3 + 1 else k3) = k4 ∨ (t_k K k4 = 23 ∧ DED r (ec K k4) (t_s K k4) g4 ∧ (if t_k K k3 = 14 then k3 + 1 else k3) = k4)) → pw (f_Rd_readRule_140 r (nI (rid K nk (p_nr P) (k + 1))) (nI s) g4) (fun g' => BOUT K ps r pl m L T P cn nk F k k (f_M_readRule m) g g' ∨ (hp_fr (S_cl r pl) g g' ∧ PLB pl g' ∧ ∃ k', ALV K r k' g' ∧ t_k K k' ≠ 59 ∧ ∀ h, RSS K ps m L T P cn nk F k h → pw (f_M_readRule m h) (fun h' => hp_fr (S_rf m) h h' ∧ RBX K ps m L T (ec K k') (t_s K k') h'))) := by
      intro s k4 g4 hs2 hk4 H4 hs' ha z
      have hx4 := S_raC H4 hx3
      unfold f_Rd_readRule_140
      rw [bn_o hx4.2.2.1.1]
      refine pw_bind (pw_mono (R_addRule hx4.2.2.1 (by rw [hf_i H4 (by unfold S_ra; omega)]; exact e63) hnu hs2) ?_)
      rintro g5 ⟨H5, y1, y2, y3⟩
      have F5 : hp_fr (S_cl r pl) g g5 := hp_fr_tr (hp_fr_tr FF (ra_cl H4)) (hp_fr_mo H5 (fun a k z => by unfold S_cl; omega))
      refine pw_some (.inl ⟨F5, ?_⟩)
      have vU := VAL_U (q := rid K nk (p_nr P) (k + 1)) (s := s) hv hnu hid hs2 cn3 j1 j2 j3 p1 p2 p3
      have hc5 : CDE pl o3 u3 g5 := CDE_fr H5 (fun a k z => by omega) (CDE_ra hrp H4 x3.2)
      rcases z with ⟨z1, z2⟩ | ⟨z1, z2, z3⟩
      · refine .inr ⟨_, cn, nk, F, k4, by omega, vU, ⟨ALV_fr H5 (fun j hj => by omega) z1, ?_, ?_, fun i hi => ?_, ?_⟩, fun h hr => ?_⟩
        · refine PX_U (r := r) hrp s2.2.1 (hp_fr_tr (hp_fr_tr (hp_fr_mo H3 (fun a k z => .inl z)) (hp_fr_mo H4 (fun a k z => .inl (.inl (.inl z))))) (hp_fr_mo H5 (fun a k z => .inr z))) y1 hc5 y2 y3 ?_ ?_ ?_
          · rw [hf_i H5 (by omega), hf_i H4 (by unfold S_ra; omega)]; exact b1
          · rw [hf_i H5 (by omega), hf_i H4 (by unfold S_ra; omega)]; exact b2
          · rw [hf_i H5 (by omega), hf_i H4 (by unfold S_ra; omega)]; exact b3
        · have e44 : p_bd (puU (rid K nk (p_nr P) (k + 1)) s u3 o1 o2 o3 P) (3 * p_nu (puU (rid K nk (p_nr P) (k + 1)) s u3 o1 o2 o3 P)) = o3.length := by
            show bdU P o1.length o2.length o3.length (3 * (p_nu P + 1)) = o3.length
            rw [show 3 * (p_nu P + 1) = 3 * p_nu P + 3 by omega]; unfold bdU; rw [if_neg (by omega), if_neg (by omega), if_pos rfl]
          rw [e44]; exact hc5.1
        · rw [hf_l H5 (by omega), hf_l H4 (by unfold S_ra; omega), hf_l H3 (by unfold S_rr S_xp S_ra; omega)]; exact s2.2.2.2.1 i hi
        · rw [hf_i H5 (by omega), hf_i H4 (by unfold S_ra; omega), hf_i H3 (by unfold S_rr S_xp S_ra; omega)]; exact s2.2.2.2.2
        · refine pw_mono (refY ha s hs' h hr) ?_
          rintro h' ⟨q1, q2, q3⟩
          rw [z2] at q2
          exact ⟨q1, q2, q3⟩
      · have pb5 : PLB pl g5 := by
          have pb4 := PLB_ra hrp H4 pb3
          obtain ⟨⟨a, a1, a2⟩, ⟨b, b1', b2'⟩, _, ⟨e, e1, e2⟩⟩ := pb4
          exact ⟨⟨a, a1, by rw [hf_i H5 (by omega)]; exact a2⟩, ⟨b, b1', by rw [hf_i H5 (by omega)]; exact b2'⟩, ⟨p_nu P + 1, by omega, y1⟩, ⟨e, e1, by rw [hf_i H5 (by omega)]; exact e2⟩⟩
        refine .inl ⟨_, _, DED_fr H5 (fun j hj => by omega) z2, pb5, fun h hr => pw_mono (refY ha s hs' h hr) ?_⟩
        rintro h' ⟨q1, q2, _⟩
        rw [z3] at q2
        exact ⟨q1, RT_bad z1 q2⟩
    unfold f_Rd_readRule_117 f_Rd_readRule_131
    rw [x3.1.2.2.2.2]
    by_cases z14 : t_k K k3 = 14
    · rw [if_pos (show nI (t_k K k3) = (14 : Int32) by rw [z14]; rfl), if_neg (show ¬ (1 : Int32) = 0 by decide), show (1 : Int32) = nI 1 from rfl]
      have ha : aft 2 (t_k K k3) := .inr (.inr ⟨rfl, .inl z14⟩)
      refine pw_bind (pw_mono (R_adv hx3 x3.1 (by omega)) ?_)
      rintro g4 ⟨H4, y⟩
      rcases y with y | ⟨y1, y2, y3⟩
      · exact wr 1 (k3 + 1) g4 (by decide) (by omega) H4 (if_pos z14) ha (.inl ⟨y, if_pos z14⟩)
      · exact wr 1 (k3 + 1) g4 (by decide) (by omega) H4 (if_pos z14) ha (.inr ⟨y2, y3, if_pos z14⟩)
    · rw [if_neg (show ¬ nI (t_k K k3) = (14 : Int32) from fun y => z14 ((nI_eq (b := 14) (by omega) (by decide)).mp y)), if_pos rfl, show (0 : Int32) = nI 0 from rfl]
      by_cases z59 : t_k K k3 = 59
      · exact wr 0 k3 g3 (by decide) (by omega) (hp_fr_rf g3) (if_neg z14) (.inr (.inr ⟨rfl, .inr z59⟩)) (.inl ⟨x3.1, if_neg z14⟩)
      · have hna : ¬ aft 2 (t_k K k3) := by unfold aft; omega
        unfold f_Rd_readRule_140
        rw [bn_o hx3.2.2.1.1]
        refine pw_bind (pw_mono (R_addRuleD hrp hx3.2.2.1 pb3 (by decide)) ?_)
        rintro g5 ⟨H5, P5⟩
        refine pw_some (.inr ⟨hp_fr_tr FF (hp_fr_mo H5 (fun a k z => by unfold S_cl; omega)), P5, k3, ALV_fr H5 (fun j hj => by omega) x3.1, z59, fun h hr => ref h hr (fun h8 K8 r8 _ => ?_)⟩)
        refine pw_bind (pw_mono (hM h8 (toRPS h8 r8)) ?_)
        rintro h9 ⟨K9, q1, q2⟩
        rcases q2 with q2 | q2
        · exact absurd q2.1 hna
        · rw [ruWE q2.2]
          exact pw_some ⟨hp_fr_tr K8 (rpp_rf K9), q1, .inl q2.2⟩
