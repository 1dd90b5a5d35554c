theorem X_term {K : TKS} {part r pl d w k u : Nat} {B : List Nat} {o : List (Nat × Nat)} {G : GT} {E : Nat → Prop} {fA : Nat → Int32 → HP → Option HP} {h : HP} (hb : BW K part G E) (hA : d ≤ 6 → SPX G E K r pl 20 F_a fA (d + 1)) (hAd : DSP K r pl (fA r (nI (d + 1)))) (hx : CTX K r pl h) (hxe : XE K r pl o u k h) (hw : w < 2) (h17 : w = 0 → t_k K k ≠ 17) (hcn : CN w B o u) (hdp : dep B = d) (hB : BSE 28 B) : pw (f_Rd_readTerm fA r (nI d) h) (PST G E K r pl (fun t p => (∀ a, a ∈ p → a = 28) ∧ ¬ t = 42) k w k B o u h) := by
  have hN := hx.2.1.1
  unfold f_Rd_readTerm f_Rd_readTerm_7
  refine pw_bind (pw_mono (X_unit hb hA hAd hx hxe hw h17 hcn hdp) ?_)
  rintro g ⟨H, z⟩
  refine X_loop (kk := k) (isop := fun t => t = 42) (F := fun _ p => ∀ a, a ∈ p → a = 28) hN (fun i c p g hd => E_term hd) ?_ ?_ 1401 0 g (by omega) (Nat.le_refl _) ⟨H, ?_⟩
  · intro i g k' ha hn
    have htk := (hx.2.1.2.2.2.1 k' ha.1).1
    unfold f_Rd_readTerm_7b
    rw [ha.2.2.2.2, if_neg (show ¬ nI (t_k K k') = (42 : Int32) from fun y => hn ((nI_eq (b := 42) (by omega) (by decide)).mp y))]
    split <;> rfl
  · intro i g k' e p u' hi Hf hxe' hc' hF hop hG
    have hxg := S_xpC Hf hx
    unfold f_Rd_readTerm_7b
    dsimp only
    rw [if_neg (show ¬ (1400 : Int32) ≤ nI i from nI_ge (b := 1400) (by omega) (by decide)), hxe'.1.2.2.2.2, if_pos (show nI (t_k K k') = (42 : Int32) by rw [hop]; rfl)]
    refine pw_b3 (X_bin (c := 28) (sub := f_Rd_readUnit fA) (Fs := fun _ p => p = []) hb hxg Hf hxe' hc' hG (by rw [hop]; rfl) (by decide) (fun a ha => by rw [hF a ha]; decide) hB (fun _ z => absurd z (by decide)) hdp (fun k2 o2 u2 g2 q1 q2 q3 => X_unit hb hA hAd q1 q2 (by decide) (fun z => absurd z (by decide)) q3 (by rw [dep, if_neg (by decide)]; omega)) D_unit (Nat.le_refl _)) ?_
    rintro g2 ⟨H2, q⟩
    rw [xx_lE, nI_1]
    refine pw_some ⟨g2, rfl, H2, ?_⟩
    rcases q with q | ⟨k2, e2, p2, u2, q1, q2, q3, ⟨p3, rfl, rfl⟩, q5⟩
    · exact .inl q
    · exact .inr ⟨k2, e2, _, u2, q1, q2, q3, fun a ha => by simpa using ha, q5⟩
  · rcases z with q | ⟨k2, e2, p2, u2, q1, q2, q3, rfl, q5⟩
    · exact .inl q
    · exact .inr ⟨k2, e2, _, u2, by omega, q2, q3, fun a ha => absurd ha (List.not_mem_nil), q5⟩
theorem X_sum {K : TKS} {part r pl d w k u : Nat} {B : List Nat} {o : List (Nat × Nat)} {G : GT} {E : Nat → Prop} {fA : Nat → Int32 → HP → Option HP} {h : HP} (hb : BW K part G E) (hA : d ≤ 6 → SPX G E K r pl 20 F_a fA (d + 1)) (hAd : DSP K r pl (fA r (nI (d + 1)))) (hx : CTX K r pl h) (hxe : XE K r pl o u k h) (hw : w < 2) (h17 : w = 0 → t_k K k ≠ 17) (hcn : CN w B o u) (hdp : dep B = d) (hB : BSE 26 B) : pw (f_Rd_readSum fA r (nI d) h) (PST G E K r pl (fun t p => ((∀ a, a ∈ p → 26 ≤ a ∧ a ≤ 28) ∧ ¬ t = 42) ∧ ¬ (t = 43 ∨ t = 45)) k w k B o u h) := by
  have hN := hx.2.1.1
  unfold f_Rd_readSum f_Rd_readSum_7
  refine pw_bind (pw_mono (X_term hb hA hAd hx hxe hw h17 hcn hdp (fun c hc => by have := hB c hc; omega)) ?_)
  rintro g ⟨H, z⟩
  refine X_loop (kk := k) (isop := fun t => t = 43 ∨ t = 45) (F := fun t p => (∀ a, a ∈ p → 26 ≤ a ∧ a ≤ 28) ∧ ¬ t = 42) hN (fun i c p g hd => E_sum hd) ?_ ?_ 1401 0 g (by omega) (Nat.le_refl _) ⟨H, ?_⟩
  · intro i g k' ha hn
    have htk := (hx.2.1.2.2.2.1 k' ha.1).1
    unfold f_Rd_readSum_7b
    rw [ha.2.2.2.2, if_neg (show ¬ nI (t_k K k') = (43 : Int32) from fun y => hn (.inl ((nI_eq (b := 43) (by omega) (by decide)).mp y))), if_neg (show ¬ nI (t_k K k') = (45 : Int32) from fun y => hn (.inr ((nI_eq (b := 45) (by omega) (by decide)).mp y)))]
    split <;> rfl
  · intro i g k' e p u' hi Hf hxe' hc' hF hop hG
    have hxg := S_xpC Hf hx
    have step : ∀ c, (c = 26 ∨ c = 27) → opc (t_k K k') = c → pw (f_Rd_readSum_48 fA r (nI d) (nI i) (xo c 0) g) (fun x => ∃ g', x = .inl (nI (i + 1), g') ∧ PST G E K r pl (fun t p => (∀ a, a ∈ p → 26 ≤ a ∧ a ≤ 28) ∧ ¬ t = 42) k' w k B o u h g') := by
      intro c hc hopc
      have hlo : lo c = 26 := by rcases hc with rfl | rfl <;> rfl
      unfold f_Rd_readSum_48
      refine pw_b3 (X_bin (c := c) (sub := f_Rd_readTerm fA) (Fs := fun t p => (∀ a, a ∈ p → a = 28) ∧ ¬ t = 42) hb hxg Hf hxe' hc' hG hopc (by omega) (fun a ha => by rw [hlo]; exact hF.1 a ha) (by rw [hlo]; exact hB) (fun _ _ => by omega) hdp (fun k2 o2 u2 g2 q1 q2 q3 => ?_) D_term (Nat.le_refl _)) ?_
      · rw [if_neg (show ¬ c ≤ 21 by omega)] at q3 ⊢
        exact X_term hb hA hAd q1 q2 (by decide) (fun z => absurd z (by decide)) q3 (by rw [dep, if_neg (by omega)]; omega) (fun a ha => by rw [List.head?_cons] at ha; have := Option.some.inj ha; omega)
      · rintro g2 ⟨H2, q⟩
        rw [xx_lE, nI_1]
        refine pw_some ⟨g2, rfl, H2, ?_⟩
        rcases q with q | ⟨k2, e2, p2, u2, q1, q2, q3, ⟨p3, rfl, q4, q6⟩, q5⟩
        · exact .inl q
        · refine .inr ⟨k2, e2, _, u2, q1, q2, q3, ⟨fun a ha => ?_, q6⟩, q5⟩
          rcases List.mem_append.mp ha with y | y
          · rw [q4 a y]; decide
          · rw [List.mem_singleton.mp y]; omega
    unfold f_Rd_readSum_7b f_Rd_readSum_32
    dsimp only
    rw [if_neg (show ¬ (1400 : Int32) ≤ nI i from nI_ge (b := 1400) (by omega) (by decide)), hxe'.1.2.2.2.2]
    rcases hop with hop | hop
    · rw [if_pos (show nI (t_k K k') = (43 : Int32) by rw [hop]; rfl), if_pos (show nI (t_k K k') = (43 : Int32) by rw [hop]; rfl)]
      exact step 26 (.inl rfl) (by rw [hop]; rfl)
    · rw [if_neg (show ¬ nI (t_k K k') = (43 : Int32) by rw [hop]; decide), if_pos (show nI (t_k K k') = (45 : Int32) by rw [hop]; rfl), if_neg (show ¬ nI (t_k K k') = (43 : Int32) by rw [hop]; decide)]
      exact step 27 (.inr rfl) (by rw [hop]; rfl)
  · rcases z with q | ⟨k2, e2, p2, u2, q1, q2, q3, ⟨q4, q6⟩, q5⟩
    · exact .inl q
    · exact .inr ⟨k2, e2, _, u2, by omega, q2, q3, ⟨fun a ha => by rw [q4 a ha]; decide, q6⟩, q5⟩
theorem X_one {K : TKS} {part r pl d k u : Nat} {B : List Nat} {o : List (Nat × Nat)} {G : GT} {E : Nat → Prop} {fA fO : Nat → Int32 → HP → Option HP} {h : HP} (hb : BW K part G E) (hA : d ≤ 6 → SPX G E K r pl 20 F_a fA (d + 1)) (hAd : DSP K r pl (fA r (nI (d + 1)))) (hO : d ≤ 6 → SPX G E K r pl 23 F_o fO (d + 1)) (hOd : DSP K r pl (fO r (nI (d + 1)))) (hx : CTX K r pl h) (hxe : XE K r pl o u k h) (hcn : CN 0 B o u) (hdp : dep B = d) (hB : BSE 23 B) : pw (f_Rd_readOne fA fO r (nI d) h) (PST G E K r pl F_o k 0 k B o u h) := by
  have hrp := hx.1
  have hal := hxe.1
  obtain ⟨b1, _⟩ := hx.2.1.2.2.2.1 k hal.1
  obtain ⟨n1, n2, n3, n4⟩ := (CN_w (show 0 < 2 by decide)).mp hcn
  have hld := lead_le B
  have hdB := dep_le B
  unfold f_Rd_readOne
  rw [hal.2.2.2.2]
  by_cases h17 : t_k K k = 17
  · rw [if_pos (show nI (t_k K k) = (17 : Int32) by rw [h17]; rfl)]
    by_cases hd6 : d ≤ 6
    rotate_left
    · rw [if_neg (show ¬ nI d ≤ (6 : Int32) from nI_ge (a := 6) (by omega) (by omega)), show (2 : Int32) = nI 2 from rfl]
      refine pw_bind (pw_mono (R_ref hx hal (by decide) (by decide)) ?_)
      rintro g ⟨H, D⟩
      refine pw_some ⟨ra_xp H, .inl ⟨k, hal.1, ⟨?_, DLN_fr H (by unfold S_ra; omega) (CDE_D hxe.2 (by omega))⟩, hb.2.2.2.1 0 k B o u (by decide) hal.1 hcn (.inr (.inr (.inr ⟨rfl, h17, by omega⟩)))⟩⟩
      unfold ec; rw [if_neg hal.2.1]; exact D
    rw [if_pos (show nI d ≤ (6 : Int32) from nI_le (b := 6) hd6 (by decide)), nI_1]
    have hG := hb.2.2.1 k B o u hal.1 h17 (by omega) hcn
    have cn0 : CN 0 (22 :: B) o u := (CN_w (by decide)).mpr ⟨n1, by rw [dep, if_pos (.inl rfl)]; omega, by rw [List.length_cons, lead, if_pos rfl]; omega, by rw [List.length_cons, dep, if_pos (.inl rfl)]; omega⟩
    refine pw_bind (pw_mono (R_adv hx hal (by rw [h17]; decide)) ?_)
    rintro g ⟨H, z⟩
    have hxg := S_raC H hx
    have cg := CDE_ra hrp H hxe.2
    rcases z with z | ⟨z1, z2, z3⟩
    · refine pw_bind (pw_mono (hO hd6 (k + 1) (22 :: B) o u g hxg ⟨z, cg⟩ cn0 (by rw [dep, if_pos (.inl rfl)]; omega) (fun a ha => by rw [List.head?_cons] at ha; have := Option.some.inj ha; omega)) ?_)
      rintro g2 ⟨H2, y⟩
      have hx2 := S_xpC H2 hxg
      have F2 := hp_fr_tr (ra_xp (pl := pl) H) H2
      rw [bn_o hx2.2.2.1.1]
      rcases y with ⟨k', y1, y2, y3⟩ | ⟨k', e, p, u', y1, ⟨y2, y6⟩, y3, y4, y5⟩
      · refine pw_bind (pw_mono (R_codeD hx2.2.2.1 y2.2) ?_)
        rintro g3 ⟨H3, D3⟩
        exact pw_some ⟨hp_fr_tr F2 (cd_xp H3), .inl ⟨k', y1, ⟨DED_cd hrp H3 y2.1, D3⟩, fun q => hG (y3 q)⟩⟩
      · obtain ⟨m1, m2, m3, m4⟩ := CN_2.mp y3
        refine pw_bind (pw_mono (R_code (c := 22) (v := 0) hx2.2.2.1 y6 (by simp only [List.length_append, List.length_cons, cz_len] at m3 ⊢; omega)) ?_)
        rintro g3 ⟨H3, D3⟩
        have e3 : p ++ [22] ++ B = p ++ 22 :: B := by simp
        refine pw_some ⟨hp_fr_tr F2 (cd_xp H3), .inr ⟨k', e, p ++ [22], u', by omega, ⟨ALV_cd hrp H3 y2, ?_⟩, by rw [e3]; exact y3, ⟨fun a ha => ?_, y4.2.1, y4.2.2.1, y4.2.2.2.1, fun q => cmt_ap (y4.2.2.2.2 q)⟩, fun q => hG (y5 (by rw [e3] at q; exact q))⟩⟩
        · rw [cz_ap, ← List.append_assoc]; exact D3
        · rcases List.mem_append.mp ha with w | w
          · exact y4.1 a w
          · rw [List.mem_singleton.mp w]; decide
    · refine pw_bind (pw_mono (hOd _ _ g hxg ⟨z3, CDE_D cg (by omega)⟩) ?_)
      rintro g2 ⟨H2, D2⟩
      have hx2 := S_xpC H2 hxg
      rw [bn_o hx2.2.2.1.1]
      refine pw_bind (pw_mono (R_codeD hx2.2.2.1 D2.2) ?_)
      rintro g3 ⟨H3, D3⟩
      exact pw_some ⟨hp_fr_tr (hp_fr_tr (ra_xp (pl := pl) H) H2) (cd_xp H3), .inl ⟨k + 1, z1, ⟨DED_cd hrp H3 D2.1, D3⟩, fun q => hG (bad_w hb (by decide) z1 z2 cn0 q)⟩⟩
  · rw [if_neg (show ¬ nI (t_k K k) = (17 : Int32) from fun y => h17 ((nI_eq (b := 17) (by omega) (by decide)).mp y))]
    refine pw_bind (pw_mono (X_sum hb hA hAd hx hxe (by decide) (fun _ => h17) hcn hdp (fun c hc => by have := hB c hc; omega)) ?_)
    rintro g ⟨H, z⟩
    have hxg := S_xpC H hx
    rcases z with ⟨k', y1, y2, y3⟩ | ⟨k', e, p, u', y1, y2, y3, ⟨⟨y4, y7⟩, y8⟩, y5⟩
    · rw [y2.1.2.2.2.2, if_neg (show ¬ (23 : Int32) = 60 by decide), if_neg (show ¬ (23 : Int32) = 62 by decide), if_neg (show ¬ (23 : Int32) = 61 by decide)]
      exact pw_some ⟨H, .inl ⟨k', y1, y2, y3⟩⟩
    · have htk := (hx.2.1.2.2.2.1 k' y2.1.1).1
      have ne : ∀ j : Nat, j < 2 ^ 31 → t_k K k' ≠ j → ¬ nI (t_k K k') = nI j := fun j hj z y => z ((nI_eq (by omega) hj).mp y)
      have step : ∀ c, (c = 23 ∨ c = 24 ∨ c = 25) → opc (t_k K k') = c → pw (f_Rd_readOne_104 fA fO r (nI d) (xo c 0) g) (PST G E K r pl F_o k 0 k B o u h) := by
        intro c hc hopc
        have hlo : lo c = 26 := by rcases hc with rfl | rfl | rfl <;> rfl
        unfold f_Rd_readOne_104
        refine pw_b3 (X_bin (c := c) (sub := f_Rd_readSum fA) (Fs := fun t p => ((∀ a, a ∈ p → 26 ≤ a ∧ a ≤ 28) ∧ ¬ t = 42) ∧ ¬ (t = 43 ∨ t = 45)) hb hxg H y2 y3 y5 hopc (by omega) (fun a ha => by rw [hlo]; exact y4 a ha) (by rw [hlo]; exact fun c hc => by have := hB c hc; omega) (fun _ _ => hB) hdp (fun k2 o2 u2 g2 q1 q2 q3 => ?_) D_sum (Nat.le_of_lt y1)) ?_
        · rw [if_neg (show ¬ c ≤ 21 by omega)] at q3 ⊢
          exact X_sum hb hA hAd q1 q2 (by decide) (fun z => absurd z (by decide)) q3 (by rw [dep, if_neg (by omega)]; omega) (fun a ha => by rw [List.head?_cons] at ha; have := Option.some.inj ha; omega)
        · rintro g2 ⟨H2, q⟩
          refine pw_some ⟨H2, ?_⟩
          rcases q with q | ⟨k2, e2, p2, u2, q1, q2, q3, ⟨p3, rfl, ⟨q4, q6⟩, q7⟩, q5⟩
          · exact .inl q
          · refine .inr ⟨k2, e2, _, u2, q1, q2, q3, ⟨fun a ha => ?_, q6, fun z => q7 (.inl z), fun z => q7 (.inr z), fun _ => ⟨p3, c, [], rfl, q4, by omega, by omega⟩⟩, q5⟩
            rcases List.mem_append.mp ha with w | w
            · have := q4 a w; omega
            · rw [List.mem_singleton.mp w]; omega
      rw [y2.1.2.2.2.2]
      unfold f_Rd_readOne_74
      rw [y2.1.2.2.2.2]
      by_cases w60 : t_k K k' = 60
      · rw [if_pos (show nI (t_k K k') = (60 : Int32) by rw [w60]; rfl), if_pos (show nI (t_k K k') = (60 : Int32) by rw [w60]; rfl)]
        exact step 24 (.inr (.inl rfl)) (by rw [w60]; rfl)
      · rw [if_neg (show ¬ nI (t_k K k') = (60 : Int32) from ne 60 (by decide) w60)]
        by_cases w62 : t_k K k' = 62
        · rw [if_pos (show nI (t_k K k') = (62 : Int32) by rw [w62]; rfl), if_neg (show ¬ nI (t_k K k') = (60 : Int32) from ne 60 (by decide) w60), if_pos (show nI (t_k K k') = (62 : Int32) by rw [w62]; rfl)]
          exact step 25 (.inr (.inr rfl)) (by rw [w62]; rfl)
        · rw [if_neg (show ¬ nI (t_k K k') = (62 : Int32) from ne 62 (by decide) w62)]
          by_cases w61 : t_k K k' = 61
          · rw [if_pos (show nI (t_k K k') = (61 : Int32) by rw [w61]; rfl), if_neg (show ¬ nI (t_k K k') = (60 : Int32) from ne 60 (by decide) w60), if_neg (show ¬ nI (t_k K k') = (62 : Int32) from ne 62 (by decide) w62)]
            exact step 23 (.inl rfl) (by rw [w61]; rfl)
          · rw [if_neg (show ¬ nI (t_k K k') = (61 : Int32) from ne 61 (by decide) w61)]
            exact pw_some ⟨H, .inr ⟨k', e, p, u', y1, y2, y3, ⟨fun a ha => by have := y4 a ha; omega, y7, fun z => y8 (.inl z), fun z => y8 (.inr z), fun z => by omega⟩, y5⟩⟩
