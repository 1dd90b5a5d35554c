/-! the levels, one by one -/
def SPX (G : GT) (E : Nat → Prop) (K : TKS) (r pl lev : Nat) (F : Nat → List Nat → Prop) (f : Nat → Int32 → HP → Option HP) (d : Nat) : Prop := ∀ k B o u g, CTX K r pl g → XE K r pl o u k g → CN 0 B o u → dep B = d → BSE lev B → pw (f r (nI d) g) (PST G E K r pl F k 0 k B o u g)
def F_st (t : Nat) (p : List Nat) : Prop := t ≠ 42 ∧ t ≠ 43 ∧ t ≠ 45 ∧ (t = 60 ∨ t = 61 ∨ t = 62 → cmt p)
def F_o (t : Nat) (p : List Nat) : Prop := (∀ a, a ∈ p → 22 ≤ a ∧ a ≤ 28) ∧ F_st t p
def F_b (t : Nat) (p : List Nat) : Prop := ((∀ a, a ∈ p → 21 ≤ a ∧ a ≤ 28) ∧ F_st t p) ∧ ¬ t = 16
def F_a (t : Nat) (p : List Nat) : Prop := ((∀ a, a ∈ p → 20 ≤ a ∧ a ≤ 28) ∧ F_st t p ∧ ¬ t = 16) ∧ ¬ t = 15
theorem stuck {K : TKS} {part k u : Nat} {p B : List Nat} {o : List (Nat × Nat)} {G : GT} {E : Nat → Prop} (hb : BW K part G E) (hk : k ≤ t_N K) (hF : F_a (t_k K k) p) (hc : CN 2 (p ++ B) o u) (h41 : t_k K k = 41 → 30 ∉ p ++ B) (ha : aft part (t_k K k) → 30 ∈ p ++ B) (hE : E k) : G 2 k (p ++ B) o u := by
  obtain ⟨⟨f1, ⟨f2, f3, f4, f5⟩, f6⟩, f7⟩ := hF
  refine hb.2.2.2.2.2.2 k _ o u hk hc ?_ hE
  obtain ⟨t, ht⟩ : ∃ t, t_k K k = t := ⟨_, rfl⟩
  rw [ht] at h41 ha f2 f3 f4 f5 f6 f7 ⊢
  by_cases z : t = 60 ∨ t = 61 ∨ t = 62
  · refine .inr ⟨?_, cmt_ap (f5 z)⟩
    rcases z with rfl | rfl | rfl <;> decide
  · refine .inl ⟨?_, h41, ha⟩
    unfold opc
    rw [if_neg f3, if_neg f4, if_neg f2, if_neg (fun y => z (.inr (.inl y))), if_neg (fun y => z (.inl y)), if_neg (fun y => z (.inr (.inr y))), if_neg f6, if_neg f7]
theorem X_unit {K : TKS} {part r pl d w k u : Nat} {B : List Nat} {o : List (Nat × Nat)} {G : GT} {E : Nat → Prop} {fA : Nat → Int32 → HP → Option HP} {h : HP} (hb : BW K part G E) (hA : d ≤ 6 → SPX G E K r pl 20 F_a fA (d + 1)) (hAd : DSP K r pl (fA r (nI (d + 1)))) (hx : CTX K r pl h) (hxe : XE K r pl o u k h) (hw : w < 2) (h17 : w = 0 → t_k K k ≠ 17) (hcn : CN w B o u) (hdp : dep B = d) : pw (f_Rd_readUnit fA r (nI d) h) (PST G E K r pl (fun _ p => p = []) k w k B o u h) := by
  obtain ⟨hal, hcd⟩ := hxe
  have hrp := hx.1
  obtain ⟨n1, n2, n3, n4⟩ := (CN_w hw).mp hcn
  have hld := lead_le B
  have hdB := dep_le B
  obtain ⟨b1, b2, b3, b4, b5⟩ := hx.2.1.2.2.2.1 k hal.1
  have fail : (E k → G w k B o u) → pw (f_Rd_readUnit_35 fA r h) (PST G E K r pl (fun _ p => p = []) k w k B o u h) := by
    intro hE
    unfold f_Rd_readUnit_35
    rw [show (2 : Int32) = nI 2 from rfl]
    refine pw_bind (pw_mono (R_ref hx hal (by decide) (by decide)) ?_)
    rintro g ⟨H, D⟩
    refine pw_some ⟨ra_xp H, .inl ⟨k, hal.1, ⟨?_, DLN_fr H (by unfold S_ra; omega) (CDE_D hcd (by omega))⟩, hE⟩⟩
    unfold ec; rw [if_neg hal.2.1]; exact D
  unfold f_Rd_readUnit
  rw [bn_o (R_unit hx hal), bn_o hx.2.2.1.1, hcd.2.1]
  dsimp only
  by_cases u60 : u = 60
  · rw [if_pos (show (60 : Int32) ≤ nI u from nI_le (a := 60) (by omega) (by omega))]
    exact fail (hb.2.2.2.1 w k B o u hw hal.1 hcn (.inr (.inl ⟨u60, h17⟩)))
  rw [if_neg (show ¬ (60 : Int32) ≤ nI u from nI_ge (b := 60) (by omega) (by decide))]
  have h22 : ∀ t, t_k K k = t → uc t < 6 ∨ t = 40 → t_k K k ≠ 22 := fun t h1 h2 z => by
    rw [z] at h1; subst h1
    rcases h2 with y | y
    · exact absurd y (by decide)
    · exact absurd y (by decide)
  -- the unit is counted, and on
  have go : t_k K k ≠ 22 → ∀ {Q : HP → Prop} {Kf : HP → Option HP}, (∀ g, hp_fr (S_xp r pl) h g → CTX K r pl g → CDE pl o (u + 1) g → (ALV K r (k + 1) g ∨ (k + 1 ≤ t_N K ∧ t_k K (k + 1) = 23 ∧ DED r (ec K (k + 1)) (t_s K (k + 1)) g)) → pw (Kf g) Q) → pw ((hp_r h r 4).bind fun q_4 => xx_l (hp_si h q_4 7 ((hp_i h q_4 7) + (1 : Int32))) fun h_5 => (f_Rd_advance r h_5).bind Kf) Q := by
    intro hne Q Kf hk
    rw [bn_o hx.2.2.1.1, hcd.2.1, nI_1, xx_lE]
    obtain ⟨h1, hh1⟩ : ∃ h1, hp_si h pl 7 (nI (u + 1)) = h1 := ⟨_, rfl⟩
    rw [hh1]
    have H1 : hp_fr (fun a k => a = pl ∧ k = 7) h h1 := by rw [← hh1]; exact hf_si (hp_fr_rf h) ⟨rfl, rfl⟩
    have hx1 : CTX K r pl h1 := CTX_fr H1 (fun a k z => by omega) hx
    have ha1 : ALV K r k h1 := by
      obtain ⟨d1, d2, d3, d4, d5⟩ := hal
      exact ⟨d1, d2, by rw [hf_i H1 (by omega)]; exact d3, by rw [hf_i H1 (by omega), hf_i H1 (by omega)]; exact d4, by rw [hf_i H1 (by omega)]; exact d5⟩
    have hc1 : CDE pl o (u + 1) h1 := ⟨by rw [hf_i H1 (by omega)]; exact hcd.1, by rw [← hh1, hp_i_si, if_pos ⟨rfl, rfl⟩], fun j hj => by rw [hf_i H1 (by omega)]; exact hcd.2.2 j hj⟩
    refine pw_bind (pw_mono (R_adv hx1 ha1 hne) ?_)
    rintro g ⟨H2, z⟩
    exact hk g (hp_fr_tr (hp_fr_mo H1 (fun a k z => by unfold S_xp; omega)) (ra_xp H2)) (S_raC H2 hx1) (CDE_ra hrp H2 hc1) z
  by_cases hu : uc (t_k K k) < 6
  · rw [if_pos hu, if_neg (xo_n hu b3).1, if_neg (xo_n hu b3).2]
    unfold f_Rd_readUnit_41
    refine go (h22 _ rfl (.inl hu)) ?_
    intro g Hg hxg hcg z
    rw [if_neg (xo_n hu b3).2, bn_o hxg.2.2.1.1]
    have cn2 : CN 2 B (o ++ [(uc (t_k K k), t_n K k)]) (u + 1) := CN_2.mpr ⟨by omega, n2, by rw [List.length_append, List.length_singleton]; omega, by omega⟩
    have hG := hb.1 w k B o u hw hal.1 hu (by omega) hcn
    refine pw_bind (pw_mono (R_code hxg.2.2.1 hcg (by omega)) ?_)
    rintro g2 ⟨H2, c2⟩
    have F2 := hp_fr_tr Hg (cd_xp (r := r) H2)
    rcases z with z | ⟨z1, z2, z3⟩
    · refine pw_some ⟨F2, .inr ⟨k + 1, [(uc (t_k K k), t_n K k)], [], u + 1, by omega, ⟨ALV_cd hrp H2 z, ?_⟩, cn2, rfl, hG⟩⟩
      rw [show cz [] = [] from rfl, List.append_nil]; exact c2
    · refine pw_some ⟨F2, .inl ⟨k + 1, z1, ⟨DED_cd hrp H2 z3, CDE_D c2 (by rw [List.length_append, List.length_singleton]; omega)⟩, fun q => hG (bad_2 hb z1 z2 cn2 q)⟩⟩
  · have hu6 : uc (t_k K k) = 6 := by
      unfold uc at hu ⊢
      repeat' split
      all_goals first | rfl | (exfalso; apply hu; simp_all)
    rw [if_neg hu]
    by_cases z40 : t_k K k = 40
    · rw [if_pos z40, if_neg (show ¬ (-100 : Int32) = -101 by decide), if_pos rfl]
      by_cases hd6 : d ≤ 6
      rotate_left
      · rw [if_neg (show ¬ nI d ≤ (6 : Int32) from nI_ge (a := 6) (by omega) (by omega))]
        exact fail (hb.2.2.2.1 w k B o u hw hal.1 hcn (.inr (.inr (.inl ⟨z40, by omega⟩))))
      rw [if_pos (show nI d ≤ (6 : Int32) from nI_le (b := 6) hd6 (by decide))]
      unfold f_Rd_readUnit_41
      refine go (h22 _ rfl (.inr z40)) ?_
      intro g Hg hxg hcg z
      rw [if_pos rfl, nI_1]
      have cn0 : CN 0 (30 :: B) o (u + 1) := (CN_w (by decide)).mpr ⟨by omega, by rw [dep, if_pos (.inr rfl)]; omega, by rw [List.length_cons]; omega, by rw [List.length_cons, dep, if_pos (.inr rfl)]; omega⟩
      have hG := hb.2.1 w k B o u hw hal.1 z40 (by omega) (by omega) hcn
      -- what is refused behind
      have ded : ∀ k' g', k' ≤ t_N K → hp_fr (S_xp r pl) h g' → CTX K r pl g' → DEX r pl (ec K k') (t_s K k') g' → (E k' → G w k B o u) → pw ((f_Rd_expect r (41 : Int32) g').bind fun x_8 => some x_8) (PST G E K r pl (fun _ p => p = []) k w k B o u h) := by
        intro k' g' q1 q2 q3 q4 q5
        rw [show (41 : Int32) = nI 41 from rfl]
        refine pw_bind (pw_mono (R_expD (by decide) (by decide) q4.1) ?_)
        rintro g2 ⟨H2, D2⟩
        exact pw_some ⟨hp_fr_tr q2 (ra_xp H2), .inl ⟨k', q1, DEX_ra hrp H2 q4 D2, q5⟩⟩
      rcases z with z | ⟨z1, z2, z3⟩
      · refine pw_bind (pw_mono (hA hd6 (k + 1) (30 :: B) o (u + 1) g hxg ⟨z, hcg⟩ cn0 (by rw [dep, if_pos (.inr rfl)]; omega) (fun c hc => .inl (by rw [List.head?_cons] at hc; exact (Option.some.inj hc).symm))) ?_)
        rintro g2 ⟨H2, y⟩
        have F2 := hp_fr_tr Hg H2
        have hx2 := S_xpC H2 hxg
        rcases y with ⟨k', y1, y2, y3⟩ | ⟨k', e, p, u', y1, ⟨y2, y6⟩, y3, y4, y5⟩
        · exact ded k' g2 y1 F2 hx2 y2 (fun q => hG (y3 q))
        · obtain ⟨m1, m2, m3, m4⟩ := CN_2.mp y3
          simp only [List.length_append, List.length_cons] at m3
          rw [List.length_append, List.length_cons, dep_ap, dep, if_pos (.inr rfl)] at m4
          rw [dep_ap, dep, if_pos (.inr rfl)] at m2
          have hdl := dep_le p
          have hp28 : ∀ a, a ∈ p → 20 ≤ a ∧ a ≤ 28 := fun a ha => y4.1.1 a ha
          have hln : (o ++ e ++ cz p).length ≤ 540 := by simp only [List.length_append, cz_len]; omega
          rw [show (41 : Int32) = nI 41 from rfl]
          refine pw_bind (pw_mono (R_exp hx2 y2 (by decide) (by decide)) ?_)
          rintro g3 ⟨H3, v⟩
          have F3 := hp_fr_tr F2 (ra_xp (pl := pl) H3)
          have c3 := CDE_ra hrp H3 y6
          have cn2 : CN 2 B (o ++ (e ++ cz p)) u' := CN_2.mpr ⟨m1, by omega, by simp only [List.length_append, cz_len]; omega, by omega⟩
          have hcl : t_k K k' = 41 → G 2 (k' + 1) B (o ++ (e ++ cz p)) u' → G w k B o u := fun q1 q2 => hG (y5 (hb.2.2.2.2.2.1 k' p B (o ++ e) u' y2.1 q1 hp28 y3 (by rw [List.append_assoc]; exact q2)))
          rcases v with ⟨v1, v2⟩ | ⟨v1, v2, v3, v4⟩ | ⟨v1, v2⟩
          · refine pw_some ⟨F3, .inr ⟨k' + 1, e ++ cz p, [], u', by omega, ⟨v2, ?_⟩, cn2, rfl, hcl v1⟩⟩
            rw [show cz [] = [] from rfl, List.append_nil, ← List.append_assoc]; exact c3
          · exact pw_some ⟨F3, .inl ⟨k' + 1, v2, ⟨v4, CDE_D c3 hln⟩, fun q => hcl v1 (bad_2 hb v2 v3 cn2 q)⟩⟩
          · exact pw_some ⟨F3, .inl ⟨k', y2.1, ⟨v2, CDE_D c3 hln⟩, fun q => hG (y5 (stuck hb y2.1 y4 y3 (fun z => absurd z v1) (fun _ => List.mem_append_right _ (List.mem_cons_self ..)) q))⟩⟩
      · refine pw_bind (pw_mono (hAd _ _ g hxg ⟨z3, CDE_D hcg (by omega)⟩) ?_)
        rintro g2 ⟨H2, D2⟩
        exact ded (k + 1) g2 z1 (hp_fr_tr Hg H2) (S_xpC H2 hxg) D2 (fun q => hG (bad_w hb (by decide) z1 z2 cn0 q))
    · rw [if_neg z40, if_pos rfl]
      exact fail (hb.2.2.2.1 w k B o u hw hal.1 hcn (.inl ⟨hu6, z40, h17⟩))
