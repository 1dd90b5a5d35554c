theorem M_rl_role {K : TKS} {ps : Nat → Nat} {m L F k : Nat} {T : Nat → Nat} {P : PT} {cn nk : Nat → Nat} {h : HP} (ok : TKO K) (hr : RSS K ps m L T P cn nk F k h) (h7 : t_k K k = 7) (hnr : p_nr P < 4) : f_M_readLine m h = (f_M_readRole m h).bind fun x => f_M_readLine_152 m x := by
  unfold f_M_readLine
  rw [bn_o (M_lineOf ok hr), show (if t_k K k < 4 ∧ F / 2 ^ (t_k K k) % 2 = 0 then nI (t_k K k) else -1) = -1 from if_neg (by omega)]
  dsimp only
  unfold f_M_readLine_16 f_M_readLine_29
  rw [if_pos (show (-1 : Int32) < 0 by decide), if_pos (show (-1 : Int32) < 0 by decide), if_neg (show ¬ (-1 : Int32) = 0 by decide), if_neg (show ¬ (-1 : Int32) = 1 by decide), if_neg (show ¬ (-1 : Int32) = 2 by decide), if_neg (show ¬ (-1 : Int32) = 3 by decide), show (1919904869 : Int64) = lN (cst 7) from rfl, bn_o (M_word ok hr.1.2.2 (by decide))]
  dsimp only
  rw [if_pos h7, if_neg (show ¬ nI 1 = (0 : Int32) by decide), hr.2.2.2.2.2.1, if_neg (show ¬ (4 : Int32) ≤ nI (p_nr P) from nI_ge (b := 4) hnr (by decide))]
theorem RBX_fr {S : Nat → Nat → Prop} {K : TKS} {ps : Nat → Nat} {m L c p : Nat} {T : Nat → Nat} {h g : HP} (H : hp_fr S h g) (hS : ∀ a k, S a k → ¬ (a = m ∧ 2 ≤ k ∧ k ≤ 9) ∧ a ≠ m + 1) (hr : RBX K ps m L T c p h) : RBX K ps m L T c p g := by
  obtain ⟨r1, r2⟩ := hr
  refine ⟨MTC_fr H (fun a k z => by have := hS a k z; omega) r1, ?_⟩
  rcases r2 with ⟨e1, e2, e3, e4⟩ | ⟨e1, e2, kb, e3, e4, e5⟩
  · exact .inl ⟨e1, e2, by rw [hf_i H (fun z => by have := hS _ _ z; omega)]; exact e3, by rw [hf_i H (fun z => by have := hS _ _ z; omega)]; exact e4⟩
  · exact .inr ⟨e1, by rw [hf_i H (fun z => by have := hS _ _ z; omega)]; exact e2, kb, MTK_fr H (fun a k z => by have := hS a k z; omega) e3, e4, e5⟩
theorem RT_fr {S : Nat → Nat → Prop} {K : TKS} {ps : Nat → Nat} {m L k : Nat} {T : Nat → Nat} {h g : HP} (H : hp_fr S h g) (hS : ∀ a k, S a k → ¬ (a = m ∧ 2 ≤ k ∧ k ≤ 9) ∧ a ≠ m + 1) (hr : RT K ps m L T k h) : RT K ps m L T k g := ⟨MTC_fr H (fun a k z => by have := hS a k z; omega) hr.1, by rw [hf_i H (fun z => by have := hS _ _ z; omega)]; exact hr.2.1, MTK_fr H (fun a k z => by have := hS a k z; omega) hr.2.2⟩
theorem ALV_fr {S : Nat → Nat → Prop} {K : TKS} {r k : Nat} {h g : HP} (H : hp_fr S h g) (hS : ∀ j, (j = 0 ∨ j = 1 ∨ j = 11 ∨ j = 12) → ¬ S r j) (ha : ALV K r k h) : ALV K r k g := by
  obtain ⟨d1, d2, d3, d4, d5⟩ := ha
  exact ⟨d1, d2, by rw [hf_i H (hS 0 (by omega))]; exact d3, by rw [hf_i H (hS 11 (by omega)), hf_i H (hS 1 (by omega))]; exact d4, by rw [hf_i H (hS 12 (by omega))]; exact d5⟩
theorem DED_fr {S : Nat → Nat → Prop} {r c p : Nat} {h g : HP} (H : hp_fr S h g) (hS : ∀ j, (j = 0 ∨ j = 1 ∨ j = 12) → ¬ S r j) (ha : DED r c p h) : DED r c p g := by
  obtain ⟨d1, d2, d3, d4, d5⟩ := ha
  exact ⟨d1, d2, by rw [hf_i H (hS 0 (by omega))]; exact d3, by rw [hf_i H (hS 1 (by omega))]; exact d4, by rw [hf_i H (hS 12 (by omega))]; exact d5⟩
/-- refused at the name -/
theorem M_role_bad {K : TKS} {ps : Nat → Nat} {m L F k : Nat} {T : Nat → Nat} {P : PT} {cn nk : Nat → Nat} {h : HP} (ok : TKO K) (hT : TOKS K ps m L T) (hv : VAL K P cn nk F) (hr : RSS K ps m L T P cn nk F k h) (h7 : t_k K k = 7) (hb : ¬ (t_k K (k + 1) = 20 ∧ ¬ rid K nk (p_nr P) (k + 1) < p_nr P)) : pw (f_M_readRole m h) (fun h' => hp_fr (S_rf m) h h' ∧ RBX K ps m L T (if t_k K (k + 1) = 20 then 3 else ec K (k + 1)) (t_s K (k + 1)) h') := by
  unfold f_M_readRole
  refine pw_bind (pw_mono (M_tok ok hT hr.1 (by omega) (by omega)) ?_)
  rintro h1 ⟨K1, R1⟩
  have M1 := MSC_ln K1 hr.2
  have hnr := hv.1.2.2.2.2.1
  rw [bn_o (M_isName ok R1.2.2)]
  dsimp only
  have fin : ∀ v : Nat, 0 < v → v ≤ 5 → (if t_k K (k + 1) = 23 then 1 else v) = (if t_k K (k + 1) = 20 then 3 else ec K (k + 1)) → pw ((f_M_wrong m (nI v) h1).bind fun x => f_M_readRole_35 m x) (fun h' => hp_fr (S_rf m) h h' ∧ RBX K ps m L T (if t_k K (k + 1) = 20 then 3 else ec K (k + 1)) (t_s K (k + 1)) h') := by
    intro v v0 v5 e
    refine pw_bind (pw_mono (M_wr ok R1 v0 v5) ?_)
    rintro h2 ⟨K2, q1, q2⟩
    rw [e] at q2
    unfold f_M_readRole_35
    rw [if_neg (mer_n q2).2]
    exact pw_some ⟨hp_fr_tr (ln_rf K1) (ln_rf K2), q1, .inl q2⟩
  by_cases z : t_k K (k + 1) = 20
  · have hid : rid K nk (p_nr P) (k + 1) < p_nr P := Decidable.of_not_not (fun y => hb ⟨z, y⟩)
    have e9 := R1.2.2.2.2.2.2 (by omega)
    rw [if_pos z, if_neg (show ¬ nI 1 = (0 : Int32) by decide), e9, bn_o (M_roleN ok R1.1.1 hv M1 R1.2.2.1 z), if_pos hid]
    dsimp only
    rw [if_neg (nI_pos (by omega))]
    exact fin 3 (by decide) (by decide) (by rw [if_neg (by omega), if_pos z])
  · rw [if_neg z, if_pos (show nI 0 = (0 : Int32) from rfl)]
    exact fin 2 (by decide) (by decide) (by rw [if_neg z]; rfl)
noncomputable def rf1 (m : Nat) (h : HP) : Option (Unit × HP) := (f_M_token m h).bind fun x => (f_M_token m x).bind fun y => some ((), y)
noncomputable def rf2 (m : Nat) (h : HP) : Option ((Unit × Int32) × HP) := (rf1 m h).bind fun y => (f_M_told m (lN (cst 8)) (nI 1) ((6 : Int32) - hp_i y.2 m 25) y.2).bind fun z => some ((y.1, z.1), z.2)
noncomputable def rf3 (m : Nat) (h : HP) : Option (((Unit × Int32) × Int32) × HP) := (rf2 m h).bind fun y => (f_M_told m (lN (cst 9)) (nI 0) (nI 31) y.2).bind fun z => some ((y.1, z.1), z.2)
theorem M_role_eq {K : TKS} {ps : Nat → Nat} {m L F k : Nat} {T : Nat → Nat} {P : PT} {cn nk : Nat → Nat} {h : HP} (ok : TKO K) (hT : TOKS K ps m L T) (hv : VAL K P cn nk F) (hr : RSS K ps m L T P cn nk F k h) (h7 : t_k K k = 7) (h20 : t_k K (k + 1) = 20) (hid : ¬ rid K nk (p_nr P) (k + 1) < p_nr P) : f_M_readRole m h = (rf3 m h).bind fun y => if hp_i y.2 m 2 ≤ 0 then rlW m (lN (t_w K (k + 1))) y.1.1.2 y.1.2 y.2 else some y.2 := by
  obtain ⟨h1, e1, K1, R1⟩ := M_tok ok hT hr.1 (by omega) (by omega)
  have M1 := MSC_ln K1 hr.2
  have e9 := R1.2.2.2.2.2.2 (by omega)
  unfold f_M_readRole rf3 rf2 rf1
  rw [bn_o e1, bn_o (M_isName ok R1.2.2)]
  dsimp only
  rw [if_pos h20, if_neg (show ¬ nI 1 = (0 : Int32) by decide), e9, bn_o (M_roleN ok R1.1.1 hv M1 R1.2.2.1 h20), if_neg hid]
  dsimp only
  rw [if_pos (show (-1 : Int32) < 0 by decide)]
  unfold f_M_readRole_35
  rw [R1.2.1, if_pos (show (0 : Int32) ≤ 0 by decide), e9, xx_lE]
  simp only [b_as, e1, bn_s]
  rfl
theorem L_role {K : TKS} {ps : Nat → Nat} {r pl m L F k : Nat} {T : Nat → Nat} {P : PT} {cn nk : Nat → Nat} {g : HP} (hT : TOKS K ps m L T) (hx : CTX K r pl g) (hv : VAL K P cn nk F) (hs : CS K r pl P nk F k g) (h7 : t_k K k = 7) : pw ((f_Rd_readRole r g).bind fun x => f_Rd_readLine_90 r x) (BOUT K ps r pl m L T P cn nk F k (k + 1) (f_M_readLine m) g) := by
  have hrp := hx.1
  have ok := hx.2.1
  have hN := ok.1
  have okp := hv.1
  have hnr4 := okp.2.2.2.2.1
  have hnm6 := okp.2.2.2.2.2.1
  have e4 := hs.2.1.2.2.2.2.1
  by_cases hnr : p_nr P < 4
  rotate_left
  · refine L_fin hT hx (fM := fun h => f_M_wrong m (nI 2) h) ?_ (fun h hr => M_rl_bad ok hv hr (fun z => by omega) (fun z => hnr z.2) (fun z => by omega))
    unfold f_Rd_readRole
    rw [bn_o hx.2.2.1.1, e4, if_neg (show ¬ nI (p_nr P) < (4 : Int32) from nI_nlt (b := 4) (by omega) (by omega))]
    refine pw_bind (pw_mono (L_bad (ps := ps) (m := m) (L := L) (T := T) hx hv hs) ?_)
    intro g' q
    exact pw_some q
  refine L_fin hT hx (fM := f_M_readRole m) ?_ (fun h hr => M_rl_role ok hr h7 hnr)
  unfold f_Rd_readRole
  rw [bn_o hx.2.2.1.1, e4, if_pos (show nI (p_nr P) < (4 : Int32) from nI_lt (b := 4) hnr (by decide))]
  refine pw_bind (pw_mono (R_adv hx hs.1 (by omega)) ?_)
  rintro g1 ⟨H1, v⟩
  have hx1 := S_raC H1 hx
  have F1 := ra_cl (pl := pl) H1
  have pb1 := PLB_ra hrp H1 (CS_PLB hv hs)
  -- refused at the name
  have bad : ∀ (c : Nat) (g2 : HP), (if t_k K (k + 1) = 20 then 3 else ec K (k + 1)) = c → ¬ (t_k K (k + 1) = 20 ∧ ¬ rid K nk (p_nr P) (k + 1) < p_nr P) → hp_fr (S_ra r) g1 g2 → DED r c (t_s K (k + 1)) g2 → BOUT K ps r pl m L T P cn nk F k k (f_M_readRole m) g g2 := by
    intro c g2 ec' hb H2 D2
    refine ⟨hp_fr_tr F1 (ra_cl H2), .inl ⟨c, _, D2, PLB_ra hrp H2 pb1, fun h hr => ?_⟩⟩
    rw [← ec']
    exact M_role_bad ok hT hv hr h7 hb
  rcases v with v | ⟨v1, v2, v3⟩
  rotate_left
  · rw [v3.2.2.2.2, if_neg (show ¬ (23 : Int32) = 20 by decide)]
    refine pw_bind (pw_mono (R_refD v3) ?_)
    rintro g2 ⟨H2, D2⟩
    exact pw_some (bad _ g2 (if_neg (by omega)) (by omega) H2 D2)
  have s1 := CS_ra hrp H1 hs v
  have h64 := (ok.2.2.2.1 (k + 1) v.1).1
  rw [v.2.2.2.2]
  by_cases h20 : t_k K (k + 1) = 20
  rotate_left
  · rw [if_neg (show ¬ nI (t_k K (k + 1)) = (20 : Int32) from fun y => h20 ((nI_eq (b := 20) (by omega) (by decide)).mp y)), show (2 : Int32) = nI 2 from rfl]
    refine pw_bind (pw_mono (R_ref hx1 v (by decide) (by decide)) ?_)
    rintro g2 ⟨H2, D2⟩
    exact pw_some (bad 2 g2 (by rw [if_neg h20]; unfold ec; rw [if_neg v.2.1]) (by omega) H2 D2)
  have v9 := (hx1.2.2.2.2 (k + 1) v.1).2.2
  rw [if_neg (show ¬ t_k K (k + 1) = 21 by omega), if_pos (show t_k K (k + 1) ≤ 20 by omega)] at v9
  rw [if_pos (show nI (t_k K (k + 1)) = (20 : Int32) by rw [h20]; rfl), bn_o hx1.2.2.1.2.2.2.2.1, v.2.2.2.1.1, hx1.2.2.1.2.2.2.2.2.2.2.2.1, if_pos (hp_in_nI (by have := v.1; omega) (by have := v.1; omega)), nI_clamp (by have := v.1; omega), v9, bn_o (R_named (cn := cn) hx1 hv s1.2.1.2.2.2.2.1 s1.2.2.2.1 v.1 h20)]
  by_cases hid : rid K nk (p_nr P) (k + 1) < p_nr P
  · rw [if_pos hid]
    dsimp only
    rw [if_neg (show ¬ nI (rid K nk (p_nr P) (k + 1)) = (-1 : Int32) from nI_nm1 (by omega)), show (3 : Int32) = nI 3 from rfl]
    refine pw_bind (pw_mono (R_ref hx1 v (by decide) (by decide)) ?_)
    rintro g2 ⟨H2, D2⟩
    exact pw_some (bad 3 g2 (if_pos h20) (fun z => z.2 hid) H2 D2)
  rw [if_neg hid]
  dsimp only
  rw [if_pos rfl, bn_o hx1.2.2.1.2.1, bn_o hx1.2.2.1.1, bn_o hx1.2.2.1.2.2.2.2.1, v.2.2.2.1.1, hx1.2.2.1.2.2.2.2.2.2.2.2.1, if_pos (hp_in_nI (by have := v.1; omega) (by have := v.1; omega)), s1.2.1.2.2.2.2.1, hx1.2.2.1.2.2.2.2.2.1, if_pos (hp_in_nI hnr (by omega)), nI_clamp (by omega), nI_clamp (by have := v.1; omega), v9, xx_lE]
  obtain ⟨g2, hg2⟩ : ∃ g2, hp_sl g1 (r + 1) (p_nr P) (lN (t_v K (k + 1))) = g2 := ⟨_, rfl⟩
  rw [hg2]
  have H2 : hp_fr (fun a j => a = r + 1 ∧ j = p_nr P) g1 g2 := by rw [← hg2]; exact hf_sl (hp_fr_rf g1) ⟨rfl, rfl⟩
  have H2c : hp_fr (S_cl r pl) g1 g2 := hp_fr_mo H2 (fun a k z => by unfold S_cl; omega)
  have hx2 := S_clC H2c hx1
  have nm2 : hp_l g2 (r + 1) (p_nr P) = lN (t_v K (k + 1)) := by rw [← hg2, hp_l_sl, if_pos ⟨rfl, rfl⟩]
  have s2 : CS K r pl P nk F (k + 1) g2 := by
    obtain ⟨c1, c2, c3, c4, c5⟩ := s1
    exact ⟨ALV_fr H2 (fun j hj => by omega) c1, PX_ag (fun a k hk => hf_i H2 (by unfold F_PX at hk; omega)) c2, by rw [hf_i H2 (by omega)]; exact c3, fun i hi => by rw [hf_l H2 (by omega)]; exact c4 i hi, by rw [hf_i H2 (by omega)]; exact c5⟩
  have F2 := hp_fr_tr F1 H2c
  refine pw_bind (pw_mono (R_adv hx2 s2.1 (by omega)) ?_)
  rintro g3 ⟨H3, v3⟩
  have hx3 := S_raC H3 hx2
  have F3 := hp_fr_tr F2 (ra_cl (pl := pl) H3)
  have nm3 : hp_l g3 (r + 1) (p_nr P) = lN (t_v K (k + 1)) := by rw [hf_l H3 (by unfold S_ra; omega)]; exact nm2
  have ref1 : ∀ h, RSS K ps m L T P cn nk F k h → pw (rf1 m h) (fun y => hp_fr (S_rf m) h y.2 ∧ y.1 = () ∧ RSS K ps m L T P cn nk F (k + 2) y.2) := by
    intro h hr
    unfold rf1
    refine pw_bind (pw_mono (M_tok ok hT hr.1 (by omega) (by omega)) ?_)
    rintro h1 ⟨K1, R1⟩
    refine pw_bind (pw_mono (M_tok ok hT R1 (by omega) (by omega)) ?_)
    rintro h2 ⟨K2, R2⟩
    exact pw_some ⟨hp_fr_tr (ln_rf K1) (ln_rf K2), rfl, R2, MSC_ln K2 (MSC_ln K1 hr.2)⟩
  have st1 : STP K ps r pl m L T P cn nk F k (lN (t_v K (k + 1))) True () (rf1 m) (k + 2) g g3 := by
    refine ⟨F3, ?_⟩
    rcases v3 with v3 | ⟨w1, w2, w3⟩
    · exact .inr ⟨trivial, CS_ra hrp H3 s2 v3, nm3, ref1⟩
    · refine .inl ⟨_, _, w3, PLB_ra hrp H3 (CS_PLB hv s2), fun h hr => pw_mono (ref1 h hr) ?_⟩
      rintro y ⟨q1, _, q2⟩
      exact ⟨q1, RT_bad w2 q2.1, q2.2⟩
  have exE : ∀ (j : Nat) {α : Type} {X : Prop} {a0 : α} {fM : HP → Option (α × HP)} {kq : Nat} {gq : HP}, j < 20 → CTX K r pl gq → STP K ps r pl m L T P cn nk F k (lN (t_v K (k + 1))) X a0 fM kq g gq → ∃ x, f_Rd_expect r (nI j) gq = some x ∧ hp_fr (S_ra r) gq x := by
    intro j α X a0 fM kq gq hj hxq hq
    rcases hq.2 with ⟨c, p, z1, _⟩ | ⟨_, z1, _, _⟩
    · obtain ⟨x, ex, H, _⟩ := R_expD (t := j) (by omega) (by omega) z1
      exact ⟨x, ex, H⟩
    · obtain ⟨x, ex, H, _⟩ := R_exp hxq z1.1 (t := j) (by omega) (by omega)
      exact ⟨x, ex, H⟩
  obtain ⟨x13, e13, H13⟩ := exE 8 (by decide) hx3 st1
  have hx13 := S_raC H13 hx3
  have t1 := S_told (j := 8) (lo := 1) (hi := 6 - p_nm P) (hiC := fun x => (6 : Int32) - hp_i x pl 5) (hiM := fun x => (6 : Int32) - hp_i x m 25) hT hx3 hv (by decide) (by decide) (by omega) (fun g' k2 hc _ => by rw [hc.2.1.2.2.2.2.2.1]; exact pk_sub (a := 6) hnm6) (fun h k2 hc => by rw [hc.2.2.2.2.2.2.1]; exact pk_sub (a := 6) hnm6) st1
  rw [bn_o e13] at t1
  rw [show (8 : Int32) = nI 8 from rfl, bn_o e13, bn_o hx13.2.2.1.1, show (1 : Int32) = nI 1 from rfl]
  refine pw_bind (pw_mono t1 ?_)
  rintro x15 ⟨n1, en1, ln1, st2⟩
  have F15 := st2.1
  have hx15 := S_clC F15 hx
  have t2 := S_told (j := 9) (lo := 0) (hi := 31) (hiC := fun _ => nI 31) (hiM := fun _ => nI 31) hT hx15 hv (by decide) (by decide) (by decide) (fun g' k2 hc _ => rfl) (fun h k2 hc => rfl) st2
  obtain ⟨x16, e16, H16⟩ := exE 9 (by decide) hx15 st2
  rw [bn_o e16] at t2
  rw [show (9 : Int32) = nI 9 from rfl, bn_o e16, show (0 : Int32) = nI 0 from rfl, show (31 : Int32) = nI 31 from rfl]
  refine pw_bind (pw_mono t2 ?_)
  rintro x17 ⟨n2, en2, ln2, F17, st3⟩
  have hx17 := S_clC F17 hx
  rw [bn_o hx17.2.2.1.1, en1]
  have efM : (fun h => (rf2 m h).bind fun y => (f_M_told m (lN (cst 9)) (nI 0) (nI 31) y.2).bind fun z => some ((y.1, z.1), z.2)) = rf3 m := rfl
  rcases st3 with ⟨c, p, z1, z2, z3⟩ | ⟨⟨⟨_, b1, b2, b3, b4, b5⟩, d1, d2, d3, d4, d5⟩, z1, zV, z2⟩
  · refine pw_bind (pw_mono (R_addRoleD hrp hx17.2.2.1 z2 ln1) ?_)
    rintro g9 ⟨H9, P9⟩
    refine pw_some ⟨hp_fr_tr F17 (hp_fr_mo H9 (fun a k z => by unfold S_cl; omega)), .inl ⟨c, p, DED_fr H9 (fun j hj => by omega) z1, P9, fun h hr => ?_⟩⟩
    rw [M_role_eq ok hT hv hr h7 h20 hid]
    refine pw_bind (pw_mono (z3 h hr) ?_)
    rintro y ⟨q1, q2, q3⟩
    by_cases z : hp_i y.2 m 2 ≤ 0
    · rw [if_pos z]
      refine pw_mono (M_rlW q2.1.1 q3.2.2.2.2.1 hnr q3.2.2.2.2.2.1) ?_
      rintro h9 ⟨K9, _⟩
      exact ⟨hp_fr_tr q1 (hp_fr_mo K9 (fun a k z => by unfold S_rlw at z; unfold S_rf; omega)), RBX_fr K9 (fun a k z => by unfold S_rlw at z; omega) q2⟩
    · rw [if_neg z]
      exact pw_some ⟨q1, q2⟩
  · have z1' := z1
    obtain ⟨c1, c2, c3, c4, c5⟩ := z1
    rw [en2]
    have hn1 : p_nm P + n1 ≤ 6 := by omega
    refine pw_bind (pw_mono (R_addRole hx17.2.2.1 c2.2.2.2.2.1 hnr c2.2.2.2.2.2.1 hnm6 ln1) ?_)
    rintro g9 ⟨H9, a1, a2, a3, a4⟩
    rw [if_pos hn1] at H9 a2 a4
    have F9 := hp_fr_tr F17 (hp_fr_mo H9 (fun a k z => show S_cl r pl a k by unfold S_ar at z; unfold S_cl; omega))
    refine pw_some ⟨F9, .inr ⟨puR n1 n2 P, up1 cn (p_nr P) n1, up1 nk (p_nr P) (k + 1), F, k + 2 + 2 + 2, by omega, VAL_R hv hnr (by omega) hn1 (by omega) v.1 h20 hid, ⟨ALV_fr H9 (fun j hj => by unfold S_ar; omega) c1, PX_R c2 hn1 H9 a1 a2 a3 a4, ?_, fun i hi => ?_, ?_⟩, fun h hr => ?_⟩⟩
    · rw [hf_i H9 (by unfold S_ar; omega)]; exact c3
    · have hi : i < p_nr P + 1 := hi
      unfold up1
      rw [hf_l H9 (by unfold S_ar; omega)]
      by_cases z : i = p_nr P
      · rw [if_pos z, z]; exact zV
      · rw [if_neg z]; exact c4 i (by omega)
    · rw [hf_i H9 (by unfold S_ar; omega)]; exact c5
    · rw [M_role_eq ok hT hv hr h7 h20 hid]
      refine pw_bind (pw_mono (z2 h hr) ?_)
      rintro y ⟨q1, q2, q3⟩
      rw [if_pos (show hp_i y.2 m 2 ≤ 0 by rw [q3.1.2.1]; decide), q2]
      dsimp only
      refine pw_mono (M_rlW q3.1.1.1 q3.2.2.2.2.2.1 hnr q3.2.2.2.2.2.2.1) ?_
      rintro h9 ⟨K9, w1, w2, w3, w4, w5⟩
      refine ⟨hp_fr_tr q1 (hp_fr_mo K9 (fun a k z => by unfold S_rlw at z; unfold S_rf; omega)), RT_fr K9 (fun a k z => by unfold S_rlw at z; omega) q3.1, ?_⟩
      rw [← b5] at w2 w4
      rw [← d5] at w5
      exact MSC_R q3.2 K9 w1 w2 w3 w4 w5
