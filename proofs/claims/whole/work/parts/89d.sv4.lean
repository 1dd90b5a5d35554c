/-! one lead of the survey, whole -/
theorem bit768 {a : Nat} (h : a < 1024) : (nI a &&& (768 : Int32)) = 0 ↔ a / 256 % 2 = 0 ∧ a / 512 % 2 = 0 := by
  have : ∀ a, a < 1024 → ((nI a &&& (768 : Int32)) = 0 ↔ a / 256 % 2 = 0 ∧ a / 512 % 2 = 0) := by decide +kernel
  exact this a h
theorem SVJ_161 {P : PT} {sv q s i : Nat} {v : Int32} {N : Int64} {C : BT} {h k : HP} (hn : p_nm P ≤ 6) (hi : i < p_nm P) (hv : SVS sv q k) (hq : q + 8 < sv) (hs5 : s < 5000) (hsC : s < C.1) (H : hp_fr (S_sv sv q) h k) (hC : (C.2.2 = false ∧ SSX (sv + 3) 5000 C.1 C.2.1 k ∧ hp_i k sv 5 = nI 0 ∧ FND P sv (stN P) C.2.1 (8 * s + i + 1) k ∧ hp_i k sv 11 = idl P C.2.1 (8 * s + i + 1) ∧ MST P sv C.2.1 (8 * s + i + 1) k ∧ NXX P sv C (8 * s + i) k ∧ CFX sv (stN P) C.1 (ffp P C.2.1) k ∧ STC P (sv + 2) k ∧ CLP P C (8 * s + i + 1) ∧ PAR P (stN P) C (8 * s + i + 1) ∧ v = nxx P C.2.1 C.1 s i) ∨ (C.2.2 = true ∧ hp_i k sv 5 = nI 1)) : pw (f_Sv_leadAll_161 sv (nI s) N (nI i) v ((nI s * (6 : Int32)) + nI i) (sv + 8) k) (xx_L2 (fun t => t.1 = nI (i + 1) ∧ hp_fr (S_sv sv q) h t.2 ∧ SVJ P sv C (8 * s + (i + 1)) t.2) (fun _ => False)) := by
  obtain ⟨s0, s1, s2, s3, s4, s5, s6, s7, m2, m6, m7, m8, m9⟩ := id hv
  unfold f_Sv_leadAll_161
  rw [show (6 : Int32) = nI 6 from rfl, pk_mul, nI_add, m8, if_pos (hp_in_nI (by omega) (by omega)), nI_clamp (by omega), xx_lE, xx_lE]
  have K : hp_fr (fun a j => a = sv + 8 ∧ j = s * 6 + i) k (hp_si k (sv + 8) (s * 6 + i) v) := hf_si (hp_fr_rf k) ⟨rfl, rfl⟩
  refine pw_some ⟨nI_1 i, hf_si H (by unfold S_sv; omega), ?_⟩
  dsimp only
  rcases hC with ⟨c0, c1, c2, c3, c4, c5, c6, c7, c8, c9, c10, c11⟩ | ⟨c0, c1⟩
  · refine .inl ⟨c0, SSX_fr K (by unfold F_SS; omega) c1, ?_, ?_, ?_, fun j hj => ?_, fun s' i' hi' hlt hs' => ?_, CFX_fr K (by omega) c7, STC_ag (fun j => hf_i K (by omega)) c8, ?_, ?_⟩
    · rw [hf_i K (by omega)]; exact c2
    · exact FND_x (xtd_rf C) (by omega) c7.2.2.2.2.1 (fun a j hj => hf_i K (by unfold F_FN at hj; omega)) c3
    · rw [hf_i K (by omega)]; exact c4
    · rw [hf_i K (by omega)]; exact c5 j hj
    · rw [hp_i_si]
      by_cases hb8 : 8 * s' + i' < 8 * s + i
      · rw [if_neg (by omega)]; exact c6 s' i' hi' hb8 hs'
      · have e1 : s' = s := by omega
        have e2 : i' = i := by omega
        subst e1 e2
        rw [if_pos ⟨rfl, by omega⟩]; exact c11
    · exact c9
    · exact c10
  · exact .inr ⟨c0, by rw [hf_i K (by omega)]; exact c1⟩
theorem X_lead1 {P : PT} {sv q s i : Nat} {B : BT} {h : HP} (hps : PSH q h) (ok : POK P) (hp : PX P q h) (hq : q + 8 < sv) (hv : SVS sv q h) (hi : i < p_nm P) (hsB : s < B.1) (h0 : B.2.2 = false) (hG : GB P B) (hI : SVI P sv B (8 * s + i) h) : pw (f_Sv_leadAll_12b sv (nI s) (lN (B.2.1 s)) (nI i) h) (xx_L2 (fun t => t.1 = nI (i + 1) ∧ hp_fr (S_sv sv q) h t.2 ∧ SVJ P sv (stp P (B.2.1 s) i B) (8 * s + (i + 1)) t.2) (fun _ => False)) := by
  have hnm := ok.2.2.2.2.2.1
  have hi6 : i < 6 := by omega
  have hn5 := hG.1
  obtain ⟨i1, i2, i3, i4, i5, i6, i7, i8, i9, i10⟩ := hI
  obtain ⟨s0, s1, s2, s3, s4, s5, s6, s7, m2, m6, m7, m8, m9⟩ := id hv
  have hN : B.2.1 s < 2 ^ 54 := (i1.2.2.2.2.2.2.2.2.1 s hsB).1
  have hNm : B.2.1 s % 2 ^ 54 = B.2.1 s := Nat.mod_eq_of_lt hN
  have hNd : B.2.1 s / 2 ^ 54 = 0 := Nat.div_eq_of_lt hN
  have hdc : dy (B.2.1 s) < p_cy P := by have := (hG.2.2 s hsB).2; rw [hNm] at this; exact this
  have hp7 : (8 * s + i) % 8 = i := by omega
  have hp8 : (8 * s + i) / 8 = s := by omega
  have e7 : hp_i h (sv + 7) i = nI (mxh B.2.1 i s) := by rw [i5 i hi, hp7, if_neg (by omega), hp8]
  have hmx := mxh_lt B.2.1 i s
  have hhd := hd_lt (B.2.1 s) i
  have emx : (if nI (mxh B.2.1 i s) < nI (hd (B.2.1 s) i) then nI (hd (B.2.1 s) i) else nI (mxh B.2.1 i s)) = nI (mxh B.2.1 i (s + 1)) := by
    rw [mxh, hNm]
    by_cases hl : mxh B.2.1 i s < hd (B.2.1 s) i
    · rw [if_pos hl, if_pos (nI_lt hl (by omega))]
    · rw [if_neg hl, if_neg (nI_nlt (by omega) (by omega))]
  unfold f_Sv_leadAll_12b
  rw [bn_o s5, hp.2.2.2.2.2.1, if_neg (nI_ge hi (by omega)), i2, if_pos (show nI 0 = (0 : Int32) from rfl), bn_o s4, bn_o s4, m7, if_pos (hp_in_nI hi6 (by omega)), bn_o (X_held hN hi6 h)]
  dsimp only
  rw [m7, if_pos (hp_in_nI hi6 (by omega)), nI_clamp (by omega), e7, emx, xx_lE]
  let h9 := hp_si h (sv + 7) i (nI (mxh B.2.1 i (s + 1)))
  have H9 : hp_fr (fun a k => a = sv + 7 ∧ k = i) h h9 := hf_si (hp_fr_rf h) ⟨rfl, rfl⟩
  have v9 := SVS_fr H9 hv
  show pw ((hp_r h9 sv 0).bind _) _
  rw [bn_o v9.1, bn_o v9.2.2.2.2.2.1]
  have ps9 := PSH_fr H9 hps
  have px9 : PX P q h9 := PX_ag (fun a k hk => hf_i H9 (by unfold F_PX at hk; omega)) hp
  refine pw_bind (pw_mono (X_steps ps9 ok px9 hq v9.2.1 v9.2.2.2.2.2.2.2.2.1 hi hN hdc (STC_ag (fun k => hf_i H9 (by omega)) i8)) ?_)
  rintro ⟨oo, g⟩ ⟨rfl, Hg, tg8⟩
  dsimp only at Hg tg8 ⊢
  have hoc := oc_lt ok (B.2.1 s) i
  have hos := oS_lt ok (B.2.1 s) i
  obtain ⟨_, _, o3, o4, o5⟩ := oc_mod ok (B.2.1 s) i
  have Hg9 : hp_fr (fun a k => a = sv + 7 ∧ k = i ∨ S_sp sv q a k) h g := hp_fr_tr (hp_fr_mo H9 (fun a k hk => .inl hk)) (hp_fr_mo Hg (fun a k hk => .inr hk))
  have fin94 : ∀ k1, hp_fr (fun a k => a = sv ∧ k = 11) g k1 → hp_i k1 sv 11 = idl P B.2.1 (8 * s + i + 1) → pw (f_Sv_leadAll_94 sv (nI s) (lN (B.2.1 s)) (nI i) (nI (oc P (B.2.1 s) i)) k1) (xx_L2 (fun t => t.1 = nI (i + 1) ∧ hp_fr (S_sv sv q) h t.2 ∧ SVJ P sv (stp P (B.2.1 s) i B) (8 * s + (i + 1)) t.2) (fun _ => False)) := by
    intro k1 K1 e11
    have HK : hp_fr (fun a k => (a = sv + 7 ∧ k = i ∨ S_sp sv q a k) ∨ a = sv ∧ k = 11) h k1 := hp_fr_tr (hp_fr_mo Hg9 (fun a k hk => .inl hk)) (hp_fr_mo K1 (fun a k hk => .inr hk))
    have HKs : hp_fr (S_sv sv q) h k1 := hp_fr_mo HK (by unfold S_sp S_sv S_oc; omega)
    have vk := SVS_fr HK hv
    have pxk : PX P q k1 := PX_ag (fun a k hk => hf_i HK (by unfold F_PX at hk; unfold S_sp S_oc; omega)) hp
    have ssk : SSX (sv + 3) 5000 B.1 B.2.1 k1 := SSX_fr HK (by unfold S_sp S_oc F_SS; omega) i1
    have e5k : hp_i k1 sv 5 = nI 0 := by rw [hf_i HK (by unfold S_sp S_oc; omega)]; exact i2
    have fnk : FND P sv (stN P) B.2.1 (8 * s + i) k1 := FND_x (xtd_rf B) (by omega) i7.2.2.2.2.1 (fun a k hk => hf_i HK (by unfold F_FN at hk; unfold S_sp S_oc; omega)) i3
    have cfk : CFX sv (stN P) B.1 (ffp P B.2.1) k1 := CFX_fr HK (by unfold S_sp S_oc; omega) i7
    have stk : STC P (sv + 2) k1 := STC_ag (fun k => hf_i K1 (by omega)) tg8
    have mtk : MST P sv B.2.1 (8 * s + i + 1) k1 := by
      intro j hj
      rw [show (8 * s + i + 1) % 8 = i + 1 by omega, show (8 * s + i + 1) / 8 = s by omega, hf_i K1 (by omega), hf_i Hg (by unfold S_sp S_oc; omega)]
      rw [hp_i_si]
      by_cases hji : j = i
      · subst hji; rw [if_pos ⟨rfl, rfl⟩, if_pos (by omega)]
      · rw [if_neg (fun z => hji z.2), i5 j hj, hp7, hp8]
        by_cases hl : j < i
        · rw [if_pos hl, if_pos (by omega)]
        · rw [if_neg hl, if_neg (by omega)]
    have nxk : NXX P sv B (8 * s + i) k1 := fun s' i' a1 a2 a3 => by rw [hf_i HK (by unfold S_sp S_oc; omega)]; exact i6 s' i' a1 a2 a3
    unfold f_Sv_leadAll_94
    rw [bn_o vk.2.2.2.2.2.1, bn_o (X_after ok pxk hi6 hN)]
    dsimp only
    have hr1 : rgt P B.2.1 1 (8 * s + i) = decide (rs3 P (B.2.1 s % 2 ^ 54) i = 1) := rgt_at hi hnm
    have hr2 : rgt P B.2.1 2 (8 * s + i) = decide (rs3 P (B.2.1 s % 2 ^ 54) i = 2) := rgt_at hi hnm
    unfold f_Sv_leadAll_122
    by_cases hz : oS P (B.2.1 s) i = 0
    · rw [if_pos ((bit128 hoc).mpr (by omega)), bn_o vk.2.2.2.2.2.2.1, if_pos rfl]
      have hrs : rs3 P (B.2.1 s % 2 ^ 54) i = 0 := by rw [hNm]; exact rs3_0 hz
      rw [hrs] at hr1 hr2
      have hr1 : rgt P B.2.1 1 (8 * s + i) = false := hr1
      have hr2 : rgt P B.2.1 2 (8 * s + i) = false := hr2
      have htg : tg P B.2.1 s i = gn P (B.2.1 s) i := by unfold tg; rw [hNm, hNd]; rfl
      have estp : stp P (B.2.1 s) i B = insB B (gn P (B.2.1 s) i) := by unfold stp; rw [hNm, hNd, if_pos hz]; rfl
      have hoz : oS P (B.2.1 s % 2 ^ 54) i = 0 := by rw [hNm]; exact hz
      refine pw_bind (pw_mono (X_goOn vk ssk (gn_lt ok _ i) hsB hi6) ?_)
      rintro ⟨r, g3⟩ ⟨H3, hcase⟩
      dsimp only at H3 hcase ⊢
      have HS3 : hp_fr (S_sv sv q) h g3 := hp_fr_tr HKs (hp_fr_mo H3 (by unfold S_gO S_set S_sv; omega))
      have v3 := SVS_fr H3 vk
      have mt3 : ∀ f', (∀ s', s' < B.1 → f' s' = B.2.1 s') → MST P sv f' (8 * s + i + 1) g3 := fun f' hf' j hj => by
        rw [hf_i H3 (by unfold S_gO S_set; omega), mtk j hj]
        congr 1
        refine (mxh_cong _ (fun s' hs' => hf' s' ?_)).symm
        have : (8 * s + i + 1) / 8 = s := by omega
        split at hs' <;> omega
      have st3 : STC P (sv + 2) g3 := STC_ag (fun k => hf_i H3 (by unfold S_gO S_set; omega)) stk
      have e11' : hp_i g3 sv 11 = idl P B.2.1 (8 * s + i + 1) := by rw [hf_i H3 (by unfold S_gO S_set; omega)]; exact e11
      rw [estp]
      rcases hcase with ⟨q1, q2, q3, q4, q5⟩ | ⟨q1, q2, q3, q4, q5, q6, q7⟩ | ⟨q1, q2, q3⟩
      · rw [insB_old h0 q1, q2]
        refine SVJ_161 hnm hi v3 hq (by omega) hsB HS3 (.inl ⟨h0, q3, q4, FND_0 hr1 hr2 (FND_x (xtd_rf B) (by omega) i7.2.2.2.2.1 (fun a k hk => hf_i H3 (by unfold F_FN at hk; unfold S_gO S_set; omega)) fnk), e11', mt3 _ (fun _ _ => rfl), fun s' i' a1 a2 a3 => ?_, ?_, st3, fun s' i' a1 a2 a3 a4 => ?_, PAR_mo i10 (by omega), ?_⟩)
        · rw [hf_i H3 (by unfold S_gO S_set; omega)]; exact nxk s' i' a1 a2 a3
        · obtain ⟨c1, c2, c3, c4, c5, c6⟩ := cfk
          exact ⟨by rw [hp_fr_r H3]; exact c1, by rw [hp_fr_n H3]; exact c2, c3, c4, c5, fun j hj => by rw [q5]; exact c6 j hj⟩
        · by_cases hb8 : 8 * s' + i' < 8 * s + i
          · exact i9 s' i' a1 hb8 a3 a4
          · have x1 : s' = s := by omega
            have x2 : i' = i := by omega
            subst x1 x2
            rw [htg]; exact q1
        · unfold nxx; rw [hrs, if_neg (by decide), if_neg (by decide), htg]
      · rw [insB_new h0 q1 q2, q3]
        have hx : xtd B (B.1 + 1, upN B.2.1 B.1 (gn P (B.2.1 s) i), false) := ⟨Nat.le_succ _, fun j hj => upN_n (by omega), fun z => by rw [h0] at z; exact absurd z (by decide)⟩
        have hst : stN P ≤ B.1 := i7.2.2.2.1
        obtain ⟨par1, par2⟩ := PAR_new hnm hi hsB hst h0 i9 htg.symm hoz q1 i10
        have hfs : upN B.2.1 B.1 (gn P (B.2.1 s) i) s = B.2.1 s := hx.2.1 s hsB
        have htg' : tg P (upN B.2.1 B.1 (gn P (B.2.1 s) i)) s i = gn P (B.2.1 s) i := by unfold tg; rw [hfs, hNm, hNd]; rfl
        have hds : dst (upN B.2.1 B.1 (gn P (B.2.1 s) i)) (B.1 + 1) := dst_up hG.2.1 q1
        have hidn : idx (upN B.2.1 B.1 (gn P (B.2.1 s) i)) (B.1 + 1) (gn P (B.2.1 s) i) = B.1 := idx_eq hds (by omega) (upN_s _ _ _)
        have fn3 : FND P sv (stN P) (upN B.2.1 B.1 (gn P (B.2.1 s) i)) (8 * s + i) g3 := FND_x (C := (B.1 + 1, upN B.2.1 B.1 (gn P (B.2.1 s) i), false)) hx (by omega) i7.2.2.2.2.1 (fun a k hk => hf_i H3 (by unfold F_FN at hk; unfold S_gO S_set; omega)) fnk
        have rgc : ∀ c, rgt P (upN B.2.1 B.1 (gn P (B.2.1 s) i)) c (8 * s + i) = rgt P B.2.1 c (8 * s + i) := fun c => by rw [rgt_at hi hnm, rgt_at hi hnm, hfs]
        refine SVJ_161 (C := (B.1 + 1, upN B.2.1 B.1 (gn P (B.2.1 s) i), false)) hnm hi v3 hq (by omega) (by show s < B.1 + 1; omega) HS3 (.inl ⟨rfl, q4, q5, FND_0 (by rw [rgc]; exact hr1) (by rw [rgc]; exact hr2) fn3, ?_, mt3 _ (fun s' hs' => hx.2.1 s' hs'), fun s' i' a1 a2 a3 => ?_, ?_, st3, fun s' i' a1 a2 a3 a4 => ?_, par1, ?_⟩)
        · rw [e11']; exact (idl_cong _ (fun s' hs' => hx.2.1 s' (by omega))).symm
        · have hs'B : s' < B.1 := by omega
          rw [hf_i H3 (by unfold S_gO S_set; omega), nxx_x hx hs'B (fun ho => i9 s' i' a1 a2 hs'B ho)]
          exact nxk s' i' a1 a2 hs'B
        · obtain ⟨c1, c2, c3, c4, c5, c6⟩ := cfk
          refine ⟨by rw [hp_fr_r H3]; exact c1, by rw [hp_fr_n H3]; exact c2, by show B.1 + 1 ≤ 5000; omega, by show stN P ≤ B.1 + 1; omega, fun j j1 j2 => ?_, fun j hj => ?_⟩
          · have := (par1 j j1 j2).1
            have e : ffp P (B.1 + 1, upN B.2.1 B.1 (gn P (B.2.1 s) i), false).2.1 j < 8 * j := this
            show ffp P (upN B.2.1 B.1 (gn P (B.2.1 s) i)) j / 8 < j
            have e' : ffp P (upN B.2.1 B.1 (gn P (B.2.1 s) i)) j < 8 * j := e
            omega
          · show hp_i g3 (sv + 9) j = if j < stN P then -1 else nI (ffp P (upN B.2.1 B.1 (gn P (B.2.1 s) i)) j)
            by_cases hjn : j = B.1
            · subst hjn
              rw [q6, if_neg (by omega), par2]
            · have hj2 : j < B.1 := by have : j < B.1 + 1 := hj; omega
              rw [q7 j hjn, c6 j hj2]
              have := ffp_x (P := P) hx hj2
              have e' : ffp P (upN B.2.1 B.1 (gn P (B.2.1 s) i)) j = ffp P B.2.1 j := this
              rw [e']
        · by_cases hb8 : 8 * s' + i' < 8 * s + i
          · exact CLP_x hx i9 (by omega) s' i' a1 hb8 a3 a4
          · have x1 : s' = s := by omega
            have x2 : i' = i := by omega
            subst x1 x2
            show idx (upN B.2.1 B.1 (gn P (B.2.1 s') i')) (B.1 + 1) (tg P (upN B.2.1 B.1 (gn P (B.2.1 s') i')) s' i') < B.1 + 1
            rw [htg', hidn]; omega
        · show nI B.1 = nxx P (upN B.2.1 B.1 (gn P (B.2.1 s) i)) (B.1 + 1) s i
          unfold nxx; rw [hfs, hrs, if_neg (by decide), if_neg (by decide), htg', hidn]
      · rw [insB_full h0 q1 q2]
        exact SVJ_161 (C := (B.1, B.2.1, true)) hnm hi v3 hq (by omega) hsB HS3 (.inr ⟨rfl, q3⟩)
    · rw [if_neg (fun z => by have := (bit128 hoc).mp z; omega), bn_o vk.2.2.2.2.2.2.1, if_neg (show ¬ (1 : Int32) = 0 by decide)]
      have estp : stp P (B.2.1 s) i B = B := by unfold stp; rw [hNm, if_neg hz]
      have hoz : oS P (B.2.1 s % 2 ^ 54) i ≠ 0 := by rw [hNm]; exact hz
      have hXn := X_note ok pxk hq vk ssk cfk hi hsB hoz fnk
      rw [hNm] at hXn
      refine pw_bind (pw_mono hXn ?_)
      rintro ⟨r, g3⟩ ⟨r1, H3, f3⟩
      dsimp only at r1 H3 f3 ⊢
      have HS3 : hp_fr (S_sv sv q) h g3 := hp_fr_tr HKs (hp_fr_mo H3 (by unfold S_ns S_sv; omega))
      rw [estp]
      refine SVJ_161 hnm hi (SVS_fr H3 vk) hq (by omega) hsB HS3 (.inl ⟨h0, SSX_fr H3 (by unfold S_ns F_SS; omega) ssk, ?_, f3, ?_, fun j hj => ?_, fun s' i' a1 a2 a3 => ?_, CFX_fr H3 (by unfold S_ns; omega) cfk, STC_ag (fun k => hf_i H3 (by unfold S_ns; omega)) stk, fun s' i' a1 a2 a3 a4 => ?_, PAR_mo i10 (by omega), ?_⟩)
      · rw [hf_i H3 (by unfold S_ns; omega)]; exact e5k
      · rw [hf_i H3 (by unfold S_ns; omega)]; exact e11
      · rw [hf_i H3 (by unfold S_ns; omega)]; exact mtk j hj
      · rw [hf_i H3 (by unfold S_ns; omega)]; exact nxk s' i' a1 a2 a3
      · by_cases hb8 : 8 * s' + i' < 8 * s + i
        · exact i9 s' i' a1 hb8 a3 a4
        · have x1 : s' = s := by omega
          have x2 : i' = i := by omega
          subst x1 x2
          exact absurd a4 hoz
      · rw [r1]
        unfold nxx
        rw [hNm]
        rcases rs3_12 hz with e | e
        · rw [e, if_pos rfl, if_pos rfl]
        · rw [e, if_neg (by decide), if_neg (by decide), if_pos rfl]
  have e11g : hp_i g sv 11 = idl P B.2.1 (8 * s + i) := by rw [hf_i Hg9 (by unfold S_sp S_oc; omega)]; exact i4
  by_cases hch : oL P (B.2.1 s) i = se P (B.2.1 s) ∧ oH P (B.2.1 s) i = hd (B.2.1 s) i
  · rw [if_pos hch.1] at o4
    rw [if_pos hch.2] at o5
    rw [if_pos ((bit768 hoc).mpr ⟨o4, o5⟩)]
    refine fin94 g (hp_fr_rf g) ?_
    rw [e11g, idl, hp7, hp8, hNm, if_neg (fun z => z.2 hch)]
  · have hb : ¬ (nI (oc P (B.2.1 s) i) &&& (768 : Int32)) = 0 := fun z => by
      obtain ⟨z1, z2⟩ := (bit768 hoc).mp z
      refine hch ⟨?_, ?_⟩
      · refine Decidable.of_not_not (fun w => ?_)
        rw [if_neg w] at o4; omega
      · refine Decidable.of_not_not (fun w => ?_)
        rw [if_neg w] at o5; omega
    rw [if_neg hb, xx_lE]
    refine fin94 _ (hf_si (hp_fr_rf g) ⟨rfl, rfl⟩) ?_
    rw [hp_i_si, if_pos ⟨rfl, rfl⟩, e11g, idl, hp7, hp8, hNm, if_pos ⟨hi, hch⟩]
