/-! both are told the plan -/
def S_pq (x m pl : Nat) : Nat → Nat → Prop := fun a k => S_rdd (x + 2) pl a k ∨ a = x ∧ k = 1 ∨ S_pl0 m a k ∨ S_rf m a k
theorem S_an_no {x fa ch a k : Nat} (hfa : fa ≠ 0 → x + 97 ≤ fa) (hch : ch ≠ 0 → x + 97 ≤ ch) (ha : a ≤ x + 97) (hn : ¬ (a = x + 34 ∧ k = 0 ∨ x + 28 ≤ a ∧ a ≤ x + 32 ∧ k = 3 ∨ a = x ∧ k = 11 ∨ a = x + 25 ∧ k < 3 ∨ a = x + 26)) : ¬ S_an x fa ch a k := by
  rintro (z | z | z | z | z | z | z)
  · exact hn (.inl z)
  · exact hn (.inr (.inl z))
  · exact hn (.inr (.inr (.inl z)))
  · have := hfa z.1; have := z.2; clear hfa hch hn z; omega
  · have := hch z.1; have := z.2; clear hfa hch hn z; omega
  · exact hn (.inr (.inr (.inr (.inl z))))
  · exact hn (.inr (.inr (.inr (.inr z))))
theorem LAYO_lo {m z sv ro fa ch : Nat} (hl : LAYO m z sv ro fa ch) : (fa ≠ 0 → m + 56 ≤ fa) ∧ (ch ≠ 0 → m + 56 ≤ ch) ∧ (fa ≠ 0 → ch ≠ 0 → fa ≠ ch) := by
  obtain ⟨y1, y2, y3, y4, y5, y6, y7, y8⟩ := hl
  refine ⟨fun z => ?_, fun z => ?_, fun z w => ?_⟩
  · have := y4 z
    by_cases s0 : sv = 0
    · have := y1 s0; omega
    · have := y2 s0; omega
  · have := y5 z
    by_cases s0 : sv = 0
    · have := y1 s0; omega
    · have := y2 s0; omega
  · have := y8 z w; omega
theorem op_plan {x m : Nat} : ∀ (P : PT) (ZT ST : Nat) (h : HP), INV P x m ZT ST h → pw (f_X_plan x h) (fun r => pw (f_M_plan m r.2) (fun s => r.1 = s.1 ∧ ∃ P', INV P' x m ZT ST s.2)) := by
  rintro P ZT ST h ⟨q, sv, ro, fa, ch, hb, hc, hr⟩
  obtain ⟨a1, a2, a3, a4, a5, a6, a7, a8, a9, ⟨T, t, t1, t2, t3, t4⟩, a11, a12, a13, a14⟩ := id hb
  obtain ⟨pl, hpl, r4⟩ : ∃ pl, (q = x + 7 ∧ pl = x + 16 ∨ q = x + 16 ∧ pl = x + 7) ∧ hp_r h x 4 = some pl := by
    rcases a6 with ⟨u, v⟩ | ⟨u, v⟩
    · exact ⟨_, .inl ⟨u, rfl⟩, v⟩
    · exact ⟨_, .inr ⟨u, rfl⟩, v⟩
  have psh : PSH pl h := by
    rcases hpl with ⟨_, u⟩ | ⟨_, u⟩
    · rw [u]; exact PSH_16 a2
    · rw [u]; exact PSH_7 a2
  unfold f_X_plan
  rw [bn_o (xr_0_2 a2), bn_o (xr_0_0 a2), bn_o r4, t2]
  refine pw_bind (pw_mono (C_reads (r := x + 2) (tp := x + 1) (m := m) (T := T) (by omega) (by omega) t1 (xn_1 a2) (fun k hk => ⟨(t4 k hk).1, (t4 k hk).2.1⟩) ⟨xr_2_7 a2, xr_2_8 a2, xr_2_9 a2, xn_4 a2, xn_5 a2, xn_6 a2⟩ (xr_2_5 a2) (xn_3 a2) psh) ?_)
  obtain ⟨h3, hh3⟩ : ∃ h3, hp_sr (hp_sr h (x + 2) 2 (some (x + 1))) (x + 2) 4 (some pl) = h3 := ⟨_, rfl⟩
  rintro ⟨w, h4⟩ ⟨H, v⟩
  rw [hh3] at H
  dsimp only at H v ⊢
  have hb3 : BAS P q x m h3 := by rw [← hh3]; exact BAS_sr2 (.inr rfl) (BAS_sr2 (.inl rfl) hb)
  have hc3 : CCH P q x m sv ro fa ch h3 := by rw [← hh3]; exact CCH_sr (by omega) (by omega) (CCH_sr (by omega) (by omega) hc)
  have hr3 : RM ZT ST sv ro fa ch h3 := by rw [← hh3]; exact hr
  have r43 : hp_r h3 x 4 = some pl := by rw [← hh3, hp_r_sr, if_neg (by omega), hp_r_sr, if_neg (by omega)]; exact r4
  have i3 : ∀ a k, hp_i h3 a k = hp_i h a k := fun a k => by rw [← hh3, hp_i_sr, hp_i_sr]
  clear hh3
  obtain ⟨b1, b2, b3, b4, b5, b6, b7, b8, b9, b10, b11, b12, b13, b14⟩ := id hb3
  rw [xx_lE]
  obtain ⟨h5, hh5⟩ : ∃ h5, hp_si h4 x 1 (0 : Int32) = h5 := ⟨_, rfl⟩
  rw [hh5]
  have H5 : hp_fr (fun a k => S_rdd (x + 2) pl a k ∨ a = x ∧ k = 1) h3 h5 := by rw [← hh5]; exact hf_si (hp_fr_mo H (fun a k z => .inl z)) (.inr ⟨rfl, rfl⟩)
  have e5 : ∀ a k, ¬ (a = x ∧ k = 1) → hp_i h5 a k = hp_i h4 a k := fun a k hk => by rw [← hh5, hp_i_si, if_neg hk]
  have l5 : ∀ a k, hp_l h5 a k = hp_l h4 a k := fun a k => by rw [← hh5, hp_l_si]
  have x51 : hp_i h5 x 1 = nI 0 := by rw [← hh5, hp_i_si, if_pos ⟨rfl, rfl⟩]; rfl
  rcases v with ⟨rfl, c, p, ded, pbk⟩ | ⟨rfl, P', cn, nk, F, k, val, cs, k22, pbk⟩
  · rw [if_pos rfl]
    refine pw_some ?_
    dsimp only
    refine M_plan0 (t := t) (T := T) (MS_fr H5 b3) t1 (by rw [hf_i H5 (by unfold S_rdd; omega), i3]; exact t3) (fun k hk => ⟨(t4 k hk).1, by rw [hf_i H5 (by unfold S_rdd; omega), i3]; exact (t4 k hk).2.2⟩) ?_
    intro g0 G0 g01 rss
    refine pbk g0 _ rss ?_
    intro g1 G1 rbx
    refine pw_mono (M_98B (TKL_ok t1) rbx) ?_
    rintro ⟨_, s⟩ ⟨G2, rfl, mer⟩
    dsimp only at G2 mer ⊢
    have G : hp_fr (fun a k => S_pl0 m a k ∨ S_rf m a k) h5 s := hp_fr_tr (hp_fr_tr (hp_fr_mo G0 (fun a k z => .inl z)) (hp_fr_mo G1 (fun a k z => .inr z))) (hp_fr_mo G2 (fun a k z => .inr z))
    have HH : hp_fr (S_pq x m pl) h3 s := hp_fr_tr (hp_fr_mo H5 (fun a k z => z.elim .inl (fun z => .inr (.inl z)))) (hp_fr_mo G (fun a k z => .inr (.inr z)))
    have dd : DED (x + 2) c p s := ⟨ded.1, ded.2.1, by rw [hf_i G (by unfold S_pl0 S_rf; omega), e5 _ _ (by omega)]; exact ded.2.2.1, by rw [hf_i G (by unfold S_pl0 S_rf; omega), e5 _ _ (by omega)]; exact ded.2.2.2.1, by rw [hf_i G (by unfold S_pl0 S_rf; omega), e5 _ _ (by omega)]; exact ded.2.2.2.2⟩
    refine ⟨rfl, P, q, sv, ro, fa, ch, ⟨b1, XS_fr HH b2, MS_fr HH b3, by rw [hp_fr_z HH]; exact b4, by rw [hp_fr_r HH]; exact b5, by rw [hp_fr_r HH]; exact b6, b7, ?_, ?_, ⟨T, 0, Nat.zero_le _, ?_, ?_, fun k hk => absurd hk (Nat.not_lt_zero _)⟩, ?_, ?_, ?_, ?_⟩, ?_, ?_⟩
    · exact PX_ag (fun a k hk => hf_i HH (fun z => by unfold F_PX at hk; unfold S_pq S_rdd S_pl0 S_rf at z; omega)) b8
    · exact PM_ag (fun a k hk => hf_i HH (fun z => by unfold F_PM at hk; unfold S_pq S_rdd S_pl0 S_rf at z; omega)) b9
    · rw [hf_i G (by unfold S_pl0 S_rf; omega)]; exact x51
    · rw [hf_i G2 (by unfold S_rf; omega), hf_i G1 (by unfold S_rf; omega)]; exact g01
    · exact ⟨by rw [dd.2.2.1, mer.2.2.1], by rw [dd.2.2.2.1, mer.2.2.2]⟩
    · exact CR_fr HH (fun a k z => by unfold S_pq S_rdd S_pl0 S_rf at z; unfold F_CCX F_CMM; omega) b12
    · exact BX_fr HH (fun a k z => by unfold S_pq S_rdd S_pl0 S_rf at z; unfold F_BX; omega) b13
    · exact LG_fr HH (fun a k z => by unfold S_pq S_rdd S_pl0 S_rf at z; unfold F_LG; omega) b14
    · exact CCH_fr HH (by omega) (fun a k z => by unfold S_pq S_rdd S_pl0 S_rf at z; omega) hc3
    · unfold RM; rw [hp_fr_z HH, hp_fr_s HH]; exact hr3
  · rw [if_neg (show ¬ (1 : Int32) = 0 by decide), bn_o (show hp_r h5 x 3 = some q by rw [hp_fr_r H5]; exact b5), bn_o (show hp_r h5 x 4 = some pl by rw [hp_fr_r H5]; exact r43), xx_lE, xx_lE]
    obtain ⟨h9, hh9⟩ : ∃ h9, hp_sr (hp_sr h5 x 3 (some pl)) x 4 (some q) = h9 := ⟨_, rfl⟩
    rw [hh9]
    have ok' : POK P' := val.1
    have i9 : ∀ a k, hp_i h9 a k = hp_i h5 a k := fun a k => by rw [← hh9, hp_i_sr, hp_i_sr]
    have l9 : ∀ a k, hp_l h9 a k = hp_l h5 a k := fun a k => by rw [← hh9, hp_l_sr, hp_l_sr]
    have xs9 : XS x h9 := by rw [← hh9]; exact XS_sr (b := 0) rfl (by decide) (XS_sr (b := 0) rfl (by decide) (XS_fr H5 b2))
    have ms9 : MS m h9 := by rw [← hh9]; exact MS_sr (by omega) (MS_sr (by omega) (MS_fr H5 b3))
    have hc9 : CCH P q x m sv ro fa ch h9 := by rw [← hh9]; exact CCH_sr (by omega) (by omega) (CCH_sr (by omega) (by omega) (CCH_fr H5 (by omega) (fun a k z => by unfold S_rdd at z; omega) hc3))
    have r39 : hp_r h9 x 3 = some pl := by rw [← hh9, hp_r_sr, if_neg (by omega), hp_r_sr, if_pos ⟨rfl, rfl⟩]
    have r49 : hp_r h9 x 4 = some q := by rw [← hh9, hp_r_sr, if_pos ⟨rfl, rfl⟩]
    have z9 : hp_z h9 = hp_z h3 := by rw [← hh9]; show hp_z h5 = _; exact hp_fr_z H5
    have s9 : hp_s h9 = hp_s h3 := by rw [← hh9]; show hp_s h5 = _; exact hp_fr_s H5
    obtain ⟨cA, pxA, _, _, _⟩ := cs
    have px9 : PX P' pl h9 := PX_ag (fun a k hk => by rw [i9]; exact e5 a k (by unfold F_PX at hk; omega)) pxA
    clear hh9
    obtain ⟨c1, c2, c3, c4, c5, c6, c7, c8, c9⟩ := id hc9
    obtain ⟨lofa', loch', lod⟩ := LAYO_lo c4
    have lofa : fa ≠ 0 → x + 97 ≤ fa := fun z => by have := lofa' z; omega
    have loch : ch ≠ 0 → x + 97 ≤ ch := fun z => by have := loch' z; omega
    have hplq : pl = x + 7 ∨ pl = x + 16 := by omega
    clear lofa' loch'
    refine pw_bind (pw_mono (X_anew xs9 r39 hplq ok' px9 c2 c3 (fun z => ⟨lofa z, (c8 z).1⟩) (fun z => ⟨loch z, (c9 z).1⟩) lod) ?_)
    rintro g ⟨K, k34, kb, k11, kc, kfa, kch⟩
    have lo : ∀ a k, a ≤ x + 97 → ¬ (a = x + 34 ∧ k = 0 ∨ x + 28 ≤ a ∧ a ≤ x + 32 ∧ k = 3 ∨ a = x ∧ k = 11 ∨ a = x + 25 ∧ k < 3 ∨ a = x + 26) → ¬ S_an x fa ch a k := fun a k => S_an_no lofa loch
    have pxg : PX P' pl g := PX_ag (fun a k hk => hf_i K (by unfold F_PX at hk; exact lo a k (by omega) (by omega))) px9
    rw [bn_o (show hp_r g x 3 = some pl by rw [hp_fr_r K]; exact r39)]
    refine pw_some ?_
    dsimp only
    have eg : ∀ a k, m ≤ a → a ≤ m + 55 → hp_i g a k = hp_i h a k := fun a k u1 u2 => by
      rw [hf_i K (lo a k (by omega) (by omega)), i9, hf_i H5 (by unfold S_rdd; omega), i3]
    refine M_plan0 (t := t) (T := T) (MS_fr K ms9) t1 (by rw [eg _ _ (by omega) (by omega)]; exact t3) (fun k hk => ⟨(t4 k hk).1, by rw [eg _ _ (by omega) (by omega)]; exact (t4 k hk).2.2⟩) ?_
    intro g0 G0 g01 rss
    refine pbk g0 _ rss ?_
    intro g1 G1 rs1
    obtain ⟨⟨mtc, m2, mtk⟩, msc⟩ := id rs1
    have m3 := mtc.2.2.1.2 m2
    refine pw_mono (M_copy val rs1 k22) ?_
    rintro ⟨_, s⟩ ⟨rfl, G2, pm, cmm, s85, s47⟩
    dsimp only at G2 pm cmm s85 s47 ⊢
    have G : hp_fr (fun a k => (a = m ∧ k ≠ 86) ∨ m + 2 ≤ a ∧ a ≤ m + 23 ∨ a = m + 47) g s := hp_fr_tr (hp_fr_tr (hp_fr_mo G0 (fun a k z => by unfold S_pl0 at z; omega)) (hp_fr_mo G1 (fun a k z => by unfold S_rf at z; omega))) (hp_fr_mo G2 (fun a k z => by unfold F_PM S_bw at z; omega))
    have KG : hp_fr (fun a k => S_an x fa ch a k ∨ (a = m ∧ k ≠ 86) ∨ m + 2 ≤ a ∧ a ≤ m + 23 ∨ a = m + 47) h9 s := hp_fr_tr (hp_fr_mo K (fun a k z => .inl z)) (hp_fr_mo G (fun a k z => .inr z))
    obtain ⟨n, tm, dd, mm, tt, uu, lg⟩ := b14
    have kx : ∀ k, k ≠ 11 → hp_i s x k = hp_i h5 x k := fun k hk => by rw [hf_i G (by omega), hf_i K (lo _ _ (by omega) (by omega)), i9]
    have kr : ∀ k, hp_i s (x + 2) k = hp_i h4 (x + 2) k := fun k => by rw [hf_i G (by omega), hf_i K (lo _ _ (by omega) (by omega)), i9, e5 _ _ (by omega)]
    refine ⟨?_, P', pl, sv, ro, fa, ch, ⟨b1, XS_fr KG xs9, MS_fr KG ms9, by rw [hp_fr_z KG, z9]; exact b4, by rw [hp_fr_r KG]; exact r39, ?_, ok', ?_, pm, ⟨T, 0, Nat.zero_le _, ?_, ?_, fun k hk => absurd hk (Nat.not_lt_zero _)⟩, ⟨?_, ?_⟩, ⟨fs P' 0, 0, 0, fun _ => 0, CRS_0 ok' (Nat.two_pow_pos _), ?_, cmm⟩, ?_, ?_⟩, ?_, ?_⟩
    · exact pxg.2.2.2.2.2.1
    · rw [hp_fr_r KG, r49]
      rcases hpl with ⟨u1, u2⟩ | ⟨u1, u2⟩
      · exact .inr ⟨u2, by rw [u1]⟩
      · exact .inl ⟨u2, by rw [u1]⟩
    · exact PX_ag (fun a k hk => hf_i G (by unfold F_PX at hk; omega)) pxg
    · rw [kx 1 (by decide)]; exact x51
    · rw [hf_i G2 (by unfold F_PM S_bw; omega), hf_i G1 (by unfold S_rf; omega)]; exact g01
    · rw [kr, cA.2.2.1, hf_i G2 (by unfold F_PM S_bw; omega), m2]
    · rw [kr, cA.2.2.2.1.2, hf_i G2 (by unfold F_PM S_bw; omega), m3]
    · exact CCX_ag (fun a k hk => ⟨hf_i G (by unfold F_CCX at hk; omega), hf_l G (by unfold F_CCX at hk; omega)⟩) kc
    · intro b hb'
      exact .inl ⟨by rw [hf_i G (by omega)]; exact kb b hb', s47 b hb'⟩
    · refine ⟨0, tm, dd, mm, tt, uu, Nat.zero_le _, lg.2.1, ?_, ?_, s85, ?_, fun k hk => absurd hk (Nat.not_lt_zero _)⟩
      · rw [hf_i G (by omega)]; exact k34
      · rw [hf_i G (by omega), hf_i K (lo _ _ (by omega) (by omega)), i9, hf_i H5 (by unfold S_rdd; omega)]; exact lg.2.2.2.1
      · rw [hf_i G (by omega), eg _ _ (by omega) (by omega), ← i3]; exact lg.2.2.2.2.2.1
    · have s11 : hp_i s x 11 = 0 := by rw [hf_i G (by omega)]; exact k11
      refine ⟨by rw [hp_fr_r KG]; exact c1, by rw [hp_fr_r KG]; exact c2, by rw [hp_fr_r KG]; exact c3, by rw [hp_fr_z KG]; exact c4, fun _ => s11, fun z => ⟨SVZ_fr KG (c6 z).1, by rw [hp_fr_r KG]; exact (c6 z).2.1, .inl s11⟩, fun z => ROY_fr KG (c7 z), fun z => ⟨FAX_fr KG (c8 z).1, fun F hF => .inl ?_⟩, fun z => ?_⟩
      · have := lofa z
        rw [hf_i G (by omega)]; exact kfa z F hF
      · obtain ⟨⟨cc, w1⟩, _⟩ := c9 z
        refine ⟨⟨cc, CHX_fr KG w1⟩, .inr (fun l hl => ?_)⟩
        have := loch z
        rw [hf_i G (by omega)]; exact kch z l hl
    · unfold RM; rw [hp_fr_z KG, hp_fr_s KG, z9, s9]; exact hr3
