/-! the reference's count of ways -/
def S_sd (m : Nat) : Nat → Nat → Prop := fun a _ => a = m + 38 ∨ a = m + 39
theorem rw_0 {rr nx : Nat → Nat → Nat} {w : Nat → Nat} {s : Nat} (h : w s = 0) (k t i : Nat) : rwU rr k w s i = 0 ∧ rwN rr nx w s t i = 0 := by
  unfold rwU rwN
  constructor
  · rw [fb_sm_cong (g := fun _ => 0) (fun j _ => by rw [h]; split <;> rfl), sm_zero]
  · rw [fb_sm_cong (g := fun _ => 0) (fun j _ => by rw [h]; split <;> rfl), sm_zero]
theorem lN_le0 {x : Nat} (hx : x < 2 ^ 62) : (lg_cmp (lN x) (0 : Int64) ≤ 0) ↔ x = 0 := by
  rw [lg_cmp_le, show (0 : Int64) = lN 0 from rfl, pk_lLE (by omega) (by decide)]; omega
theorem ncv_23 {r x : Nat} (h : r < 3) (h0 : r ≠ 0) : ncv r x < 0 ∧ (ncv r x = (-3 : Int32) ↔ r = 2) := by
  have : r = 1 ∨ r = 2 := by omega
  unfold ncv
  rcases this with z | z <;> rw [z]
  · rw [if_pos rfl]; exact ⟨by decide, by decide⟩
  · rw [if_neg (by decide), if_pos rfl]; exact ⟨by decide, by decide⟩
theorem M_day {m n nm k D p d U V : Nat} {rr nx : Nat → Nat → Nat} {w : Nat → Nat} {h : HP} {Q : Int64 × HP → Prop} (ht : TAB m n nm rr nx h) (hw : ∀ s, s < n → w s < 2 ^ 32 ∧ hp_l h (m + 38) s = lN (w s)) (hk : k < 2) (hd : d < D) (hD : D ≤ 12) : pw (f_M_said_112b m (nI D) (nI k) (nI p) (lN V) (lN U) (nI d) h) (xx_L2 (fun t => t.1 = lN (V * nm) ∧ t.2.1 = lN (U * nm + alU rr nm k w n) ∧ t.2.2.1 = nI (d + 1) ∧ hp_fr (S_sd m) h t.2.2.2 ∧ ∀ s, s < n → hp_l t.2.2.2 (m + 38) s = lN (alN rr nx nm w s n)) Q) := by
  obtain ⟨hm, a2, a3, a4, a5, a6, a7, a8⟩ := id ht
  unfold f_M_said_112b
  rw [if_neg (nI_ge hd (by omega)), a4, nI_l (by omega), lN_mul, lN_mul, xx_lE, xx_lE]
  -- the copy
  have cpy : ∀ g, hp_fr (fun a _ => a = m + 39) h g → (∀ t, t < n → hp_l g (m + 39) t = lN (alN rr nx nm w t n)) → pw (f_M_said_279 m (nI D) (nI k) (nI p) (lN (V * nm)) (lN (U * nm + alU rr nm k w n)) (nI d) g) (xx_L2 (fun t => t.1 = lN (V * nm) ∧ t.2.1 = lN (U * nm + alU rr nm k w n) ∧ t.2.2.1 = nI (d + 1) ∧ hp_fr (S_sd m) h t.2.2.2 ∧ ∀ s, s < n → hp_l t.2.2.2 (m + 38) s = lN (alN rr nx nm w s n)) Q) := by
    intro g H gx
    unfold f_M_said_279 f_M_said_282
    refine pw_cnt n (fun e t => t.1 = nI e ∧ hp_fr (fun a _ => a = m + 38) g t.2 ∧ ∀ u, u < e → hp_l t.2 (m + 38) u = lN (alN rr nx nm w u n)) ?_ ?_ 0 (0, g) (by omega) ⟨rfl, hp_fr_rf g, fun u hu => absurd hu (Nat.not_lt_zero _)⟩
    · rintro e ⟨_, g2⟩ he ⟨rfl, H2, g1⟩
      dsimp only at H2 g1 ⊢
      have htg := TAB_fr H2 (by omega) (TAB_fr H (by omega) ht)
      have hm := htg.1
      have e1 : hp_l g2 (m + 39) e = lN (alN rr nx nm w e n) := by rw [hf_l H2 (by omega)]; exact gx e he
      unfold f_M_said_282b
      rw [htg.2.2.2.2.1, if_neg (nI_ge he (by omega)), mb_76 hm, mb_77 hm, mn_39 hm, if_pos (hp_in_nI (by omega) (by omega)), mn_38 hm, if_pos (hp_in_nI (by omega) (by omega)), nI_clamp (by omega), e1, xx_lE, xx_lE]
      refine pw_L rfl ⟨nI_1 e, hf_sl H2 rfl, fun u hu => ?_⟩
      rw [hp_l_sl]
      by_cases z : u = e
      · rw [if_pos ⟨rfl, z⟩, z]
      · rw [if_neg (fun w => z w.2)]; exact g1 u (by omega)
    · rintro ⟨_, g2⟩ ⟨rfl, H2, g1⟩
      dsimp only at H2 g1 ⊢
      have htg := TAB_fr H2 (by omega) (TAB_fr H (by omega) ht)
      refine pw_R (t := (Sum.inl (lN (V * nm), lN (U * nm + alU rr nm k w n), nI (d + 1), g2) : (Int64 × Int64 × Int32 × HP) ⊕ (Int64 × HP))) ?_ ⟨rfl, rfl, rfl, hp_fr_tr (hp_fr_mo H (by unfold S_sd; omega)) (hp_fr_mo H2 (by unfold S_sd; omega)), g1⟩
      unfold f_M_said_282b f_M_said_311
      rw [htg.2.2.2.2.1, if_pos (nI_le (Nat.le_refl _) (by omega)), xx_lE, nI_1]; rfl
  -- the leads
  have led : ∀ g, hp_fr (fun a _ => a = m + 39) h g → (∀ t, t < n → hp_l g (m + 39) t = 0) → pw (f_M_said_164 m (nI D) (nI k) (nI p) (lN (V * nm)) (lN (U * nm)) (nI d) g) (xx_L2 (fun t => t.1 = lN (V * nm) ∧ t.2.1 = lN (U * nm + alU rr nm k w n) ∧ t.2.2.1 = nI (d + 1) ∧ hp_fr (S_sd m) h t.2.2.2 ∧ ∀ s, s < n → hp_l t.2.2.2 (m + 38) s = lN (alN rr nx nm w s n)) Q) := by
    intro g H gx
    unfold f_M_said_164 f_M_said_167
    refine pw_cnt n (fun s t => t.1 = lN (U * nm + alU rr nm k w s) ∧ t.2.1 = nI s ∧ hp_fr (fun a _ => a = m + 39) h t.2.2 ∧ ∀ u, u < n → hp_l t.2.2 (m + 39) u = lN (alN rr nx nm w u s)) ?_ ?_ 0 (lN (U * nm), 0, g) (by omega) ⟨rfl, rfl, H, gx⟩
    · rintro s ⟨_, _, g2⟩ hs ⟨rfl, rfl, H2, g1⟩
      dsimp only at H2 g1 ⊢
      have ht2 := TAB_fr H2 (by omega) ht
      obtain ⟨ws, we⟩ := hw s hs
      unfold f_M_said_167b f_M_said_179
      rw [ht2.2.2.2.2.1, if_neg (nI_ge hs (by omega))]
      have eU : alU rr nm k w (s + 1) = alU rr nm k w s + rwU rr k w s nm := rfl
      have eN : ∀ u, alN rr nx nm w u (s + 1) = alN rr nx nm w u s + rwN rr nx w s u nm := fun u => rfl
      have out : ∀ g3 i, i ≤ nm → (i = nm ∨ w s = 0) → hp_fr (fun a _ => a = m + 39) h g3 → (∀ u, u < n → hp_l g3 (m + 39) u = lN (alN rr nx nm w u s + rwN rr nx w s u i)) → ∀ {I : Int64 × Int32 × HP → Prop}, pw ((f_M_said_273 m (nI D) (nI k) (nI p) (lN (V * nm)) (lN (U * nm + alU rr nm k w s + rwU rr k w s i)) (nI d) (nI s) g3).map Sum.inr) (xx_L2 I (xx_L2 (fun t : Int64 × Int32 × HP => t.1 = lN (U * nm + alU rr nm k w (s + 1)) ∧ t.2.1 = nI (s + 1) ∧ hp_fr (fun a _ => a = m + 39) h t.2.2 ∧ ∀ u, u < n → hp_l t.2.2 (m + 39) u = lN (alN rr nx nm w u (s + 1))) (xx_L2 (fun t => t.1 = lN (V * nm) ∧ t.2.1 = lN (U * nm + alU rr nm k w n) ∧ t.2.2.1 = nI (d + 1) ∧ hp_fr (S_sd m) h t.2.2.2 ∧ ∀ s, s < n → hp_l t.2.2.2 (m + 38) s = lN (alN rr nx nm w s n)) Q))) := by
        intro g3 i hi hc H3 x3 I
        have e0 : rwU rr k w s i = rwU rr k w s nm ∧ ∀ u, rwN rr nx w s u i = rwN rr nx w s u nm := by
          rcases hc with z | z
          · rw [z]; exact ⟨rfl, fun _ => rfl⟩
          · exact ⟨by rw [(rw_0 (nx := nx) z k 0 i).1, (rw_0 (nx := nx) z k 0 nm).1], fun u => by rw [(rw_0 (rr := rr) z k u i).2, (rw_0 (rr := rr) z k u nm).2]⟩
        unfold f_M_said_273
        rw [xx_lE, e0.1]
        refine pw_mapR (pw_L rfl ⟨?_, nI_1 s, H3, fun u hu => ?_⟩)
        · rw [eU, Nat.add_assoc]
        · rw [x3 u hu, eN, e0.2 u]
      refine pw_cnt nm (fun i t => t.1 = lN (U * nm + alU rr nm k w s + rwU rr k w s i) ∧ t.2.1 = nI i ∧ hp_fr (fun a _ => a = m + 39) h t.2.2 ∧ ∀ u, u < n → hp_l t.2.2 (m + 39) u = lN (alN rr nx nm w u s + rwN rr nx w s u i)) ?_ ?_ 0 (lN (U * nm + alU rr nm k w s), 0, g2) (by omega) ⟨rfl, rfl, H2, g1⟩
      · rintro i ⟨_, _, g3⟩ hi ⟨rfl, rfl, H3, x3⟩
        dsimp only at H3 x3 ⊢
        have ht3 := TAB_fr H3 (by omega) ht
        obtain ⟨hm, _, _, a4, a5, _, _, a8⟩ := id ht3
        have e38 : hp_l g3 (m + 38) s = lN (w s) := by rw [hf_l H3 (by omega)]; exact we
        unfold f_M_said_179b
        rw [a4, if_neg (nI_ge hi (by omega)), mb_76 hm, mn_38 hm, if_pos (hp_in_nI (by omega) (by omega)), nI_clamp (by omega), e38]
        by_cases hz : w s = 0
        · rw [if_pos ((lN_le0 (by omega)).mpr hz)]
          exact out g3 i (by omega) (.inr hz) H3 x3
        · rw [if_neg (fun z => hz ((lN_le0 (by omega)).mp z)), mb_64 hm, show (6 : Int32) = nI 6 from rfl, pk_mul, nI_add, mn_29 hm, if_pos (hp_in_nI (by omega) (by omega)), nI_clamp (by omega), a8 s i hs hi, xx_lE]
          have hr3 := a6 s i hs hi
          have sU : rwU rr k w s (i + 1) = rwU rr k w s i + (if sdn k (rr s i) then w s else 0) := rfl
          have sN : ∀ u, rwN rr nx w s u (i + 1) = rwN rr nx w s u i + (if rr s i = 0 ∧ nx s i = u then w s else 0) := fun u => rfl
          by_cases h0 : rr s i = 0
          · have hxn := a7 s i hs hi h0
            obtain ⟨x, hx⟩ : ∃ x, nx s i = x := ⟨_, rfl⟩
            rw [hx] at hxn sN
            rw [h0, ncv_0, hx, if_neg (nI_pos (by omega)), mb_77 hm, mn_39 hm, if_pos (hp_in_nI (by omega) (by omega)), mb_76 hm, mn_38 hm, if_pos (hp_in_nI (by omega) (by omega)), if_pos (hp_in_nI (by omega) (by omega)), nI_clamp (by omega), e38, x3 x hxn, lN_add, xx_lE]
            unfold f_M_said_267
            rw [xx_lE]
            refine pw_L rfl ⟨?_, nI_1 i, hf_sl H3 rfl, fun u hu => ?_⟩
            · rw [sU, if_neg (fun z => z.1 h0)]; rfl
            · rw [hp_l_sl, sN]
              by_cases z : u = x
              · rw [if_pos ⟨rfl, z⟩, if_pos ⟨h0, z.symm⟩, z, Nat.add_assoc]
              · rw [if_neg (fun y => z y.2), if_neg (fun y => z y.2.symm), Nat.add_zero]; exact x3 u hu
          · obtain ⟨n1, n2⟩ := ncv_23 (x := nx s i) hr3 h0
            rw [if_pos n1]
            have hgo : ∀ c, c = (if sdn k (rr s i) then w s else 0) → pw (f_M_said_264 m (nI D) (nI k) (nI p) (lN (V * nm)) (nI d) (nI s) (nI i) (lN c) (lN (U * nm + alU rr nm k w s + rwU rr k w s i)) g3) (xx_L2 (fun t : Int64 × Int32 × HP => t.1 = lN (U * nm + alU rr nm k w s + rwU rr k w s (i + 1)) ∧ t.2.1 = nI (i + 1) ∧ hp_fr (fun a _ => a = m + 39) h t.2.2 ∧ ∀ u, u < n → hp_l t.2.2 (m + 39) u = lN (alN rr nx nm w u s + rwN rr nx w s u (i + 1))) (xx_L2 (fun t : Int64 × Int32 × HP => t.1 = lN (U * nm + alU rr nm k w (s + 1)) ∧ t.2.1 = nI (s + 1) ∧ hp_fr (fun a _ => a = m + 39) h t.2.2 ∧ ∀ u, u < n → hp_l t.2.2 (m + 39) u = lN (alN rr nx nm w u (s + 1))) (xx_L2 (fun t => t.1 = lN (V * nm) ∧ t.2.1 = lN (U * nm + alU rr nm k w n) ∧ t.2.2.1 = nI (d + 1) ∧ hp_fr (S_sd m) h t.2.2.2 ∧ ∀ s, s < n → hp_l t.2.2.2 (m + 38) s = lN (alN rr nx nm w s n)) Q))) := by
              intro c hc
              unfold f_M_said_264 f_M_said_267
              rw [lN_add, xx_lE, xx_lE]
              refine pw_L rfl ⟨?_, nI_1 i, H3, fun u hu => ?_⟩
              · rw [sU, hc, Nat.add_assoc]
              · rw [sN, if_neg (fun y => h0 y.1), Nat.add_zero]; exact x3 u hu
            have h253 : sdn k (rr s i) → pw (f_M_said_253 m (nI D) (nI k) (nI p) (lN (V * nm)) (nI d) (nI s) (nI i) (lN (U * nm + alU rr nm k w s + rwU rr k w s i)) g3) _ := fun hsd => by
              unfold f_M_said_253
              rw [mb_76 hm, mn_38 hm, if_pos (hp_in_nI (by omega) (by omega)), nI_clamp (by omega), e38]
              exact hgo (w s) (by rw [if_pos hsd])
            by_cases hk0 : k = 0
            · rw [hk0, if_pos (show nI 0 = (0 : Int32) from rfl)]
              rw [hk0] at h253
              exact h253 ⟨h0, .inl rfl⟩
            · rw [if_neg (nI_ne0 (by omega) (by omega))]
              by_cases h2 : rr s i = 2
              · rw [if_pos (n2.mpr h2)]
                exact h253 ⟨h0, .inr h2⟩
              · rw [if_neg (fun z => h2 (n2.mp z))]
                exact hgo 0 (by rw [if_neg (fun z => z.2.elim hk0 h2)])
      · rintro ⟨_, _, g3⟩ ⟨rfl, rfl, H3, x3⟩
        dsimp only at H3 x3 ⊢
        have ht3 := TAB_fr H3 (by omega) ht
        unfold f_M_said_179b
        rw [ht3.2.2.2.1, if_pos (nI_le (Nat.le_refl _) (by omega))]
        exact out g3 nm (Nat.le_refl _) (.inl rfl) H3 x3
    · rintro ⟨_, _, g2⟩ ⟨rfl, rfl, H2, g1⟩
      dsimp only at H2 g1 ⊢
      have ht2 := TAB_fr H2 (by omega) ht
      unfold f_M_said_167b
      rw [ht2.2.2.2.2.1, if_pos (nI_le (Nat.le_refl _) (by omega))]
      exact pw_mapR (cpy g2 H2 g1)
  unfold f_M_said_141
  refine pw_cnt n (fun e t => t.1 = nI e ∧ hp_fr (fun a _ => a = m + 39) h t.2 ∧ ∀ u, u < e → hp_l t.2 (m + 39) u = 0) ?_ ?_ 0 (0, h) (by omega) ⟨rfl, hp_fr_rf h, fun u hu => absurd hu (Nat.not_lt_zero _)⟩
  · rintro e ⟨_, g⟩ he ⟨rfl, H, g0⟩
    dsimp only at H g0 ⊢
    have htg := TAB_fr H (by omega) ht
    have hm := htg.1
    unfold f_M_said_141b
    rw [htg.2.2.2.2.1, if_neg (nI_ge he (by omega)), mb_77 hm, mn_39 hm, if_pos (hp_in_nI (by omega) (by omega)), nI_clamp (by omega), xx_lE, xx_lE]
    refine pw_L rfl ⟨nI_1 e, hf_sl H rfl, fun u hu => ?_⟩
    rw [hp_l_sl]
    by_cases z : u = e
    · rw [if_pos ⟨rfl, z⟩]
    · rw [if_neg (fun w => z w.2)]; exact g0 u (by omega)
  · rintro ⟨_, g⟩ ⟨rfl, H, g0⟩
    dsimp only at H g0 ⊢
    have htg := TAB_fr H (by omega) ht
    unfold f_M_said_141b
    rw [htg.2.2.2.2.1, if_pos (nI_le (Nat.le_refl _) (by omega))]
    exact pw_mapR (led g H g0)
/-- what both answer: the part of the ways on which it is said -/
def sdv (rr nx : Nat → Nat → Nat) (nm n s0 D k p : Nat) : Nat := (if p = 0 then usd rr nx nm n s0 k D else nm ^ D) / Nat.gcd (nm ^ D) (usd rr nx nm n s0 k D)
theorem M_said69 {P : PT} {m n l D k p : Nat} {rr nx : Nat → Nat → Nat} {h : HP} (ok : POK P) (hP : PM P m h) (ht : TAB m n (p_nm P) rr nx h) (hn0 : p_nm P ≠ 0) (hl : l ≤ al P) (hs0 : sx P l < n) (hD : D ≤ 12) (hk : k < 2) (hp : p < 2) : pw (f_M_said_69 m (nI l) (nI D) (nI k) (nI p) 0 h) (fun r => r.1 = lN (sdv rr nx (p_nm P) n (sx P l) D k p) ∧ hp_fr (S_sd m) h r.2) := by
  obtain ⟨hm, a2, a3, a4, a5, a6, a7, a8⟩ := id ht
  unfold f_M_said_69
  refine pw_cnt n (fun e t => t.1 = nI e ∧ hp_fr (S_sd m) h t.2 ∧ ∀ u, u < e → hp_l t.2 (m + 38) u = 0) ?_ ?_ 0 (0, h) (by omega) ⟨rfl, hp_fr_rf h, fun u hu => absurd hu (Nat.not_lt_zero _)⟩
  · rintro e ⟨_, g⟩ he ⟨rfl, H, g0⟩
    dsimp only at H g0 ⊢
    have htg := TAB_fr H (by unfold S_sd; omega) ht
    have hm := htg.1
    unfold f_M_said_69b
    rw [htg.2.2.2.2.1, if_neg (nI_ge he (by omega)), mb_76 hm, mn_38 hm, if_pos (hp_in_nI (by omega) (by omega)), nI_clamp (by omega), xx_lE, xx_lE]
    refine pw_L rfl ⟨nI_1 e, hf_sl H (.inl rfl), fun u hu => ?_⟩
    rw [hp_l_sl]
    by_cases z : u = e
    · rw [if_pos ⟨rfl, z⟩]
    · rw [if_neg (fun w => z w.2)]; exact g0 u (by omega)
  · rintro ⟨_, g⟩ ⟨rfl, H, g0⟩
    dsimp only at H g0 ⊢
    have htg := TAB_fr H (by unfold S_sd; omega) ht
    have hm := htg.1
    have hPg : PM P m g := PM_ag (fun a k hk => hf_i H (by unfold F_PM at hk; unfold S_sd; omega)) hP
    unfold f_M_said_69b f_M_said_92
    rw [htg.2.2.2.2.1, if_pos (nI_le (Nat.le_refl _) (by omega)), mb_76 hm, bn_o (M_startNumber ok hPg (by omega))]
    dsimp only
    rw [mn_38 hm, if_pos (hp_in_nI (by omega) (by omega)), nI_clamp (by omega), xx_lE]
    refine pw_mapR ?_
    unfold f_M_said_112
    refine pw_cnt D (fun d t => t.1 = lN (p_nm P ^ d) ∧ t.2.1 = lN (usd rr nx (p_nm P) n (sx P l) k d) ∧ t.2.2.1 = nI d ∧ hp_fr (S_sd m) h t.2.2.2 ∧ ∀ s, s < n → hp_l t.2.2.2 (m + 38) s = lN (wdy rr nx (p_nm P) n (sx P l) d s)) ?_ ?_ 0 _ (by omega) ⟨rfl, rfl, rfl, hf_sl H (.inl rfl), fun s hs => ?_⟩
    · rintro d ⟨_, _, _, g2⟩ hd ⟨rfl, rfl, rfl, H2, g1⟩
      dsimp only at H2 g1 ⊢
      refine pw_mono (M_day (Q := fun _ => False) (TAB_fr H2 (by unfold S_sd; omega) ht) (fun s hs => ⟨day_b a7 hs0 a3 (by omega) hs, g1 s hs⟩) hk hd hD) ?_
      intro x hx
      match x, hx with
      | .inl t, ⟨e1, e2, e3, e4, e5⟩ => exact ⟨by rw [e1, ← Nat.pow_succ], e2, e3, hp_fr_tr H2 e4, e5⟩
      | .inr t, hx => exact hx.elim
    · rintro ⟨_, _, _, g2⟩ ⟨rfl, rfl, rfl, H2, g1⟩
      dsimp only at H2 g1 ⊢
      have hu := usd_b (k := k) a7 hs0 a3 hD
      have hv := pow6 a3 hD
      have hv0 : 0 < p_nm P ^ D := Nat.pow_pos (by omega)
      refine pw_R (t := (lN (sdv rr nx (p_nm P) n (sx P l) D k p), g2)) ?_ ⟨rfl, H2⟩
      unfold f_M_said_112b f_M_said_317
      rw [if_pos (nI_le (Nat.le_refl _) (by omega)), bn_o (M_part (by omega) hv0 (by omega) hp)]; rfl
    · rw [hp_l_sl]
      show _ = lN (if s = sx P l then 1 else 0)
      by_cases z : s = sx P l
      · rw [if_pos ⟨rfl, z⟩, if_pos z]; rfl
      · rw [if_neg (fun w => z w.2), if_neg z]; exact g0 s hs
