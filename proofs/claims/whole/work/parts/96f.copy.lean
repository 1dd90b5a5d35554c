/-! the reference takes the new plan over -/
theorem Cp_men {K : TKS} {m F : Nat} {P : PT} {cn nk : Nat → Nat} {h : HP} {Q : Int32 × HP → Prop} (hv : VAL K P cn nk F) (hs : MS m h) (hm : MSC K m P cn nk F h) (e32 : hp_i h m 32 = nI (p_nr P)) (e33 : hp_i h m 33 = nI 0)
    (hQ : ∀ g, hp_fr (fun a k => a = m ∧ k = 33 ∨ a = m + 6 ∨ a = m + 7) h g → hp_i g m 33 = nI (p_nm P) → (∀ i, i < p_nm P → hp_i g (m + 6) i = nI (p_ro P i) ∧ hp_i g (m + 7) i = nI (p_hf P (p_ro P i))) → pw (f_M_plan_242 m g) Q) : pw (f_M_plan_175 m (0 : Int32) h) Q := by
  obtain ⟨okp, v2, v3, v4, _⟩ := hv
  have hnr := okp.2.2.2.2.1
  have hnm := okp.2.2.2.2.2.1
  obtain ⟨a1, a2, a3, a4, a5, a6, a7, a8, a9, a10, a11, a12, _⟩ := hm
  have mono : ∀ q, q ≤ p_nr P → fb_sm cn q ≤ p_nm P := fun q hq => by
    have := fb_sm_mono cn q (p_nr P - q)
    rw [show q + (p_nr P - q) = p_nr P by omega, ← v3] at this
    exact this
  unfold f_M_plan_175
  refine pw_cnt (p_nr P) (fun q t => t.1 = nI q ∧ hp_fr (fun a k => a = m ∧ k = 33 ∨ a = m + 6 ∨ a = m + 7) h t.2 ∧ hp_i t.2 m 33 = nI (fb_sm cn q) ∧ ∀ i, i < fb_sm cn q → hp_i t.2 (m + 6) i = nI (p_ro P i) ∧ hp_i t.2 (m + 7) i = nI (p_hf P (p_ro P i))) ?_ ?_ 0 (0, h) (by omega) ⟨rfl, hp_fr_rf h, e33, fun i hi => absurd hi (Nat.not_lt_zero _)⟩
  · rintro q ⟨_, g⟩ hq ⟨rfl, H, g33, gm⟩
    dsimp only at H g33 gm ⊢
    have hsg := MS_fr H hs
    have es : fb_sm cn (q + 1) = fb_sm cn q + cn q := rfl
    have hb := mono (q + 1) (by omega)
    unfold f_M_plan_175b f_M_plan_185
    rw [hf_i H (by omega), e32, if_neg (nI_ge hq (by omega))]
    refine pw_cnt (cn q) (fun i t => t.1 = nI i ∧ hp_fr (fun a k => a = m ∧ k = 33 ∨ a = m + 6 ∨ a = m + 7) h t.2 ∧ hp_i t.2 m 33 = nI (fb_sm cn q + i) ∧ ∀ j, j < fb_sm cn q + i → hp_i t.2 (m + 6) j = nI (p_ro P j) ∧ hp_i t.2 (m + 7) j = nI (p_hf P (p_ro P j))) ?_ ?_ 0 (0, g) (by omega) ⟨rfl, H, g33, gm⟩
    · rintro i ⟨_, g⟩ hi ⟨rfl, H, g33, gm⟩
      dsimp only at H g33 gm ⊢
      have hsg := MS_fr H hs
      have ero : p_ro P (fb_sm cn q + i) = q := v4 q _ hq (by omega) (by omega)
      unfold f_M_plan_185b
      rw [mb_11 hsg, mn_3 hsg, if_pos (hp_in_nI (by omega) (by omega)), nI_clamp (by omega), hf_i H (by omega), a11 q hq, if_neg (nI_ge hi (by omega)), mb_14 hsg, g33, mn_6 hsg, if_pos (hp_in_nI (by omega) (by omega)), nI_clamp (by omega), xx_lE]
      obtain ⟨g1, hg1⟩ : ∃ g1, hp_si g (m + 6) (fb_sm cn q + i) (nI q) = g1 := ⟨_, rfl⟩
      rw [hg1]
      have H1 : hp_fr (fun a k => a = m ∧ k = 33 ∨ a = m + 6 ∨ a = m + 7) h g1 := by rw [← hg1]; exact hf_si H (by omega)
      have hs1 := MS_fr H1 hs
      have f33 : hp_i g1 m 33 = nI (fb_sm cn q + i) := by rw [← hg1, hp_i_si, if_neg (by omega)]; exact g33
      rw [mb_15 hs1, mb_12 hs1, mn_4 hs1, if_pos (hp_in_nI (by omega) (by omega)), f33, mn_7 hs1, if_pos (hp_in_nI (by omega) (by omega)), nI_clamp (by omega), hf_i H1 (by omega), a12 q hq]
      simp only [xx_lE]
      have k33 : hp_i (hp_si g1 (m + 7) (fb_sm cn q + i) (nI (p_hf P q))) m 33 = nI (fb_sm cn q + i) := by rw [hp_i_si, if_neg (by omega)]; exact f33
      rw [k33, nI_1, nI_1]
      refine pw_L rfl ⟨rfl, hf_si (hf_si H1 (by omega)) (by omega), by rw [hp_i_si, if_pos ⟨rfl, rfl⟩]; rfl, fun j hj => ?_⟩
      dsimp only
      by_cases z : j = fb_sm cn q + i
      · refine ⟨?_, ?_⟩
        · rw [hp_i_si, if_neg (by omega), hp_i_si, if_neg (by omega), ← hg1, hp_i_si, if_pos ⟨rfl, z⟩, z, ero]
        · rw [hp_i_si, if_neg (by omega), hp_i_si, if_pos ⟨rfl, z⟩, z, ero]
      · refine ⟨?_, ?_⟩
        · rw [hp_i_si, if_neg (by omega), hp_i_si, if_neg (by omega), ← hg1, hp_i_si, if_neg (fun y => z y.2)]; exact (gm j (by omega)).1
        · rw [hp_i_si, if_neg (by omega), hp_i_si, if_neg (fun y => z y.2), ← hg1, hp_i_si, if_neg (by omega)]; exact (gm j (by omega)).2
    · rintro ⟨_, g⟩ ⟨rfl, H, g33, gm⟩
      dsimp only at H g33 gm ⊢
      have hsg := MS_fr H hs
      unfold f_M_plan_185b f_M_plan_236
      rw [mb_11 hsg, mn_3 hsg, if_pos (hp_in_nI (by omega) (by omega)), nI_clamp (by omega), hf_i H (by omega), a11 q hq, if_pos (nI_le (Nat.le_refl _) (by omega)), xx_lE, nI_1]
      exact pw_mapR (pw_L rfl ⟨rfl, H, by rw [es]; exact g33, by rw [es]; exact gm⟩)
  · rintro ⟨_, g⟩ ⟨rfl, H, g33, gm⟩
    dsimp only at H g33 gm ⊢
    rw [← v3] at g33 gm
    unfold f_M_plan_175b
    rw [hf_i H (by omega), e32, if_pos (nI_le (Nat.le_refl _) (by omega))]
    exact pw_mapR (hQ g H g33 gm)
theorem Cp_code {K : TKS} {m F : Nat} {P : PT} {cn nk : Nat → Nat} {h : HP} {Q : Int32 × HP → Prop} (hv : VAL K P cn nk F) (hs : MS m h) (hm : MSC K m P cn nk F h)
    (hQ : ∀ g, hp_fr (fun a k => a = m ∧ (k = 34 ∨ k = 35) ∨ a = m + 15 ∨ a = m + 16) h g → hp_i g m 34 = nI (p_nu P) → hp_i g m 35 = nI (p_un P) → (∀ i, i < p_bd P (3 * p_nu P) → hp_i g (m + 15) i = nI (p_fw P i) ∧ hp_i g (m + 16) i = nI (p_fn P i)) → pw (f_M_plan_298 m g) Q) : pw (f_M_plan_242 m h) Q := by
  have hbd := hv.1.2.2.2.2.2.2.2.2.2.2.2.2.2.1 (3 * p_nu P) (Nat.le_refl _)
  obtain ⟨a1, a2, a3, a4, a5, a6, a7, a8, a9, a10, a11, a12, a13, a14, a15, a16, _⟩ := hm
  unfold f_M_plan_242
  simp only [xx_lE]
  have e27 : hp_i (hp_si h m 34 (hp_i h m 26)) m 27 = nI (p_un P) := by rw [hp_i_si, if_neg (by omega)]; exact a8
  rw [e27, a7]
  obtain ⟨h1, hh1⟩ : ∃ h1, hp_si (hp_si h m 34 (nI (p_nu P))) m 35 (nI (p_un P)) = h1 := ⟨_, rfl⟩
  rw [hh1]
  have H1 : hp_fr (fun a k => a = m ∧ (k = 34 ∨ k = 35) ∨ a = m + 15 ∨ a = m + 16) h h1 := by rw [← hh1]; exact hf_si (hf_si (hp_fr_rf h) (by omega)) (by omega)
  have f34 : hp_i h1 m 34 = nI (p_nu P) := by rw [← hh1, hp_i_si, if_neg (by omega), hp_i_si, if_pos ⟨rfl, rfl⟩]
  have f35 : hp_i h1 m 35 = nI (p_un P) := by rw [← hh1, hp_i_si, if_pos ⟨rfl, rfl⟩]
  unfold f_M_plan_260
  refine pw_cnt (p_bd P (3 * p_nu P)) (fun i t => t.1 = nI i ∧ hp_fr (fun a k => a = m ∧ (k = 34 ∨ k = 35) ∨ a = m + 15 ∨ a = m + 16) h t.2 ∧ hp_i t.2 m 34 = nI (p_nu P) ∧ hp_i t.2 m 35 = nI (p_un P) ∧ ∀ j, j < i → hp_i t.2 (m + 15) j = nI (p_fw P j) ∧ hp_i t.2 (m + 16) j = nI (p_fn P j)) ?_ ?_ 0 (0, h1) (by omega) ⟨rfl, H1, f34, f35, fun j hj => absurd hj (Nat.not_lt_zero _)⟩
  · rintro i ⟨_, g⟩ hi ⟨rfl, H, g34, g35, gm⟩
    dsimp only at H g34 g35 gm ⊢
    have hsg := MS_fr H hs
    unfold f_M_plan_260b
    rw [hf_i H (by omega), a9, if_neg (nI_ge hi (by omega)), mb_39 hsg, mb_36 hsg, mn_12 hsg, if_pos (hp_in_nI (by omega) (by omega)), mn_15 hsg, if_pos (hp_in_nI (by omega) (by omega)), nI_clamp (by omega), hf_i H (by omega), (a16 i hi).1, xx_lE]
    obtain ⟨g1, hg1⟩ : ∃ g1, hp_si g (m + 15) i (nI (p_fw P i)) = g1 := ⟨_, rfl⟩
    rw [hg1]
    have H1 : hp_fr (fun a k => a = m ∧ (k = 34 ∨ k = 35) ∨ a = m + 15 ∨ a = m + 16) h g1 := by rw [← hg1]; exact hf_si H (by omega)
    have hs1 := MS_fr H1 hs
    rw [mb_40 hs1, mb_37 hs1, mn_13 hs1, if_pos (hp_in_nI (by omega) (by omega)), mn_16 hs1, if_pos (hp_in_nI (by omega) (by omega)), hf_i H1 (by omega), (a16 i hi).2]
    simp only [xx_lE]
    rw [nI_1]
    refine pw_L rfl ⟨rfl, hf_si H1 (by omega), ?_, ?_, fun j hj => ?_⟩
    · dsimp only
      rw [hp_i_si, if_neg (by omega), ← hg1, hp_i_si, if_neg (by omega)]; exact g34
    · dsimp only
      rw [hp_i_si, if_neg (by omega), ← hg1, hp_i_si, if_neg (by omega)]; exact g35
    · dsimp only
      rw [hp_i_si, if_neg (by omega), hp_i_si, ← hg1, hp_i_si, hp_i_si, if_neg (show ¬ (m + 16 = m + 15 ∧ j = i) by omega)]
      by_cases z : j = i
      · rw [if_pos ⟨rfl, z⟩, if_pos ⟨rfl, z⟩, z]; exact ⟨rfl, rfl⟩
      · rw [if_neg (fun y => z y.2), if_neg (fun y => z y.2)]; exact gm j (by omega)
  · rintro ⟨_, g⟩ ⟨rfl, H, g34, g35, gm⟩
    dsimp only at H g34 g35 gm ⊢
    unfold f_M_plan_260b
    rw [hf_i H (by omega), a9, if_pos (nI_le (Nat.le_refl _) (by omega))]
    exact pw_mapR (hQ g H g34 g35 gm)
theorem Cp_rules {K : TKS} {m F : Nat} {P : PT} {cn nk : Nat → Nat} {h : HP} {Q : Int32 × HP → Prop} (hv : VAL K P cn nk F) (hs : MS m h) (hm : MSC K m P cn nk F h) (e34 : hp_i h m 34 = nI (p_nu P))
    (hQ : ∀ g, hp_fr (fun a k => a = m + 8 ∨ a = m + 10 ∨ a = m + 17) h g → (∀ i, i < p_nu P → hp_i g (m + 8) i = nI (p_rr P i) ∧ hp_i g (m + 10) i = nI (p_rs P i)) → (∀ i, i ≤ 3 * p_nu P → 0 < p_nu P → hp_i g (m + 17) i = nI (p_bd P i)) → pw (f_M_plan_371 m g) Q) : pw (f_M_plan_298 m h) Q := by
  have hnu := hv.1.2.2.2.2.2.2.1
  have hrs := hv.1.2.2.2.2.2.2.2.2.2.2.1
  obtain ⟨a1, a2, a3, a4, a5, a6, a7, a8, a9, a10, a11, a12, a13, a14, a15, a16, _⟩ := hm
  unfold f_M_plan_298 f_M_plan_300
  refine pw_cnt (p_nu P) (fun q t => t.1 = nI q ∧ hp_fr (fun a k => a = m + 8 ∨ a = m + 10 ∨ a = m + 17) h t.2 ∧ (∀ i, i < q → hp_i t.2 (m + 8) i = nI (p_rr P i) ∧ hp_i t.2 (m + 10) i = nI (p_rs P i)) ∧ ∀ i, i ≤ 3 * q → 0 < q → hp_i t.2 (m + 17) i = nI (p_bd P i)) ?_ ?_ 0 (0, h) (by omega) ⟨rfl, hp_fr_rf h, fun i hi => absurd hi (Nat.not_lt_zero _), fun i _ hi => absurd hi (Nat.not_lt_zero _)⟩
  · rintro q ⟨_, g⟩ hq ⟨rfl, H, gr, gb⟩
    dsimp only at H gr gb ⊢
    have hsg := MS_fr H hs
    unfold f_M_plan_300b
    rw [hf_i H (by omega), e34, if_neg (nI_ge hq (by omega)), mb_16 hsg, mb_13 hsg, mn_5 hsg, if_pos (hp_in_nI (by omega) (by omega)), mn_8 hsg, if_pos (hp_in_nI (by omega) (by omega)), nI_clamp (by omega), hf_i H (by omega), a13 q hq, xx_lE]
    obtain ⟨g1, hg1⟩ : ∃ g1, hp_si g (m + 8) q (nI (p_rr P q)) = g1 := ⟨_, rfl⟩
    rw [hg1]
    have H1 : hp_fr (fun a k => a = m + 8 ∨ a = m + 10 ∨ a = m + 17) h g1 := by rw [← hg1]; exact hf_si H (by omega)
    have hs1 := MS_fr H1 hs
    rw [mb_18 hs1, mb_17 hs1, mn_9 hs1, if_pos (hp_in_nI (by omega) (by omega)), mn_10 hs1, if_pos (hp_in_nI (by omega) (by omega)), hf_i H1 (by omega), a14 q hq, nar_lt (hrs q hq).2, xx_lE]
    obtain ⟨g2, hg2⟩ : ∃ g2, hp_si g1 (m + 10) q (nI (p_rs P q)) = g2 := ⟨_, rfl⟩
    rw [hg2]
    have H2 : hp_fr (fun a k => a = m + 8 ∨ a = m + 10 ∨ a = m + 17) h g2 := by rw [← hg2]; exact hf_si H1 (by omega)
    have r2 : ∀ i, i < q + 1 → hp_i g2 (m + 8) i = nI (p_rr P i) ∧ hp_i g2 (m + 10) i = nI (p_rs P i) := fun i hi => by
      rw [← hg2, hp_i_si, if_neg (by omega), hp_i_si, ← hg1, hp_i_si, hp_i_si, if_neg (show ¬ (m + 10 = m + 8 ∧ i = q) by omega)]
      by_cases z : i = q
      · rw [if_pos ⟨rfl, z⟩, if_pos ⟨rfl, z⟩, z]; exact ⟨rfl, rfl⟩
      · rw [if_neg (fun y => z y.2), if_neg (fun y => z y.2)]; exact gr i (by omega)
    have b2 : ∀ i, i ≤ 3 * q → 0 < q → hp_i g2 (m + 17) i = nI (p_bd P i) := fun i h1 h2 => by
      rw [← hg2, hp_i_si, if_neg (by omega), ← hg1, hp_i_si, if_neg (by omega)]; exact gb i h1 h2
    unfold f_M_plan_334
    refine pw_cnt 4 (fun v t => t.1 = nI v ∧ hp_fr (fun a k => a = m + 8 ∨ a = m + 10 ∨ a = m + 17) h t.2 ∧ (∀ i, i < q + 1 → hp_i t.2 (m + 8) i = nI (p_rr P i) ∧ hp_i t.2 (m + 10) i = nI (p_rs P i)) ∧ (∀ i, i ≤ 3 * q → 0 < q → hp_i t.2 (m + 17) i = nI (p_bd P i)) ∧ ∀ i, 3 * q ≤ i → i < 3 * q + v → hp_i t.2 (m + 17) i = nI (p_bd P i)) ?_ ?_ 0 (0, g2) (by omega) ⟨rfl, H2, r2, b2, fun i h1 h2 => by omega⟩
    · rintro v ⟨_, g⟩ hvv ⟨rfl, H, gr, gb, gc⟩
      dsimp only at H gr gb gc ⊢
      have hsg := MS_fr H hs
      unfold f_M_plan_334b
      rw [if_neg (show ¬ (4 : Int32) ≤ nI v from nI_ge (b := 4) hvv (by decide)), mb_41 hsg, mb_38 hsg, show (3 : Int32) = nI 3 from rfl, pk_mul, nI_add, mn_14 hsg, if_pos (hp_in_nI (by omega) (by omega)), mn_17 hsg, if_pos (hp_in_nI (by omega) (by omega)), nI_clamp (by omega), hf_i H (by omega), a15 (3 * q + v) (by omega) (by omega), xx_lE, xx_lE, nI_1]
      refine pw_L rfl ⟨rfl, hf_si H (by omega), fun i hi => ?_, fun i h1 h2 => ?_, fun i h1 h2 => ?_⟩
      · dsimp only
        rw [hp_i_si, if_neg (by omega), hp_i_si, if_neg (by omega)]; exact gr i hi
      · dsimp only
        rw [hp_i_si]
        by_cases z : i = 3 * q + v
        · rw [if_pos ⟨rfl, z⟩, z]
        · rw [if_neg (fun y => z y.2)]; exact gb i h1 h2
      · dsimp only
        rw [hp_i_si]
        by_cases z : i = 3 * q + v
        · rw [if_pos ⟨rfl, z⟩, z]
        · rw [if_neg (fun y => z y.2)]; exact gc i h1 (by omega)
    · rintro ⟨_, g⟩ ⟨rfl, H, gr, gb, gc⟩
      dsimp only at H gr gb gc ⊢
      unfold f_M_plan_334b f_M_plan_365
      rw [if_pos (show (4 : Int32) ≤ nI 4 by decide), xx_lE, nI_1]
      refine pw_mapR (pw_L rfl ⟨rfl, H, gr, fun i h1 h2 => ?_⟩)
      by_cases z : i < 3 * q
      · exact gb i (by omega) (by omega)
      · exact gc i (by omega) (by omega)
  · rintro ⟨_, g⟩ ⟨rfl, H, gr, gb⟩
    dsimp only at H gr gb ⊢
    unfold f_M_plan_300b
    rw [hf_i H (by omega), e34, if_pos (nI_le (Nat.le_refl _) (by omega))]
    exact pw_mapR (hQ g H gr gb)
theorem Cp_end {m : Nat} {P : PT} {h : HP} (hs : MS m h) (ok : POK P) (hp : PM P m h) : pw (f_M_plan_371 m h) (fun q => q.1 = nI (p_nm P) ∧ hp_fr (fun a k => S_bw m a k ∨ a = m ∧ k = 85 ∨ a = m + 47) h q.2 ∧ CMM m (fs P 0) 0 0 (fun _ => 0) q.2 ∧ hp_i q.2 m 85 = nI 0 ∧ ∀ b, b < 3 → hp_i q.2 (m + 47) b = nI 0) := by
  unfold f_M_plan_371
  rw [xx_lE]
  unfold f_M_plan_378
  refine pw_cnt 3 (fun i t => t.1 = nI i ∧ hp_fr (fun a k => a = m ∧ k = 85 ∨ a = m + 47) h t.2 ∧ hp_i t.2 m 85 = nI 0 ∧ ∀ b, b < i → hp_i t.2 (m + 47) b = nI 0) ?_ ?_ 0 _ (by omega) ⟨rfl, hf_si (hp_fr_rf h) (by omega), by rw [hp_i_si, if_pos ⟨rfl, rfl⟩]; rfl, fun b hb => absurd hb (Nat.not_lt_zero _)⟩
  · rintro i ⟨_, g⟩ hi ⟨rfl, H, g85, gb⟩
    dsimp only at H g85 gb ⊢
    have hsg := MS_fr H hs
    unfold f_M_plan_378b
    rw [if_neg (show ¬ (3 : Int32) ≤ nI i from nI_ge (b := 3) hi (by decide)), mb_87 hsg, mn_47 hsg, if_pos (hp_in_nI (by omega) (by omega)), nI_clamp (by omega), show vp_nar .boolean (0 : Int32) = nI 0 from nar_lt (n := 0) (by decide), xx_lE, xx_lE, nI_1]
    refine pw_L rfl ⟨rfl, hf_si H (by omega), by dsimp only; rw [hp_i_si, if_neg (by omega)]; exact g85, fun b hb => ?_⟩
    dsimp only
    rw [hp_i_si]
    by_cases z : b = i
    · rw [if_pos ⟨rfl, z⟩]
    · rw [if_neg (fun y => z y.2)]; exact gb b (by omega)
  · rintro ⟨_, g⟩ ⟨rfl, H, g85, gb⟩
    dsimp only at H g85 gb ⊢
    have hsg := MS_fr H hs
    have hpg : PM P m g := PM_ag (fun a k hk => hf_i H (by unfold F_PM at hk; omega)) hp
    unfold f_M_plan_378b f_M_plan_396
    rw [if_pos (show (3 : Int32) ≤ nI 3 by decide), show (0 : Int32) = nI 0 from rfl]
    refine pw_mapR (pw_bind (pw_mono (M_beginWith hsg ok hpg (by decide)) ?_))
    rintro g2 ⟨H2, e1, e2, e3, e4⟩
    refine pw_some ⟨?_, hp_fr_tr (hp_fr_mo H (fun a k z => .inr z)) (hp_fr_mo H2 (fun a k z => .inl z)), ⟨e1, e2, e3, e4⟩, ?_, fun b hb => ?_⟩
    · dsimp only
      rw [hf_i H2 (by unfold S_bw; omega)]; exact hpg.2.2.2.2.2.1
    · rw [hf_i H2 (by unfold S_bw; omega)]; exact g85
    · rw [hf_i H2 (by unfold S_bw; omega)]; exact gb b hb
/-- at the end of the text, all of it -/
theorem M_copy {K : TKS} {ps : Nat → Nat} {m L F k : Nat} {T : Nat → Nat} {P : PT} {cn nk : Nat → Nat} {h : HP} (hv : VAL K P cn nk F) (hr : RSS K ps m L T P cn nk F k h) (h22 : t_k K k = 22) : pw (f_M_plan_98 m h) (fun q => q.1 = nI (p_nm P) ∧ hp_fr (fun a k => F_PM m a k ∨ S_bw m a k ∨ a = m ∧ k = 85 ∨ a = m + 47) h q.2 ∧ PM P m q.2 ∧ CMM m (fs P 0) 0 0 (fun _ => 0) q.2 ∧ hp_i q.2 m 85 = nI 0 ∧ ∀ b, b < 3 → hp_i q.2 (m + 47) b = nI 0) := by
  have ok := hv.1
  obtain ⟨r1, q⟩ := hr
  have hs := r1.1.1
  have h6 : hp_i h m 6 = 0 := by rw [r1.2.2.2.1, h22]; rfl
  unfold f_M_plan_98
  refine pw_go ?_
  unfold f_M_plan_98b f_M_plan_119
  rw [if_pos r1.2.1, if_pos h6]
  refine pw_mapR ?_
  rw [r1.2.1, if_pos (show (0 : Int32) ≤ 0 by decide)]
  obtain ⟨a1, a2, a3, a4, a5, _⟩ := id q
  simp only [xx_lE]
  have e21 : hp_i (hp_si h m 28 (hp_i h m 20)) m 21 = nI (p_cy P) := by rw [hp_i_si, if_neg (by omega)]; exact a2
  rw [e21]
  have e22 : ∀ v, hp_i (hp_si (hp_si h m 28 v) m 29 (nI (p_cy P))) m 22 = nI (p_fl P) := fun v => by rw [hp_i_si, if_neg (by omega), hp_i_si, if_neg (by omega)]; exact a3
  rw [e22]
  have e23 : ∀ v, hp_i (hp_si (hp_si (hp_si h m 28 v) m 29 (nI (p_cy P))) m 30 (nI (p_fl P))) m 23 = nI (p_st P) := fun v => by rw [hp_i_si, if_neg (by omega), hp_i_si, if_neg (by omega), hp_i_si, if_neg (by omega)]; exact a4
  rw [e23]
  have e24 : ∀ v, hp_i (hp_si (hp_si (hp_si (hp_si h m 28 v) m 29 (nI (p_cy P))) m 30 (nI (p_fl P))) m 31 (nI (p_st P))) m 24 = nI (p_nr P) := fun v => by rw [hp_i_si, if_neg (by omega), hp_i_si, if_neg (by omega), hp_i_si, if_neg (by omega), hp_i_si, if_neg (by omega)]; exact a5
  rw [e24, a1]
  obtain ⟨h1, hh1⟩ : ∃ h1, hp_si (hp_si (hp_si (hp_si (hp_si (hp_si h m 28 (nI (p_lc P))) m 29 (nI (p_cy P))) m 30 (nI (p_fl P))) m 31 (nI (p_st P))) m 32 (nI (p_nr P))) m 33 (0 : Int32) = h1 := ⟨_, rfl⟩
  rw [hh1]
  have H1 : hp_fr (fun a k => a = m ∧ 28 ≤ k ∧ k ≤ 33) h h1 := by rw [← hh1]; exact hf_si (hf_si (hf_si (hf_si (hf_si (hf_si (hp_fr_rf h) (by omega)) (by omega)) (by omega)) (by omega)) (by omega)) (by omega)
  have c28 : hp_i h1 m 28 = nI (p_lc P) := by rw [← hh1]; simp [hp_i_si]
  have c29 : hp_i h1 m 29 = nI (p_cy P) := by rw [← hh1]; simp [hp_i_si]
  have c30 : hp_i h1 m 30 = nI (p_fl P) := by rw [← hh1]; simp [hp_i_si]
  have c31 : hp_i h1 m 31 = nI (p_st P) := by rw [← hh1]; simp [hp_i_si]
  have c32 : hp_i h1 m 32 = nI (p_nr P) := by rw [← hh1]; simp [hp_i_si]
  have c33 : hp_i h1 m 33 = nI 0 := by rw [← hh1, hp_i_si, if_pos ⟨rfl, rfl⟩]; rfl
  refine Cp_men hv (MS_fr H1 hs) (MSC_fr H1 (fun a k z => by omega) q) c32 c33 (fun g2 H2 d33 dm => ?_)
  have H12 := hp_fr_tr (hp_fr_mo H1 (fun a k z => show F_PM m a k by unfold F_PM; omega)) (hp_fr_mo H2 (fun a k z => show F_PM m a k by unfold F_PM; omega))
  refine Cp_code hv (MS_fr H12 hs) (MSC_fr H12 (fun a k z => by unfold F_PM at z; omega) q) (fun g3 H3 d34 d35 dc => ?_)
  have H13 := hp_fr_tr H12 (hp_fr_mo H3 (fun a k z => show F_PM m a k by unfold F_PM; omega))
  refine Cp_rules hv (MS_fr H13 hs) (MSC_fr H13 (fun a k z => by unfold F_PM at z; omega) q) d34 (fun g4 H4 dr db => ?_)
  have H14 := hp_fr_tr H13 (hp_fr_mo H4 (fun a k z => show F_PM m a k by unfold F_PM; omega))
  have pm : PM P m g4 := by
    refine ⟨?_, ?_, ?_, ?_, ?_, ?_, ?_, ?_, fun i hi => ?_, fun i hi => ?_, fun i hi => (dr i hi).1, fun i hi => (dr i hi).2, fun i h1 h2 => db i h1 h2, fun i hi => ?_⟩
    · rw [hf_i H4 (by omega), hf_i H3 (by omega), hf_i H2 (by omega)]; exact c28
    · rw [hf_i H4 (by omega), hf_i H3 (by omega), hf_i H2 (by omega)]; exact c29
    · rw [hf_i H4 (by omega), hf_i H3 (by omega), hf_i H2 (by omega)]; exact c30
    · rw [hf_i H4 (by omega), hf_i H3 (by omega), hf_i H2 (by omega)]; exact c31
    · rw [hf_i H4 (by omega), hf_i H3 (by omega), hf_i H2 (by omega)]; exact c32
    · rw [hf_i H4 (by omega), hf_i H3 (by omega)]; exact d33
    · rw [hf_i H4 (by omega)]; exact d34
    · rw [hf_i H4 (by omega)]; exact d35
    · rw [hf_i H4 (by omega), hf_i H3 (by omega)]; exact (dm i hi).1
    · rw [hf_i H4 (by omega), hf_i H3 (by omega)]; exact (dm i hi).2
    · rw [hf_i H4 (by omega), hf_i H4 (by omega)]; exact dc i hi
  refine pw_mono (Cp_end (MS_fr H14 hs) ok pm) ?_
  rintro y ⟨y1, y2, y3, y4, y5⟩
  refine ⟨y1, hp_fr_tr (hp_fr_mo H14 (fun a k z => .inl z)) (hp_fr_mo y2 (fun a k z => .inr z)), PM_ag (fun a k hk => hf_i y2 (by unfold F_PM at hk; unfold S_bw; omega)) pm, y3, y4, y5⟩
