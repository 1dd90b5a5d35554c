/-! all leads of a state; all states -/
theorem FND_gap {P : PT} {sv st s : Nat} {f : Nat → Nat} {h : HP} (hn : p_nm P ≤ 6) (hf : FND P sv st f (8 * s + p_nm P) h) : FND P sv st f (8 * (s + 1)) h := by
  have key : ∀ d, p_nm P + d ≤ 8 → FND P sv st f (8 * s + (p_nm P + d)) h := by
    intro d
    induction d with
    | zero => intro _; exact hf
    | succ d ih =>
      intro hd
      have g : ∀ c, rgt P f c (8 * s + (p_nm P + d)) = false := fun c => by unfold rgt; rw [decide_eq_false (by omega)]; rfl
      have := FND_0 (g 1) (g 2) (ih (by omega))
      exact this
  have := key (8 - p_nm P) (by omega)
  rw [show 8 * s + (p_nm P + (8 - p_nm P)) = 8 * (s + 1) by omega] at this
  exact this
theorem idl_gap {P : PT} (f : Nat → Nat) (s : Nat) (hn : p_nm P ≤ 6) : idl P f (8 * (s + 1)) = idl P f (8 * s + p_nm P) := by
  have key : ∀ d, p_nm P + d ≤ 8 → idl P f (8 * s + (p_nm P + d)) = idl P f (8 * s + p_nm P) := by
    intro d
    induction d with
    | zero => intro _; rfl
    | succ d ih =>
      intro hd
      rw [show 8 * s + (p_nm P + (d + 1)) = 8 * s + (p_nm P + d) + 1 by omega, idl, if_neg (by omega)]
      exact ih (by omega)
  have := key (8 - p_nm P) (by omega)
  rw [show 8 * s + (p_nm P + (8 - p_nm P)) = 8 * (s + 1) by omega] at this
  exact this
theorem SVJ_gap {P : PT} {sv s : Nat} {B : BT} {h : HP} (hn : p_nm P ≤ 6) (hj : SVJ P sv B (8 * s + p_nm P) h) : SVJ P sv B (8 * (s + 1)) h := by
  rcases hj with ⟨h0, i1, i2, i3, i4, i5, i6, i7, i8, i9, i10⟩ | z
  · refine .inl ⟨h0, i1, i2, FND_gap hn i3, by rw [idl_gap _ _ hn]; exact i4, fun i hi => ?_, fun s' i' a1 a2 a3 => i6 s' i' a1 (by omega) a3, i7, i8, fun s' i' a1 a2 a3 a4 => i9 s' i' a1 (by omega) a3 a4, PAR_mo i10 (by omega)⟩
    rw [i5 i hi, show (8 * s + p_nm P) % 8 = p_nm P by omega, if_pos hi, show (8 * s + p_nm P) / 8 = s by omega, show 8 * (s + 1) % 8 = 0 by omega, if_neg (by omega), show 8 * (s + 1) / 8 = s + 1 by omega]
  · exact .inr z
def SVQ (P : PT) (sv q : Nat) (h : HP) : Prop := PSH q h ∧ PX P q h ∧ SVS sv q h
theorem SVQ_fr {P : PT} {sv q : Nat} {h h' : HP} (hq : q + 8 < sv) (H : hp_fr (S_sv sv q) h h') (hs : SVQ P sv q h) : SVQ P sv q h' := ⟨PSH_fr H hs.1, PX_ag (fun a k hk => hf_i H (by unfold F_PX at hk; unfold S_sv S_oc; omega)) hs.2.1, SVS_fr H hs.2.2⟩
theorem X_leadAll {P : PT} {sv q s : Nat} {B : BT} {h : HP} (ok : POK P) (hq : q + 8 < sv) (hs : SVQ P sv q h) (hsB : s < B.1) (h0 : B.2.2 = false) (hG : GB P B) (hI : SVI P sv B (8 * s) h) : pw (f_Sv_leadAll sv (nI s) h) (fun g => hp_fr (S_sv sv q) h g ∧ SVJ P sv (folB P 3 (B.2.1 s) B) (8 * (s + 1)) g) := by
  have hnm := ok.2.2.2.2.2.1
  have hE := hG.2.2 s hsB
  have GR := rowB_G ok hE.1 hG
  have XR := rowB_x P (B.2.1 s) B
  have efol : folB P 3 (B.2.1 s) B = rowB P (B.2.1 s) (p_nm P) B := by unfold folB; rw [if_neg (by omega)]
  unfold f_Sv_leadAll
  rw [bn_o hs.2.2.2.2.1, bn_o (X_member hI.1 hsB)]
  dsimp only
  unfold f_Sv_leadAll_12
  have fin : ∀ g i, hp_fr (S_sv sv q) h g → i ≤ p_nm P → SVJ P sv (rowB P (B.2.1 s) i B) (8 * s + i) g → ((rowB P (B.2.1 s) i B).2.2 = true ∨ i = p_nm P) → hp_fr (S_sv sv q) h g ∧ SVJ P sv (folB P 3 (B.2.1 s) B) (8 * (s + 1)) g := by
    intro g i H hi hj hend
    have er : rowB P (B.2.1 s) (p_nm P) B = rowB P (B.2.1 s) i B := by
      rcases hend with z | z
      · exact (XR i (p_nm P) hi).2.2 z
      · rw [z]
    refine ⟨H, ?_⟩
    rw [efol, er]
    rcases hend with z | z
    · rcases hj with ⟨z2, _⟩ | z2
      · rw [z] at z2; exact absurd z2 (by decide)
      · exact .inr z2
    · subst z; exact SVJ_gap hnm hj
  refine pw_cnt (p_nm P) (fun i t => t.1 = nI i ∧ hp_fr (S_sv sv q) h t.2 ∧ SVJ P sv (rowB P (B.2.1 s) i B) (8 * s + i) t.2) ?_ ?_ 0 (nI 0, h) (by omega) ?_
  · rintro i ⟨w, g⟩ hi ⟨rfl, H, hj⟩
    dsimp only at H hj ⊢
    have hsg := SVQ_fr hq H hs
    rcases id hj with ⟨z0, hI'⟩ | ⟨z0, z1⟩
    · have hx := XR 0 i (by omega)
      have hsi : s < (rowB P (B.2.1 s) i B).1 := by have := hx.1; have : B.1 ≤ (rowB P (B.2.1 s) i B).1 := this; omega
      have hfs : (rowB P (B.2.1 s) i B).2.1 s = B.2.1 s := hx.2.1 s hsB
      have h1 := X_lead1 hsg.1 ok hsg.2.1 hq hsg.2.2 hi hsi z0 (GR i) hI'
      rw [hfs] at h1
      refine pw_mono h1 ?_
      rintro (t | t) ht
      · obtain ⟨t1, t2, t3⟩ : t.1 = nI (i + 1) ∧ hp_fr (S_sv sv q) g t.2 ∧ SVJ P sv (stp P (B.2.1 s) i (rowB P (B.2.1 s) i B)) (8 * s + (i + 1)) t.2 := ht
        exact ⟨t1, hp_fr_tr H t2, t3⟩
      · exact absurd ht (fun z => z)
    · unfold f_Sv_leadAll_12b
      rw [bn_o hsg.2.2.2.2.2.2.2.1, hsg.2.1.2.2.2.2.2.1, if_neg (nI_ge hi (by omega)), z1, if_neg (show ¬ nI 1 = (0 : Int32) by decide)]
      exact pw_some (fin g i H (by omega) hj (.inl z0))
  · rintro ⟨w, g⟩ ⟨rfl, H, hj⟩
    dsimp only at H hj ⊢
    have hsg := SVQ_fr hq H hs
    unfold f_Sv_leadAll_12b
    rw [bn_o hsg.2.2.2.2.2.2.2.1, hsg.2.1.2.2.2.2.2.1, if_pos (nI_le (Nat.le_refl _) (by omega))]
    exact pw_some (fin g (p_nm P) H (Nat.le_refl _) hj (.inr rfl))
  · exact ⟨rfl, hp_fr_rf h, .inl ⟨h0, hI⟩⟩
theorem X_ex86 {P : PT} {sv q : Nat} {h : HP} (ok : POK P) (hq : q + 8 < sv) (hs : SVQ P sv q h) (hI : SVI P sv (stB P 4) 0 h) : pw (f_Sv_explore_86 sv (nI 0) h) (fun g => hp_fr (S_sv sv q) h g ∧ SVJ P sv (BF P 3) (8 * (BF P 3).1) g) := by
  unfold f_Sv_explore_86
  have hG := bfs_G ok 3
  have fin : ∀ g k, hp_fr (S_sv sv q) h g → k ≤ 5000 → SVJ P sv (bfs P 3 k) (8 * k) g → k ≤ (bfs P 3 k).1 → ((bfs P 3 k).2.2 = true ∨ (bfs P 3 k).1 ≤ k) → hp_fr (S_sv sv q) h g ∧ SVJ P sv (BF P 3) (8 * (BF P 3).1) g := by
    intro g k H hk hj hkn hend
    have e := bfs_BF ok hend hk
    rw [e] at hj hkn hend
    refine ⟨H, ?_⟩
    rcases hj with ⟨z0, z1⟩ | z
    · have : (BF P 3).1 = k := by
        rcases hend with w | w
        · rw [z0] at w; exact absurd w (by decide)
        · omega
      rw [this]; exact .inl ⟨z0, z1⟩
    · exact .inr z
  refine pw_cnt 5000 (fun k t => t.1 = nI k ∧ hp_fr (S_sv sv q) h t.2 ∧ SVJ P sv (bfs P 3 k) (8 * k) t.2 ∧ k ≤ (bfs P 3 k).1) ?_ ?_ 0 (nI 0, h) (by omega) ?_
  · rintro k ⟨w, g⟩ hk ⟨rfl, H, hj, hkn⟩
    dsimp only at H hj ⊢
    have hsg := SVQ_fr hq H hs
    have hn5 := (hG k).1
    unfold f_Sv_explore_86b
    rw [if_neg (show ¬ (5000 : Int32) ≤ nI k from nI_ge (b := 5000) hk (by decide)), bn_o hsg.2.2.2.2.1]
    rcases id hj with ⟨z0, hI'⟩ | ⟨z0, z1⟩
    · rw [hI'.1.2.2.1]
      by_cases hend : (bfs P 3 k).1 ≤ k
      · rw [if_pos (nI_le hend (by omega))]
        exact pw_some (fin g k H (by omega) hj hkn (.inr hend))
      · rw [if_neg (nI_ge (by omega) (by omega)), hI'.2.1, if_pos (show nI 0 = (0 : Int32) from rfl)]
        refine pw_bind (pw_mono (X_leadAll ok hq hsg (by omega) z0 (hG k) hI') ?_)
        rintro g2 ⟨H2, j2⟩
        have e : bfs P 3 (k + 1) = folB P 3 ((bfs P 3 k).2.1 k) (bfs P 3 k) := by
          rw [bfs, if_neg (fun z => by rcases z with z | z; rw [z0] at z; exact absurd z (by decide); contradiction)]
        rw [xx_lE]
        refine pw_some ⟨nI_1 k, hp_fr_tr H H2, by rw [e]; exact j2, ?_⟩
        have := (bfs_x P 3 k (k + 1) (by omega)).1; omega
    · refine pw_if (fun _ => pw_some (fin g k H (by omega) hj hkn (.inl z0))) (fun _ => ?_)
      rw [z1, if_neg (show ¬ nI 1 = (0 : Int32) by decide)]
      exact pw_some (fin g k H (by omega) hj hkn (.inl z0))
  · rintro ⟨w, g⟩ ⟨rfl, H, hj, hkn⟩
    dsimp only at H hj ⊢
    unfold f_Sv_explore_86b
    rw [if_pos (show (5000 : Int32) ≤ nI 5000 by decide)]
    exact pw_some (fin g 5000 H (by omega) hj hkn (.inr (hG 5000).1))
  · exact ⟨rfl, hp_fr_rf h, .inl ⟨(stB_small P 4 (by omega)).1, hI⟩, Nat.zero_le _⟩
/-! starts -/
theorem X_putStarts {P : PT} {sv q : Nat} {h : HP} (ok : POK P) (hq : q + 8 < sv) (hs : SVQ P sv q h) (h0 : SSX (sv + 3) 5000 0 (fun _ => 0) h) : pw (f_Sv_putStarts sv h) (fun g => hp_fr (fun a k => S_set (sv + 3) a k ∨ a = sv + 9) h g ∧ SSX (sv + 3) 5000 (stB P 4).1 (stB P 4).2.1 g ∧ ∀ j, j < (stB P 4).1 → hp_i g (sv + 9) j = -1) := by
  unfold f_Sv_putStarts f_Sv_putStarts_2
  refine pw_cnt 4 (fun l t => t.1 = nI l ∧ hp_fr (fun a k => S_set (sv + 3) a k ∨ a = sv + 9) h t.2 ∧ SSX (sv + 3) 5000 (stB P l).1 (stB P l).2.1 t.2 ∧ ∀ j, j < (stB P l).1 → hp_i t.2 (sv + 9) j = -1) ?_ ?_ 0 (nI 0, h) (by omega) ?_
  · rintro l ⟨w, g⟩ hl ⟨rfl, H, hset, hcf⟩
    dsimp only at H hset hcf ⊢
    have hsg : SVQ P sv q g := SVQ_fr hq (hp_fr_mo H (by unfold S_set S_sv; omega)) hs
    obtain ⟨v0, v1, v2, v3, v4, v5, v6, v7, m2, m6, m7, m8, m9⟩ := id hsg.2.2
    have hsm := stB_small P l (by omega)
    unfold f_Sv_putStarts_2b
    rw [if_neg (show ¬ (4 : Int32) ≤ nI l from nI_ge (b := 4) hl (by decide)), bn_o v5, bn_o (X_ist ok hsg.2.1 hl)]
    dsimp only
    by_cases hi : ist P l = true
    · rw [if_pos hi, if_neg (show ¬ nI 1 = (0 : Int32) by decide), bn_o v2, bn_o v5, bn_o (X_first hsg.1 ok hsg.2.1 hl)]
      dsimp only
      have est : stB P (l + 1) = insB (stB P l) (cd (fs P l) 0) := by rw [stB, if_pos hi]
      have ecd : cd (fs P l) 0 = fs P l := rfl
      refine pw_bind (pw_mono (X_number hset (fs_lt ok hl)) ?_)
      rintro ⟨r, g2⟩ (⟨q1, q2, q3⟩ | ⟨q1, q2, q3, q4, q5⟩ | ⟨q1, q2, q3, q4⟩)
      · dsimp only at q2 q3 ⊢
        subst q2 q3
        unfold f_Sv_putStarts_37 f_Sv_putStarts_50
        rw [if_neg (i_m1lt (by omega)), bn_o v7, m9, if_pos (hp_in_nI (by omega) (by omega)), nI_clamp (by omega), xx_lE, xx_lE]
        have K : hp_fr (fun a _ => a = sv + 9) g2 (hp_si g2 (sv + 9) (idx (stB P l).2.1 (stB P l).1 (fs P l)) (-1)) := hf_si (hp_fr_rf g2) rfl
        rw [est, ecd, insB_old hsm.1 q1]
        refine pw_some ⟨nI_1 l, hf_si H (.inr rfl), SSX_fr K (by unfold F_SS; omega) hset, fun j hj => ?_⟩
        dsimp only; rw [hp_i_si]
        by_cases hji : j = idx (stB P l).2.1 (stB P l).1 (fs P l)
        · rw [if_pos ⟨rfl, hji⟩]
        · rw [if_neg (fun z => hji z.2)]; exact hcf j hj
      · dsimp only at q3 q4 q5 ⊢
        subst q3
        unfold f_Sv_putStarts_37 f_Sv_putStarts_50
        rw [if_neg (i_m1lt (by omega)), show hp_r g2 sv 13 = some (sv + 9) by rw [hp_fr_r q5]; exact v7, bn_s, show hp_n g2 (sv + 9) = 5000 by rw [hp_fr_n q5]; exact m9, if_pos (hp_in_nI (by omega) (by omega)), nI_clamp (by omega), xx_lE, xx_lE]
        have K : hp_fr (fun a _ => a = sv + 9) g2 (hp_si g2 (sv + 9) (stB P l).1 (-1)) := hf_si (hp_fr_rf g2) rfl
        rw [est, ecd, insB_new hsm.1 q1 (by omega)]
        refine pw_some ⟨nI_1 l, hf_si (hp_fr_tr H (hp_fr_mo q5 (fun a k hk => .inl hk))) (.inr rfl), SSX_fr K (by unfold F_SS; omega) q4, fun j hj => ?_⟩
        dsimp only; rw [hp_i_si]
        by_cases hji : j = (stB P l).1
        · rw [if_pos ⟨rfl, hji⟩]
        · rw [if_neg (fun z => hji z.2), hf_i q5 (by unfold S_set; omega)]
          exact hcf j (by have : j < (stB P l).1 + 1 := hj; omega)
      · omega
    · rw [if_neg hi, if_pos (show nI 0 = (0 : Int32) from rfl)]
      have est : stB P (l + 1) = stB P l := by rw [stB, if_neg hi]
      unfold f_Sv_putStarts_37 f_Sv_putStarts_50
      rw [if_pos rfl, xx_lE, est]
      exact pw_some ⟨nI_1 l, H, hset, hcf⟩
  · rintro ⟨w, g⟩ ⟨rfl, H, hset, hcf⟩
    unfold f_Sv_putStarts_2b
    dsimp only
    rw [if_pos (show (4 : Int32) ≤ nI 4 by decide)]
    exact pw_some ⟨H, hset, hcf⟩
  · exact ⟨rfl, hp_fr_rf h, h0, fun j hj => by have : j < 0 := hj; omega⟩
