/-! starts; layStates, layPlan, leads -/
theorem al_le (P : PT) : al P ≤ 3 ∧ 1 ≤ al P := by unfold al; split <;> omega
theorem M_full {P : PT} {m : Nat} {g : HP} (ok : POK P) (h28 : hp_i g m 28 = nI (p_lc P)) : f_M_full m g = some (nI (al P), g) := by
  obtain ⟨k1, k2⟩ := p_lc2 ok
  unfold f_M_full
  rw [h28, show (1 : Int32) = nI 1 from rfl, show (31 : Int32) = nI 31 from rfl, lc_sh ok, pk_sub (by omega), k1]; rfl
theorem ist_31 {a b : Nat} {g : HP} (ha : a < 2 ^ 31) (hb : b < 2 ^ 31) : f_M_isStart_37 (nI a) (nI b) g = some (nI (if b = a then 1 else 0), g) ∧ f_Pl_isStart_31 (nI a) (nI b) g = some (nI (if b = a then 1 else 0), g) := by
  unfold f_M_isStart_37 f_Pl_isStart_31
  by_cases h : b = a
  · subst h; rw [if_pos rfl, if_pos rfl]; exact ⟨rfl, rfl⟩
  · rw [if_neg (fun z => h ((nI_eq hb ha).mp z)), if_neg h]; exact ⟨rfl, rfl⟩
theorem st_cases {P : PT} (ok : POK P) : p_st P = 0 ∨ p_st P = 1 ∨ p_st P = 2 := by have := ok.2.2.2.1; omega
theorem M_ist {P : PT} {m l : Nat} {g : HP} (ok : POK P) (hp : PM P m g) (hl : l ≤ al P) : f_M_isStart m (nI l) g = some (nI (if ist P l = true then 1 else 0), g) := by
  have ha := al_le P
  unfold f_M_isStart
  rw [bn_o (M_full ok hp.1)]
  dsimp only
  rw [if_neg (nI_nlt hl (by omega)), if_neg (nI_pos (by omega)), hp.2.2.2.1]
  unfold ist
  rcases st_cases ok with h | h | h <;> rw [h]
  · rw [if_neg (show ¬ nI 0 = (2 : Int32) by decide), if_neg (show ¬ nI 0 = (1 : Int32) by decide), if_neg (show ¬ (0 = 2) by decide), if_neg (show ¬ (0 = 1) by decide), show (0 : Int32) = nI 0 from rfl, (ist_31 (by omega) (by omega)).1]
    simp
  · rw [if_neg (show ¬ nI 1 = (2 : Int32) by decide), if_pos (show nI 1 = (1 : Int32) from rfl), if_neg (show ¬ (1 = 2) by decide), if_pos (show 1 = 1 from rfl), bn_o (M_full ok hp.1), (ist_31 (by omega) (by omega)).1]
    simp
  · rw [if_pos (show nI 2 = (2 : Int32) from rfl), if_pos (show 2 = 2 from rfl), decide_eq_true hl]; rfl
theorem X_ist {P : PT} {q l : Nat} {g : HP} (ok : POK P) (hp : PX P q g) (hl : l < 4) : f_Pl_isStart q (nI l) g = some (nI (if ist P l = true then 1 else 0), g) := by
  have ha := al_le P
  unfold f_Pl_isStart
  rw [hp.2.2.2.1]
  unfold ist
  rcases st_cases ok with h | h | h <;> rw [h]
  · rw [if_neg (show ¬ nI 0 = (2 : Int32) by decide), if_neg (show ¬ nI 0 = (1 : Int32) by decide), if_neg (show ¬ (0 = 2) by decide), if_neg (show ¬ (0 = 1) by decide), show (0 : Int32) = nI 0 from rfl, (ist_31 (by omega) (by omega)).2]
    simp
  · rw [if_neg (show ¬ nI 1 = (2 : Int32) by decide), if_pos (show nI 1 = (1 : Int32) from rfl), if_neg (show ¬ (1 = 2) by decide), if_pos (show 1 = 1 from rfl), bn_o (X_allOn ok hp), (ist_31 (by omega) (by omega)).2]
    simp
  · rw [if_pos (show nI 2 = (2 : Int32) from rfl), if_pos (show 2 = 2 from rfl)]
    have e : f_Pl_canBeLamps q (nI l) g = some (nI (if decide (l ≤ al P) = true then 1 else 0), g) := by
      by_cases hc : l ≤ al P
      · simp (disch := omega) only [f_Pl_canBeLamps, ↓xx_lE, ↓reduceIte, ↓bn_si, ↓bn_sl, ↓bn_s, ↓bn_ms, hp_i_si, hp_l_si, hp_r_si, hp_n_si, hp_i_sl, hp_l_sl, hp_r_sl, hp_n_sl, hp_i_sr, hp_l_sr, hp_r_sr, hp_n_sr, iL, nI_clamp, hp_in_nI, nI_add, pk_mul, pk_sub, c_le, c_nle, c_lt, c_nlt, c_ne, c_m1, c_m1', ad_ne, ad_ne', ad_ne2, nar0, nar1, true_and, false_and, and_true, and_false, Nat.add_zero, Nat.zero_add, ↓bn_o (X_allOn ok hp), hc, decide_true]
      · simp (disch := omega) only [f_Pl_canBeLamps, ↓xx_lE, ↓reduceIte, ↓bn_si, ↓bn_sl, ↓bn_s, ↓bn_ms, hp_i_si, hp_l_si, hp_r_si, hp_n_si, hp_i_sl, hp_l_sl, hp_r_sl, hp_n_sl, hp_i_sr, hp_l_sr, hp_r_sr, hp_n_sr, iL, nI_clamp, hp_in_nI, nI_add, pk_mul, pk_sub, c_le, c_nle, c_lt, c_nlt, c_ne, c_m1, c_m1', ad_ne, ad_ne', ad_ne2, nar0, nar1, true_and, false_and, and_true, and_false, Nat.add_zero, Nat.zero_add, ↓bn_o (X_allOn ok hp), hc, decide_false, Bool.false_eq_true]
    rw [bn_o e, if_pos (z01 (by split <;> omega))]
theorem insB_small {B : BT} {v : Nat} (h0 : B.2.2 = false) (hn : B.1 < 5000) : (insB B v).2.2 = false ∧ (insB B v).1 ≤ B.1 + 1 := by
  have hle := idx_le B.2.1 B.1 v
  by_cases h : idx B.2.1 B.1 v < B.1
  · rw [insB_old h0 h]; exact ⟨h0, by omega⟩
  · rw [insB_new h0 (by omega) hn]; exact ⟨rfl, Nat.le_refl _⟩
theorem stB_small (P : PT) : ∀ l, l ≤ 4 → (stB P l).2.2 = false ∧ (stB P l).1 ≤ l := by
  intro l
  induction l with
  | zero => intro _; exact ⟨rfl, Nat.le_refl _⟩
  | succ l ih =>
    intro hl
    obtain ⟨i1, i2⟩ := ih (by omega)
    unfold stB
    split
    · have := insB_small (v := cd (fs P l) 0) i1 (by omega)
      exact ⟨this.1, by omega⟩
    · exact ⟨i1, by omega⟩
theorem ist_al {P : PT} {l : Nat} (h : al P < l) : ist P l = false := by
  have := al_le P
  unfold ist; split
  · exact decide_eq_false (by omega)
  · split
    · exact decide_eq_false (by omega)
    · exact decide_eq_false (by omega)
theorem stB_al (P : PT) : stB P (al P + 1) = stB P 4 := by
  have key : ∀ d, stB P (al P + 1 + d) = stB P (al P + 1) := by
    intro d
    induction d with
    | zero => rfl
    | succ d ih =>
      rw [show al P + 1 + (d + 1) = (al P + 1 + d) + 1 by omega, stB, if_neg (by rw [ist_al (by omega)]; decide)]; exact ih
  have := al_le P
  have e := key (3 - al P)
  rw [show al P + 1 + (3 - al P) = 4 by omega] at e
  exact e.symm
def LAYR (m : Nat) (P : PT) (F : Nat) (r : Int32 × HP) : Prop := r.1 = nI (if (BF P F).2.2 = true then 0 else 1) ∧ MB m (BF P F) r.2 ∧ NXG m P (BF P F) (8 * (BF P F).1) r.2
theorem M_102 {m F : Nat} {P : PT} {g : HP} (hB : MB m (BF P F) g) (hN : NXG m P (BF P F) (8 * (BF P F).1) g) : pw (f_M_layStates_102 m g) (fun r => LAYR m P F r ∧ hp_fr (S_lay m) g r.2) := by
  unfold f_M_layStates_102
  rw [xx_lE]
  have H : hp_fr (fun a k => a = m ∧ k = 67) g (hp_si g m 67 0) := hf_si (hp_fr_rf g) ⟨rfl, rfl⟩
  have h66 : hp_i (hp_si g m 67 0) m 66 = nI (if (BF P F).2.2 = true then 1 else 0) := by rw [hp_i_si, if_neg (by omega)]; exact hB.2
  have hB2 := MB_fr H (by unfold F_MS; omega) hB
  have hN2 : NXG m P (BF P F) (8 * (BF P F).1) (hp_si g m 67 0) := NXG_x (xtd_rf _) (Nat.le_refl _) (fun k => hf_i H (by omega)) hN
  have H2 : hp_fr (S_lay m) g (hp_si g m 67 0) := hp_fr_mo H (by unfold S_lay; omega)
  rw [h66]
  by_cases hsp : (BF P F).2.2 = true
  · rw [if_pos hsp, if_neg (show ¬ nI 1 = (0 : Int32) by decide)]
    exact pw_some ⟨⟨by rw [if_pos hsp]; rfl, hB2, hN2⟩, H2⟩
  · rw [if_neg hsp, if_pos (show nI 0 = (0 : Int32) from rfl)]
    exact pw_some ⟨⟨by rw [if_neg hsp]; rfl, hB2, hN2⟩, H2⟩
theorem M_lay75 {P : PT} {m F : Nat} {h : HP} (hs : MS m h) (ok : POK P) (hp : PM P m h) (hF : F ≤ 3) (hB : MB m (stB P 4) h) : pw (f_M_layStates_75 m (fvv F) (nI 0) h) (fun r => LAYR m P F r ∧ hp_fr (S_lay m) h r.2) := by
  unfold f_M_layStates_75
  have hG := bfs_G ok F
  have fin : ∀ g k, hp_fr (S_lay m) h g → k ≤ 5000 → MB m (bfs P F k) g → NXG m P (bfs P F k) (8 * k) g → k ≤ (bfs P F k).1 → ((bfs P F k).2.2 = true ∨ (bfs P F k).1 ≤ k) → pw (f_M_layStates_102 m g) (fun r => LAYR m P F r ∧ hp_fr (S_lay m) h r.2) := by
    intro g k H hk hb hx hkn hend
    have e := bfs_BF ok hend hk
    rw [e] at hb hx hkn hend
    refine pw_mono (M_102 hb ?_) (fun r hr => ⟨hr.1, hp_fr_tr H hr.2⟩)
    intro hc
    have : (BF P F).1 = k := by
      rcases hend with z | z
      · rw [hc] at z; exact absurd z (by decide)
      · omega
    rw [this]; exact hx hc
  refine pw_cnt 5000 (fun k st => st.1 = nI k ∧ hp_fr (S_lay m) h st.2 ∧ MB m (bfs P F k) st.2 ∧ NXG m P (bfs P F k) (8 * k) st.2 ∧ k ≤ (bfs P F k).1) ?_ ?_ 0 (nI 0, h) (by omega) ?_
  · rintro k ⟨w, g⟩ hk ⟨rfl, H, hb, hx, hkn⟩
    dsimp only at H hb hx ⊢
    have hn5 := (hG k).1
    unfold f_M_layStates_75b
    rw [hb.1.2.1, hb.2]
    by_cases hend : (bfs P F k).1 ≤ k
    · rw [if_pos (nI_le hend (by omega))]
      exact pw_mapR (fin g k H (by omega) hb hx hkn (.inr hend))
    · rw [if_neg (nI_ge (by omega) (by omega))]
      by_cases hsp : (bfs P F k).2.2 = true
      · rw [if_pos hsp, if_neg (show ¬ nI 1 = (0 : Int32) by decide)]
        exact pw_mapR (fin g k H (by omega) hb hx hkn (.inl hsp))
      · rw [if_neg hsp, if_pos (show nI 0 = (0 : Int32) from rfl)]
        refine pw_bind (pw_mono (M_follow (MS_fr H hs) ok (PM_lay H hp) hF (hG k) (by omega) hb (bool_f hsp) hx) ?_)
        rintro g2 ⟨H2, b2, x2⟩
        have e : bfs P F (k + 1) = folB P F ((bfs P F k).2.1 k) (bfs P F k) := by
          rw [bfs, if_neg (fun z => by rcases z with z | z <;> contradiction)]
        rw [xx_lE]
        refine pw_some ⟨nI_1 k, hp_fr_tr H H2, ?_, ?_, ?_⟩
        · rw [e]; exact b2
        · rw [e]; exact x2
        · have := (bfs_x P F k (k + 1) (by omega)).1; omega
  · rintro ⟨w, g⟩ ⟨rfl, H, hb, hx, hkn⟩
    dsimp only at H hb hx ⊢
    have hn5 := (hG 5000).1
    unfold f_M_layStates_75b
    rw [hb.1.2.1, if_pos (nI_le hn5 (by omega))]
    exact pw_mapR (fin g 5000 H (by omega) hb hx hkn (.inr hn5))
  · exact ⟨rfl, hp_fr_rf h, hB, fun _ => ⟨fun s i _ hlt _ _ => by omega, fun s i _ hlt _ => by omega⟩, Nat.zero_le _⟩
theorem M_lay41 {P : PT} {m F : Nat} {h : HP} (hs : MS m h) (ok : POK P) (hp : PM P m h) (hF : F ≤ 3) (hB : MB m (stB P 0) h) (h67 : hp_i h m 67 = nI 0) : pw (f_M_layStates_41 m (fvv F) (nI 0) h) (fun r => LAYR m P F r ∧ hp_fr (S_lay m) h r.2) := by
  unfold f_M_layStates_41
  have ha := al_le P
  refine pw_cnt (al P + 1) (fun l st => st.1 = nI l ∧ hp_fr (S_lay m) h st.2 ∧ MB m (stB P l) st.2 ∧ hp_i st.2 m 67 = nI 0) ?_ ?_ 0 (nI 0, h) (by omega) ⟨rfl, hp_fr_rf h, hB, h67⟩
  · rintro l ⟨w, g⟩ hl ⟨rfl, H, hb, e67⟩
    dsimp only at H hb e67 ⊢
    have hpg := PM_lay H hp
    unfold f_M_layStates_41b
    rw [bn_o (M_full ok hpg.1)]
    dsimp only
    rw [if_neg (nI_nlt (by omega) (by omega))]
    refine pw_bind (pw_mono (M_fresh (MS_fr H hs) ok hpg (show l < 4 by omega)) ?_)
    rintro g1 ⟨H1, c1⟩
    have G1 : hp_fr (S_lay m) h g1 := hp_fr_tr H (hp_fr_mo H1 (by unfold S_fr S_lay; omega))
    have hp1 := PM_lay G1 hp
    have hb1 : MB m (stB P l) g1 := MB_fr H1 (by unfold S_fr F_MS; omega) hb
    have e67' : hp_i g1 m 67 = nI 0 := by rw [hf_i H1 (by unfold S_fr; omega)]; exact e67
    rw [bn_o (M_ist ok hp1 (by omega))]
    dsimp only
    unfold f_M_layStates_67
    by_cases hi : ist P l = true
    · rw [if_pos hi, if_neg (show ¬ nI 1 = (0 : Int32) by decide)]
      refine pw_bind (pw_mono (M_number (MS_fr G1 hs) (fs_lt ok (by omega)) (by decide) c1 e67' hb1 (stB_small P l (by omega)).1) ?_)
      rintro ⟨r, g2⟩ ⟨b2, H2, _⟩
      dsimp only at b2 H2 ⊢
      rw [xx_lE]
      refine pw_some ⟨nI_1 l, hp_fr_tr G1 (hp_fr_mo H2 (by unfold S_ms S_lay; omega)), ?_, ?_⟩
      · rw [stB, if_pos hi]; exact b2
      · dsimp only; rw [hf_i H2 (by unfold S_ms; omega)]; exact e67'
    · rw [if_neg hi, if_pos (show nI 0 = (0 : Int32) from rfl), xx_lE]
      refine pw_some ⟨nI_1 l, G1, ?_, e67'⟩
      rw [stB, if_neg hi]; exact hb1
  · rintro ⟨w, g⟩ ⟨rfl, H, hb, e67⟩
    dsimp only at H hb e67 ⊢
    unfold f_M_layStates_41b
    rw [bn_o (M_full ok (PM_lay H hp).1)]
    dsimp only
    rw [if_pos (nI_lt (by omega) (by omega))]
    rw [stB_al] at hb
    exact pw_mapR (pw_mono (M_lay75 (MS_fr H hs) ok (PM_lay H hp) hF hb) (fun r hr => ⟨hr.1, hp_fr_tr H hr.2⟩))
theorem M_layStates {P : PT} {m F : Nat} {h : HP} (hs : MS m h) (ok : POK P) (hp : PM P m h) (hF : F ≤ 3) : pw (f_M_layStates m (fvv F) h) (fun r => LAYR m P F r ∧ hp_fr (S_lay m) h r.2) := by
  unfold f_M_layStates f_M_layStates_12
  simp only [xx_lE]
  refine pw_cnt 16384 (fun i st => st.1 = nI i ∧ hp_fr (S_lay m) h st.2 ∧ hp_i st.2 m 65 = nI 0 ∧ hp_i st.2 m 66 = nI 0 ∧ ∀ k, k < i → hp_i st.2 (m + 28) k = nI 0) ?_ ?_ 0 (nI 0, hp_si (hp_si h m 65 0) m 66 0) (by omega) ?_
  · rintro i ⟨w, g⟩ hi ⟨rfl, H, e5, e6, e⟩
    dsimp only at H e5 e6 e ⊢
    have hg := MS_fr H hs
    refine pw_L (s := (nI (i + 1), hp_si g (m + 28) i (nI 0))) ?_ ⟨rfl, hf_si H (by unfold S_lay; omega), ?_, ?_, fun k hk => ?_⟩
    · simp (disch := omega) only [f_M_layStates_12b, ↓xx_lE, ↓reduceIte, ↓bn_si, ↓bn_sl, ↓bn_s, ↓bn_ms, hp_i_si, hp_l_si, hp_r_si, hp_n_si, hp_i_sl, hp_l_sl, hp_r_sl, hp_n_sl, hp_i_sr, hp_l_sr, hp_r_sr, hp_n_sr, iL, nI_clamp, hp_in_nI, nI_add, pk_mul, pk_sub, c_le, c_nle, c_lt, c_nlt, c_ne, c_m1, c_m1', ad_ne, ad_ne', ad_ne2, nar0, nar1, true_and, false_and, and_true, and_false, Nat.add_zero, Nat.zero_add, ↓mb_63 hg, mn_28 hg]
    · dsimp only; rw [hp_i_si, if_neg (by omega)]; exact e5
    · dsimp only; rw [hp_i_si, if_neg (by omega)]; exact e6
    · dsimp only; rw [hp_i_si]
      by_cases hk2 : k = i
      · rw [if_pos ⟨rfl, hk2⟩]
      · rw [if_neg (fun z => hk2 z.2)]; exact e k (by omega)
  · rintro ⟨w, g⟩ ⟨rfl, H, e5, e6, e⟩
    dsimp only at H e5 e6 e ⊢
    have e0 : f_M_layStates_12b m (fvv F) (nI 16384) g = (f_M_layStates_32 m (fvv F) g).map .inr := by
      simp (disch := omega) only [f_M_layStates_12b, ↓xx_lE, ↓reduceIte, ↓bn_si, ↓bn_sl, ↓bn_s, ↓bn_ms, hp_i_si, hp_l_si, hp_r_si, hp_n_si, hp_i_sl, hp_l_sl, hp_r_sl, hp_n_sl, hp_i_sr, hp_l_sr, hp_r_sr, hp_n_sr, iL, nI_clamp, hp_in_nI, nI_add, pk_mul, pk_sub, c_le, c_nle, c_lt, c_nlt, c_ne, c_m1, c_m1', ad_ne, ad_ne', ad_ne2, nar0, nar1, true_and, false_and, and_true, and_false, Nat.add_zero, Nat.zero_add]
    rw [e0]
    refine pw_mapR ?_
    unfold f_M_layStates_32
    rw [xx_lE]
    have H2 : hp_fr (S_lay m) h (hp_si g m 67 0) := hf_si H (by unfold S_lay; omega)
    refine pw_mono (M_lay41 (MS_fr H2 hs) ok (PM_lay H2 hp) hF ⟨⟨by show 0 ≤ 5000; omega, ?_, fun j hj => by have : j < 0 := hj; omega, fun _ => 0, HT_0 (by decide) (fun _ _ => rfl), fun p hp2 => ?_⟩, ?_⟩ ?_) (fun r hr => ⟨hr.1, hp_fr_tr H2 hr.2⟩)
    · rw [hp_i_si, if_neg (by omega)]; exact e5
    · rw [hp_i_si, if_neg (by omega)]; exact e p hp2
    · rw [hp_i_si, if_neg (by omega)]; exact e6
    · rw [hp_i_si, if_pos ⟨rfl, rfl⟩]; rfl
  · refine ⟨rfl, hf_si (hf_si (hp_fr_rf h) (by unfold S_lay; omega)) (by unfold S_lay; omega), ?_, ?_, fun k hk => by omega⟩
    · dsimp only; rw [hp_i_si, if_neg (by omega), hp_i_si, if_pos ⟨rfl, rfl⟩]; rfl
    · dsimp only; rw [hp_i_si, if_pos ⟨rfl, rfl⟩]; rfl
def S_lp (m : Nat) : Nat → Nat → Prop := fun a k => S_lay m a k ∨ F_KM m a k
theorem M_layPlan {P : PT} {m F N : Nat} {h : HP} (hs : MS m h) (ok : POK P) (hp : PM P m h) (hF : F ≤ 3) (hc : CM m N h) : pw (f_M_layPlan m (fvv F) h) (fun r => LAYR m P F r ∧ hp_fr (S_lp m) h r.2 ∧ CM m N r.2) := by
  unfold f_M_layPlan
  refine pw_bind (pw_mono (M_put hs hc) ?_)
  rintro g1 ⟨H1, k1⟩
  have hp1 : PM P m g1 := PM_ag (fun a k hk => hf_i H1 (by unfold F_PM at hk; unfold F_KM; omega)) hp
  refine pw_bind (pw_mono (M_layStates (MS_fr H1 hs) ok hp1 hF) ?_)
  rintro ⟨r, g2⟩ ⟨⟨r1, b2, x2⟩, H2⟩
  dsimp only at r1 b2 x2 H2 ⊢
  have k2 : KM m N g2 := KM_ag (fun a k hk => hf_i H2 (by unfold F_KM at hk; unfold S_lay; omega)) k1
  refine pw_bind (pw_mono (M_bring (MS_fr H2 (MS_fr H1 hs)) k2) ?_)
  rintro g3 ⟨H3, c3⟩
  rw [r1, if_pos (z01 (by split <;> omega))]
  refine pw_some ⟨⟨rfl, MB_fr H3 (by unfold F_CM F_MS; omega) b2, NXG_x (xtd_rf _) (Nat.le_refl _) (fun k => hf_i H3 (by unfold F_CM; omega)) x2⟩, ?_, c3⟩
  exact hp_fr_tr (hp_fr_mo H1 (fun a k hk => .inr hk)) (hp_fr_tr (hp_fr_mo H2 (fun a k hk => .inl hk)) (hp_fr_mo H3 (by unfold S_lp S_lay F_CM; omega)))
/-! leads -/
def rgt (P : PT) (f : Nat → Nat) (c p : Nat) : Bool := decide (p % 8 < p_nm P) && decide (rs3 P (f (p / 8) % 2 ^ 54) (p % 8) = c)
theorem rgt_gap {P : PT} (f : Nat → Nat) (c s : Nat) (hn : p_nm P ≤ 6) : fb_ct (rgt P f c) (8 * s + p_nm P) = fb_ct (rgt P f c) (8 * (s + 1)) := by
  have := fb_ct_split (rgt P f c) (8 * s + p_nm P) (8 - p_nm P)
  rw [show 8 * s + p_nm P + (8 - p_nm P) = 8 * (s + 1) by omega] at this
  rw [this, (fb_ct_zero (p := fun k => rgt P f c (8 * s + p_nm P + k)) (n := 8 - p_nm P)).mpr (fun k hk => by
    unfold rgt; rw [decide_eq_false (by omega)]; rfl), Nat.add_zero]
theorem rgt_at {P : PT} {f : Nat → Nat} {c s i : Nat} (hi : i < p_nm P) (hn : p_nm P ≤ 6) : rgt P f c (8 * s + i) = decide (rs3 P (f s % 2 ^ 54) i = c) := by
  unfold rgt
  rw [show (8 * s + i) % 8 = i by omega, show (8 * s + i) / 8 = s by omega, decide_eq_true hi]; rfl
def cvv (c : Nat) : Int32 := if c = 1 then -2 else -3
theorem rs3_lt (P : PT) (N i : Nat) : rs3 P N i = 0 ∨ rs3 P N i = 1 ∨ rs3 P N i = 2 := by
  by_cases h : oS P N i = 0
  · exact .inl (rs3_0 h)
  · exact .inr (rs3_12 h)
theorem nxm_c {P : PT} {f : Nat → Nat} {n s i c : Nat} (hn : n ≤ 5000) (hc : c = 1 ∨ c = 2) : (nxm P f n s i = cvv c) ↔ rs3 P (f s % 2 ^ 54) i = c := by
  have hle := idx_le f n (tg P f s i)
  unfold nxm cvv
  have ne2 : ¬ nI (idx f n (tg P f s i)) = (-2 : Int32) := fun z => (c_m1 (a := idx f n (tg P f s i)) (n := 2) (by decide) (by omega) (by decide)).mp z
  have ne3 : ¬ nI (idx f n (tg P f s i)) = (-3 : Int32) := fun z => (c_m1 (a := idx f n (tg P f s i)) (n := 3) (by decide) (by omega) (by decide)).mp z
  rcases rs3_lt P (f s % 2 ^ 54) i with h | h | h <;> rw [h] <;> rcases hc with rfl | rfl
  · rw [if_neg (by decide), if_neg (by decide), if_pos rfl]; exact ⟨fun z => absurd z ne2, fun z => absurd z (by decide)⟩
  · rw [if_neg (by decide), if_neg (by decide), if_neg (by decide)]; exact ⟨fun z => absurd z ne3, fun z => absurd z (by decide)⟩
  · rw [if_pos rfl, if_pos rfl]; exact ⟨fun _ => rfl, fun _ => rfl⟩
  · rw [if_pos rfl, if_neg (by decide)]; exact ⟨fun z => absurd z (by decide), fun z => absurd z (by decide)⟩
  · rw [if_neg (by decide), if_pos rfl, if_pos rfl]; exact ⟨fun z => absurd z (by decide), fun z => absurd z (by decide)⟩
  · rw [if_neg (by decide), if_pos rfl, if_neg (by decide)]; exact ⟨fun _ => rfl, fun _ => rfl⟩
theorem M_leads {P : PT} {m c n : Nat} {f : Nat → Nat} {g : HP} (hs : MS m g) (ok : POK P) (h33 : hp_i g m 33 = nI (p_nm P)) (hn : n ≤ 5000) (hc : c = 1 ∨ c = 2) (h65 : hp_i g m 65 = nI n) (hx : ∀ s i, i < p_nm P → s < n → hp_i g (m + 29) (6 * s + i) = nxm P f n s i) : f_M_leads m (cvv c) g = some (nI (fb_ct (rgt P f c) (8 * n)), g) := by
  have hnm := ok.2.2.2.2.2.1
  have key : pw (f_M_leads m (cvv c) g) (fun r => r = (nI (fb_ct (rgt P f c) (8 * n)), g)) := by
    unfold f_M_leads f_M_leads_4
    refine pw_cnt n (fun s st => st = (nI (fb_ct (rgt P f c) (8 * s)), nI s, g)) ?_ ?_ 0 _ (by omega) rfl
    · rintro s st hsn rfl
      unfold f_M_leads_4b
      dsimp only
      rw [h65, if_neg (nI_ge hsn (by omega))]
      unfold f_M_leads_15
      refine pw_cnt (p_nm P) (fun i st => st = (nI (fb_ct (rgt P f c) (8 * s + i)), nI i, g)) ?_ ?_ 0 _ (by omega) rfl
      · rintro i st hi rfl
        have hle := fb_ct_le (rgt P f c) (8 * s + i)
        refine pw_L (s := (nI (fb_ct (rgt P f c) (8 * s + (i + 1))), nI (i + 1), g)) ?_ rfl
        rw [show 8 * s + (i + 1) = 8 * s + i + 1 by omega, fb_ct_succ, rgt_at hi hnm]
        unfold f_M_leads_15b f_M_leads_46
        dsimp only
        rw [h33, if_neg (nI_ge hi (by omega)), mb_64 hs, show (6 : Int32) = nI 6 from rfl, pk_mul, nI_add, mn_29 hs, if_pos (hp_in_nI (by omega) (by omega)), nI_clamp (by omega), hx s i hi hsn]
        simp only [xx_lE]
        by_cases hv : rs3 P (f s % 2 ^ 54) i = c
        · rw [if_pos ((nxm_c hn hc).mpr hv), decide_eq_true hv, nI_1, nI_1]; rfl
        · rw [if_neg (fun z => hv ((nxm_c hn hc).mp z)), decide_eq_false hv, show (0 : Int32) = nI 0 from rfl, nI_add, nI_1]; rfl
      · rintro st rfl
        unfold f_M_leads_15b f_M_leads_54
        dsimp only
        rw [h33, if_pos (nI_le (Nat.le_refl _) (by omega))]
        refine pw_mapR (pw_some ?_)
        rw [rgt_gap f c s hnm, nI_1]; rfl
    · rintro st rfl
      unfold f_M_leads_4b
      dsimp only
      rw [h65, if_pos (nI_le (Nat.le_refl _) (by omega))]
      exact pw_some rfl
  obtain ⟨r, hr, rfl⟩ := key
  exact hr
